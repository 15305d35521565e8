/-! CELL: both sides arrange alike -/
theorem bst_len (W : Nat → Int32) {base : List Nat} : ∀ F l b, chk base F l = true → (b.1 ≤ 64 → b.2.length = base.length) → (bst W F l b).1 ≤ 64 → (bst W F l b).2.length = base.length
  | 0, _, _, h, _ => nomatch h
  | F + 1, l, b, h, hb => by
    have hp := (chk_perm h).length_eq
    have h2 : (if svN W l l.length < b.1 then (svN W l l.length, l) else b).1 ≤ 64 → (if svN W l l.length < b.1 then (svN W l l.length, l) else b).2.length = base.length := by
      split
      · exact fun _ => hp
      · exact hb
    cases e : nx l with
    | none => rw [bst_0 W F l b e]; exact h2
    | some l' => rw [bst_s W F l l' b e]; exact bst_len W F l' _ (chk_next h e) h2
/-- the best order of a world's guilty tools -/
def bstW (W : Nat → Int32) (n : Nat) : Nat × List Nat := bst W 720 (gl (pG W) n) (1000000, [])
section CE
variable {s : aS} {f : Int32} {K : CK} {W : Nat → Int32} {M : MK} {LW : Option (List Ln)} {c n : Nat} {x y : Int32} {base : List Nat}
theorem base_lt (W : Nat → Int32) (n : Nat) : ∀ t, t ∈ gl (pG W) n → t < n := fun t h => (gl_mem (pG W) n t h).1
theorem c_arrange (C : CL s f K LW) (S : Sm K W) (hk : kOk K) (hw : wOk K W c) : ∃ s1 y' G', mX0_arrange 18 28 s = some (.inl (), s1) ∧ ScR K.2.2.2 s s1 ∧ hasO s1 18 0 (oc (Int32.ofNat (gl (pG W) (K.1 1)).length) (Int32.ofNat y')) ∧ hasI s1 20 0 6 G' ∧ y' ≤ 65 ∧ rel y' G' (bstW W (K.1 1)) := by
  have hb1 : K.1 1 ≤ 6 := hk 1 (by decide)
  have hl := C.2.2.2.1
  obtain ⟨x0, y0, O⟩ := C.2.1.2.2.2.1
  have p4 : pI 0 4 18 0 s = some (.inl (), sup s 18 (.inl (0, oc 0 y0))) := pF_ok O (show 4 < 6 by decide)
  have r1 : ScR K.2.2.2 s (sup s 18 (.inl (0, oc 0 y0))) := ScR.o18 hl
  have C1 := C.scR r1
  obtain ⟨F, R⟩ := C1.2.1.2.2.2.2 19 6 rfl
  obtain ⟨G, R1⟩ := C1.2.1.2.2.2.2 21 6 rfl
  obtain ⟨H, R2⟩ := C1.2.1.2.2.2.2 22 6 rfl
  have hgs : ∀ t, t < K.1 1 → (bt (kguilty K) t = true ↔ pG W t = true) := fun t ht => by
    rw [guilty_same S hk (fun t ht => (hw.2.1 t ht).toolIn), bt_guilty W (K.1 1) ht hb1]
    unfold pG
    simp
  obtain ⟨s2, F2, G2, H2, a1, a2, a3, a4, a5, a6, a7, a8, a9⟩ := c_call (y := y0) S hk hw hgs (K.1 1) 0 _ F G H rfl C1 (hasO_put O.2) R R1 R2 (fun i hi => absurd hi (Nat.not_lt_zero i)) (fun u hu => absurd hu (Nat.not_lt_zero u)) (fun u hu => absurd hu (Nat.not_lt_zero u))
  have call : mX0_callUp 18 28 s = some (.inl (Int32.ofNat (senS W (gl (pG W) (K.1 1)))), s2) := by
    unfold mX0_callUp
    rw [onC_ok O, bnd_ok (guiltySet_run C.1.2), bnd_ok p4]
    exact (bnd_ok a1).trans rfl
  have p5 : pI 0 5 18 65 s2 = some (.inl (), sup s2 18 (.inl (0, oc (Int32.ofNat (gl (pG W) (K.1 1)).length) 65))) := pF_ok a3 (show 5 < 6 by decide)
  have r3 : ScR K.2.2.2 s2 (sup s2 18 (.inl (0, oc (Int32.ofNat (gl (pG W) (K.1 1)).length) 65))) := ScR.o18 hl
  have C3 := (C1.scR a2).scR r3
  obtain ⟨G0, R0⟩ := C3.2.1.2.2.2.2 20 6 rfl
  have O3 : hasO (sup s2 18 (.inl (0, oc (Int32.ofNat (gl (pG W) (K.1 1)).length) 65))) 18 0 (oc (Int32.ofNat (gl (pG W) (K.1 1)).length) 65) := hasO_put a3.2
  have hck := gl_chk (pG W) hb1
  have hgl := gl_len (pG W) (K.1 1)
  have hwb : senS W (gl (pG W) (K.1 1)) ≤ 400000 := by
    have h1 := senN_all W (gl (pG W) (K.1 1))
    have h2 := senN_le W (gl (pG W) (K.1 1)) (gl (pG W) (K.1 1)).length
    have h3 := svN_le W (gl (pG W) (K.1 1)) (fun i hi => (sen_le hw (base_lt W _ _ (gt_mem hi))).1) _ (Nat.le_refl _)
    omega
  by_cases hwk : senS W (gl (pG W) (K.1 1)) ≤ 64
  · obtain ⟨s4, y4, G4, t1, t2, t3, t4, t5, t6⟩ := c_orders (n := (gl (pG W) (K.1 1)).length) hl hk hw rfl (by omega) (base_lt W _) rfl hwk a8 a9 720 (gl (pG W) (K.1 1)) (1000000, []) _ 65 F2 G0 (Nat.le_refl _) hck (Nat.le_refl _) O3 (hasI_sup a4 (by decide)) R0 (hasI_sup a5 (by decide)) (hasI_sup a6 (by decide)) a7 ⟨fun z => absurd z (by decide), fun _ => rfl⟩
    refine ⟨s4, y4, G4, ?_, r1.tr (a2.tr (r3.tr t2)), t3, t4, t5, t6⟩
    unfold mX0_arrange
    rw [onC_ok O, bnd_ok call, bnd_ok p5, if_neg (show ¬ (64 : Int32) < Int32.ofNat (senS W (gl (pG W) (K.1 1))) from fun z => absurd ((ofN_lt (n := 64) (by decide) (by omega)).mp z) (by omega)), mret_mbnd]
    exact (bnd_ok t1).trans rfl
  · refine ⟨_, 65, G0, ?_, r1.tr (a2.tr r3), O3, R0, Nat.le_refl _, fun z => ?_, fun _ => rfl⟩
    · unfold mX0_arrange
      rw [onC_ok O, bnd_ok call, bnd_ok p5, if_pos (show (64 : Int32) < Int32.ofNat (senS W (gl (pG W) (K.1 1))) from (ofN_lt (n := 64) (by decide) (by omega)).mpr (by omega)), mret_mbnd]
      refine (bnd_ok (v := ()) (s' := sup s2 18 (.inl (0, oc (Int32.ofNat (gl (pG W) (K.1 1)).length) 65))) ?_).trans rfl
      rw [loopM_eq]
      exact (bnd_ok (v := .inr ()) (s' := sup s2 18 (.inl (0, oc (Int32.ofNat (gl (pG W) (K.1 1)).length) 65))) rfl).trans rfl
    · have := bst_ge W (x := 65) (show 65 ≤ senS W (gl (pG W) (K.1 1)) by omega) 720 _ (1000000, []) hck (by decide)
      unfold bstW at z
      omega
theorem m_list (S0 : W 1 = Int32.ofNat (K.1 1)) (hk : kOk K) (hw : wOk K W c) : ∀ (d t : Nat) (s : aS) (M : MK), d + t = K.1 1 → Mdl s 66 M → M.2 1 = W → OrdF (M.2 11) (gl (pG W) t) → ∃ s1 M1, loopM (mX12_cell_L9 66) (Int32.ofNat (gl (pG W) t).length, Int32.ofNat t) s = some (.inl (Int32.ofNat (gl (pG W) (K.1 1)).length), s1) ∧ Mdl s1 66 M1 ∧ Off s s1 66 78 ∧ Keep M M1 ∧ M1.1 0 = M.1 0 ∧ OrdF (M1.2 11) (gl (pG W) (K.1 1)) := by
  have hb1 : K.1 1 ≤ 6 := hk 1 (by decide)
  intro d
  induction d with
  | zero =>
    intro t s M e C hW hF
    have et : t = K.1 1 := by omega
    subst et
    refine ⟨s, M, ?_, C, Off.rf, Keep.rf, rfl, hF⟩
    rw [loopM_eq]
    refine (bnd_ok (v := .inr (Int32.ofNat (gl (pG W) (K.1 1)).length)) (s' := s) ?_).trans rfl
    unfold mX12_cell_L9
    dsimp only
    rw [bnd_ok (tools_run C), hW, S0, if_pos (Int32.le_refl _)]
    rfl
  | succ d ih =>
    intro t s M e C hW hF
    have ht : t < K.1 1 := by omega
    have hlen := gl_len (pG W) t
    have hg : mX12_isGuilty 66 (Int32.ofNat t) s = some (.inl (if wans W t ≤ W 7 then 0 else 1), s) := by
      have := m_isGuilty_run C (t := t) (by omega) (by rw [hW]; exact (hw.2.1 t ht).ok hk)
      rwa [hW] at this
    have n1 : ¬ Int32.ofNat (K.1 1) ≤ Int32.ofNat t := nle ht (by omega)
    by_cases q : wans W t ≤ W 7
    · have eg : gl (pG W) (t + 1) = gl (pG W) t := by
        show gl (pG W) t ++ (if pG W t then [t] else []) = _
        rw [if_neg (by unfold pG; simp [q]), List.append_nil]
      obtain ⟨s1, M1, r1, r2⟩ := ih (t + 1) s M (by omega) C hW (by rw [eg]; exact hF)
      refine ⟨s1, M1, ?_, r2⟩
      rw [loopM_eq]
      refine (bnd_ok (v := (.inl (Int32.ofNat (gl (pG W) (t + 1)).length, Int32.ofNat (t + 1)) : (Int32 × Int32) ⊕ Int32)) (s' := s) ?_).trans r1
      unfold mX12_cell_L9
      dsimp only
      rw [bnd_ok (tools_run C), hW, S0, if_neg n1, bnd_ok hg, if_pos q, if_pos rfl, mret_mbnd, eg, ofN_succ]
      rfl
    · have eg : gl (pG W) (t + 1) = gl (pG W) t ++ [t] := by
        show gl (pG W) t ++ (if pG W t then [t] else []) = _
        rw [if_pos (by unfold pG; simp [q])]
      obtain ⟨s2, b1, b2, b3⟩ := mput_run (q := 11) (i := (gl (pG W) t).length) (v := Int32.ofNat t) C (by decide) (by decide) (show (gl (pG W) t).length < 6 by omega) (by decide)
      obtain ⟨s1, M1, r1, r2, r3, r4, r5, r6⟩ := ih (t + 1) s2 (mput M 11 (gl (pG W) t).length (Int32.ofNat t)) (by omega) b2 hW (by rw [eg]; exact ord_app hF t)
      refine ⟨s1, M1, ?_, r2, Off.trans b3 r3, Keep.tr ⟨rfl, rfl, rfl, rfl, rfl, rfl, rfl, rfl⟩ r4, r5, r6⟩
      rw [loopM_eq]
      refine (bnd_ok (v := (.inl (Int32.ofNat (gl (pG W) (t + 1)).length, Int32.ofNat (t + 1)) : (Int32 × Int32) ⊕ Int32)) (s' := s2) ?_).trans r1
      unfold mX12_cell_L9
      dsimp only
      have inner : (mbnd (gR 11 25 66) fun (v12 : Nat) => mbnd (stI 0 v12 (Int32.ofNat (gl (pG W) t).length) (Int32.ofNat t)) fun _ => (mret (Int32.ofNat (gl (pG W) t).length + 1) : MM Int32)) s = some (.inl (Int32.ofNat (gl (pG W) t).length + 1), s2) := by
        rw [bnd_ok (show gR 11 25 66 s = some (.inl 77, s) from gR_ok C.1 rfl), bnd_ok (show stI 0 77 _ _ s = _ from b1)]
        rfl
      rw [bnd_ok (tools_run C), hW, S0, if_neg n1, bnd_ok hg, if_neg q, if_neg one_ne0, bnd_ok inner, eg, List.length_append, ofN_succ, ofN_succ]
      rfl
theorem m_copy (hn : n ≤ 6) : ∀ (d j : Nat) (s : aS) (M : MK), d + j = n → Mdl s 66 M → (∀ i, i < j → M.2 12 i = M.2 11 i) → ∃ s1 M1, loopM (mX12_cell_L70 66 (Int32.ofNat n)) (Int32.ofNat j) s = some (.inl (), s1) ∧ Mdl s1 66 M1 ∧ Off s s1 66 78 ∧ Keep M M1 ∧ M1.1 0 = M.1 0 ∧ M1.2 11 = M.2 11 ∧ ∀ i, i < n → M1.2 12 i = M.2 11 i := by
  intro d
  induction d with
  | zero =>
    intro j s M e C h
    have ej : j = n := by omega
    subst ej
    refine ⟨s, M, ?_, C, Off.rf, Keep.rf, rfl, rfl, h⟩
    rw [loopM_eq]
    refine (bnd_ok (v := .inr ()) (s' := s) ?_).trans rfl
    unfold mX12_cell_L70
    rw [if_pos (Int32.le_refl _)]
    rfl
  | succ d ih =>
    intro j s M e C h
    obtain ⟨s2, b1, b2, b3⟩ := mput_run (q := 12) (i := j) (v := M.2 11 j) C (by decide) (by decide) (show j < 6 by omega) (by decide)
    obtain ⟨s1, M1, r1, r2, r3, r4, r5, r6, r7⟩ := ih (j + 1) s2 (mput M 12 j (M.2 11 j)) (by omega) b2 (fun i hi => by
      show (if i = j then _ else _) = M.2 11 i
      by_cases q : i = j
      · rw [if_pos q, q]
      · rw [if_neg q]
        exact h i (by omega))
    refine ⟨s1, M1, ?_, r2, Off.trans b3 r3, Keep.tr ⟨rfl, rfl, rfl, rfl, rfl, rfl, rfl, rfl⟩ r4, r5, r6, r7⟩
    have l1 : ldI 0 77 (Int32.ofNat j) s = some (.inl (M.2 11 j), s) := by
      have := ldI_ok (i := Int32.ofNat j) (C.2 11 (by decide) (by decide)) (ofN_nn (by omega)) (by rw [ofN_cl (by omega)]; show j < 6; omega)
      rwa [ofN_cl (by omega)] at this
    rw [loopM_eq]
    refine (bnd_ok (v := (.inl (Int32.ofNat (j + 1)) : Int32 ⊕ Unit)) (s' := s2) ?_).trans r1
    unfold mX12_cell_L70
    rw [if_neg (nle (by omega) (by omega)), bnd_ok (show gR 11 26 66 s = some (.inl 78, s) from gR_ok C.1 rfl), bnd_ok (show gR 11 25 66 s = some (.inl 77, s) from gR_ok C.1 rfl), bnd_ok l1, bnd_ok (show stI 0 78 _ _ s = _ from b1), ofN_succ]
    rfl
end CE
