/-! CELL: the call -/
section CF
variable {s : aS} {f : Int32} {K : CK} {W : Nat → Int32} {M : MK} {LW : Option (List Ln)} {c n : Nat} {x y : Int32} {base : List Nat}
theorem m_orders (hk : kOk K) (hw : wOk K W c) (hn : base.length = n) (h6 : n ≤ 6) (hb : ∀ t, t ∈ base → t < K.1 1) : ∀ (F : Nat) (l : List Nat) (b : Nat × List Nat) (s : aS) (M : MK), chk base F l = true → Mdl s 66 M → M.2 1 = W → OrdF (M.2 11) l → OrdF (M.2 12) b.2 → b.1 ≤ 1000000 → ∃ s1 M1, loopM (mX12_cell_L48 66 (Int32.ofNat n)) (Int32.ofNat b.1) s = some (.inl (Int32.ofNat (bst W F l b).1), s1) ∧ Mdl s1 66 M1 ∧ Off s s1 66 78 ∧ Keep M M1 ∧ M1.1 0 = M.1 0 ∧ OrdF (M1.2 12) (bst W F l b).2 ∧ (bst W F l b).1 ≤ 1000000
  | 0, l, b, s, M, h, _, _, _, _, _ => nomatch h
  | F + 1, l, b, s, M, h, C, hW, hF, hB, hb9 => by
    have hp := chk_perm h
    have hln : l.length = n := hp.length_eq.trans hn
    have hlt : ∀ i, i < l.length → gt l i < K.1 1 := fun i hi => hb _ (hp.mem_iff.mp (gt_mem hi))
    have hb1 : K.1 1 ≤ 6 := hk 1 (by decide)
    have hv : Lv l := fun i hi => Nat.lt_of_lt_of_le (hlt i hi) hb1
    have hsv := svN_le W l (fun i hi => (sen_le hw (hlt i hi)).1) _ (Nat.le_refl _)
    have ser := m_serves (l := l) hk (by rw [hW]; exact hw) C hF hlt (by omega)
    rw [hW, hln] at ser
    have mid : ∃ s1 M1, (if Int32.ofNat (svN W l n) < Int32.ofNat b.1 then (mbnd (loopM (mX12_cell_L70 66 (Int32.ofNat n)) 0) fun (_ : Unit) => mret (Int32.ofNat (svN W l n))) else (mret (Int32.ofNat b.1)) : MM Int32) s = some (.inl (Int32.ofNat (if svN W l l.length < b.1 then (svN W l l.length, l) else b).1), s1) ∧ Mdl s1 66 M1 ∧ Off s s1 66 78 ∧ Keep M M1 ∧ M1.1 0 = M.1 0 ∧ M1.2 11 = M.2 11 ∧ OrdF (M1.2 12) (if svN W l l.length < b.1 then (svN W l l.length, l) else b).2 ∧ (if svN W l l.length < b.1 then (svN W l l.length, l) else b).1 ≤ 1000000 := by
      rw [hln] at hsv ⊢
      by_cases q : svN W l n < b.1
      · obtain ⟨s1, M1, r1, r2, r3, r4, r5, r6, r7⟩ := m_copy h6 n 0 s M rfl C (fun i hi => absurd hi (Nat.not_lt_zero i))
        rw [if_pos q, if_pos ((ofN_lt (by omega) (by omega)).mpr q)]
        exact ⟨s1, M1, (bnd_ok r1).trans rfl, r2, r3, r4, r5, r6, fun i hi => (r7 i (by rw [← hln]; exact hi)).trans (hF i hi), by show svN W l n ≤ _; omega⟩
      · rw [if_neg q, if_neg (fun z => q ((ofN_lt (by omega) (by omega)).mp z))]
        exact ⟨s, M, rfl, C, Off.rf, Keep.rf, rfl, rfl, hB, hb9⟩
    obtain ⟨s1, M1, m1, C1, o1, k1, e1, e11, B1, b9⟩ := mid
    have hF1 : OrdF (M1.2 11) l := by rw [e11]; exact hF
    rcases m_next (l := l) h6 C1.1 hln (C1.2 11 (by decide) (by decide)) hF1 hv with ⟨e, r⟩ | ⟨l', F', e, r, hF'⟩
    · refine ⟨s1, M1, ?_, C1, o1, k1, e1, ?_, ?_⟩
      · rw [loopM_eq, bst_0 W F l b e]
        refine (bnd_ok (v := .inr (Int32.ofNat (if svN W l l.length < b.1 then (svN W l l.length, l) else b).1)) (s' := s1) ?_).trans rfl
        unfold mX12_cell_L48
        rw [bnd_ok ser, bnd_ok m1, bnd_ok r, if_pos rfl]
        rfl
      · rw [bst_0 W F l b e]
        exact B1
      · rw [bst_0 W F l b e]
        exact b9
    · have C2 : Mdl (sup s1 77 (rwE 6 F')) 66 (M1.1, mrow M1.2 11 F') := C1.row (q := 11) (by decide) (by decide)
      obtain ⟨s3, M3, t1, t2, t3, t4, t5, t6, t7⟩ := m_orders hk hw hn h6 hb F l' (if svN W l l.length < b.1 then (svN W l l.length, l) else b) (sup s1 77 (rwE 6 F')) (M1.1, mrow M1.2 11 F') (chk_next h e) C2 (k1.1.trans hW) hF' B1 b9
      refine ⟨s3, M3, ?_, t2, Off.trans o1 (Off.trans (Off.sup (by decide) (by decide)) t3), k1.tr (Keep.tr ⟨rfl, rfl, rfl, rfl, rfl, rfl, rfl, rfl⟩ t4), t5.trans e1, ?_, ?_⟩
      · rw [loopM_eq, bst_s W F l l' b e]
        refine (bnd_ok (v := (.inl (Int32.ofNat (if svN W l l.length < b.1 then (svN W l l.length, l) else b).1) : Int32 ⊕ Int32)) (s' := sup s1 77 (rwE 6 F')) ?_).trans t1
        unfold mX12_cell_L48
        rw [bnd_ok ser, bnd_ok m1, bnd_ok r, if_neg one_ne0]
        rfl
      · rw [bst_s W F l l' b e]
        exact t6
      · rw [bst_s W F l l' b e]
        exact t7
def cellV (b : Nat × List Nat) (n : Nat) (x : Int32) : Int32 := if b.1 ≤ 64 then (if x = -1 then Int32.ofNat b.1 else if x < 0 ∨ Int32.ofNat n ≤ x then -1 else Int32.ofNat (gt b.2 x.toNatClampNeg)) else -3
theorem ag_cell (E : EnvL s f K M LW c) : Ag K.2.2.2 (mX11_cell 0 x) (mX12_cell 66 x) s M [] := by
  obtain ⟨⟨C, -, S, hk, hw, hc⟩, CLs, LR⟩ := E
  have hb1 : K.1 1 ≤ 6 := hk 1 (by decide)
  have hgl := gl_len (pG (M.2 1)) (K.1 1)
  have hck := gl_chk (pG (M.2 1)) hb1
  have hbl := bst_len (M.2 1) 720 _ (1000000, []) hck (fun z => absurd z (by decide))
  obtain ⟨s1, y', G', a1, a2, a3, a4, a5, a6⟩ := c_arrange CLs S hk hw
  have C1 := CLs.scR a2
  refine Or.inl ⟨cellV (bstW (M.2 1) (K.1 1)) (gl (pG (M.2 1)) (K.1 1)).length x, s1, ?_, a2, fun s' D' => ?_⟩
  · have g5 : gI 0 5 18 s1 = some (.inl (Int32.ofNat y'), s1) := gI_ok a3 rfl
    have g18 : gR 10 5 0 s1 = some (.inl 18, s1) := gR_ok C1.1.1 rfl
    unfold mX11_cell cellV
    rw [onC_ok C.1, bnd_ok (show gR 10 5 0 s = some (.inl 18, s) from gR_ok C.1 rfl), bnd_ok (show gR 10 7 0 s = some (.inl 28, s) from gR_ok C.1 rfl), bnd_ok a1, bnd_ok g18, bnd_ok g5]
    rcases Nat.lt_or_ge 64 (bstW (M.2 1) (K.1 1)).1 with q | q
    · rw [if_neg (Nat.not_le.mpr q), if_neg (show ¬ Int32.ofNat y' ≤ 64 from fun z => by
        have := (ofN_le (m := 64) (by omega) (by decide)).mp z
        have := a6.2 q
        omega)]
      rfl
    · obtain ⟨ey, eG⟩ := a6.1 q
      have hlen : (bstW (M.2 1) (K.1 1)).2.length = (gl (pG (M.2 1)) (K.1 1)).length := hbl q
      rw [if_pos q, if_pos (show Int32.ofNat y' ≤ 64 from (ofN_le (m := 64) (by omega) (by decide)).mpr (by omega))]
      by_cases hx : x = -1
      · rw [if_pos hx, if_pos hx, bnd_ok g18, bnd_ok g5, ey]
        rfl
      rw [if_neg hx, if_neg hx, bnd_ok g18]
      refine (bnd_ok (v := (if x < 0 ∨ Int32.ofNat (gl (pG (M.2 1)) (K.1 1)).length ≤ x then -1 else Int32.ofNat (gt (bstW (M.2 1) (K.1 1)).2 x.toNatClampNeg) : Int32)) (s' := s1) ?_).trans rfl
      have g4 : gI 0 4 18 s1 = some (.inl (Int32.ofNat (gl (pG (M.2 1)) (K.1 1)).length), s1) := gI_ok a3 rfl
      have g1 : gR 0 1 18 s1 = some (.inl 20, s1) := gR_ok a3 rfl
      unfold mX0_turn
      rw [onC_ok a3]
      rcases rg_or (gl (pG (M.2 1)) (K.1 1)).length (by omega) x with hr | ⟨p, hp, rfl⟩
      · rw [if_pos (show x < 0 ∨ Int32.ofNat (gl (pG (M.2 1)) (K.1 1)).length ≤ x from hr)]
        by_cases h0 : x < 0
        · rw [if_pos h0]
          rfl
        · have h1 : Int32.ofNat (gl (pG (M.2 1)) (K.1 1)).length ≤ x := hr.elim (fun z => absurd z h0) id
          rw [if_neg h0, bnd_ok g4, if_pos h1]
          rfl
      · rw [if_neg (rg_in hp (by omega)), if_neg (ofN_nn (by omega)), bnd_ok g4, if_neg (nle hp (by omega)), bnd_ok g1, bnd_ok (lenI_ok a4), if_neg (nle (by omega) (by decide)), bnd_ok g1]
        have := ldI_ok (i := Int32.ofNat p) a4 (ofN_nn (by omega)) (by rw [ofN_cl (by omega)]; omega)
        rw [ofN_cl (by omega)] at this
        rw [bnd_ok this, ofN_cl (by omega), eG p (by rw [hlen]; exact hp)]
        rfl
  · unfold mX12_cell
    refine RQ.start D' fun s2 D2 => ?_
    obtain ⟨s3, M3, b1, b2, b3, b4, b5, b6⟩ := m_list (W := M.2 1) S.1.2.1 hk hw (K.1 1) 0 s2 _ rfl D2 rfl (fun i hi => absurd hi (Nat.not_lt_zero i))
    obtain ⟨s4, M4, d1, d2, d3, d4, d5, d6, d7⟩ := m_orders (W := M.2 1) (n := (gl (pG (M.2 1)) (K.1 1)).length) hk hw rfl (by omega) (base_lt (M.2 1) _) 720 _ (1000000, []) s3 M3 hck b2 b4.1 b6 (fun i hi => absurd hi (Nat.not_lt_zero i)) (Nat.le_refl _)
    refine RQ.step b1 b3 b4 (RQ.step d1 d3 d4 ?_)
    have h0 : M4.1 0 = 0 := d5.trans (b5.trans rfl)
    refine RQ.val d2 ?_ h0
    have d6' : OrdF (M4.2 12) (bstW (M.2 1) (K.1 1)).2 := d6
    have d7' : (bstW (M.2 1) (K.1 1)).1 ≤ 1000000 := d7
    show (if Int32.ofNat (bstW (M.2 1) (K.1 1)).1 ≤ 64 then _ else _ : MM Int32) s4 = _
    unfold cellV
    rcases Nat.lt_or_ge 64 (bstW (M.2 1) (K.1 1)).1 with q | q
    · rw [if_neg (Nat.not_le.mpr q), if_neg (show ¬ Int32.ofNat (bstW (M.2 1) (K.1 1)).1 ≤ 64 from fun z => absurd ((ofN_le (m := 64) (by omega) (by decide)).mp z) (by omega))]
      rfl
    · have hlen : (bstW (M.2 1) (K.1 1)).2.length = (gl (pG (M.2 1)) (K.1 1)).length := hbl q
      rw [if_pos q, if_pos (show Int32.ofNat (bstW (M.2 1) (K.1 1)).1 ≤ 64 from (ofN_le (m := 64) (by omega) (by decide)).mpr q)]
      by_cases hx : x = -1
      · rw [if_pos hx, if_pos hx]
        rfl
      have hi : (x < 0 ∨ Int32.ofNat (gl (pG (M.2 1)) (K.1 1)).length - 1 < x) ↔ (x < 0 ∨ Int32.ofNat (gl (pG (M.2 1)) (K.1 1)).length ≤ x) := by rw [sub1_lt (by omega)]
      rw [if_neg hx, if_neg hx, bnd_ok (in_app x 0 _ s4)]
      rcases rg_or (gl (pG (M.2 1)) (K.1 1)).length (by omega) x with hr | ⟨p, hp, rfl⟩
      · have hr' : x < 0 ∨ Int32.ofNat (gl (pG (M.2 1)) (K.1 1)).length ≤ x := hr
        rw [if_pos (hi.mpr hr'), if_pos hr', if_pos rfl]
        rfl
      · rw [if_neg (fun z => rg_in hp (by omega) (hi.mp z)), if_neg (rg_in hp (by omega)), if_neg one_ne0, bnd_ok (show gR 11 26 66 s4 = some (.inl 78, s4) from gR_ok d2.1 rfl)]
        have := ldI_ok (i := Int32.ofNat p) (d2.2 12 (by decide) (by decide)) (ofN_nn (by omega)) (by rw [ofN_cl (by omega)]; show p < 6; omega)
        rw [ofN_cl (by omega)] at this
        rw [bnd_ok (show ldI 0 78 (Int32.ofNat p) s4 = _ from this), ofN_cl (by omega), d6' p (by rw [hlen]; exact hp)]
        rfl
end CF
