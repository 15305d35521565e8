/-! CELL: the class goes through the orders -/
/-- the best of the orders from l on, and its days -/
def bst (W : Nat → Int32) : Nat → List Nat → Nat × List Nat → Nat × List Nat
  | 0, _, b => b
  | F + 1, l, b => match nx l with
    | none => if svN W l l.length < b.1 then (svN W l l.length, l) else b
    | some l' => bst W F l' (if svN W l l.length < b.1 then (svN W l l.length, l) else b)
theorem chk_perm {base l : List Nat} {F : Nat} (h : chk base (F + 1) l = true) : l.Perm base := by
  have h' : (l.isPerm base && _) = true := h
  rw [Bool.and_eq_true] at h'
  exact List.isPerm_iff.mp h'.1
theorem chk_next {base l l' : List Nat} {F : Nat} (h : chk base (F + 1) l = true) (e : nx l = some l') : chk base F l' = true := by
  have h' : (l.isPerm base && (match nx l with | none => true | some l' => chk base F l')) = true := h
  rw [Bool.and_eq_true, e] at h'
  exact h'.2
theorem svN_work (W : Nat → Int32) {base l : List Nat} (h : l.Perm base) : senS W base ≤ svN W l l.length := by
  rw [← senS_perm W h, ← senN_all]
  exact senN_le W l l.length
theorem bst_stay (W : Nat → Int32) {base : List Nat} : ∀ F l b, chk base F l = true → b.1 ≤ senS W base → bst W F l b = b
  | 0, _, _, _, _ => rfl
  | F + 1, l, b, h, hb => by
    have hv := svN_work W (chk_perm h)
    unfold bst
    rw [if_neg (by omega)]
    cases e : nx l with
    | none => rfl
    | some l' => exact bst_stay W F l' b (chk_next h e) hb
theorem bst_ge (W : Nat → Int32) {base : List Nat} {x : Nat} (hx : x ≤ senS W base) : ∀ F l b, chk base F l = true → x ≤ b.1 → x ≤ (bst W F l b).1
  | 0, _, _, _, h => h
  | F + 1, l, b, h, hb => by
    have hv := svN_work W (chk_perm h)
    have h2 : x ≤ (if svN W l l.length < b.1 then (svN W l l.length, l) else b).1 := by
      split
      · exact Nat.le_trans hx hv
      · exact hb
    unfold bst
    cases e : nx l with
    | none => exact h2
    | some l' => exact bst_ge W hx F l' _ (chk_next h e) h2
theorem bst_0 (W : Nat → Int32) (F : Nat) (l : List Nat) (b : Nat × List Nat) (e : nx l = none) : bst W (F + 1) l b = if svN W l l.length < b.1 then (svN W l l.length, l) else b := by
  show (match nx l with | none => _ | some l' => _) = _
  rw [e]
theorem bst_s (W : Nat → Int32) (F : Nat) (l l' : List Nat) (b : Nat × List Nat) (e : nx l = some l') : bst W (F + 1) l b = bst W F l' (if svN W l l.length < b.1 then (svN W l l.length, l) else b) := by
  show (match nx l with | none => _ | some l' => _) = _
  rw [e]
/-- what the class holds of the best so far -/
def rel (y : Nat) (G : Nat → Int32) (b : Nat × List Nat) : Prop := (b.1 ≤ 64 → y = b.1 ∧ OrdF G b.2) ∧ (64 < b.1 → y = 65)
theorem rel_step {W : Nat → Int32} {l : List Nat} {y : Nat} {G F G' : Nat → Int32} {b : Nat × List Nat} (h : rel y G b) (hF : OrdF F l) (h6 : l.length ≤ 6) (hG : ∀ i, i < 6 → G' i = F i) : (y ≤ clN W l l.length → rel y G (if svN W l l.length < b.1 then (svN W l l.length, l) else b)) ∧ (¬ y ≤ clN W l l.length → rel (clN W l l.length) G' (if svN W l l.length < b.1 then (svN W l l.length, l) else b)) := by
  obtain ⟨c1, c2, c3⟩ := clN_svN W l l.length
  have hO : OrdF G' l := fun i hi => (hG i (by omega)).trans (hF i hi)
  rcases Nat.lt_or_ge 64 b.1 with hb | hb
  · have hy := h.2 hb
    rcases Nat.lt_or_ge 64 (svN W l l.length) with hv | hv
    · have := c2 hv
      refine ⟨fun _ => ?_, fun q => absurd (by omega) q⟩
      split
      · exact ⟨fun z => absurd hv (Nat.not_lt.mpr z), fun _ => hy⟩
      · exact h
    · have := c1 hv
      refine ⟨fun q => by omega, fun _ => ?_⟩
      rw [if_pos (by omega)]
      exact ⟨fun _ => ⟨this, hO⟩, fun z => absurd hv (Nat.not_le.mpr z)⟩
  · obtain ⟨hy, hg⟩ := h.1 hb
    rcases Nat.lt_or_ge 64 (svN W l l.length) with hv | hv
    · have := c2 hv
      refine ⟨fun _ => ?_, fun q => absurd (by omega) q⟩
      rw [if_neg (by omega)]
      exact h
    · have := c1 hv
      refine ⟨fun q => ?_, fun q => ?_⟩
      · rw [if_neg (by omega)]
        exact h
      · rw [if_pos (by omega)]
        exact ⟨fun _ => ⟨this, hO⟩, fun z => absurd hv (Nat.not_le.mpr z)⟩
theorem gt_mem {l : List Nat} {i : Nat} (h : i < l.length) : gt l i ∈ l := by
  unfold gt
  rw [List.getD_eq_getElem?_getD, List.getElem?_eq_getElem h]
  exact List.getElem_mem h
section AR
variable {W : Nat → Int32} {K : CK} {c n work lw : Nat} {base : List Nat} {H1 H2 : Nat → Int32}
theorem c_orders (hl : lOk lw) (hk : kOk K) (hw : wOk K W c) (hn : base.length = n) (h6 : n ≤ 6) (hb : ∀ t, t ∈ base → t < K.1 1) (hwk : work = senS W base) (h64 : work ≤ 64) (hG : ∀ t, t < K.1 1 → H1 t = Int32.ofNat (sen W t)) (hH : ∀ t, t < K.1 1 → H2 t = W (141 + 4 * t + 3)) : ∀ F l b s y Fo G, F ≤ 720 → chk base F l = true → y ≤ 65 → hasO s 18 0 (oc (Int32.ofNat n) (Int32.ofNat y)) → hasI s 19 0 6 Fo → hasI s 20 0 6 G → hasI s 21 0 6 H1 → hasI s 22 0 6 H2 → OrdF Fo l → rel y G b → ∃ s1 y' G', loopM (mX0_arrange_L27 18 (Int32.ofNat work)) (1, Int32.ofNat (720 - F)) s = some (.inl (), s1) ∧ ScR lw s s1 ∧ hasO s1 18 0 (oc (Int32.ofNat n) (Int32.ofNat y')) ∧ hasI s1 20 0 6 G' ∧ y' ≤ 65 ∧ rel y' G' (bst W F l b)
  | 0, l, b, s, y, Fo, G, _, h, _, _, _, _, _, _, _, _ => nomatch h
  | F + 1, l, b, s, y, Fo, G, h72, h, hy, O, R, R0, R1, R2, hF, hr => by
    have hp := chk_perm h
    have hln : l.length = n := hp.length_eq.trans hn
    have hlt : ∀ i, i < l.length → gt l i < K.1 1 := fun i hi => hb _ (hp.mem_iff.mp (gt_mem hi))
    have hb1 : K.1 1 ≤ 6 := hk 1 (by decide)
    have hv : Lv l := fun i hi => Nat.lt_of_lt_of_le (hlt i hi) hb1
    have hla := c_lasts (l := l) hk hw (by rw [hln]; exact O) R hF hlt (by omega) R1 R2 hG hH
    have hc65 := (clN_svN W l l.length).2.2
    have step := rel_step (W := W) (G' := va_cpy Fo G 0 0 6) hr hF (by omega) (fun i hi => by
      show (if _ then _ else _) = _
      rw [if_pos (by omega)]
      congr 1
      omega)
    -- after the better of both is held
    have mid : ∃ s1 y1 G1, (if Int32.ofNat y ≤ Int32.ofNat (clN W l l.length) then (mret () : MM Unit) else (
          mbnd (pI 0 5 18 (Int32.ofNat (clN W l l.length))) fun _ =>
          mbnd (gR 0 0 18) fun (v18 : Nat) =>
          mbnd (gR 0 1 18) fun (v19 : Nat) =>
          mbnd (gR 0 0 18) fun (v20 : Nat) =>
          mbnd (lenI 0 v20) fun (v21 : Int32) =>
          mbnd (cpI 0 v18 0 v19 0 v21) fun _ =>
          mret ())) s = some (.inl (), s1) ∧ ScR lw s s1 ∧ y1 ≤ 65 ∧ hasO s1 18 0 (oc (Int32.ofNat n) (Int32.ofNat y1)) ∧ hasI s1 19 0 6 Fo ∧ hasI s1 20 0 6 G1 ∧ hasI s1 21 0 6 H1 ∧ hasI s1 22 0 6 H2 ∧ rel y1 G1 (if svN W l l.length < b.1 then (svN W l l.length, l) else b) := by
      by_cases q : y ≤ clN W l l.length
      · rw [if_pos ((ofN_le (by omega) (by omega)).mpr q)]
        exact ⟨s, y, G, rfl, ScR.rf, hy, O, R, R0, R1, R2, step.1 q⟩
      · rw [if_neg (fun z => q ((ofN_le (by omega) (by omega)).mp z))]
        have p1 : pI 0 5 18 (Int32.ofNat (clN W l l.length)) s = some (.inl (), sup s 18 (.inl (0, oc (Int32.ofNat n) (Int32.ofNat (clN W l l.length))))) := pF_ok O (show 5 < 6 by decide)
        have O1 : hasO (sup s 18 (.inl (0, oc (Int32.ofNat n) (Int32.ofNat (clN W l l.length))))) 18 0 (oc (Int32.ofNat n) (Int32.ofNat (clN W l l.length))) := hasO_put O.2
        have cp := cpI_ok (sp := 0) (dp := 0) (n := 6) (hasI_sup (e := .inl (0, oc (Int32.ofNat n) (Int32.ofNat (clN W l l.length)))) R (show 19 ≠ 18 by decide)) (hasI_sup (e := .inl (0, oc (Int32.ofNat n) (Int32.ofNat (clN W l l.length)))) R0 (show 20 ≠ 18 by decide)) (by decide) (by decide) (by decide) (by decide)
        refine ⟨_, clN W l l.length, va_cpy Fo G 0 0 6, ?_, (ScR.o18 hl).tr (ScR.put (b := 20) (n := 6) hl rfl), hc65, hasO_sup O1 (by decide), hasI_sup (hasI_sup R (by decide)) (by decide), hasI_put R0.2, hasI_sup (hasI_sup R1 (by decide)) (by decide), hasI_sup (hasI_sup R2 (by decide)) (by decide), step.2 q⟩
        rw [bnd_ok p1, bnd_ok (show gR 0 0 18 _ = some (.inl 19, _) from gR_ok O1 rfl), bnd_ok (show gR 0 1 18 _ = some (.inl 20, _) from gR_ok O1 rfl), bnd_ok (show gR 0 0 18 _ = some (.inl 19, _) from gR_ok O1 rfl), bnd_ok (lenI_ok (hasI_sup R (by decide))), bnd_ok (show cpI 0 19 0 20 0 (Int32.ofNat 6) _ = _ from cp)]
        rfl
    obtain ⟨s1, y1, G1, m1, m2, m3, O', R', R0', R1', R2', mr⟩ := mid
    have g5 : gI 0 5 18 s = some (.inl (Int32.ofNat y), s) := gI_ok O rfl
    have g5' : gI 0 5 18 s1 = some (.inl (Int32.ofNat y1), s1) := gI_ok O' rfl
    have n7 : ¬ (720 : Int32) ≤ Int32.ofNat (720 - (F + 1)) := nle (n := 720) (by omega) (by decide)
    have last : ∀ s2, loopM (mX0_arrange_L27 18 (Int32.ofNat work)) (0, Int32.ofNat (720 - (F + 1) + 1)) s2 = some (.inl (), s2) := fun s2 => by
      rw [loopM_eq]
      refine (bnd_ok (v := .inr ()) (s' := s2) ?_).trans rfl
      unfold mX0_arrange_L27
      dsimp only
      split
      · rfl
      · rw [if_pos rfl]
        rfl
    by_cases qw : y1 ≤ work
    · -- it cannot be bettered
      have hy1 : (if svN W l l.length < b.1 then (svN W l l.length, l) else b).1 = y1 := by
        rcases Nat.lt_or_ge 64 (if svN W l l.length < b.1 then (svN W l l.length, l) else b).1 with z | z
        · have := mr.2 z
          omega
        · exact (mr.1 z).1.symm
      refine ⟨s1, y1, G1, ?_, m2, O', R0', m3, ?_⟩
      · rw [loopM_eq]
        refine (bnd_ok (v := (.inl (0, Int32.ofNat (720 - (F + 1) + 1)) : (Int32 × Int32) ⊕ Unit)) (s' := s1) ?_).trans (last s1)
        unfold mX0_arrange_L27
        dsimp only
        rw [if_neg n7, if_neg one_ne0, bnd_ok hla, bnd_ok g5, bnd_ok m1, bnd_ok g5', if_pos ((ofN_le (by omega) (by omega)).mpr qw), mret_mbnd, ofN_succ]
        rfl
      · cases e : nx l with
        | none => rw [bst_0 W F l b e]; exact mr
        | some l' => rw [bst_s W F l l' b e, bst_stay W F l' _ (chk_next h e) (by rw [hy1, ← hwk]; exact qw)]; exact mr
    · have nw : ¬ Int32.ofNat y1 ≤ Int32.ofNat work := fun z => qw ((ofN_le (by omega) (by omega)).mp z)
      rcases c_next h6 O' hln R' hF hv with ⟨e, r⟩ | ⟨l', F', e, r, hF'⟩
      · refine ⟨s1, y1, G1, ?_, m2, O', R0', m3, ?_⟩
        · rw [loopM_eq]
          refine (bnd_ok (v := (.inl (0, Int32.ofNat (720 - (F + 1) + 1)) : (Int32 × Int32) ⊕ Unit)) (s' := s1) ?_).trans (last s1)
          unfold mX0_arrange_L27
          dsimp only
          rw [if_neg n7, if_neg one_ne0, bnd_ok hla, bnd_ok g5, bnd_ok m1, bnd_ok g5', if_neg nw]
          rw [bnd_ok (show (mbnd (mX0_nextOrder 18) fun (v27 : Int32) => if v27 = 0 then (mret 0 : MM Int32) else mret 1) s1 = some (.inl 0, s1) from (bnd_ok r).trans rfl), ofN_succ]
          rfl
        · rw [bst_0 W F l b e]
          exact mr
      · obtain ⟨s3, y3, G3, t1, t2, t3, t4, t5, t6⟩ := c_orders hl hk hw hn h6 hb hwk h64 hG hH F l' (if svN W l l.length < b.1 then (svN W l l.length, l) else b) (sup s1 19 (rwE 6 F')) y1 F' G1 (by omega) (chk_next h e) m3 (hasO_sup O' (by decide)) (hasI_put R'.2) (hasI_sup R0' (by decide)) (hasI_sup R1' (by decide)) (hasI_sup R2' (by decide)) hF' mr
        refine ⟨s3, y3, G3, ?_, m2.tr ((ScR.put (b := 19) (n := 6) hl rfl).tr t2), t3, t4, t5, ?_⟩
        · rw [loopM_eq]
          refine (bnd_ok (v := (.inl (1, Int32.ofNat (720 - F)) : (Int32 × Int32) ⊕ Unit)) (s' := sup s1 19 (rwE 6 F')) ?_).trans t1
          unfold mX0_arrange_L27
          dsimp only
          rw [if_neg n7, if_neg one_ne0, bnd_ok hla, bnd_ok g5, bnd_ok m1, bnd_ok g5', if_neg nw]
          rw [bnd_ok (show (mbnd (mX0_nextOrder 18) fun (v27 : Int32) => if v27 = 0 then (mret 0 : MM Int32) else mret 1) s1 = some (.inl 1, sup s1 19 (rwE 6 F')) from (bnd_ok r).trans rfl), ofN_succ, show 720 - (F + 1) + 1 = 720 - F by omega]
          rfl
        · rw [bst_s W F l l' b e]
          exact t6
end AR
