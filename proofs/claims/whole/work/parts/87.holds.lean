/-! THE CLASS RUNS A LINE'S CONDITION -/
section HL
variable {s : aS} {l fa n : Nat} {F code g : Nat → Int32} {lines : Int32}
/-- an object of the law: its code and its stack behind it -/
def LawAt (s : aS) (l : Nat) (lines : Int32) (n : Nat) (code : Nat → Int32) : Prop := hasO s l 4 [.int lines, .ref (l + 1), .ref (l + 2)] ∧ hasI s (l + 1) 0 n code
theorem LawAt.sup {e : AE} {b : Nat} (L : LawAt s l lines n code) (h : b ≠ l ∧ b ≠ l + 1) : LawAt (sup s b e) l lines n code := ⟨hasO_sup L.1 (Ne.symm h.1), hasI_sup L.2 (Ne.symm h.2)⟩
theorem asked_run (HF : hasI s fa 0 10 F) {i : It} (hi : i.1 ≤ 10) (ok : itOk i) : mX4_asked (Int32.ofNat (encI i)) fa s = some (.inl (fI F i), s) := by
  unfold mX4_asked encI fI
  by_cases c7 : i.1 ≤ 7
  · have e1 : (1000 : Int32) ≤ Int32.ofNat (1000 + i.1) := (ofN_le (n := 1000) (by omega) (by omega)).mpr (by omega)
    have e2 : Int32.ofNat (1000 + i.1) < 1020 := (ofN_lt (m := 1020) (by omega) (by omega)).mpr (by omega)
    have e3 : Int32.ofNat (1000 + i.1) - 1000 = Int32.ofNat i.1 := by
      have := ofN_sub (n := 1000 + i.1) (m := 1000) (by omega)
      rw [show 1000 + i.1 - 1000 = i.1 by omega] at this
      exact this
    have e4 : ¬ Int32.ofNat 10 ≤ Int32.ofNat i.1 := nle (by omega) (by decide)
    rw [if_pos c7, if_pos c7, if_pos e1, if_pos e2, e3, mret_mbnd, bnd_ok (lenI_ok HF), if_neg e4]
    refine (bnd_ok (ldI_ok HF (ofN_nn (by omega)) (by rw [ofN_cl (by omega)]; omega))).trans ?_
    rw [ofN_cl (by omega)]
    rfl
  rw [if_neg c7, if_neg c7]
  by_cases c8 : i.1 = 8
  · have h2 := ok.2.1 c8
    have e1 : (1000 : Int32) ≤ Int32.ofNat (1020 + i.2) := (ofN_le (n := 1000) (by omega) (by omega)).mpr (by omega)
    have e2 : ¬ Int32.ofNat (1020 + i.2) < 1020 := fun q => absurd ((ofN_lt (m := 1020) (by omega) (by omega)).mp q) (by omega)
    have e3 : Int32.ofNat (1020 + i.2) - 1020 = Int32.ofNat i.2 := by
      have := ofN_sub (n := 1020 + i.2) (m := 1020) (by omega)
      rw [show 1020 + i.2 - 1020 = i.2 by omega] at this
      exact this
    rw [if_pos c8, if_pos c8, if_pos e1, if_neg e2]
    refine (bnd_ok (ldI_ok (i := 8) HF (by decide) (by decide))).trans ?_
    rw [e3]
    show (if F 8 = Int32.ofNat i.2 then _ else _ : MM Int32) s = _
    split <;> rfl
  rw [if_neg c8, if_neg c8]
  by_cases c9 : i.1 = 9
  · rw [if_pos c9, if_pos c9]
    have e1 : (1000 : Int32) ≤ Int32.ofNat 1009 := by decide
    have e2 : Int32.ofNat 1009 < 1020 := by decide
    rw [if_pos e1, if_pos e2, mret_mbnd, bnd_ok (lenI_ok HF), if_neg (by decide)]
    exact (bnd_ok (ldI_ok (i := 9) HF (by decide) (by decide))).trans rfl
  have c10 : i.1 = 10 := by omega
  have h2 := ok.2.2 c10
  have e1 : ¬ (1000 : Int32) ≤ Int32.ofNat i.2 := nle (n := 1000) (by omega) (by decide)
  rw [if_neg c9, if_neg c9, if_pos c10, if_neg e1]
  rfl
theorem joined_run {i : It} (h1 : 10 < i.1) (h2 : i.1 ≤ 16) (a b : Int32) (s : aS) : mX4_joined (Int32.ofNat (encI i)) a b s = some (.inl (if i.1 = 14 then (if b = 0 then 1 else 0) else opL i.1 a b), s) := by
  have e : encI i = 1019 + i.1 := by
    unfold encI
    rw [if_neg (by omega), if_neg (by omega), if_neg (by omega), if_neg (by omega)]
  rw [e]
  have : i.1 = 11 ∨ i.1 = 12 ∨ i.1 = 13 ∨ i.1 = 14 ∨ i.1 = 15 ∨ i.1 = 16 := by omega
  unfold mX4_joined
  rcases this with h | h | h | h | h | h
  · rw [h, if_pos (by decide), if_neg (by decide)]; rfl
  · rw [h, if_neg (by decide), if_pos (by decide)]
    show (if b ≤ a then _ else _ : MM Int32) s = some (.inl (if a < b then 1 else 0), s)
    by_cases q : b ≤ a
    · rw [if_pos q, if_neg (Int32.not_lt.mpr q)]; rfl
    · rw [if_neg q, if_pos (Int32.not_le.mp q)]; rfl
  · rw [h, if_neg (by decide), if_neg (by decide), if_pos (by decide)]
    show (if a ≤ b then _ else _ : MM Int32) s = some (.inl (if b < a then 1 else 0), s)
    by_cases q : a ≤ b
    · rw [if_pos q, if_neg (Int32.not_lt.mpr q)]; rfl
    · rw [if_neg q, if_pos (Int32.not_le.mp q)]; rfl
  · rw [h, if_neg (by decide), if_neg (by decide), if_neg (by decide), if_pos (by decide), if_pos rfl]
    split <;> rfl
  · rw [h, if_neg (by decide), if_neg (by decide), if_neg (by decide), if_neg (by decide), if_pos (by decide)]
    show (if a = 0 then _ else _ : MM Int32) s = some (.inl (if a = 0 then 0 else if b = 0 then 0 else 1), s)
    by_cases q : a = 0
    · rw [if_pos q, if_pos q]; rfl
    · rw [if_neg q, if_neg q]
      split <;> rfl
  · rw [h, if_neg (by decide), if_neg (by decide), if_neg (by decide), if_neg (by decide), if_neg (by decide)]
    show (if a = 0 then _ else _ : MM Int32) s = some (.inl (if a = 0 then (if b = 0 then 0 else 1) else 1), s)
    by_cases q : a = 0
    · rw [if_pos q, if_pos q]
      split <;> rfl
    · rw [if_neg q, if_neg q]; rfl
/-- one item -/
theorem holds_step (L : LawAt s l lines n code) (HF : hasI s fa 0 10 F) (HS : hasI s (l + 2) 0 40 g) (hn : n ≤ 500) {i : It} (ok : itOk i) {T T' : List Bool} {k : List Int32} (ht : ty1 i T = some T') (hT : T.length ≤ 30) (hk : TyS T k) (hg : Stk g k) {a to : Nat} (ha : a < n) (hto : to < 1000) (hat : a < to) (hc : code a = Int32.ofNat (encI i)) :
    ∃ g', mX4_holds_L6 l (Int32.ofNat to) fa (Int32.ofNat T.length, Int32.ofNat a) s = some (.inl (.inl (Int32.ofNat T'.length, Int32.ofNat (a + 1))), sup s (l + 2) (.inr (.inl (0, 40, g')))) ∧ Stk g' (stp F i k) ∧ T'.length ≤ 30 := by
  have hlen := tyS_len hk
  have hO := L.1
  have hI := L.2
  have hcl : (Int32.ofNat a).toNatClampNeg = a := ofN_cl (by omega)
  have lda : ldI 0 (l + 1) (Int32.ofNat a) s = some (.inl (Int32.ofNat (encI i)), s) := by
    rw [ldI_ok hI (ofN_nn (by omega)) (by rw [hcl]; exact ha), hcl, hc]
  have r1 : gR 4 1 l s = some (.inl (l + 1), s) := gR_ok hO rfl
  have r2 : gR 4 2 l s = some (.inl (l + 2), s) := gR_ok hO rfl
  have n1 : ¬ Int32.ofNat to ≤ Int32.ofNat a := nle hat (by omega)
  have n2 : ¬ Int32.ofNat n ≤ Int32.ofNat a := nle ha (by omega)
  unfold ty1 at ht
  by_cases hp : i.1 ≤ 10
  · -- a number or a fact
    have hT' : T'.length = T.length + 1 ∧ T.length < 30 := by
      by_cases c1 : i.1 ≤ 7 ∨ i.1 = 10
      · rw [if_pos c1] at ht
        split at ht
        · next q => cases ht; exact ⟨rfl, q⟩
        · cases ht
      · rw [if_neg c1, if_pos (by omega)] at ht
        split at ht
        · next q => cases ht; exact ⟨rfl, q⟩
        · cases ht
    have henc : encI i < 1030 := by
      unfold encI
      split
      · omega
      · split
        · next q => have := ok.2.1 q; omega
        · split
          · omega
          · split
            · next q => have := ok.2.2 q; omega
            · omega
    have n3 : ¬ (1030 : Int32) ≤ Int32.ofNat (encI i) := nle (n := 1030) henc (by decide)
    have n4 : ¬ Int32.ofNat T.length < 0 := ofN_nn (by omega)
    have n5 : ¬ Int32.ofNat 40 ≤ Int32.ofNat T.length := nle (by omega) (by decide)
    have n6 : Int32.ofNat T.length ≤ Int32.ofNat 40 := (ofN_le (by omega) (by decide)).mpr (by omega)
    have hst := stI_ok (i := Int32.ofNat T.length) (x := fI F i) HS n4 (by rw [ofN_cl (by omega)]; omega)
    rw [ofN_cl (by omega)] at hst
    have e00 : (0 : Int32) ≤ 0 := Int32.le_refl 0
    have e01 : (0 : Int32) ≤ 1 := by decide
    refine ⟨upd g T.length (fI F i), ?_, ?_, by omega⟩
    · unfold mX4_holds_L6
      simp only [if_neg n1, mbnd_app, r1, kx_in, lenI_ok hI, if_neg n2, lda, mite_app, if_neg n3, mret_app, Int32.sub_zero, if_neg n4, r2, lenI_ok HS, if_neg n5, if_pos n6, if_pos e00, if_pos e01, if_true, asked_run HF hp ok, hst, ofN_succ, hT'.1]
    · unfold stp
      rw [if_pos hp]
      have := stk_push (x := fI F i) hg
      rwa [hlen] at this
  · have hp10 : 10 < i.1 := by omega
    have hi16 := ok.1
    have henc : encI i = 1019 + i.1 := by
      unfold encI
      rw [if_neg (by omega), if_neg (by omega), if_neg (by omega), if_neg (by omega)]
    have p3 : (1030 : Int32) ≤ Int32.ofNat (encI i) := (ofN_le (n := 1030) (by decide) (by omega)).mpr (by omega)
    rw [if_neg (by omega), if_neg (by omega)] at ht
    match T, k, hk, ht, hT, hlen, hg with
    | [], _, _, ht, _, _, _ => cases ht
    | _ :: _, [], hk, _, _, _, _ => exact hk.elim
    | t :: R, b :: r, hk, ht, hT, hlen, hg =>
      have hT30 : R.length + 1 ≤ 30 := hT
      have hl2 : r.length = R.length := by
        have : r.length + 1 = R.length + 1 := hlen
        omega
      have ldb : ∀ (m : Nat), m < 40 → ldI 0 (l + 2) (Int32.ofNat m) s = some (.inl (g m), s) := fun m hm => by
        rw [ldI_ok HS (ofN_nn (by omega)) (by rw [ofN_cl (by omega)]; exact hm), ofN_cl (by omega)]
      have n6 : Int32.ofNat (R.length + 1) ≤ Int32.ofNat 40 := (ofN_le (by omega) (by decide)).mpr (by omega)
      have hgb : g R.length = b := by rw [← hl2]; exact hg.1
      by_cases c4 : i.1 = 14
      · have ht2 := ht
        dsimp only at ht2
        rw [if_pos c4] at ht2
        have hT' : T' = true :: R := by
          split at ht2
          · cases ht2; rfl
          · cases ht2
        have e33 : Int32.ofNat (encI i) = 1033 := by rw [henc, c4]; rfl
        have e1 : Int32.ofNat (R.length + 1) - 1 = Int32.ofNat R.length := ofN_pred _
        have n4 : ¬ Int32.ofNat R.length < 0 := ofN_nn (by omega)
        have n5 : ¬ Int32.ofNat 40 ≤ Int32.ofNat R.length := nle (by omega) (by decide)
        have hst := stI_ok (i := Int32.ofNat R.length) (x := if b = 0 then 1 else 0) HS n4 (by rw [ofN_cl (by omega)]; omega)
        rw [ofN_cl (by omega)] at hst
        have hj := joined_run hp10 hi16 0 b s
        rw [if_pos c4] at hj
        have x1 : ¬ (1 : Int32) ≤ 0 := by decide
        have x2 : (1 : Int32) ≤ 1 := by decide
        refine ⟨upd g R.length (if b = 0 then 1 else 0), ?_, ?_, by rw [hT']; exact hT⟩
        · show mX4_holds_L6 l (Int32.ofNat to) fa (Int32.ofNat (R.length + 1), Int32.ofNat a) s = _
          unfold mX4_holds_L6
          simp only [if_neg n1, mbnd_app, r1, kx_in, lenI_ok hI, if_neg n2, lda, mite_app, if_pos p3, if_pos e33, mret_app, e1, if_neg n4, r2, lenI_ok HS, if_neg n5, if_pos n6, if_neg x1, if_pos x2, one_ne0, if_false, ldb R.length (by omega), hgb, hj, hst, ofN_succ, hT', List.length_cons]
        · unfold stp
          rw [if_neg hp]
          show Stk _ (if i.1 = 14 then _ else _)
          rw [if_pos c4]
          have := stk_push (x := if b = 0 then 1 else 0) hg.2
          rwa [hl2] at this
      · match R, r, hk, ht, hT30, hl2, hg, n6, hgb with
        | [], _, _, ht, _, _, _, _, _ =>
          have ht2 : (if i.1 = 14 then (if t = true then some (true :: []) else none) else none) = some T' := ht
          rw [if_neg c4] at ht2
          cases ht2
        | _ :: _, [], hk, _, _, _, _, _, _ => exact hk.2.elim
        | u :: Q, a9 :: q, hk, ht, hT30, hl2, hg, n6, hgb =>
          have ht2 : (if i.1 = 14 then (if t = true then some (true :: u :: Q) else none) else (if i.1 = 11 then (if t = false ∧ u = false then some (false :: Q) else none) else if i.1 ≤ 13 then (if t = false ∧ u = false then some (true :: Q) else none) else (if t = true ∧ u = true then some (true :: Q) else none))) = some T' := ht
          rw [if_neg c4] at ht2
          have hT' : T'.length = Q.length + 1 := by
            split at ht2
            · split at ht2
              · cases ht2; rfl
              · cases ht2
            · split at ht2
              · split at ht2
                · cases ht2; rfl
                · cases ht2
              · split at ht2
                · cases ht2; rfl
                · cases ht2
          have hQ : Q.length + 1 + 1 ≤ 30 := hT30
          have hl3 : q.length = Q.length := by
            have : q.length + 1 = Q.length + 1 := hl2
            omega
          have hga : g Q.length = a9 := by rw [← hl3]; exact hg.2.1
          have hgb2 : g (Q.length + 1) = b := hgb
          have e33 : ¬ Int32.ofNat (encI i) = 1033 := by
            rw [henc]
            intro q9
            have := (ofN_inj (n := 1019 + i.1) (m := 1033) (by omega) (by decide)).mp q9
            omega
          have e1 : Int32.ofNat (Q.length + 1 + 1) - 1 = Int32.ofNat (Q.length + 1) := ofN_pred _
          have e2 : Int32.ofNat (Q.length + 1 + 1) - 2 = Int32.ofNat Q.length := by
            have := ofN_sub (n := Q.length + 1 + 1) (m := 2) (by omega)
            rw [show Q.length + 1 + 1 - 2 = Q.length by omega] at this
            exact this
          have n4 : ¬ Int32.ofNat Q.length < 0 := ofN_nn (by omega)
          have n5 : ¬ Int32.ofNat 40 ≤ Int32.ofNat Q.length := nle (by omega) (by decide)
          have hst := stI_ok (i := Int32.ofNat Q.length) (x := opL i.1 a9 b) HS n4 (by rw [ofN_cl (by omega)]; omega)
          rw [ofN_cl (by omega)] at hst
          have hj := joined_run hp10 hi16 a9 b s
          rw [if_neg c4] at hj
          have x1 : ¬ (2 : Int32) ≤ 0 := by decide
          have x2 : ¬ (2 : Int32) ≤ 1 := by decide
          have x3 : ¬ (2 : Int32) = 0 := by decide
          refine ⟨upd g Q.length (opL i.1 a9 b), ?_, ?_, by omega⟩
          · show mX4_holds_L6 l (Int32.ofNat to) fa (Int32.ofNat (Q.length + 1 + 1), Int32.ofNat a) s = _
            unfold mX4_holds_L6
            simp only [if_neg n1, mbnd_app, r1, kx_in, lenI_ok hI, if_neg n2, lda, mite_app, if_pos p3, if_neg e33, mret_app, e1, e2, if_neg n4, r2, lenI_ok HS, if_neg n5, if_pos (show Int32.ofNat (Q.length + 1 + 1) ≤ Int32.ofNat 40 from n6), if_neg x1, if_neg x2, if_neg x3, ldb (Q.length + 1) (by omega), ldb Q.length (by omega), hgb2, hga, hj, hst, ofN_succ, hT']
          · unfold stp
            rw [if_neg hp]
            show Stk _ (if i.1 = 14 then _ else opL i.1 a9 b :: q)
            rw [if_neg c4]
            have := stk_push (x := opL i.1 a9 b) hg.2.2
            rwa [hl3] at this
end HL
