/-! THE REFERENCE'S STEPS, one by one; a condition; what THE LAW says -/
section RS
variable {s : aS} {M : MK}
theorem r_push (C : Mdl s 66 M) {p : Nat} (hp : p < 300) {i : It} (hi : i.1 ≤ 10) {k1 to : Int32} {line a n : Nat} (hto : M.2 1 (1072 + 4 * line + 3) = Int32.ofNat n) (hl : line < 12) (hn : n < 410) (ha : a < n) (hst : M.2 1 (1120 + 2 * a) = Int32.ofNat i.1) (h8 : i.1 = 8 → M.2 1 (1120 + 2 * a + 1) = Int32.ofNat i.2) (h10 : i.1 = 10 → M.2 1 (1120 + 2 * a + 1) = Int32.ofNat i.2) {t : Nat} (ht : t < 400) : ∃ s', mX12_holdsLine_L22 66 (Int32.ofNat p) (Int32.ofNat (1072 + 4 * line)) (Int32.ofNat t, Int32.ofNat a) s = some (.inl (.inl (Int32.ofNat (t + 1), Int32.ofNat (a + 1))), s') ∧ Mdl s' 66 (mval M (upd (M.2 8) t (fI (fRow (M.2 1) p (M.1 18) (M.1 19) (M.1 20)) i))) ∧ Off s s' 66 78 := by
  obtain ⟨s', q1, q2, q3⟩ := val_st C ht (fI (fRow (M.2 1) p (M.1 18) (M.1 19) (M.1 20)) i)
  refine ⟨s', ?_, q2, q3⟩
  have e3 : Int32.ofNat (1072 + 4 * line) + 3 = Int32.ofNat (1072 + 4 * line + 3) := ofN_add _ 3
  have e2 : (2 : Int32) * Int32.ofNat a = Int32.ofNat (2 * a) := ofN_mul 2 a
  have e4 : (1120 : Int32) + Int32.ofNat (2 * a) = Int32.ofNat (1120 + 2 * a) := ofN_add 1120 _
  have e5 : Int32.ofNat (1120 + 2 * a) + 1 = Int32.ofNat (1120 + 2 * a + 1) := ofN_add _ 1
  have n1 : ¬ Int32.ofNat n ≤ Int32.ofNat a := nle ha (by omega)
  have n2 : ¬ (10 : Int32) < Int32.ofNat i.1 := fun q => absurd ((ofN_lt (n := 10) (by decide) (by omega)).mp q) (by omega)
  have l3 : 1072 + 4 * line + 3 < 2769 := by omega
  have l4 : 1120 + 2 * a < 2769 := by omega
  have l5 : 1120 + 2 * a + 1 < 2769 := by omega
  unfold mX12_holdsLine_L22
  simp only [mbnd_app, kx_in, (MD.refs C).2.1, (MD.refs C).2.2.2.2.2.2.2.2.1, e3, wrd_ok C l3, (MD.wl C).1 _ l3, hto, if_neg n1, e2, e4, (MD.wl C).1 _ l4, hst, mite_app, if_neg n2, e5, (MD.wl C).1 _ l5, fact_run C hp hi h8 h10, q1, mret_app, ofN_succ]
theorem r_not (C : Mdl s 66 M) {x : Int32} {line a n : Nat} (hto : M.2 1 (1072 + 4 * line + 3) = Int32.ofNat n) (hl : line < 12) (hn : n < 410) (ha : a < n) (hst : M.2 1 (1120 + 2 * a) = Int32.ofNat 14) {t : Nat} (ht : t < 399) : ∃ s', mX12_holdsLine_L22 66 x (Int32.ofNat (1072 + 4 * line)) (Int32.ofNat (t + 1), Int32.ofNat a) s = some (.inl (.inl (Int32.ofNat (t + 1), Int32.ofNat (a + 1))), s') ∧ Mdl s' 66 (mval M (upd (M.2 8) t (1 - M.2 8 t))) ∧ Off s s' 66 78 := by
  obtain ⟨s', q1, q2, q3⟩ := val_st C (i := t) (by omega) (1 - M.2 8 t)
  refine ⟨s', ?_, q2, q3⟩
  have e3 : Int32.ofNat (1072 + 4 * line) + 3 = Int32.ofNat (1072 + 4 * line + 3) := ofN_add _ 3
  have e2 : (2 : Int32) * Int32.ofNat a = Int32.ofNat (2 * a) := ofN_mul 2 a
  have e4 : (1120 : Int32) + Int32.ofNat (2 * a) = Int32.ofNat (1120 + 2 * a) := ofN_add 1120 _
  have n1 : ¬ Int32.ofNat n ≤ Int32.ofNat a := nle ha (by omega)
  have n2 : (10 : Int32) < Int32.ofNat 14 := by decide
  have n3 : Int32.ofNat 14 = 14 := rfl
  have l3 : 1072 + 4 * line + 3 < 2769 := by omega
  have l4 : 1120 + 2 * a < 2769 := by omega
  have ld := val_ld C (i := t) (by omega)
  unfold mX12_holdsLine_L22
  simp only [mbnd_app, kx_in, (MD.refs C).2.1, (MD.refs C).2.2.2.2.2.2.2.2.1, e3, (MD.wl C).1 _ l3, hto, if_neg n1, e2, e4, (MD.wl C).1 _ l4, hst, mite_app, if_pos n2, if_pos n3, ofN_pred, ld, q1, mret_app, ofN_succ]
theorem r_bin (C : Mdl s 66 M) {x : Int32} {line a n k : Nat} (hto : M.2 1 (1072 + 4 * line + 3) = Int32.ofNat n) (hl : line < 12) (hn : n < 410) (ha : a < n) (hk1 : 10 < k) (hk2 : k ≤ 16) (hk3 : ¬ k = 14) (hst : M.2 1 (1120 + 2 * a) = Int32.ofNat k) {t : Nat} (ht : t < 398) (hty : 15 ≤ k → (M.2 8 t = 0 ∨ M.2 8 t = 1) ∧ (M.2 8 (t + 1) = 0 ∨ M.2 8 (t + 1) = 1)) : ∃ s', mX12_holdsLine_L22 66 x (Int32.ofNat (1072 + 4 * line)) (Int32.ofNat (t + 1 + 1), Int32.ofNat a) s = some (.inl (.inl (Int32.ofNat (t + 1), Int32.ofNat (a + 1))), s') ∧ Mdl s' 66 (mval M (upd (M.2 8) t (opL k (M.2 8 t) (M.2 8 (t + 1))))) ∧ Off s s' 66 78 := by
  obtain ⟨s', q1, q2, q3⟩ := val_st C (i := t) (by omega) (opL k (M.2 8 t) (M.2 8 (t + 1)))
  refine ⟨s', ?_, q2, q3⟩
  have e3 : Int32.ofNat (1072 + 4 * line) + 3 = Int32.ofNat (1072 + 4 * line + 3) := ofN_add _ 3
  have e2 : (2 : Int32) * Int32.ofNat a = Int32.ofNat (2 * a) := ofN_mul 2 a
  have e4 : (1120 : Int32) + Int32.ofNat (2 * a) = Int32.ofNat (1120 + 2 * a) := ofN_add 1120 _
  have n1 : ¬ Int32.ofNat n ≤ Int32.ofNat a := nle ha (by omega)
  have n2 : (10 : Int32) < Int32.ofNat k := (ofN_lt (n := 10) (by decide) (by omega)).mpr hk1
  have n3 : ¬ Int32.ofNat k = 14 := fun q => hk3 ((ofN_inj (n := k) (m := 14) (by omega) (by decide)).mp q)
  have l3 : 1072 + 4 * line + 3 < 2769 := by omega
  have l4 : 1120 + 2 * a < 2769 := by omega
  have ld := val_ld C (i := t) (by omega)
  have ld1 := val_ld C (i := t + 1) (by omega)
  unfold mX12_holdsLine_L22
  simp only [mbnd_app, kx_in, (MD.refs C).2.1, (MD.refs C).2.2.2.2.2.2.2.2.1, e3, (MD.wl C).1 _ l3, hto, if_neg n1, e2, e4, (MD.wl C).1 _ l4, hst, mite_app, if_pos n2, if_neg n3, add_m1, ofN_pred, ld, ld1, mret_app, ite_some]
  have hv : (if Int32.ofNat k = 11 then M.2 8 t + M.2 8 (t + 1) else if (if Int32.ofNat k = 12 then (if M.2 8 (t + 1) ≤ M.2 8 t then 0 else 1) else if Int32.ofNat k = 13 then (if M.2 8 t ≤ M.2 8 (t + 1) then 0 else 1) else if Int32.ofNat k = 15 then (if M.2 8 t + M.2 8 (t + 1) = 2 then 1 else 0) else if M.2 8 t + M.2 8 (t + 1) ≤ 0 then 0 else 1) = (0 : Int32) then 0 else 1) = opL k (M.2 8 t) (M.2 8 (t + 1)) := by
    have : k = 11 ∨ k = 12 ∨ k = 13 ∨ k = 15 ∨ k = 16 := by omega
    rcases this with rfl | rfl | rfl | rfl | rfl
    · rw [if_pos (show Int32.ofNat 11 = 11 by decide)]; rfl
    · rw [if_neg (show ¬ Int32.ofNat 12 = 11 by decide), if_pos (show Int32.ofNat 12 = 12 by decide), le_lt_ite, ite_01 _ ite_bool]; rfl
    · rw [if_neg (show ¬ Int32.ofNat 13 = 11 by decide), if_neg (show ¬ Int32.ofNat 13 = 12 by decide), if_pos (show Int32.ofNat 13 = 13 by decide), le_lt_ite, ite_01 _ ite_bool]; rfl
    · have h := hty (by decide)
      rw [if_neg (show ¬ Int32.ofNat 15 = 11 by decide), if_neg (show ¬ Int32.ofNat 15 = 12 by decide), if_neg (show ¬ Int32.ofNat 15 = 13 by decide), if_pos (show Int32.ofNat 15 = 15 by decide), ite_01 _ ite_bool, and_ref h.1 h.2]; rfl
    · have h := hty (by decide)
      rw [if_neg (show ¬ Int32.ofNat 16 = 11 by decide), if_neg (show ¬ Int32.ofNat 16 = 12 by decide), if_neg (show ¬ Int32.ofNat 16 = 13 by decide), if_neg (show ¬ Int32.ofNat 16 = 15 by decide), or_ref h.1 h.2, ite_01]
      · rfl
      · rcases h.1 with q | q <;> rcases h.2 with q2 | q2 <;> rw [q, q2] <;> decide
  rw [hv]
  simp only [q1, kx_in, mret_app, ofN_succ]
end RS
