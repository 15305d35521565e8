/-! THE REFERENCE RUNS A LINE'S CONDITION -/
/-- the ten facts of a part and a deed, by the reference's world -/
def fRow (W : Nat → Int32) (p : Nat) (harm hard master : Int32) : Nat → Int32 := fun k => if k = 0 then W (13 + 8 * p + 1) else if k = 1 then W (13 + 8 * p + 2) else if k = 2 then W (13 + 8 * p + 3) else if k = 3 then harm else if k = 4 then hard else if k = 5 then master else if k = 6 then W 5 else if k = 7 then imax 0 (W (13 + 8 * p + 6)) else if k = 8 then W (13 + 8 * p) else W (13 + 8 * p + 4)
def stepsAt (W : Nat → Int32) : Nat → List It → Prop
  | _, [] => True
  | a, i :: r => W (1120 + 2 * a) = Int32.ofNat i.1 ∧ (i.1 = 8 → W (1120 + 2 * a + 1) = Int32.ofNat i.2) ∧ (i.1 = 10 → W (1120 + 2 * a + 1) = Int32.ofNat i.2) ∧ stepsAt W (a + 1) r
def mval (M : MK) (g : Nat → Int32) : MK := (M.1, mrow M.2 8 g)
theorem mval_mval (M : MK) (g g' : Nat → Int32) : mval (mval M g) g' = mval M g' := by
  unfold mval
  congr 1
  funext k
  show (if k = 8 then g' else if k = 8 then g else M.2 k) = if k = 8 then g' else M.2 k
  split <;> rfl
theorem mval_self (M : MK) : mval M (M.2 8) = M := by
  obtain ⟨A, R⟩ := M
  unfold mval
  congr 1
  funext k
  show (if k = 8 then R 8 else R k) = R k
  split
  · next h => rw [h]
  · rfl
theorem add_m1 (n : Nat) : Int32.ofNat (n + 1) + (-1) = Int32.ofNat n := by
  have h := ofN_pred n
  rwa [Int32.sub_eq_add_neg] at h
section RL9
variable {s : aS} {M : MK}
theorem val_ld (C : Mdl s 66 M) {i : Nat} (h : i < 400) : ldI 0 74 (Int32.ofNat i) s = some (.inl (M.2 8 i), s) := by
  have := ldI_ok (i := Int32.ofNat i) (C.2 8 (by decide) (by decide)) (ofN_nn (by omega)) (by rw [ofN_cl (by omega)]; exact h)
  rwa [ofN_cl (by omega)] at this
theorem val_st (C : Mdl s 66 M) {i : Nat} (h : i < 400) (v : Int32) : ∃ s', stI 0 74 (Int32.ofNat i) v s = some (.inl (), s') ∧ Mdl s' 66 (mval M (upd (M.2 8) i v)) ∧ Off s s' 66 78 := by
  have := mput_run (q := 8) (i := i) (v := v) C (by decide) (by decide) h (by decide)
  exact this
theorem fact_run (C : Mdl s 66 M) {p : Nat} (hp : p < 300) {i : It} (hi : i.1 ≤ 10) {x : Int32} (h8 : i.1 = 8 → x = Int32.ofNat i.2) (h10 : i.1 = 10 → x = Int32.ofNat i.2) : mX12_factOf 66 (Int32.ofNat i.1) x (Int32.ofNat p) s = some (.inl (fI (fRow (M.2 1) p (M.1 18) (M.1 19) (M.1 20)) i), s) := by
  obtain ⟨k, n⟩ := i
  have : k = 0 ∨ k = 1 ∨ k = 2 ∨ k = 3 ∨ k = 4 ∨ k = 5 ∨ k = 6 ∨ k = 7 ∨ k = 8 ∨ k = 9 ∨ k = 10 := by
    have : k ≤ 10 := hi
    omega
  unfold mX12_factOf
  rw [onC_ok C.1]
  dsimp only at h8 h10 ⊢
  rcases this with rfl | rfl | rfl | rfl | rfl | rfl | rfl | rfl | rfl | rfl | rfl
  · rw [if_pos (by decide)]
    exact (bnd_ok (((MD.cols C).2.1) p hp)).trans rfl
  · rw [if_neg (by decide), if_pos (by decide)]
    exact (bnd_ok (((MD.cols C).2.2.1) p hp)).trans rfl
  · rw [if_neg (by decide), if_neg (by decide), if_pos (by decide)]
    exact (bnd_ok (((MD.cols C).2.2.2.1) p hp)).trans rfl
  · rw [if_neg (by decide), if_neg (by decide), if_neg (by decide), if_pos (by decide)]
    exact (bnd_ok (gI_ok C.1 rfl)).trans rfl
  · rw [if_neg (by decide), if_neg (by decide), if_neg (by decide), if_neg (by decide), if_pos (by decide)]
    exact (bnd_ok (gI_ok C.1 rfl)).trans rfl
  · rw [if_neg (by decide), if_neg (by decide), if_neg (by decide), if_neg (by decide), if_neg (by decide), if_pos (by decide)]
    exact (bnd_ok (gI_ok C.1 rfl)).trans rfl
  · rw [if_neg (by decide), if_neg (by decide), if_neg (by decide), if_neg (by decide), if_neg (by decide), if_neg (by decide), if_pos (by decide)]
    exact (bnd_ok (today_run C)).trans rfl
  · rw [if_neg (by decide), if_neg (by decide), if_neg (by decide), if_neg (by decide), if_neg (by decide), if_neg (by decide), if_neg (by decide), if_pos (by decide)]
    exact (bnd_ok ((MD.cols C).2.2.2.2.2.2.1 p hp)).trans rfl
  · rw [if_neg (by decide), if_neg (by decide), if_neg (by decide), if_neg (by decide), if_neg (by decide), if_neg (by decide), if_neg (by decide), if_neg (by decide), if_pos (by decide)]
    refine (bnd_ok ((MD.cols C).1 p hp)).trans ?_
    rw [h8 rfl]
    show (if M.2 1 (13 + 8 * p) = Int32.ofNat n then _ else _ : MM Int32) s = some (.inl (if M.2 1 (13 + 8 * p) = Int32.ofNat n then 1 else 0), s)
    split <;> rfl
  · rw [if_neg (by decide), if_neg (by decide), if_neg (by decide), if_neg (by decide), if_neg (by decide), if_neg (by decide), if_neg (by decide), if_neg (by decide), if_neg (by decide), if_pos (by decide)]
    exact (bnd_ok ((MD.cols C).2.2.2.2.1 p hp)).trans rfl
  · rw [if_neg (by decide), if_neg (by decide), if_neg (by decide), if_neg (by decide), if_neg (by decide), if_neg (by decide), if_neg (by decide), if_neg (by decide), if_neg (by decide), if_neg (by decide)]
    rw [h10 rfl]
    rfl
theorem not_ref {v : Int32} (h : v = 0 ∨ v = 1) : 1 - v = if v = 0 then 1 else 0 := by
  rcases h with rfl | rfl <;> decide
theorem and_ref {a b : Int32} (ha : a = 0 ∨ a = 1) (hb : b = 0 ∨ b = 1) : (if a + b = 2 then (1 : Int32) else 0) = if a = 0 then 0 else if b = 0 then 0 else 1 := by
  rcases ha with rfl | rfl <;> rcases hb with rfl | rfl <;> decide
theorem or_ref {a b : Int32} (ha : a = 0 ∨ a = 1) (hb : b = 0 ∨ b = 1) : (if a + b ≤ 0 then (0 : Int32) else 1) = if a = 0 then (if b = 0 then 0 else 1) else 1 := by
  rcases ha with rfl | rfl <;> rcases hb with rfl | rfl <;> decide
theorem le_lt_ite (a b : Int32) : (if b ≤ a then (0 : Int32) else 1) = if a < b then 1 else 0 := by
  by_cases q : b ≤ a
  · rw [if_pos q, if_neg (Int32.not_lt.mpr q)]
  · rw [if_neg q, if_pos (Int32.not_le.mp q)]
theorem ite_01 (x : Int32) (h : x = 0 ∨ x = 1) : (if x = 0 then (0 : Int32) else 1) = x := by
  rcases h with rfl | rfl <;> rfl
theorem ite_bool {c : Prop} [Decidable c] : (if c then (1 : Int32) else 0) = 0 ∨ (if c then (1 : Int32) else 0) = 1 := by
  split
  · exact Or.inr rfl
  · exact Or.inl rfl
end RL9
