/-! TABLES: rows of numbers -/
/-- a Table at a, its numbers at c: most rows, width, rows, numbers -/
def Tb (s : aS) (a c m w r : Nat) (f : Nat → Int32) : Prop := hasO s a 8 [.ref c, .int (Int32.ofNat m), .int (Int32.ofNat w), .int (Int32.ofNat r)] ∧ hasI s c 0 (m * w) f ∧ r ≤ m ∧ m * w ≤ 1000 ∧ m ≤ 1000 ∧ w ≤ 1000
def tget (w r : Nat) (f : Nat → Int32) (i j : Int32) : Int32 := if i < 0 ∨ Int32.ofNat r ≤ i ∨ j < 0 ∨ Int32.ofNat w ≤ j then -1 else f (i.toNatClampNeg * w + j.toNatClampNeg)
def tput (w r : Nat) (f : Nat → Int32) (i j v : Int32) : Nat → Int32 := if i < 0 ∨ Int32.ofNat r ≤ i ∨ j < 0 ∨ Int32.ofNat w ≤ j then f else upd f (i.toNatClampNeg * w + j.toNatClampNeg) v
theorem t_at {m w r : Nat} {i j : Int32} (h1 : ¬ i < 0) (h2 : ¬ Int32.ofNat r ≤ i) (h3 : ¬ j < 0) (h4 : ¬ Int32.ofNat w ≤ j) (hr : r ≤ m) (hb : m * w ≤ 1000) (hm : m ≤ 1000) (hw : w ≤ 1000) : i * Int32.ofNat w + j = Int32.ofNat (i.toNatClampNeg * w + j.toNatClampNeg) ∧ i.toNatClampNeg * w + j.toNatClampNeg < m * w := by
  have e1 := i32_of h1
  have e2 := i32_of h3
  have a1 : i.toNatClampNeg < 2 ^ 31 := by have := Int32.toInt_lt i; have := i32_nn h1; omega
  have a2 : j.toNatClampNeg < 2 ^ 31 := by have := Int32.toInt_lt j; have := i32_nn h3; omega
  have b1 : i.toNatClampNeg < r := by
    rw [e1] at h2
    exact Nat.lt_of_not_le fun q => h2 ((ofN_le (by omega) a1).mpr q)
  have b2 : j.toNatClampNeg < w := by
    rw [e2] at h4
    exact Nat.lt_of_not_le fun q => h4 ((ofN_le (by omega) a2).mpr q)
  refine ⟨?_, ?_⟩
  · conv => lhs; rw [e1, e2, ofN_mul, ofN_add]
  · have h5 : (i.toNatClampNeg + 1) * w ≤ m * w := Nat.mul_le_mul_right w (by omega)
    rw [Nat.succ_mul] at h5
    omega
section TBL
variable {s : aS} {a c m w r : Nat} {f : Nat → Int32} {i j v : Int32}
theorem get_ok (T : Tb s a c m w r f) : mX8_get a i j s = some (.inl (tget w r f i j), s) := by
  obtain ⟨hO, hI, hr, hb, hm, hw⟩ := T
  unfold mX8_get tget
  rw [onC_ok hO]
  by_cases h1 : i < 0
  · rw [if_pos h1, if_pos (Or.inl h1)]; rfl
  rw [if_neg h1, bnd_ok (gI_ok hO rfl)]
  by_cases h2 : Int32.ofNat r ≤ i
  · rw [if_pos h2, if_pos (Or.inr (Or.inl h2))]; rfl
  rw [if_neg h2]
  by_cases h3 : j < 0
  · rw [if_pos h3, if_pos (Or.inr (Or.inr (Or.inl h3)))]; rfl
  rw [if_neg h3, bnd_ok (gI_ok hO rfl)]
  by_cases h4 : Int32.ofNat w ≤ j
  · rw [if_neg (Int32.not_lt.mpr h4), if_pos (Or.inr (Or.inr (Or.inr h4)))]; rfl
  obtain ⟨e1, e2⟩ := t_at h1 h2 h3 h4 hr hb hm hw
  rw [if_pos (Int32.not_le.mp h4), if_neg (fun q => q.elim h1 (fun q => q.elim h2 (fun q => q.elim h3 h4))), bnd_ok (gI_ok hO rfl), mret_mbnd, bnd_ok (gR_ok hO rfl), bnd_ok (lenI_ok hI), e1]
  rw [if_neg (fun q => absurd ((ofN_le (by omega) (by omega)).mp q) (by omega)), bnd_ok (gR_ok hO rfl), bnd_ok (ldI_ok hI (ofN_nn (by omega)) (by rw [ofN_cl (by omega)]; exact e2)), ofN_cl (by omega)]
  rfl
theorem put_ok (T : Tb s a c m w r f) : ∃ s', mX8_put a i j v s = some (.inl (), s') ∧ s' = (if i < 0 ∨ Int32.ofNat r ≤ i ∨ j < 0 ∨ Int32.ofNat w ≤ j then s else sup s c (.inr (.inl (0, m * w, tput w r f i j v)))) := by
  obtain ⟨hO, hI, hr, hb, hm, hw⟩ := T
  refine ⟨_, ?_, rfl⟩
  unfold mX8_put tput
  rw [onC_ok hO]
  by_cases h1 : i < 0
  · rw [if_pos h1, if_pos (Or.inl h1)]; rfl
  rw [if_neg h1, bnd_ok (gI_ok hO rfl)]
  by_cases h2 : Int32.ofNat r ≤ i
  · rw [if_pos h2, if_pos (Or.inr (Or.inl h2))]; rfl
  rw [if_neg h2]
  by_cases h3 : j < 0
  · rw [if_pos h3, if_pos (Or.inr (Or.inr (Or.inl h3)))]; rfl
  rw [if_neg h3, bnd_ok (gI_ok hO rfl)]
  by_cases h4 : Int32.ofNat w ≤ j
  · rw [if_neg (Int32.not_lt.mpr h4), if_pos (Or.inr (Or.inr (Or.inr h4)))]; rfl
  obtain ⟨e1, e2⟩ := t_at h1 h2 h3 h4 hr hb hm hw
  have hn := fun q : i < 0 ∨ Int32.ofNat r ≤ i ∨ j < 0 ∨ Int32.ofNat w ≤ j => q.elim h1 (fun q => q.elim h2 (fun q => q.elim h3 h4))
  rw [if_pos (Int32.not_le.mp h4), if_neg hn, if_neg hn, bnd_ok (gI_ok hO rfl), mret_mbnd, bnd_ok (gR_ok hO rfl), bnd_ok (lenI_ok hI), e1]
  rw [if_neg (fun q => absurd ((ofN_le (by omega) (by omega)).mp q) (by omega)), bnd_ok (gR_ok hO rfl), bnd_ok (stI_ok hI (ofN_nn (by omega)) (by rw [ofN_cl (by omega)]; exact e2)), ofN_cl (by omega)]
  rfl
theorem has_ok (T : Tb s a c m w r f) : mX8_has a i s = some (.inl (if i < 0 ∨ Int32.ofNat r ≤ i then 0 else 1), s) := by
  obtain ⟨hO, hI, hr, hb, hm, hw⟩ := T
  unfold mX8_has
  rw [onC_ok hO]
  by_cases h1 : i < 0
  · rw [if_pos h1, if_pos (Or.inl h1)]; rfl
  rw [if_neg h1, bnd_ok (gI_ok hO rfl)]
  by_cases h2 : Int32.ofNat r ≤ i
  · rw [if_pos h2, if_pos (Or.inr h2)]; rfl
  rw [if_neg h2, if_neg (fun q => q.elim h1 h2)]
  rfl
theorem isFull_ok (T : Tb s a c m w r f) : mX8_isFull a s = some (.inl (if r < m then 0 else 1), s) := by
  obtain ⟨hO, hI, hr, hb, hm, hw⟩ := T
  unfold mX8_isFull
  rw [onC_ok hO, bnd_ok (gI_ok hO rfl), bnd_ok (gI_ok hO rfl)]
  by_cases h : r < m
  · rw [if_pos ((ofN_lt (by omega) (by omega)).mpr h), if_pos h]; rfl
  · rw [if_neg (fun q => h ((ofN_lt (by omega) (by omega)).mp q)), if_neg h]; rfl
end TBL
theorem sup_same {s : aS} {c t n : Nat} {f : Nat → Int32} (h : hasI s c t n f) : sup s c (.inr (.inl (t, n, f))) = s := by
  obtain ⟨hh, z⟩ := s
  unfold sup
  congr 1
  funext b
  unfold hup
  by_cases hb : b = c
  · rw [if_pos hb, hb]
    exact h.1.symm
  · rw [if_neg hb]
theorem sup_sup {s : aS} {c : Nat} {e e' : AE} : sup (sup s c e) c e' = sup s c e' := by
  obtain ⟨hh, z⟩ := s
  unfold sup
  congr 1
  funext b
  show (if b = c then e' else (if b = c then e else hh b)) = if b = c then e' else hh b
  by_cases hb : b = c
  · rw [if_pos hb, if_pos hb]
  · rw [if_neg hb, if_neg hb, if_neg hb]
abbrev tE (m w : Nat) (f : Nat → Int32) : AE := .inr (.inl (0, m * w, f))
section TB2
variable {s : aS} {a c m w r : Nat} {f g : Nat → Int32} {i j v : Int32}
theorem Tb.with (T : Tb s a c m w r f) : Tb (sup s c (tE m w g)) a c m w r g := by
  obtain ⟨hO, hI, h⟩ := T
  exact ⟨hasO_sup hO (OI_ne hO hI), hasI_put hI.2, h⟩
theorem Tb.frame (T : Tb s a c m w r f) {b : Nat} {e : AE} (h1 : a ≠ b) (h2 : c ≠ b) : Tb (sup s b e) a c m w r f := by
  obtain ⟨hO, hI, h⟩ := T
  exact ⟨hasO_sup hO h1, hasI_sup hI h2, h⟩
theorem put_run (T : Tb s a c m w r f) : mX8_put a i j v s = some (.inl (), sup s c (tE m w (tput w r f i j v))) := by
  obtain ⟨s', h, e⟩ := put_ok (i := i) (j := j) (v := v) T
  rw [h, e]
  unfold tput
  split
  · next hc => rw [sup_same T.2.1]
  · rfl
theorem add_run (T : Tb s a c m w r f) : mX8_add a i j v s = some (.inl (), sup s c (tE m w (tput w r f i j (tget w r f i j + v)))) := by
  unfold mX8_add
  rw [onC_ok T.1, bnd_ok (get_ok T), bnd_ok (put_run T)]
  rfl
end TB2
