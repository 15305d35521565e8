/-! THE TWO HOLD THE SAME: a Court's tables and the reference's world (LOG and SHEETS stand in opposite order) -/
def Sm (K : CK) (W : Nat → Int32) : Prop :=
  (W 0 = Int32.ofNat (K.1 0) ∧ W 1 = Int32.ofNat (K.1 1) ∧ W 2 = Int32.ofNat (K.1 2) ∧ W 6 = Int32.ofNat (K.1 3) ∧ W 10 = Int32.ofNat (K.1 4) ∧ W 11 = Int32.ofNat (K.1 5)) ∧
  (W 3 = K.2.2.1 7 ∧ W 5 = K.2.2.1 8 ∧ W 8 = K.2.2.1 9 ∧ W 7 = K.2.2.1 10 ∧ W 12 = K.2.2.1 11 ∧ W 9 = K.2.2.1 12) ∧
  (∀ p, p < K.1 0 → ∀ c, c < 8 → K.2.1 0 (p * 8 + c) = W (13 + 8 * p + c)) ∧ (∀ t, t < K.1 1 → ∀ c, c < 4 → K.2.1 1 (t * 4 + c) = W (141 + 4 * t + c)) ∧ (∀ m, m < K.1 2 → K.2.1 2 m = W (165 + m)) ∧ (∀ d, d < K.1 3 → ∀ c, c < 7 → K.2.1 3 (d * 7 + c) = W (171 + 7 * d + c)) ∧
  (∀ g, g < K.1 4 → ∀ c, c < 5 → K.2.1 4 ((K.1 4 - 1 - g) * 5 + c) = W (771 + 5 * g + c)) ∧ (∀ g, g < K.1 5 → ∀ c, c < 6 → K.2.1 5 ((K.1 5 - 1 - g) * 6 + c) = W (591 + 6 * g + c))
def kOk (K : CK) : Prop := ∀ k, k < 6 → K.1 k ≤ tM k
/-- a tool's places hold nothing or a part that there is -/
def toolIn (K : CK) (W : Nat → Int32) (t : Nat) : Prop := ∀ k, k < 3 → W (141 + 4 * t + k) = -1 ∨ ∃ p, p < K.1 0 ∧ W (141 + 4 * t + k) = Int32.ofNat p
section SM
variable {K : CK} {W : Nat → Int32}
theorem Sm.part (S : Sm K W) (hk : kOk K) {p c : Nat} (hp : p < K.1 0) (hc : c < 8) : kget K 0 (Int32.ofNat p) (Int32.ofNat c) = W (13 + 8 * p + c) := by
  have := hk 0 (by decide)
  have h16 : tM 0 = 16 := rfl
  unfold kget
  rw [show tW 0 = 8 from rfl, tget_in hp hc (by omega) (by decide)]
  exact S.2.2.1 p hp c hc
theorem Sm.tool (S : Sm K W) (hk : kOk K) {t c : Nat} (ht : t < K.1 1) (hc : c < 4) : kget K 1 (Int32.ofNat t) (Int32.ofNat c) = W (141 + 4 * t + c) := by
  have := hk 1 (by decide)
  have h16 : tM 1 = 6 := rfl
  unfold kget
  rw [show tW 1 = 4 from rfl, tget_in ht hc (by omega) (by decide)]
  exact S.2.2.2.1 t ht c hc
theorem Sm.truth (S : Sm K W) (hk : kOk K) {d c : Nat} (hd : d < K.1 3) (hc : c < 7) : kget K 3 (Int32.ofNat d) (Int32.ofNat c) = W (171 + 7 * d + c) := by
  have := hk 3 (by decide)
  have h16 : tM 3 = 60 := rfl
  unfold kget
  rw [show tW 3 = 7 from rfl, tget_in hd hc (by omega) (by decide)]
  exact S.2.2.2.2.2.1 d hd c hc
theorem kguilt_in (S : Sm K W) (hk : kOk K) {p : Nat} (hp : p < K.1 0) : kguilt K (Int32.ofNat p) = W (13 + 8 * p + 3) := by
  have := hk 0 (by decide)
  have h16 : tM 0 = 16 := rfl
  unfold kguilt
  rw [if_neg]
  · exact S.part hk hp (c := 3) (by decide)
  · rintro (h | h)
    · exact ofN_nn (by omega) h
    · exact absurd ((ofN_le (by omega) (by omega)).mp h) (by omega)
theorem kguilt_none : kguilt K (-1) = 0 := if_pos (Or.inl (by decide))
theorem sumI_congr {f g : Nat → Int32} {n : Nat} (h : ∀ k, k < n → f k = g k) : sumI f n = sumI g n := by
  induction n with
  | zero => rfl
  | succ n ih =>
    show sumI f n + f n = sumI g n + g n
    rw [ih (fun k hk => h k (Nat.lt_succ_of_lt hk)), h n (Nat.lt_succ_self n)]
theorem orI_congr {f g : Nat → Int32} {n : Nat} (h : ∀ k, k < n → f k = g k) : orI f n = orI g n := by
  induction n with
  | zero => rfl
  | succ n ih =>
    show orI f n ||| f n = orI g n ||| g n
    rw [ih (fun k hk => h k (Nat.lt_succ_of_lt hk)), h n (Nat.lt_succ_self n)]
/-- a TOOL ANSWERS the same on both sides -/
theorem ans_same (S : Sm K W) (hk : kOk K) {t : Nat} (ht : t < K.1 1) (hin : toolIn K W t) : kans K (Int32.ofNat t) = wans W t := by
  unfold kans wans
  refine sumI_congr fun k h3 => ?_
  have h0 := hk 0 (by decide)
  have h16 : tM 0 = 16 := rfl
  rw [S.tool hk ht (by omega)]
  rcases hin k h3 with h | ⟨p, hp, h⟩
  · have hc : ¬ (0 : Int32) ≤ W (141 + 4 * t + k) := by rw [h]; decide
    rw [if_neg hc, h, kguilt_none]
  · have hc : (0 : Int32) ≤ W (141 + 4 * t + k) := by rw [h]; exact (ofN_le (n := 0) (m := p) (by omega) (by omega)).mpr (Nat.zero_le p)
    rw [if_pos hc, h, kguilt_in S hk hp, ofN_cl (by omega)]
end SM
