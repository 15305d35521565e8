/-! ACTS: paired steps keep the two alike -/
section SK
variable {K : CK} {W : Nat → Int32}
theorem Sm.seed (S : Sm K W) (v : Int32) : Sm (kint K 11 v) (upd W 12 v) := by
  obtain ⟨⟨a0, a1, a2, a3, a4, a5⟩, ⟨b0, b1, b2, b3, b4, b5⟩, p, t, m, d, l, g⟩ := S
  refine ⟨⟨a0, a1, a2, a3, a4, a5⟩, ⟨b0, b1, b2, b3, rfl, b5⟩, fun i hi c hc => ?_, fun i hi c hc => ?_, fun i hi => ?_, fun i hi c hc => ?_, fun i hi c hc => ?_, fun i hi c hc => ?_⟩
  · rw [show upd W 12 v (13 + 8 * i + c) = W (13 + 8 * i + c) from if_neg (by omega)]
    exact p i hi c hc
  · rw [show upd W 12 v (141 + 4 * i + c) = W (141 + 4 * i + c) from if_neg (by omega)]
    exact t i hi c hc
  · rw [show upd W 12 v (165 + i) = W (165 + i) from if_neg (by omega)]
    exact m i hi
  · rw [show upd W 12 v (171 + 7 * i + c) = W (171 + 7 * i + c) from if_neg (by omega)]
    exact d i hi c hc
  · rw [show upd W 12 v (771 + 5 * i + c) = W (771 + 5 * i + c) from if_neg (by omega)]
    exact l i hi c hc
  · rw [show upd W 12 v (591 + 6 * i + c) = W (591 + 6 * i + c) from if_neg (by omega)]
    exact g i hi c hc
theorem Sm.day (S : Sm K W) (v : Int32) : Sm (kint K 8 v) (upd W 5 v) := by
  obtain ⟨⟨a0, a1, a2, a3, a4, a5⟩, ⟨b0, b1, b2, b3, b4, b5⟩, p, t, m, d, l, g⟩ := S
  refine ⟨⟨a0, a1, a2, a3, a4, a5⟩, ⟨b0, rfl, b2, b3, b4, b5⟩, fun i hi c hc => ?_, fun i hi c hc => ?_, fun i hi => ?_, fun i hi c hc => ?_, fun i hi c hc => ?_, fun i hi c hc => ?_⟩
  · rw [show upd W 5 v (13 + 8 * i + c) = W (13 + 8 * i + c) from if_neg (by omega)]
    exact p i hi c hc
  · rw [show upd W 5 v (141 + 4 * i + c) = W (141 + 4 * i + c) from if_neg (by omega)]
    exact t i hi c hc
  · rw [show upd W 5 v (165 + i) = W (165 + i) from if_neg (by omega)]
    exact m i hi
  · rw [show upd W 5 v (171 + 7 * i + c) = W (171 + 7 * i + c) from if_neg (by omega)]
    exact d i hi c hc
  · rw [show upd W 5 v (771 + 5 * i + c) = W (771 + 5 * i + c) from if_neg (by omega)]
    exact l i hi c hc
  · rw [show upd W 5 v (591 + 6 * i + c) = W (591 + 6 * i + c) from if_neg (by omega)]
    exact g i hi c hc
theorem Sm.pput (S : Sm K W) (hk : kOk K) {q k : Nat} (hq : q < K.1 0) (hk8 : k < 8) (v : Int32) : Sm (kput K 0 (Int32.ofNat q) (Int32.ofNat k) v) (upd W (13 + 8 * q + k) v) := by
  have hb : K.1 0 ≤ 16 := hk 0 (by decide)
  obtain ⟨⟨a0, a1, a2, a3, a4, a5⟩, ⟨b0, b1, b2, b3, b4, b5⟩, p, t, m, d, l, g⟩ := S
  have lo : ∀ i, i < 13 ∨ 141 ≤ i → upd W (13 + 8 * q + k) v i = W i := fun i hi => if_neg (by omega)
  refine ⟨⟨(lo 0 (by omega)).trans a0, (lo 1 (by omega)).trans a1, (lo 2 (by omega)).trans a2, (lo 6 (by omega)).trans a3, (lo 10 (by omega)).trans a4, (lo 11 (by omega)).trans a5⟩, ⟨(lo 3 (by omega)).trans b0, (lo 5 (by omega)).trans b1, (lo 8 (by omega)).trans b2, (lo 7 (by omega)).trans b3, (lo 12 (by omega)).trans b4, (lo 9 (by omega)).trans b5⟩, fun i hi c hc => ?_, fun i hi c hc => ?_, fun i hi => ?_, fun i hi c hc => ?_, fun i hi c hc => ?_, fun i hi c hc => ?_⟩
  · show tput (tW 0) (K.1 0) (K.2.1 0) (Int32.ofNat q) (Int32.ofNat k) v (i * 8 + c) = _
    rw [show tW 0 = 8 from rfl, tput_in hq hk8 (by omega) (by decide)]
    unfold upd
    by_cases e : i * 8 + c = q * 8 + k
    · rw [if_pos e, if_pos (by omega)]
    · rw [if_neg e, if_neg (by omega)]
      exact p i hi c hc
  · rw [lo _ (by omega)]
    exact t i hi c hc
  · rw [lo _ (by omega)]
    exact m i hi
  · rw [lo _ (by omega)]
    exact d i hi c hc
  · rw [lo _ (by omega)]
    exact l i hi c hc
  · rw [lo _ (by omega)]
    exact g i hi c hc
theorem Sm.toput (S : Sm K W) (hk : kOk K) {q k : Nat} (hq : q < K.1 1) (hk4 : k < 4) (v : Int32) : Sm (kput K 1 (Int32.ofNat q) (Int32.ofNat k) v) (upd W (141 + 4 * q + k) v) := by
  have hb : K.1 1 ≤ 6 := hk 1 (by decide)
  have hb0 : K.1 0 ≤ 16 := hk 0 (by decide)
  obtain ⟨⟨a0, a1, a2, a3, a4, a5⟩, ⟨b0, b1, b2, b3, b4, b5⟩, p, t, m, d, l, g⟩ := S
  have lo : ∀ i, i < 141 ∨ 165 ≤ i → upd W (141 + 4 * q + k) v i = W i := fun i hi => if_neg (by omega)
  refine ⟨⟨(lo 0 (by omega)).trans a0, (lo 1 (by omega)).trans a1, (lo 2 (by omega)).trans a2, (lo 6 (by omega)).trans a3, (lo 10 (by omega)).trans a4, (lo 11 (by omega)).trans a5⟩, ⟨(lo 3 (by omega)).trans b0, (lo 5 (by omega)).trans b1, (lo 8 (by omega)).trans b2, (lo 7 (by omega)).trans b3, (lo 12 (by omega)).trans b4, (lo 9 (by omega)).trans b5⟩, fun i hi c hc => ?_, fun i hi c hc => ?_, fun i hi => ?_, fun i hi c hc => ?_, fun i hi c hc => ?_, fun i hi c hc => ?_⟩
  · have hi' : i < K.1 0 := hi
    rw [lo _ (by omega)]
    exact p i hi c hc
  · show tput (tW 1) (K.1 1) (K.2.1 1) (Int32.ofNat q) (Int32.ofNat k) v (i * 4 + c) = _
    rw [show tW 1 = 4 from rfl, tput_in hq hk4 (by omega) (by decide)]
    unfold upd
    by_cases e : i * 4 + c = q * 4 + k
    · rw [if_pos e, if_pos (by omega)]
    · rw [if_neg e, if_neg (by omega)]
      exact t i hi c hc
  · rw [lo _ (by omega)]
    exact m i hi
  · rw [lo _ (by omega)]
    exact d i hi c hc
  · rw [lo _ (by omega)]
    exact l i hi c hc
  · rw [lo _ (by omega)]
    exact g i hi c hc
theorem Sm.rust (S : Sm K W) (hk : kOk K) : ∀ n, n ≤ K.1 0 → Sm (krust K n).2 (wrN W n)
  | 0, _ => S
  | n + 1, h => by
    have S1 := Sm.rust S hk n (by omega)
    have er := krust_rows K n
    have hk1 : kOk (krust K n).2 := fun k h6 => by rw [er]; exact hk k h6
    have hn : n < (krust K n).2.1 0 := by rw [er]; omega
    have c0 := (Sm.cols S1 hk1).1 n hn
    have c2 := (Sm.cols S1 hk1).2.2.1 n hn
    show Sm (if kget (krust K n).2 0 (Int32.ofNat n) 0 = 1 then _ else _ : Int32 × CK).2 (if wrN W n (13 + 8 * n) = 1 then _ else _)
    rw [c0]
    by_cases q : wrN W n (13 + 8 * n) = 1
    · rw [if_pos q, if_pos q]
      have := Sm.pput S1 hk1 (q := n) (k := 2) hn (by decide) (imin 99 (kget (krust K n).2 0 (Int32.ofNat n) 2 + 1))
      unfold kwear
      rw [c2] at this ⊢
      exact this
    · rw [if_neg q, if_neg q]
      exact S1
theorem Sm.need (S : Sm K W) (hk : kOk K) {t : Nat} (ht : t < K.1 1) : Sm (kput K 1 (Int32.ofNat t) 3 (iushr (kget K 1 (Int32.ofNat t) 3) 1)) (upd W (141 + 4 * t + 3) (iushr (W (141 + 4 * t + 3)) 1)) := by
  have := Sm.toput S hk (q := t) (k := 3) ht (by decide) (iushr (kget K 1 (Int32.ofNat t) 3) 1)
  rw [(Sm.cols S hk).2.2.2.2.2.2.2.2.2.2.2.2.1 t ht] at this ⊢
  exact this
end SK
