/-! ACTS: paired steps keep the two alike -/
section SK
variable {K : CK} {W : Nat → Int32}
theorem Sm.seed (S : Sm K W) (v : Int32) : Sm (kint K 11 v) (upd W 12 v) := by
  obtain ⟨⟨a0, a1, a2, a3, a4, a5⟩, ⟨b0, b1, b2, b3, b4, b5⟩, p, t, m, d, l, g⟩ := S
  refine ⟨⟨a0, a1, a2, a3, a4, a5⟩, ⟨b0, b1, b2, b3, rfl, b5⟩, fun i hi c hc => ?_, fun i hi c hc => ?_, fun i hi => ?_, fun i hi c hc => ?_, fun i hi c hc => ?_, fun i hi c hc => ?_⟩
  · rw [show upd W 12 v (13 + 8 * i + c) = W (13 + 8 * i + c) from if_neg (by omega)]
    exact p i hi c hc
  · rw [show upd W 12 v (141 + 4 * i + c) = W (141 + 4 * i + c) from if_neg (by omega)]
    exact t i hi c hc
  · rw [show upd W 12 v (165 + i) = W (165 + i) from if_neg (by omega)]
    exact m i hi
  · rw [show upd W 12 v (171 + 7 * i + c) = W (171 + 7 * i + c) from if_neg (by omega)]
    exact d i hi c hc
  · rw [show upd W 12 v (771 + 5 * i + c) = W (771 + 5 * i + c) from if_neg (by omega)]
    exact l i hi c hc
  · rw [show upd W 12 v (591 + 6 * i + c) = W (591 + 6 * i + c) from if_neg (by omega)]
    exact g i hi c hc
theorem Sm.day (S : Sm K W) (v : Int32) : Sm (kint K 8 v) (upd W 5 v) := by
  obtain ⟨⟨a0, a1, a2, a3, a4, a5⟩, ⟨b0, b1, b2, b3, b4, b5⟩, p, t, m, d, l, g⟩ := S
  refine ⟨⟨a0, a1, a2, a3, a4, a5⟩, ⟨b0, rfl, b2, b3, b4, b5⟩, fun i hi c hc => ?_, fun i hi c hc => ?_, fun i hi => ?_, fun i hi c hc => ?_, fun i hi c hc => ?_, fun i hi c hc => ?_⟩
  · rw [show upd W 5 v (13 + 8 * i + c) = W (13 + 8 * i + c) from if_neg (by omega)]
    exact p i hi c hc
  · rw [show upd W 5 v (141 + 4 * i + c) = W (141 + 4 * i + c) from if_neg (by omega)]
    exact t i hi c hc
  · rw [show upd W 5 v (165 + i) = W (165 + i) from if_neg (by omega)]
    exact m i hi
  · rw [show upd W 5 v (171 + 7 * i + c) = W (171 + 7 * i + c) from if_neg (by omega)]
    exact d i hi c hc
  · rw [show upd W 5 v (771 + 5 * i + c) = W (771 + 5 * i + c) from if_neg (by omega)]
    exact l i hi c hc
  · rw [show upd W 5 v (591 + 6 * i + c) = W (591 + 6 * i + c) from if_neg (by omega)]
    exact g i hi c hc
end SK
