/-! EXCHANGE: what both tools answer -/
theorem ring1 (a p x w g d : Int32) (h : a + p = x + w) : a + (p + g) = x + g + w := by
  rw [← Int32.add_assoc, h, Int32.add_assoc, Int32.add_comm w g, ← Int32.add_assoc]
theorem ring2 (a p x w gp gq op oq : Int32) (h : a + p = x + w) : a + (gq - oq - (gp - op)) + (p + gp) = x + (gq - oq + op) + w := by
  grind
theorem ring3 (a x w : Int32) (h : a + w = x + w) : a = x := by
  grind
