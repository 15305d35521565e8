/-! ACTS: the DAY asks the same damp on both sides -/
section D4
variable {K : CK} {W : Nat → Int32}
theorem klast_ints (K : CK) (t : Nat) (v : Int32) : (klast K t v).2.2 = K.2.2 := by
  unfold klast
  split <;> rfl
theorem kmarks_ints (K : CK) (q : Int32) : ∀ n, (kmarks K q n).2.2 = K.2.2
  | 0 => rfl
  | n + 1 => kmarks_ints K q n
theorem kday0_ints (K : CK) : (kday0 K).2.2.1 11 = kseed (K.2.2.1 11) ∧ (kday0 K).2.2.1 9 = K.2.2.1 9 ∧ (kday0 K).2.2.1 8 = K.2.2.1 8 + 1 := by
  have e : (kmarks (klast K 5 (-1)) (klastR K 5) (K.1 1)).2.2 = K.2.2 := (kmarks_ints _ _ _).trans (klast_ints K 5 (-1))
  refine ⟨?_, ?_, ?_⟩
  · show kseed ((kmarks (klast K 5 (-1)) (klastR K 5) (K.1 1)).2.2.1 11) = _
    rw [e]
  · show (kmarks (klast K 5 (-1)) (klastR K 5) (K.1 1)).2.2.1 9 = _
    rw [e]
  · show (kmarks (klast K 5 (-1)) (klastR K 5) (K.1 1)).2.2.1 8 + 1 = _
    rw [e]
theorem day_damp (S : Sm K W) : kdamp (kday0 K) ((kday0 K).2.2.1 11) = wdamp (W 8) (kseed (W 12)) := by
  obtain ⟨h1, h2, -⟩ := kday0_ints K
  rw [h1, (Sm.ints S).2.2.2.2.1]
  unfold kdamp wdamp
  rw [h2, sh16, (Sm.ints S).2.2.1]
end D4
