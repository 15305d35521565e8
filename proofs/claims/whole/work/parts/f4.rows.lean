/-! A NEW ROW of PARTS, TOOLS, MASTERS on both sides (printed by a program of mine) -/
section NROW
variable {K : CK} {W W' : Nat → Int32} {c : Nat}
theorem Sm.newpart (S : Sm K W) (hk : kOk K) (h : K.1 0 < 16) (v : Int32) (o : ∀ i, i ≠ 0 → i < 13 + 8 * K.1 0 ∨ 13 + 8 * K.1 0 + 8 ≤ i → W' i = W i) (ha : ∀ j, j < 8 → W' (13 + 8 * K.1 0 + j) = v) (hc : W' 0 = Int32.ofNat (K.1 0 + 1)) : Sm (krows K 0 (K.1 0 + 1) (fillR 8 (K.1 0) (K.2.1 0) v 8)) W' := by
  have b0 : K.1 0 ≤ 16 := hk 0 (by decide)
  have b1 : K.1 1 ≤ 6 := hk 1 (by decide)
  have b2 : K.1 2 ≤ 6 := hk 2 (by decide)
  have b4 : K.1 4 ≤ 60 := hk 4 (by decide)
  have b5 : K.1 5 ≤ 30 := hk 5 (by decide)
  have b3 : K.1 3 ≤ 60 := hk 3 (by decide)
  obtain ⟨⟨a0, a1, a2, a3, a4, a5⟩, ⟨c0, c1, c2, c3, c4, c5⟩, p, t, m, d, l, g⟩ := S
  refine ⟨⟨hc, (o 1 (by decide) (by omega)).trans a1, (o 2 (by decide) (by omega)).trans a2, (o 6 (by decide) (by omega)).trans a3, (o 10 (by decide) (by omega)).trans a4, (o 11 (by decide) (by omega)).trans a5⟩, ⟨(o 3 (by decide) (by omega)).trans c0, (o 5 (by decide) (by omega)).trans c1, (o 8 (by decide) (by omega)).trans c2, (o 7 (by decide) (by omega)).trans c3, (o 12 (by decide) (by omega)).trans c4, (o 9 (by decide) (by omega)).trans c5⟩, fun i hi c hc => ?_, fun i hi c hc => ?_, fun i hi => ?_, fun i hi c hc => ?_, fun i hi c hc => ?_, fun i hi c hc => ?_⟩
  · have hi' : i < K.1 0 + 1 := hi
    show fillR 8 (K.1 0) (K.2.1 0) v 8 (i * 8 + c) = _
    unfold fillR
    by_cases e : i = K.1 0
    · rw [if_pos (by omega), e]
      exact (ha c hc).symm
    · rw [if_neg (by omega), o _ (by omega) (by omega)]
      exact p i (by omega) c hc
  · have hi' : i < K.1 1 := hi
    exact (t i hi' c hc).trans (o _ (by omega) (by omega)).symm
  · have hi' : i < K.1 2 := hi
    exact (m i hi').trans (o _ (by omega) (by omega)).symm
  · have hi' : i < K.1 3 := hi
    exact (d i hi' c hc).trans (o _ (by omega) (by omega)).symm
  · have hi' : i < K.1 4 := hi
    exact (l i hi' c hc).trans (o _ (by omega) (by omega)).symm
  · have hi' : i < K.1 5 := hi
    exact (g i hi' c hc).trans (o _ (by omega) (by omega)).symm
theorem Sm.newtool (S : Sm K W) (hk : kOk K) (h : K.1 1 < 6) (v : Int32) (o : ∀ i, i ≠ 1 → i < 141 + 4 * K.1 1 ∨ 141 + 4 * K.1 1 + 4 ≤ i → W' i = W i) (ha : ∀ j, j < 4 → W' (141 + 4 * K.1 1 + j) = v) (hc : W' 1 = Int32.ofNat (K.1 1 + 1)) : Sm (krows K 1 (K.1 1 + 1) (fillR 4 (K.1 1) (K.2.1 1) v 4)) W' := by
  have b0 : K.1 0 ≤ 16 := hk 0 (by decide)
  have b1 : K.1 1 ≤ 6 := hk 1 (by decide)
  have b2 : K.1 2 ≤ 6 := hk 2 (by decide)
  have b4 : K.1 4 ≤ 60 := hk 4 (by decide)
  have b5 : K.1 5 ≤ 30 := hk 5 (by decide)
  have b3 : K.1 3 ≤ 60 := hk 3 (by decide)
  obtain ⟨⟨a0, a1, a2, a3, a4, a5⟩, ⟨c0, c1, c2, c3, c4, c5⟩, p, t, m, d, l, g⟩ := S
  refine ⟨⟨(o 0 (by decide) (by omega)).trans a0, hc, (o 2 (by decide) (by omega)).trans a2, (o 6 (by decide) (by omega)).trans a3, (o 10 (by decide) (by omega)).trans a4, (o 11 (by decide) (by omega)).trans a5⟩, ⟨(o 3 (by decide) (by omega)).trans c0, (o 5 (by decide) (by omega)).trans c1, (o 8 (by decide) (by omega)).trans c2, (o 7 (by decide) (by omega)).trans c3, (o 12 (by decide) (by omega)).trans c4, (o 9 (by decide) (by omega)).trans c5⟩, fun i hi c hc => ?_, fun i hi c hc => ?_, fun i hi => ?_, fun i hi c hc => ?_, fun i hi c hc => ?_, fun i hi c hc => ?_⟩
  · have hi' : i < K.1 0 := hi
    exact (p i hi' c hc).trans (o _ (by omega) (by omega)).symm
  · have hi' : i < K.1 1 + 1 := hi
    show fillR 4 (K.1 1) (K.2.1 1) v 4 (i * 4 + c) = _
    unfold fillR
    by_cases e : i = K.1 1
    · rw [if_pos (by omega), e]
      exact (ha c hc).symm
    · rw [if_neg (by omega), o _ (by omega) (by omega)]
      exact t i (by omega) c hc
  · have hi' : i < K.1 2 := hi
    exact (m i hi').trans (o _ (by omega) (by omega)).symm
  · have hi' : i < K.1 3 := hi
    exact (d i hi' c hc).trans (o _ (by omega) (by omega)).symm
  · have hi' : i < K.1 4 := hi
    exact (l i hi' c hc).trans (o _ (by omega) (by omega)).symm
  · have hi' : i < K.1 5 := hi
    exact (g i hi' c hc).trans (o _ (by omega) (by omega)).symm
theorem Sm.newmast (S : Sm K W) (hk : kOk K) (h : K.1 2 < 6) (v : Int32) (o : ∀ i, i ≠ 2 → i < 165 + K.1 2 ∨ 165 + K.1 2 + 1 ≤ i → W' i = W i) (ha : ∀ j, j < 1 → W' (165 + K.1 2 + j) = v) (hc : W' 2 = Int32.ofNat (K.1 2 + 1)) : Sm (krows K 2 (K.1 2 + 1) (fillR 1 (K.1 2) (K.2.1 2) v 1)) W' := by
  have b0 : K.1 0 ≤ 16 := hk 0 (by decide)
  have b1 : K.1 1 ≤ 6 := hk 1 (by decide)
  have b2 : K.1 2 ≤ 6 := hk 2 (by decide)
  have b4 : K.1 4 ≤ 60 := hk 4 (by decide)
  have b5 : K.1 5 ≤ 30 := hk 5 (by decide)
  have b3 : K.1 3 ≤ 60 := hk 3 (by decide)
  obtain ⟨⟨a0, a1, a2, a3, a4, a5⟩, ⟨c0, c1, c2, c3, c4, c5⟩, p, t, m, d, l, g⟩ := S
  refine ⟨⟨(o 0 (by decide) (by omega)).trans a0, (o 1 (by decide) (by omega)).trans a1, hc, (o 6 (by decide) (by omega)).trans a3, (o 10 (by decide) (by omega)).trans a4, (o 11 (by decide) (by omega)).trans a5⟩, ⟨(o 3 (by decide) (by omega)).trans c0, (o 5 (by decide) (by omega)).trans c1, (o 8 (by decide) (by omega)).trans c2, (o 7 (by decide) (by omega)).trans c3, (o 12 (by decide) (by omega)).trans c4, (o 9 (by decide) (by omega)).trans c5⟩, fun i hi c hc => ?_, fun i hi c hc => ?_, fun i hi => ?_, fun i hi c hc => ?_, fun i hi c hc => ?_, fun i hi c hc => ?_⟩
  · have hi' : i < K.1 0 := hi
    exact (p i hi' c hc).trans (o _ (by omega) (by omega)).symm
  · have hi' : i < K.1 1 := hi
    exact (t i hi' c hc).trans (o _ (by omega) (by omega)).symm
  · have hi' : i < K.1 2 + 1 := hi
    show fillR 1 (K.1 2) (K.2.1 2) v 1 i = _
    unfold fillR
    by_cases e : i = K.1 2
    · rw [if_pos (by omega), e]
      exact (ha 0 (by decide)).symm
    · rw [if_neg (by omega), o _ (by omega) (by omega)]
      exact m i (by omega)
  · have hi' : i < K.1 3 := hi
    exact (d i hi' c hc).trans (o _ (by omega) (by omega)).symm
  · have hi' : i < K.1 4 := hi
    exact (l i hi' c hc).trans (o _ (by omega) (by omega)).symm
  · have hi' : i < K.1 5 := hi
    exact (g i hi' c hc).trans (o _ (by omega) (by omega)).symm
theorem gsum_row : ∀ n, (∀ p, p < n → W' (13 + 8 * p + 3) = W (13 + 8 * p + 3)) → gsum W' n = gsum W n
  | 0, _ => rfl
  | n + 1, e => by
    show gsum W' n + (W' (13 + 8 * n + 3)).toNatClampNeg = gsum W n + (W (13 + 8 * n + 3)).toNatClampNeg
    rw [gsum_row n fun p hp => e p (by omega), e n (by omega)]
theorem wOk.newpart {K' : CK} (hw : wOk K W c) (hk : kOk K) (h : K.1 0 < 16) (e0 : K'.1 0 = K.1 0 + 1) (er : ∀ t, t < 6 → t ≠ 0 → K'.1 t = K.1 t) (o : ∀ i, i < 1071 → i ≠ 0 → i < 13 + 8 * K.1 0 ∨ 13 + 8 * K.1 0 + 8 ≤ i → W' i = W i) (v0 : isN (W' (13 + 8 * K.1 0)) 2) (v1 : isN (W' (13 + 8 * K.1 0 + 1)) 9) (v2 : isN (W' (13 + 8 * K.1 0 + 2)) 99) (v3 : W' (13 + 8 * K.1 0 + 3) = 0) (v4 : W' (13 + 8 * K.1 0 + 4) = 0) (v5 : W' (13 + 8 * K.1 0 + 5) = 0) (v6 : W' (13 + 8 * K.1 0 + 6) = -1) : wOk K' W' c := by
  have b1 : K.1 1 ≤ 6 := hk 1 (by decide)
  have b2 : K.1 2 ≤ 6 := hk 2 (by decide)
  have b3 : K.1 3 ≤ 60 := hk 3 (by decide)
  have b5 : K.1 5 ≤ 30 := hk 5 (by decide)
  have e1 := er 1 (by decide) (by decide)
  have e2 := er 2 (by decide) (by decide)
  have e3 := er 3 (by decide) (by decide)
  have e5 := er 5 (by decide) (by decide)
  obtain ⟨h1, h2, h3, h4, h5, h6, h7, h8, h9, ha, hb⟩ := hw
  have Z : ∀ B, isN (0 : Int32) B := fun B => ⟨0, Nat.zero_le _, rfl⟩
  refine ⟨fun p hp => ?_, fun t ht => ?_, fun m hm => ?_, fun d hd => ?_, fun d hd => ?_, fun g hg t ht ht6 => ?_, ?_, ?_, ?_, ?_, ?_⟩
  · rw [e0] at hp
    by_cases e : p = K.1 0
    · subst e
      exact ⟨v0, v1, v2, by rw [v3]; exact Z _, by rw [v4]; exact Z _, by rw [v5]; exact Z _, Or.inl v6⟩
    · obtain ⟨p0, p1, p2, p3, p4, p5, p6⟩ := h1 p (by omega)
      unfold pOk
      rw [o (13 + 8 * p) (by omega) (by omega) (by omega), o (13 + 8 * p + 1) (by omega) (by omega) (by omega), o (13 + 8 * p + 2) (by omega) (by omega) (by omega), o (13 + 8 * p + 3) (by omega) (by omega) (by omega), o (13 + 8 * p + 4) (by omega) (by omega) (by omega), o (13 + 8 * p + 5) (by omega) (by omega) (by omega), o (13 + 8 * p + 6) (by omega) (by omega) (by omega), e1]
      refine ⟨p0, p1, p2, p3, p4, p5, p6.imp id fun ⟨t, ht, q1, q2⟩ => ⟨t, ht, q1, ?_⟩⟩
      obtain ⟨k, hk2, hk3⟩ := p0
      have hcl : (W (13 + 8 * p)).toNatClampNeg = k := by rw [hk3, ofN_cl (by omega)]
      rw [o _ (by omega) (by omega) (by omega)]
      exact q2
  · rw [e1] at ht
    intro k hk3
    rw [o _ (by omega) (by omega) (by omega)]
    rcases h2 t ht k hk3 with q | ⟨p, q1, q2, q3, q4⟩
    · exact Or.inl q
    · refine Or.inr ⟨p, by omega, q2, ?_, ?_⟩
      · rw [o _ (by omega) (by omega) (by omega)]
        exact q3
      · rw [o _ (by omega) (by omega) (by omega)]
        exact q4
  · rw [e2] at hm
    rw [o _ (by omega) (by omega) (by omega)]
    exact h3 m hm
  · rw [e3] at hd
    unfold dOk
    rw [o (171 + 7 * d) (by omega) (by omega) (by omega), o (171 + 7 * d + 1) (by omega) (by omega) (by omega), o (171 + 7 * d + 2) (by omega) (by omega) (by omega), o (171 + 7 * d + 3) (by omega) (by omega) (by omega), o (171 + 7 * d + 4) (by omega) (by omega) (by omega), o (171 + 7 * d + 5) (by omega) (by omega) (by omega), o 5 (by omega) (by omega) (by omega), e1, e2]
    exact h4 d hd
  · rw [e3] at hd
    rw [o (171 + 7 * d) (by omega) (by omega) (by omega), o (171 + 7 * (d + 1)) (by omega) (by omega) (by omega)]
    exact h5 d hd
  · rw [e5] at hg
    rw [e1] at ht
    rw [o _ (by omega) (by omega) (by omega)]
    exact h6 g hg t ht ht6
  · rw [e0, e3]
    have hg : gsum W' (K.1 0) = gsum W (K.1 0) := gsum_row _ fun p hp => o _ (by omega) (by omega) (by omega)
    show gsum W' (K.1 0) + (W' (13 + 8 * K.1 0 + 3)).toNatClampNeg ≤ _
    rw [hg, v3]
    exact h7
  · rw [o 3 (by decide) (by decide) (by omega)]
    exact h8
  · rw [o 5 (by decide) (by decide) (by omega)]
    exact h9
  · rw [o 7 (by decide) (by decide) (by omega)]
    exact ha
  · rw [o 8 (by decide) (by decide) (by omega)]
    exact hb
theorem wOk.newtool {K' : CK} (hw : wOk K W c) (hk : kOk K) (h : K.1 1 < 6) (e1 : K'.1 1 = K.1 1 + 1) (er : ∀ t, t < 6 → t ≠ 1 → K'.1 t = K.1 t) (o : ∀ i, i < 1071 → i ≠ 1 → i < 141 + 4 * K.1 1 ∨ 141 + 4 * K.1 1 + 4 ≤ i → W' i = W i) (v : ∀ j, j < 3 → W' (141 + 4 * K.1 1 + j) = -1) : wOk K' W' c := by
  have b0 : K.1 0 ≤ 16 := hk 0 (by decide)
  have b2 : K.1 2 ≤ 6 := hk 2 (by decide)
  have b3 : K.1 3 ≤ 60 := hk 3 (by decide)
  have b5 : K.1 5 ≤ 30 := hk 5 (by decide)
  have e0 := er 0 (by decide) (by decide)
  have e2 := er 2 (by decide) (by decide)
  have e3 := er 3 (by decide) (by decide)
  have e5 := er 5 (by decide) (by decide)
  obtain ⟨h1, h2, h3, h4, h5, h6, h7, h8, h9, ha, hb⟩ := hw
  refine ⟨fun p hp => ?_, fun t ht => ?_, fun m hm => ?_, fun d hd => ?_, fun d hd => ?_, fun g hg t ht ht6 => ?_, ?_, ?_, ?_, ?_, ?_⟩
  · rw [e0] at hp
    obtain ⟨p0, p1, p2, p3, p4, p5, p6⟩ := h1 p hp
    unfold pOk
    rw [o (13 + 8 * p) (by omega) (by omega) (by omega), o (13 + 8 * p + 1) (by omega) (by omega) (by omega), o (13 + 8 * p + 2) (by omega) (by omega) (by omega), o (13 + 8 * p + 3) (by omega) (by omega) (by omega), o (13 + 8 * p + 4) (by omega) (by omega) (by omega), o (13 + 8 * p + 5) (by omega) (by omega) (by omega), o (13 + 8 * p + 6) (by omega) (by omega) (by omega), e1]
    refine ⟨p0, p1, p2, p3, p4, p5, p6.imp id fun ⟨t, ht, q1, q2⟩ => ⟨t, by omega, q1, ?_⟩⟩
    obtain ⟨k, hk2, hk3⟩ := p0
    have hcl : (W (13 + 8 * p)).toNatClampNeg = k := by rw [hk3, ofN_cl (by omega)]
    rw [o _ (by omega) (by omega) (by omega)]
    exact q2
  · rw [e1] at ht
    intro k hk3
    by_cases e : t = K.1 1
    · subst e
      exact Or.inl (v k hk3)
    · rw [o _ (by omega) (by omega) (by omega)]
      rcases h2 t (by omega) k hk3 with q | ⟨p, q1, q2, q3, q4⟩
      · exact Or.inl q
      · refine Or.inr ⟨p, by omega, q2, ?_, ?_⟩
        · rw [o _ (by omega) (by omega) (by omega)]
          exact q3
        · rw [o _ (by omega) (by omega) (by omega)]
          exact q4
  · rw [e2] at hm
    rw [o _ (by omega) (by omega) (by omega)]
    exact h3 m hm
  · rw [e3] at hd
    obtain ⟨d0, ⟨t, d1, d2⟩, d3⟩ := h4 d hd
    unfold dOk
    rw [o (171 + 7 * d) (by omega) (by omega) (by omega), o (171 + 7 * d + 1) (by omega) (by omega) (by omega), o (171 + 7 * d + 2) (by omega) (by omega) (by omega), o (171 + 7 * d + 3) (by omega) (by omega) (by omega), o (171 + 7 * d + 4) (by omega) (by omega) (by omega), o (171 + 7 * d + 5) (by omega) (by omega) (by omega), o 5 (by omega) (by omega) (by omega), e1, e2]
    exact ⟨d0, ⟨t, by omega, d2⟩, d3⟩
  · rw [e3] at hd
    rw [o (171 + 7 * d) (by omega) (by omega) (by omega), o (171 + 7 * (d + 1)) (by omega) (by omega) (by omega)]
    exact h5 d hd
  · rw [e5] at hg
    rw [e1] at ht
    rw [o _ (by omega) (by omega) (by omega)]
    exact h6 g hg t (by omega) ht6
  · rw [e0, e3]
    have hg : gsum W' (K.1 0) = gsum W (K.1 0) := gsum_row _ fun p hp => o _ (by omega) (by omega) (by omega)
    rw [hg]
    exact h7
  · rw [o 3 (by decide) (by decide) (by omega)]
    exact h8
  · rw [o 5 (by decide) (by decide) (by omega)]
    exact h9
  · rw [o 7 (by decide) (by decide) (by omega)]
    exact ha
  · rw [o 8 (by decide) (by decide) (by omega)]
    exact hb
theorem wOk.newmast {K' : CK} (hw : wOk K W c) (hk : kOk K) (h : K.1 2 < 6) (e2 : K'.1 2 = K.1 2 + 1) (er : ∀ t, t < 6 → t ≠ 2 → K'.1 t = K.1 t) (o : ∀ i, i < 1071 → i ≠ 2 → i ≠ 165 + K.1 2 → W' i = W i) (v : isN (W' (165 + K.1 2)) 9) : wOk K' W' c := by
  have b0 : K.1 0 ≤ 16 := hk 0 (by decide)
  have b1 : K.1 1 ≤ 6 := hk 1 (by decide)
  have b3 : K.1 3 ≤ 60 := hk 3 (by decide)
  have b5 : K.1 5 ≤ 30 := hk 5 (by decide)
  have e0 := er 0 (by decide) (by decide)
  have e1 := er 1 (by decide) (by decide)
  have e3 := er 3 (by decide) (by decide)
  have e5 := er 5 (by decide) (by decide)
  obtain ⟨h1, h2, h3, h4, h5, h6, h7, h8, h9, ha, hb⟩ := hw
  refine ⟨fun p hp => ?_, fun t ht => ?_, fun m hm => ?_, fun d hd => ?_, fun d hd => ?_, fun g hg t ht ht6 => ?_, ?_, ?_, ?_, ?_, ?_⟩
  · rw [e0] at hp
    obtain ⟨p0, p1, p2, p3, p4, p5, p6⟩ := h1 p hp
    unfold pOk
    rw [o (13 + 8 * p) (by omega) (by omega) (by omega), o (13 + 8 * p + 1) (by omega) (by omega) (by omega), o (13 + 8 * p + 2) (by omega) (by omega) (by omega), o (13 + 8 * p + 3) (by omega) (by omega) (by omega), o (13 + 8 * p + 4) (by omega) (by omega) (by omega), o (13 + 8 * p + 5) (by omega) (by omega) (by omega), o (13 + 8 * p + 6) (by omega) (by omega) (by omega), e1]
    refine ⟨p0, p1, p2, p3, p4, p5, p6.imp id fun ⟨t, ht, q1, q2⟩ => ⟨t, ht, q1, ?_⟩⟩
    obtain ⟨k, hk2, hk3⟩ := p0
    have hcl : (W (13 + 8 * p)).toNatClampNeg = k := by rw [hk3, ofN_cl (by omega)]
    rw [o _ (by omega) (by omega) (by omega)]
    exact q2
  · rw [e1] at ht
    intro k hk3
    rw [o _ (by omega) (by omega) (by omega)]
    rcases h2 t ht k hk3 with q | ⟨p, q1, q2, q3, q4⟩
    · exact Or.inl q
    · refine Or.inr ⟨p, by omega, q2, ?_, ?_⟩
      · rw [o _ (by omega) (by omega) (by omega)]
        exact q3
      · rw [o _ (by omega) (by omega) (by omega)]
        exact q4
  · rw [e2] at hm
    by_cases e : m = K.1 2
    · subst e
      exact v
    · rw [o _ (by omega) (by omega) (by omega)]
      exact h3 m (by omega)
  · rw [e3] at hd
    obtain ⟨d0, d1, ⟨t, d2, d2'⟩, d3⟩ := h4 d hd
    unfold dOk
    rw [o (171 + 7 * d) (by omega) (by omega) (by omega), o (171 + 7 * d + 1) (by omega) (by omega) (by omega), o (171 + 7 * d + 2) (by omega) (by omega) (by omega), o (171 + 7 * d + 3) (by omega) (by omega) (by omega), o (171 + 7 * d + 4) (by omega) (by omega) (by omega), o (171 + 7 * d + 5) (by omega) (by omega) (by omega), o 5 (by omega) (by omega) (by omega), e1, e2]
    exact ⟨d0, d1, ⟨t, by omega, d2'⟩, d3⟩
  · rw [e3] at hd
    rw [o (171 + 7 * d) (by omega) (by omega) (by omega), o (171 + 7 * (d + 1)) (by omega) (by omega) (by omega)]
    exact h5 d hd
  · rw [e5] at hg
    rw [e1] at ht
    rw [o _ (by omega) (by omega) (by omega)]
    exact h6 g hg t ht ht6
  · rw [e0, e3]
    have hg : gsum W' (K.1 0) = gsum W (K.1 0) := gsum_row _ fun p hp => o _ (by omega) (by omega) (by omega)
    rw [hg]
    exact h7
  · rw [o 3 (by decide) (by decide) (by omega)]
    exact h8
  · rw [o 5 (by decide) (by decide) (by omega)]
    exact h9
  · rw [o 7 (by decide) (by decide) (by omega)]
    exact ha
  · rw [o 8 (by decide) (by decide) (by omega)]
    exact hb
end NROW
