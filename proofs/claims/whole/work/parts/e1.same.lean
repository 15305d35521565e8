/-! WHAT HOLDS OF A WORLD DEPENDS ON ITS FIRST NUMBERS ALONE, and on what a Court uses -/
section SMC
variable {K K1 : CK} {W W' : Nat → Int32} {c : Nat}
theorem Sm.congr (S : Sm K W) (hk : kOk K) (e : ∀ i, i < 1071 → W' i = W i) : Sm K W' := by
  have b0 : K.1 0 ≤ 16 := hk 0 (by decide)
  have b1 : K.1 1 ≤ 6 := hk 1 (by decide)
  have b2 : K.1 2 ≤ 6 := hk 2 (by decide)
  have b3 : K.1 3 ≤ 60 := hk 3 (by decide)
  have b4 : K.1 4 ≤ 60 := hk 4 (by decide)
  have b5 : K.1 5 ≤ 30 := hk 5 (by decide)
  obtain ⟨⟨a0, a1, a2, a3, a4, a5⟩, ⟨c0, c1, c2, c3, c4, c5⟩, p, t, m, d, l, g⟩ := S
  refine ⟨⟨(e 0 (by decide)).trans a0, (e 1 (by decide)).trans a1, (e 2 (by decide)).trans a2, (e 6 (by decide)).trans a3, (e 10 (by decide)).trans a4, (e 11 (by decide)).trans a5⟩, ⟨(e 3 (by decide)).trans c0, (e 5 (by decide)).trans c1, (e 8 (by decide)).trans c2, (e 7 (by decide)).trans c3, (e 12 (by decide)).trans c4, (e 9 (by decide)).trans c5⟩, fun i hi c hc => ?_, fun i hi c hc => ?_, fun i hi => ?_, fun i hi c hc => ?_, fun i hi c hc => ?_, fun i hi c hc => ?_⟩
  · exact (p i hi c hc).trans (e _ (by omega)).symm
  · exact (t i hi c hc).trans (e _ (by omega)).symm
  · exact (m i hi).trans (e _ (by omega)).symm
  · exact (d i hi c hc).trans (e _ (by omega)).symm
  · exact (l i hi c hc).trans (e _ (by omega)).symm
  · exact (g i hi c hc).trans (e _ (by omega)).symm
theorem Sm.cpy (S : Sm K W) (h : Cpy K1 K) : Sm K1 W := by
  obtain ⟨r, f, n, -⟩ := h
  obtain ⟨⟨a0, a1, a2, a3, a4, a5⟩, ⟨c0, c1, c2, c3, c4, c5⟩, p, t, m, d, l, g⟩ := S
  have r0 := r 0 (by decide)
  have r1 := r 1 (by decide)
  have r2 := r 2 (by decide)
  have r3 := r 3 (by decide)
  have r4 := r 4 (by decide)
  have r5 := r 5 (by decide)
  have lt : ∀ {i n w c : Nat}, i < n → c < w → i * w + c < n * w := fun {i n w c} hi hc => by
    have : (i + 1) * w ≤ n * w := Nat.mul_le_mul_right w hi
    rw [Nat.succ_mul] at this
    omega
  refine ⟨⟨by rw [r0]; exact a0, by rw [r1]; exact a1, by rw [r2]; exact a2, by rw [r3]; exact a3, by rw [r4]; exact a4, by rw [r5]; exact a5⟩, ⟨c0.trans (n 7 (by decide) (by decide)).symm, c1.trans (n 8 (by decide) (by decide)).symm, c2.trans (n 9 (by decide) (by decide)).symm, c3.trans (n 10 (by decide) (by decide)).symm, c4.trans (n 11 (by decide) (by decide)).symm, c5.trans (n 12 (by decide) (by decide)).symm⟩, fun i hi c hc => ?_, fun i hi c hc => ?_, fun i hi => ?_, fun i hi c hc => ?_, fun i hi c hc => ?_, fun i hi c hc => ?_⟩
  · rw [r0] at hi
    exact (f 0 (by decide) _ (lt hi hc)).trans (p i hi c hc)
  · rw [r1] at hi
    exact (f 1 (by decide) _ (lt hi hc)).trans (t i hi c hc)
  · rw [r2] at hi
    exact (f 2 (by decide) _ (by show i < K.1 2 * 1; omega)).trans (m i hi)
  · rw [r3] at hi
    exact (f 3 (by decide) _ (lt hi hc)).trans (d i hi c hc)
  · rw [r4] at hi ⊢
    exact (f 4 (by decide) _ (lt (by omega) hc)).trans (l i hi c hc)
  · rw [r5] at hi ⊢
    exact (f 5 (by decide) _ (lt (by omega) hc)).trans (g i hi c hc)
theorem kOk.rows (hk : kOk K) (h : ∀ t, t < 6 → K1.1 t = K.1 t) : kOk K1 := fun t ht => by rw [h t ht]; exact hk t ht
theorem wOk.rows (hw : wOk K W c) (h : ∀ t, t < 6 → t ≠ 4 → K1.1 t = K.1 t) : wOk K1 W c := by
  unfold wOk pOk tOk dOk at hw ⊢
  rw [h 0 (by decide) (by decide), h 1 (by decide) (by decide), h 2 (by decide) (by decide), h 3 (by decide) (by decide), h 5 (by decide) (by decide)]
  exact hw
theorem gsum_congr : ∀ n, n ≤ 16 → (∀ i, 13 ≤ i → i < 141 → W' i = W i) → gsum W' n = gsum W n
  | 0, _, _ => rfl
  | n + 1, h, e => by
    show gsum W' n + (W' (13 + 8 * n + 3)).toNatClampNeg = gsum W n + (W (13 + 8 * n + 3)).toNatClampNeg
    rw [gsum_congr n (by omega) e, e _ (by omega) (by omega)]
theorem wOk.congr (hw : wOk K W c) (hk : kOk K) (e : ∀ i, i < 1071 → W' i = W i) : wOk K W' c := by
  have b0 : K.1 0 ≤ 16 := hk 0 (by decide)
  have b1 : K.1 1 ≤ 6 := hk 1 (by decide)
  have b2 : K.1 2 ≤ 6 := hk 2 (by decide)
  have b3 : K.1 3 ≤ 60 := hk 3 (by decide)
  have b5 : K.1 5 ≤ 30 := hk 5 (by decide)
  obtain ⟨p, t, m, d, so, sh, gs, x3, x5, x7, x8⟩ := hw
  refine ⟨fun i hi => ?_, fun i hi k hk => ?_, fun i hi => ?_, fun i hi => ?_, fun i hi => ?_, fun i hi k h1 h2 => ?_, ?_, ?_, ?_, ?_, ?_⟩
  · obtain ⟨a0, a1, a2, a3, a4, a5, a6⟩ := p i hi
    have hs : (W (13 + 8 * i)).toNatClampNeg ≤ 2 := by
      obtain ⟨n, h1, h2⟩ := a0
      rw [h2, ofN_cl (by omega)]
      exact h1
    unfold pOk
    rw [e (13 + 8 * i) (by omega), e (13 + 8 * i + 1) (by omega), e (13 + 8 * i + 2) (by omega), e (13 + 8 * i + 3) (by omega), e (13 + 8 * i + 4) (by omega), e (13 + 8 * i + 5) (by omega), e (13 + 8 * i + 6) (by omega)]
    refine ⟨a0, a1, a2, a3, a4, a5, a6.imp id ?_⟩
    rintro ⟨q, hq, z1, z2⟩
    exact ⟨q, hq, z1, by rw [e _ (by omega)]; exact z2⟩
  · rw [e _ (by omega)]
    refine (t i hi k hk).imp id ?_
    rintro ⟨q, hq, z1, z2, z3⟩
    exact ⟨q, hq, z1, by rw [e _ (by omega)]; exact z2, by rw [e _ (by omega)]; exact z3⟩
  · rw [e _ (by omega)]
    exact m i hi
  · have := d i hi
    unfold dOk at this ⊢
    rw [e (171 + 7 * i) (by omega), e (171 + 7 * i + 1) (by omega), e (171 + 7 * i + 2) (by omega), e (171 + 7 * i + 3) (by omega), e (171 + 7 * i + 4) (by omega), e (171 + 7 * i + 5) (by omega), e 5 (by omega)]
    exact this
  · rw [e _ (by omega), e _ (by omega)]
    exact so i hi
  · rw [e _ (by omega)]
    exact sh i hi k h1 h2
  · rw [gsum_congr _ b0 (fun i h1 h2 => e i (by omega))]
    exact gs
  · rw [e 3 (by decide)]
    exact x3
  · rw [e 5 (by decide)]
    exact x5
  · rw [e 7 (by decide)]
    exact x7
  · rw [e 8 (by decide)]
    exact x8
theorem wOk.more (hw : wOk K W c) {c' : Nat} (h : c ≤ c') : wOk K W c' := by
  obtain ⟨p, t, m, d, so, sh, gs, x3, x5, x7, x8⟩ := hw
  exact ⟨p, t, m, d, so, sh, gs, x3, x5.mono h, x7, x8⟩
end SMC
