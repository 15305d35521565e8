/-! ACTS: days -/
section DA
variable {s : aS} {f : Int32} {K : CK} {M : MK} {W : Nat → Int32} {LW : Option (List Ln)} {c c' : Nat} {x y : Int32}
theorem oneW_via (W : Nat → Int32) {n0 n1 : Nat} (hn : n0 ≤ 16) (h6 : n1 ≤ 6) {i : Nat} (h : ∀ p, p < 16 → i ≠ 13 + 8 * p + 2) : oneW W n0 n1 i = dyF W n1 i := by
  rw [oneW_eq W hn h6]
  split
  · rfl
  · exact wrN_off _ h n0 hn
theorem wOk.oneDay (S : Sm K W) (hk : kOk K) (hw : wOk K W c) (hc : c < 100000) : wOk (kday K).2 (oneW W (K.1 0) (K.1 1)) (c + 1) := by
  have b0 : K.1 0 ≤ 16 := hk 0 (by decide)
  have b1 : K.1 1 ≤ 6 := hk 1 (by decide)
  have b2 : K.1 2 ≤ 6 := hk 2 (by decide)
  have b3 : K.1 3 ≤ 60 := hk 3 (by decide)
  have b5 : K.1 5 ≤ 30 := hk 5 (by decide)
  obtain ⟨r1, r2⟩ := kday_rows S hk
  have hto : ∀ t, t < K.1 1 → toolOk W t := fun t ht => (hw.2.1 t ht).ok hk
  have o : ∀ i, i < 591 ∨ 770 < i → i ≠ 5 → i ≠ 11 → i ≠ 12 → (∀ p, p < 16 → i ≠ 13 + 8 * p + 2) → (i < 141 ∨ 165 ≤ i ∨ ∃ t k, k < 3 ∧ i = 141 + 4 * t + k) → oneW W (K.1 0) (K.1 1) i = W i := fun i h1 h5 h11 h12 hp ht => oneW_off W b0 b1 h1 h5 h11 h12 hp ht
  obtain ⟨p, t, m, d, so, sh, gs, x3, x5, x7, x8⟩ := hw
  obtain ⟨dd, hd, ed⟩ := x5
  have e5 : oneW W (K.1 0) (K.1 1) 5 = Int32.ofNat (dd + 1) := by
    rw [oneW_via W b0 b1 (fun p _ => by omega), dyF_5 b1, ed, ofN_succ]
  unfold wOk pOk tOk dOk
  rw [r1 0 (by decide), r1 1 (by decide), r1 2 (by decide), r1 3 (by decide), r2]
  refine ⟨fun i hi => ?_, fun i hi k hk3 => ?_, fun i hi => ?_, fun i hi => ?_, fun i hi => ?_, fun i hi k h1 h2 => ?_, ?_, ?_, ?_, ?_, ?_⟩
  · obtain ⟨a0, a1, a2, a3, a4, a5, a6⟩ := p i hi
    have hs : (W (13 + 8 * i)).toNatClampNeg ≤ 2 := by
      obtain ⟨n, h1, h2⟩ := a0
      rw [h2, ofN_cl (by omega)]
      exact h1
    have o' : ∀ k, k < 8 → k ≠ 2 → oneW W (K.1 0) (K.1 1) (13 + 8 * i + k) = W (13 + 8 * i + k) := fun k h8 h2 => o _ (by omega) (by omega) (by omega) (by omega) (fun q _ => by omega) (by omega)
    rw [show oneW W (K.1 0) (K.1 1) (13 + 8 * i) = W (13 + 8 * i) from o' 0 (by decide) (by decide), o' 1 (by decide) (by decide), o' 3 (by decide) (by decide), o' 4 (by decide) (by decide), o' 5 (by decide) (by decide), o' 6 (by decide) (by decide)]
    refine ⟨a0, a1, ?_, a3, a4, a5, a6.imp id ?_⟩
    · rw [oneW_wear W b0 b1 hi]
      split
      · obtain ⟨w, hw9, ew⟩ := a2
        rw [ew, ofN_succ, show (99 : Int32) = Int32.ofNat 99 from rfl, imin_of (by decide) (by omega)]
        exact ⟨_, by omega, rfl⟩
      · exact a2
    · rintro ⟨q, hq, z1, z2⟩
      exact ⟨q, hq, z1, by rw [o _ (by omega) (by omega) (by omega) (by omega) (fun q _ => by omega) (Or.inr (Or.inr ⟨q, _, by omega, rfl⟩))]; exact z2⟩
  · rw [o _ (by omega) (by omega) (by omega) (by omega) (fun q _ => by omega) (Or.inr (Or.inr ⟨i, k, hk3, rfl⟩))]
    refine (t i hi k hk3).imp id ?_
    rintro ⟨q, hq, z1, z2, z3⟩
    exact ⟨q, hq, z1, by rw [o _ (by omega) (by omega) (by omega) (by omega) (fun q _ => by omega) (by omega)]; exact z2, by rw [o _ (by omega) (by omega) (by omega) (by omega) (fun q _ => by omega) (by omega)]; exact z3⟩
  · rw [o _ (by omega) (by omega) (by omega) (by omega) (fun q _ => by omega) (by omega)]
    exact m i hi
  · have z := d i hi
    unfold dOk at z
    have o' : ∀ k, k < 7 → oneW W (K.1 0) (K.1 1) (171 + 7 * i + k) = W (171 + 7 * i + k) := fun k h7 => o _ (by omega) (by omega) (by omega) (by omega) (fun q _ => by omega) (by omega)
    rw [show oneW W (K.1 0) (K.1 1) (171 + 7 * i) = W (171 + 7 * i) from o' 0 (by decide), o' 1 (by decide), o' 2 (by decide), o' 3 (by decide), o' 4 (by decide), o' 5 (by decide), e5, ofN_cl (by omega)]
    refine ⟨z.1.mono ?_, z.2⟩
    rw [ed, ofN_cl (by omega)]
    omega
  · rw [o _ (by omega) (by omega) (by omega) (by omega) (fun q _ => by omega) (by omega), o _ (by omega) (by omega) (by omega) (by omega) (fun q _ => by omega) (by omega)]
    exact so i hi
  · rw [oneW_via W b0 b1 (fun p _ => by omega)]
    by_cases e : i = 0
    · subst e
      rw [show 591 + 6 * 0 + k = 591 + k from rfl, dyF_s0 b1 hto h2, if_neg (by omega)]
    · rw [dyF_s1 b1 (by omega) (by omega) h2]
      exact sh (i - 1) (by omega) k h1 h2
  · rw [gsum_eq _ fun p hp => o _ (by omega) (by omega) (by omega) (by omega) (fun q _ => by omega) (by omega)]
    exact gs
  · rw [o 3 (by decide) (by decide) (by decide) (by decide) (fun q _ => by omega) (by omega)]
    exact x3
  · rw [e5]
    exact ⟨dd + 1, by omega, rfl⟩
  · rw [o 7 (by decide) (by decide) (by decide) (by decide) (fun q _ => by omega) (by omega)]
    exact x7
  · rw [o 8 (by decide) (by decide) (by decide) (by decide) (fun q _ => by omega) (by omega)]
    exact x8
/-- the Court behind so many days, and the wear that came -/
def kdy (K : CK) : Nat → Int32 × CK
  | 0 => (0, K)
  | n + 1 => ((kdy K n).1 + (kday (kdy K n).2).1, (kday (kdy K n).2).2)
theorem days_same (S : Sm K W) (hk : kOk K) (hw : wOk K W c) : ∀ n, c + n < 100000 → Sm (kdy K n).2 (dN W (K.1 0) (K.1 1) n) ∧ kOk (kdy K n).2 ∧ wOk (kdy K n).2 (dN W (K.1 0) (K.1 1) n) (c + n) ∧ (kdy K n).2.1 0 = K.1 0 ∧ (kdy K n).2.1 1 = K.1 1 ∧ (kdy K n).2.2.2.2 = K.2.2.2 ∧ (kdy K n).1 + wheads W (K.1 0) = wheads (dN W (K.1 0) (K.1 1) n) (K.1 0) := by
  intro n
  induction n with
  | zero => exact fun _ => ⟨S, hk, hw, rfl, rfl, rfl, Int32.zero_add _⟩
  | succ n ih =>
    intro hn
    obtain ⟨S1, k1, w1, r0, r1, rl, ew⟩ := ih (by omega)
    have S2 := S1.oneDay k1 w1
    have w2 := w1.oneDay S1 k1 (by omega)
    have wr := kday_wear S1 k1 w1
    obtain ⟨q1, q2⟩ := kday_rows S1 k1
    rw [r0, r1] at S2 w2
    rw [r0, r1] at wr
    refine ⟨S2, fun t ht => ?_, w2, (q1 0 (by decide)).trans r0, (q1 1 (by decide)).trans r1, (kday_law S1).trans rl, ?_⟩
    · by_cases e : t = 5
      · subst e
        show (kday (kdy K n).2).2.1 5 ≤ 30
        rw [q2]
        omega
      · show (kday (kdy K n).2).2.1 t ≤ _
        rw [q1 t e]
        exact k1 t ht
    · show (kdy K n).1 + (kday (kdy K n).2).1 + wheads W (K.1 0) = wheads (oneW (dN W (K.1 0) (K.1 1) n) (K.1 0) (K.1 1)) (K.1 0)
      rw [← wr, ← ew]
      grind
theorem c_days (C : CC s f K) {n : Nat} (hn : n < 2 ^ 31) : KRun (loopM (mX11_days_L37 0 (Int32.ofNat n)) (0, 0)) s f (kdy K n).1 (kdy K n).2 := by
  refine KRun.loop n (fun j => ((kdy K j).1, Int32.ofNat j)) (fun j => (kdy K j).2) (fun j s' hj C' _ => ?_) (fun s' C' => ?_) C
  · show KRun (mX11_days_L37 0 (Int32.ofNat n) ((kdy K j).1, Int32.ofNat j)) s' f (.inl ((kdy K j).1 + (kday (kdy K j).2).1, Int32.ofNat (j + 1))) (kday (kdy K j).2).2
    unfold mX11_days_L37
    dsimp only
    rw [if_neg (nle hj hn), ← ofN_succ]
    exact KRun.get (gR_ok C'.1 rfl) (KRun.bnd (KRun.of C' (passDay_run C'.2)) fun s2 C2 _ => KRun.get rfl (KRun.ret C2))
  · show KRun (mX11_days_L37 0 (Int32.ofNat n) ((kdy K n).1, Int32.ofNat n)) s' f _ _
    unfold mX11_days_L37
    dsimp only
    rw [if_pos (Int32.le_refl _)]
    exact KRun.ret C'
theorem m_days2 (D : Mdl s 66 M) {n0 n1 : Nat} (h0 : M.2 1 0 = Int32.ofNat n0) (hn : n0 ≤ 16) (h1 : M.2 1 1 = Int32.ofNat n1) (h6 : n1 ≤ 6) (hto : ∀ t, t < n1 → toolOk (M.2 1) t) {n : Nat} (hb : n < 2 ^ 31) : WRun (loopM (mX12_days_L41 66 (Int32.ofNat n)) 0) s M () (dN (M.2 1) n0 n1 n) := by
  refine WRun.loop n (fun k => Int32.ofNat k) (fun k => dN (M.2 1) n0 n1 k) (fun k hk s' M' C' h' => ?_) (fun s' M' C' h' => ?_) D rfl
  · show WRun (mX12_days_L41 66 (Int32.ofNat n) (Int32.ofNat k)) s' M' (.inl (Int32.ofNat (k + 1))) (oneW (dN (M.2 1) n0 n1 k) n0 n1)
    unfold mX12_days_L41
    rw [if_neg (nle hk hb), ← ofN_succ, ← h']
    refine (m_oneDay C' ?_ hn ?_ h6 fun t ht => toolOk_low (by omega) (fun i a b z => ?_) (hto t ht)).bnd fun s2 M2 C2 h2 _ _ => WRun.fin C2 h2
    · rw [h', dN_off _ hn h6 (by omega) (by omega) (by omega) (by omega) (fun p _ => by omega) (by omega), h0]
    · rw [h', dN_off _ hn h6 (by omega) (by omega) (by omega) (by omega) (fun p _ => by omega) (by omega), h1]
    · rw [h']
      exact dN_off _ hn h6 (by omega) (by omega) (by omega) (by omega) (fun p _ => by omega) (Or.inr (Or.inr z)) k
  · show WRun (mX12_days_L41 66 (Int32.ofNat n) (Int32.ofNat n)) s' M' _ _
    unfold mX12_days_L41
    rw [if_pos (Int32.le_refl _)]
    exact WRun.fin C' h'
theorem dN_high (W : Nat → Int32) {n0 n1 : Nat} (hn : n0 ≤ 16) (h6 : n1 ≤ 6) (n : Nat) : (∀ i, 1071 ≤ i → dN W n0 n1 n i = W i) ∧ dN W n0 n1 n 4 = W 4 := ⟨fun i hi => dN_off W hn h6 (by omega) (by omega) (by omega) (by omega) (fun p _ => by omega) (by omega) n, dN_off W hn h6 (by omega) (by omega) (by omega) (by omega) (fun p _ => by omega) (by omega) n⟩
theorem go_days (H : World s f K M LW c) (h1 : c + 60 ≤ c') (h2 : c' < 100000) : Both s (mX11_days 0 x) (mX12_days 66 x) [(0, 1)] c' := by
  obtain ⟨⟨⟨C, -, S, hk, hw, hc⟩, -, -⟩, -⟩ := id H
  have b0 : K.1 0 ≤ 16 := hk 0 (by decide)
  have b1 : K.1 1 ≤ 6 := hk 1 (by decide)
  by_cases hx : x < 1 ∨ 60 < x
  · refine Ag.goes H (by omega) h2 (Or.inr ⟨0, 1, 0, ?_, rfl, one_ne0, fun s' D' => ?_⟩)
    · unfold mX11_days
      rw [onC_ok C.1]
      by_cases q : x < 1
      · rw [if_pos q]
        rfl
      · rw [if_neg q, if_neg (Int32.not_le.mpr (hx.elim (fun z => absurd z q) id))]
        rfl
    · unfold mX12_days
      refine RQ.start D' fun s1 D1 => RQ.get (in_app x 1 60 s1) ?_
      rw [if_pos hx, if_pos rfl]
      exact RQ.get (w := 1) rfl (RQ.thr D1 1 fun _ => rfl)
  · have q1 : ¬ x < 1 := fun z => hx (Or.inl z)
    have q2 : x ≤ 60 := Int32.not_lt.mp fun z => hx (Or.inr z)
    obtain ⟨n, hn, rfl⟩ : isN x 60 := by
      have e1 : (1 : Int32).toInt = 1 := rfl
      have e60 : (60 : Int32).toInt = 60 := rfl
      have z1 := (i32_le 1 x).mp (Int32.not_lt.mp q1)
      have z2 := (i32_le x 60).mp q2
      exact isN.of (by omega) (by omega)
    obtain ⟨S1, k1, w1, r0, r1', rl, ew⟩ := days_same S hk hw n (by omega)
    obtain ⟨d1, d4⟩ := dN_high (M.2 1) b0 b1 n
    have ev : wheads (dN (M.2 1) (K.1 0) (K.1 1) n) (K.1 0) - wheads (M.2 1) (K.1 0) = (kdy K n).1 := by
      rw [← ew]
      grind
    refine act_goes H (by omega) h2 (K' := (kdy K n).2) (W' := dN (M.2 1) (K.1 0) (K.1 1) n) (v := (kdy K n).1) (fun _ => rfl) rl (fun sa r1 CLa => ?_) (fun s2 s3 M3 D2 hr D3 e3 => ?_) S1 k1 (w1.more (by omega)) d4 d1
    · unfold mX11_days
      refine Ev.on C.1 ?_
      rw [if_neg q1, if_pos q2]
      have Ca := CLa.1
      exact Ev.get (gR_ok C.1 rfl) (Ev.get (gR_ok C.1 rfl) (Ev.get r1 (Ev.kr (KRun.bnd (c_days Ca (by omega)) fun s5 C5 _ => KRun.ret C5) fun s' C' o' => act_fin CLa C' o')))
    · refine Ev.get (in_app _ 1 60 s2) ?_
      rw [if_neg hx, if_neg one_ne0]
      refine Ev.get (x := 0) rfl (Ev.get (thr_no D2 1) ?_)
      rw [if_pos rfl]
      have a0 : M3.2 1 0 = Int32.ofNat (K.1 0) := by rw [e3]; exact S.1.1
      have wr := m_days2 D3 a0 b0 (show M3.2 1 1 = Int32.ofNat (K.1 1) by rw [e3]; exact S.1.2.1) b1 (fun t ht => by rw [e3]; exact (hw.2.1 t ht).ok hk) (n := n) (by omega)
      rw [e3] at wr
      refine Ev.get hr (Ev.ar (AR.get (m_heads D3 a0 b0) (AR.bnd wr.ar fun s4 M4 D4 e4 _ => AR.get (m_heads D4 (n0 := K.1 0) ?_ b0) ?_)))
      · rw [e4, dN_off _ b0 b1 (by omega) (by omega) (by omega) (by omega) (fun p _ => by omega) (by omega)]
        exact S.1.1
      · rw [e3, e4, ev]
        exact AR.fin D4 e4
end DA
