/-! TRIAL, SPAN: the calls -/
section T3
variable {s : aS} {f : Int32} {K : CK} {M : MK} {W V : Nat → Int32} {LW : Option (List Ln)} {c n0 n1 : Nat} {x y : Int32}
theorem WRun.rq {α : Type} {m : MM α} {v : α} {t : Int32} (h : WRun m s M v (M.2 1)) (h0 : M.1 0 = t) : RQ m s M v t := by
  obtain ⟨s', M', h1, h2, h3, h4, h5, h6⟩ := h
  exact ⟨s', M', h1, h2, h3, by rw [h4]; exact h0, h5, h6 2 (by decide), h6 5 (by decide), h6 6 (by decide), by rw [h4], by rw [h4], by rw [h4], by rw [h4]⟩
theorem m_keep : ∀ (d k : Nat) (s : aS) (M : MK), d + k = 1071 → Mdl s 66 M → (∀ i, i < k → M.2 4 i = M.2 1 i) → ∃ s1 M1, loopM (mX12_keepsAll_L2 66) (Int32.ofNat k) s = some (.inl (), s1) ∧ Mdl s1 66 M1 ∧ Off s s1 66 78 ∧ M1.1 = M.1 ∧ (∀ q, q ≠ 4 → M1.2 q = M.2 q) ∧ ∀ i, i < 1071 → M1.2 4 i = M.2 1 i := by
  intro d
  induction d with
  | zero =>
    intro k s M e C h
    have ek : k = 1071 := by omega
    subst ek
    refine ⟨s, M, ?_, C, Off.rf, rfl, fun _ _ => rfl, h⟩
    rw [loopM_eq]
    refine (bnd_ok (v := .inr ()) (s' := s) ?_).trans rfl
    unfold mX12_keepsAll_L2
    rw [if_pos (show (1071 : Int32) ≤ Int32.ofNat 1071 from Int32.le_refl _)]
    rfl
  | succ d ih =>
    intro k s M e C h
    obtain ⟨s2, b1, b2, b3⟩ := mput_run (q := 4) (i := k) (v := M.2 1 k) C (by decide) (by decide) (show k < 1071 by omega) (by decide)
    obtain ⟨s1, M1, r1, r2, r3, r4, r5, r6⟩ := ih (k + 1) s2 (mput M 4 k (M.2 1 k)) (by omega) b2 (fun i hi => by
      show (if i = k then _ else _) = M.2 1 i
      by_cases q : i = k
      · rw [if_pos q, q]
      · rw [if_neg q]
        exact h i (by omega))
    refine ⟨s1, M1, ?_, r2, Off.trans b3 r3, r4, fun q hq => (r5 q hq).trans (if_neg hq), r6⟩
    rw [loopM_eq]
    refine (bnd_ok (v := (.inl (Int32.ofNat (k + 1)) : Int32 ⊕ Unit)) (s' := s2) ?_).trans r1
    unfold mX12_keepsAll_L2
    rw [if_neg (show ¬ (1071 : Int32) ≤ Int32.ofNat k from nle (n := 1071) (by omega) (by decide)), bnd_ok (MD.refs C).2.2.2.2.1, bnd_ok (MD.refs C).2.1, bnd_ok ((MD.wl C).1 k (by omega)), bnd_ok (show stI 0 70 _ _ s = _ from b1), ofN_succ]
    rfl
theorem m_tries2 (C : Mdl s 66 M) (h0 : M.2 1 0 = Int32.ofNat n0) (hn : n0 ≤ 16) (h1 : M.2 1 1 = Int32.ofNat n1) (h6 : n1 ≤ 6) (hto : ∀ t, t < n1 → toolOk (M.2 1) t) (hk : ∀ i, i < 1071 → M.2 4 i = V i) (hv : ∀ i, 1071 ≤ i → M.2 1 i = V i) {n : Nat} (hb : n < 2 ^ 31) : WRun (mX12_tries 66 (Int32.ofNat n)) s M (wheads (dN (M.2 1) n0 n1 n) n0) V := by
  unfold mX12_tries
  refine WRun.o11 C ((m_days C h0 hn h1 h6 hto hb).bnd fun s1 M1 C1 e1 _ q1 => ?_)
  have a0 : M1.2 1 0 = Int32.ofNat n0 := by
    rw [e1, dN_off _ hn h6 (by omega) (by omega) (by omega) (by omega) (fun p _ => by omega) (by omega), h0]
  refine WRun.get (x := wheads (dN (M.2 1) n0 n1 n) n0) (by rw [m_heads C1 a0 hn, e1]) ((m_back C1).bnd fun s2 M2 C2 e2 _ _ => WRun.fin C2 ?_)
  rw [e2]
  funext i
  rw [rsN_at, q1 4 (by decide), e1]
  by_cases q : i < 1071
  · rw [if_pos q, hk i q]
  · rw [if_neg q, ← hv i (by omega)]
    exact dN_off _ hn h6 (by omega) (by omega) (by omega) (by omega) (fun p _ => by omega) (by omega) n
theorem in60 (x : Int32) : rg 61 x ↔ (x < 0 ∨ 60 < x) := rg_9 x 60 (by decide)
theorem trial_no (C : CC s f K) (h : rg 61 x) : mX11_needTrialDays x s = some (.inr 0, thS s) := by
  unfold mX11_needTrialDays
  by_cases h1 : x < 0
  · rw [if_pos h1]
    rfl
  · rw [if_neg h1, if_neg (Int32.not_le.mpr (((in60 x).mp h).elim (fun q => absurd q h1) id))]
    rfl
theorem trial_ok {n : Nat} (h : n < 61) : mX11_needTrialDays (Int32.ofNat n) s = some (.inl (), s) := by
  unfold mX11_needTrialDays
  rw [if_neg (ofN_nn (by omega)), if_pos (show Int32.ofNat n ≤ 60 from (ofN_le (m := 60) (by omega) (by decide)).mpr (by omega))]
  rfl
theorem ag_trial (E : Env s f K M c) : Ag K.2.2.2 (mX11_trial 0 x) (mX12_trial 66 x) s M [(0, 1)] := by
  obtain ⟨C, -, S, hk, hw, hc⟩ := E
  have hn : K.1 0 ≤ 16 := hk 0 (by decide)
  have h6 : K.1 1 ≤ 6 := hk 1 (by decide)
  rcases rg_or 61 (by decide) x with h | ⟨n, hlt, rfl⟩
  · refine Or.inr ⟨0, 1, 0, ?_, rfl, one_ne0, fun s' D' => ?_⟩
    · unfold mX11_trial
      rw [onC_ok C.1, bnd_ex (trial_no C h)]
    · unfold mX12_trial
      refine RQ.start D' fun s1 D1 => RQ.get (in_app x 0 60 s1) ?_
      rw [if_pos ((in60 x).mp h), if_pos rfl, mret_mbnd]
      exact RQ.thr D1 1 fun _ => rfl
  · refine Or.inl ⟨kwearSum K (kdays K (M.2 1 12) n).1 (K.1 0), s, ?_, ScR.rf, fun s' D' => ?_⟩
    · unfold mX11_trial
      rw [onC_ok C.1, bnd_ok (trial_ok hlt), bnd_ok (show gR 10 7 0 s = some (.inl 28, s) from gR_ok C.1 rfl), bnd_ok (show gR 10 7 0 s = some (.inl 28, s) from gR_ok C.1 rfl), bnd_ok (show gI 1 11 28 s = some (.inl (M.2 1 12), s) by rw [← (Sm.ints S).2.2.2.2.1]; exact gI_ok C.2.1 rfl), bnd_ok (wearAfter_run C.2 (by omega))]
      rfl
    · unfold mX12_trial
      refine RQ.start D' fun s1 D1 => RQ.get (in_app _ 0 60 s1) ?_
      rw [if_neg (fun z => rg_in hlt (by decide) ((in60 _).mpr z)), if_neg one_ne0, mret_mbnd]
      refine RQ.get (thr_no D1 1) ?_
      rw [if_pos rfl]
      obtain ⟨s2, M2, r1, r2, r3, r4, r5, r6⟩ := m_keep 1071 0 s1 _ rfl D1 (fun i hi => absurd hi (Nat.not_lt_zero i))
      refine RQ.step (w := ()) (s1 := s2) (M1 := M2) ?_ r3 ⟨r5 1 (by decide), r5 2 (by decide), r5 5 (by decide), r5 6 (by decide), by rw [r4], by rw [r4], by rw [r4], by rw [r4]⟩ ?_
      · unfold mX12_keepsAll
        rw [onC_ok D1.1]
        exact (bnd_ok r1).trans rfl
      · have e1 : M2.2 1 = M.2 1 := r5 1 (by decide)
        have t := m_tries2 (V := M2.2 1) (n0 := K.1 0) (n1 := K.1 1) (n := n) r2 (by rw [e1]; exact S.1.1) hn (by rw [e1]; exact S.1.2.1) h6 (fun t ht => by rw [e1]; exact (hw.2.1 t ht).ok hk) (fun i hi => by rw [r6 i hi, e1]; rfl) (fun i _ => rfl) (by omega)
        have hs := heads_same S hk hw (n := n) (by omega)
        rw [e1, hs, ← e1] at t
        rw [e1] at t
        refine WRun.rq (t.bnd fun s3 M3 C3 e3 _ _ => WRun.fin C3 (e3.trans e1.symm)) ?_
        rw [r4]
        rfl
end T3
