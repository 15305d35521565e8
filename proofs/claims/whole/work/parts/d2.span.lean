/-! SPAN: six seeds tried -/
section SP
variable {s : aS} {f : Int32} {K : CK} {M : MK} {W V : Nat → Int32} {LW : Option (List Ln)} {c n0 n1 : Nat} {x y : Int32}
theorem heads_same2 (S : Sm K W) (hk : kOk K) (hw : wOk K W c) (hv : ∀ i, i ≠ 12 → V i = W i) {n : Nat} (hb : n ≤ 60) : wheads (dN V (K.1 0) (K.1 1) n) (K.1 0) = kwearSum K (kdays K (V 12) n).1 (K.1 0) ∧ isN (kwearSum K (kdays K (V 12) n).1 (K.1 0)) 1584 := by
  have hn : K.1 0 ≤ 16 := hk 0 (by decide)
  have h6 : K.1 1 ≤ 6 := hk 1 (by decide)
  have v8 : V 8 = W 8 := hv 8 (by decide)
  have dle : ∀ m, (dcn (V 8) m (V 12)).1 ≤ m := by
    intro m
    induction m with
    | zero => exact Nat.le_refl 0
    | succ m ih =>
      show (dcn (V 8) m (V 12)).1 + (if wdamp (V 8) (kseed (dcn (V 8) m (V 12)).2) = 0 then 0 else 1) ≤ m + 1
      split <;> omega
  have kd : kdays K (V 12) n = (Int32.ofNat (dcn (V 8) n (V 12)).1, (dcn (V 8) n (V 12)).2) := by
    rw [v8]
    exact kdays_dcn S (V 12) n
  have key : ∀ j, j ≤ K.1 0 → sumI (fun p => if dN V (K.1 0) (K.1 1) n (13 + 8 * p) = 1 then dN V (K.1 0) (K.1 1) n (13 + 8 * p + 2) else 0) j = kwearSum K (kdays K (V 12) n).1 j ∧ isN (kwearSum K (kdays K (V 12) n).1 j) (99 * j) := by
    intro j
    induction j with
    | zero => intro _; exact ⟨rfl, isN_0⟩
    | succ j ih =>
      intro hj
      obtain ⟨ih1, ih2⟩ := ih (by omega)
      have ek : kwearSum K (kdays K (V 12) n).1 (j + 1) = (if kget K 0 (Int32.ofNat j) 0 = 1 then kwearSum K (kdays K (V 12) n).1 j + imin 99 (kget K 0 (Int32.ofNat j) 2 + (kdays K (V 12) n).1) else kwearSum K (kdays K (V 12) n).1 j) := rfl
      rw [ek]
      show sumI _ j + (if dN V (K.1 0) (K.1 1) n (13 + 8 * j) = 1 then dN V (K.1 0) (K.1 1) n (13 + 8 * j + 2) else 0) = _ ∧ _
      rw [ih1, (Sm.cols S hk).1 j (by omega), (Sm.cols S hk).2.2.1 j (by omega), dN_off V hn h6 (i := 13 + 8 * j) (by omega) (by omega) (by omega) (by omega) (fun q _ => by omega) (by omega) n, hv (13 + 8 * j) (by omega)]
      rw [kd] at ih2 ⊢
      by_cases q : W (13 + 8 * j) = 1
      · obtain ⟨w, h99, ew⟩ := (hw.1 j (by omega)).2.2.1
        have := dle n
        rw [if_pos q, if_pos q, dN_wear V hn h6 (p := j) (w := w) (by omega) ((hv _ (by omega)).trans ew) h99 ((hv _ (by omega)).trans q) n, ew, ofN_add, show (99 : Int32) = Int32.ofNat 99 from rfl, imin_of (by decide) (by omega)]
        exact ⟨rfl, (isN_add ih2 (B := 99) ⟨min 99 (w + (dcn (V 8) n (V 12)).1), by omega, rfl⟩).mono (by omega)⟩
      · rw [if_neg q, if_neg q, Int32.add_zero]
        exact ⟨rfl, ih2.mono (by omega)⟩
  obtain ⟨k1, k2⟩ := key _ (Nat.le_refl _)
  exact ⟨k1, k2.mono (by omega)⟩
/-- least or most wear over the seeds 1 to j + 1 -/
def spN (K : CK) (n : Nat) (y : Int32) : Nat → Int32
  | 0 => kwearSum K (kdays K (Int32.ofNat 1) n).1 (K.1 0)
  | j + 1 => if y = 0 then imin (spN K n y j) (kwearSum K (kdays K (Int32.ofNat (j + 2)) n).1 (K.1 0)) else imax (spN K n y j) (kwearSum K (kdays K (Int32.ofNat (j + 2)) n).1 (K.1 0))
theorem wear_nn (S : Sm K W) (hk : kOk K) (hw : wOk K W c) {n : Nat} (hb : n ≤ 60) (x : Int32) : isN (kwearSum K (kdays K x n).1 (K.1 0)) 1584 := by
  have := (heads_same2 (V := upd W 12 x) S hk hw (fun i hi => if_neg hi) hb).2
  rwa [show upd W 12 x 12 = x from if_pos rfl] at this
theorem spN_nn (S : Sm K W) (hk : kOk K) (hw : wOk K W c) {n : Nat} (hb : n ≤ 60) : ∀ j, isN (spN K n y j) 1584
  | 0 => wear_nn S hk hw hb _
  | j + 1 => by
    obtain ⟨a, h1, e1⟩ := spN_nn S hk hw hb j
    obtain ⟨b, h2, e2⟩ := wear_nn S hk hw hb (Int32.ofNat (j + 2))
    unfold spN
    rw [e1, e2]
    split
    · rw [imin_of (by omega) (by omega)]
      exact ⟨_, by omega, rfl⟩
    · rw [imax_of (by omega) (by omega)]
      exact ⟨_, by omega, rfl⟩
theorem c_span (C : CC s f K) {n : Nat} (hb : n < 2 ^ 31) : loopM (mX11_span_L17 0 (Int32.ofNat n) y) (spN K n y 0, 2) s = some (.inl (spN K n y 5), s) := by
  refine loop_steps 5 (fun j => (spN K n y j, Int32.ofNat (j + 2))) (fun _ => s) (fun j hj => ?_) ?_
  · show mX11_span_L17 0 (Int32.ofNat n) y (spN K n y j, Int32.ofNat (j + 2)) s = some (.inl (.inl ((if y = 0 then _ else _), Int32.ofNat (j + 1 + 2))), s)
    unfold mX11_span_L17
    dsimp only
    rw [if_neg (show ¬ (6 : Int32) < Int32.ofNat (j + 2) from fun z => absurd ((ofN_lt (n := 6) (by decide) (by omega)).mp z) (by omega)), bnd_ok (show gR 10 7 0 s = some (.inl 28, s) from gR_ok C.1 rfl), bnd_ok (wearAfter_run C.2 hb), ofN_succ]
    by_cases q : y = 0
    · rw [if_pos q, mret_mbnd, if_pos q]
      rfl
    · rw [if_neg q, mret_mbnd, if_neg q]
      rfl
  · show mX11_span_L17 0 (Int32.ofNat n) y (spN K n y 5, Int32.ofNat (5 + 2)) s = _
    unfold mX11_span_L17
    dsimp only
    rw [if_pos (show (6 : Int32) < Int32.ofNat (5 + 2) by decide)]
    rfl
/-- the reference's best, before the first seed -1 -/
def spM (K : CK) (n : Nat) (y : Int32) : Nat → Int32
  | 0 => -1
  | j + 1 => spN K n y j
theorem m_span (S : Sm K W) (hk : kOk K) (hw : wOk K W c) {n : Nat} (hb : n ≤ 60) : ∀ (d j : Nat) (s : aS) (M : MK), d + j = 6 → Mdl s 66 M → M.2 1 = W → (∀ i, i < 1071 → M.2 4 i = W i) → WRun (loopM (mX12_span_L39 66 (Int32.ofNat n) y) (spM K n y j, Int32.ofNat (j + 1))) s M (spN K n y 5) W
  | 0, j, s, M, e, C, hW, h4 => by
    have ej : j = 6 := by omega
    subst ej
    rw [loopM_eq]
    refine WRun.bnd (x := (.inr (spN K n y 5) : (Int32 × Int32) ⊕ Int32)) (W1 := W) ?_ fun s2 M2 C2 h2 _ _ => WRun.fin C2 h2
    unfold mX12_span_L39
    dsimp only
    rw [if_pos (show (6 : Int32) < Int32.ofNat (6 + 1) by decide)]
    exact WRun.fin C hW
  | d + 1, j, s, M, e, C, hW, h4 => by
    have hn : K.1 0 ≤ 16 := hk 0 (by decide)
    have h6 : K.1 1 ≤ 6 := hk 1 (by decide)
    rw [loopM_eq]
    refine WRun.bnd (x := (.inl (spM K n y (j + 1), Int32.ofNat (j + 1 + 1)) : (Int32 × Int32) ⊕ Int32)) (W1 := W) ?_ fun s2 M2 C2 h2 _ q2 => m_span S hk hw hb d (j + 1) s2 M2 (by omega) C2 h2 (fun i hi => by rw [q2 4 (by decide)]; exact h4 i hi)
    unfold mX12_span_L39
    dsimp only
    rw [if_neg (show ¬ (6 : Int32) < Int32.ofNat (j + 1) from fun z => absurd ((ofN_lt (n := 6) (by decide) (by omega)).mp z) (by omega)), ofN_succ]
    refine WRun.get (MD.refs C).2.1 (WRun.bnd (W1 := upd (M.2 1) 12 (Int32.ofNat (j + 1))) (WRun.put (i := 12) C (by decide)) fun s1 M1 C1 e1 _ q1 => ?_)
    rw [hW] at e1
    have low : ∀ i, i ≠ 12 → M1.2 1 i = W i := fun i hi => by rw [e1]; exact if_neg hi
    have e12 : M1.2 1 12 = Int32.ofNat (j + 1) := by rw [e1]; exact if_pos rfl
    have t := m_tries2 (V := W) (n0 := K.1 0) (n1 := K.1 1) (n := n) C1 (by rw [low 0 (by decide)]; exact S.1.1) hn (by rw [low 1 (by decide)]; exact S.1.2.1) h6 (fun t ht => toolOk_low (by omega) (fun i a b _ => low i (by omega)) ((hw.2.1 t ht).ok hk)) (fun i hi => by rw [q1 4 (by decide)]; exact h4 i hi) (fun i hi => low i (by omega)) (by omega)
    rw [(heads_same2 S hk hw low hb).1, e12] at t
    refine t.bnd fun s2 M2 C2 e2 _ _ => ?_
    refine WRun.get (x := spM K n y (j + 1)) ?_ (WRun.fin C2 e2)
    cases j with
    | zero =>
      rw [if_neg (show ¬ (0 : Int32) ≤ spM K n y 0 from show ¬ (0 : Int32) ≤ -1 by decide)]
      rfl
    | succ j =>
      obtain ⟨a, h1, ea⟩ := spN_nn (y := y) S hk hw hb j
      rw [if_pos (show (0 : Int32) ≤ spM K n y (j + 1) by
        show (0 : Int32) ≤ spN K n y j
        rw [ea]
        exact le0_ofN (by omega))]
      show (if y = 0 then _ else _ : MM Int32) s2 = some (.inl (if y = 0 then _ else _), s2)
      by_cases q : y = 0
      · rw [if_pos q, if_pos q]
        rfl
      · rw [if_neg q, if_neg q]
        rfl
theorem ag_span (E : Env s f K M c) : Ag K.2.2.2 (mX11_span 0 x y) (mX12_span 66 x y) s M [(0, 1)] := by
  obtain ⟨C, -, S, hk, hw, hc⟩ := E
  rcases rg_or 61 (by decide) x with h | ⟨n, hlt, rfl⟩
  · refine Or.inr ⟨0, 1, 0, ?_, rfl, one_ne0, fun s' D' => ?_⟩
    · unfold mX11_span
      rw [onC_ok C.1, bnd_ex (trial_no C h)]
    · unfold mX12_span
      refine RQ.start D' fun s1 D1 => RQ.get (in_app x 0 60 s1) ?_
      rw [if_pos ((in60 x).mp h), if_pos rfl, mret_mbnd]
      exact RQ.thr D1 1 fun _ => rfl
  · refine Or.inl ⟨spN K n y 5, s, ?_, ScR.rf, fun s' D' => ?_⟩
    · unfold mX11_span
      rw [onC_ok C.1, bnd_ok (trial_ok hlt), bnd_ok (show gR 10 7 0 s = some (.inl 28, s) from gR_ok C.1 rfl), bnd_ok (show mX1_wearAfter 28 (Int32.ofNat n) 1 s = _ from wearAfter_run (x := Int32.ofNat 1) C.2 (by omega)), bnd_ok (show loopM (mX11_span_L17 0 (Int32.ofNat n) y) (kwearSum K (kdays K (Int32.ofNat 1) n).1 (K.1 0), 2) s = _ from c_span C (by omega))]
      rfl
    · unfold mX12_span
      refine RQ.start D' fun s1 D1 => RQ.get (in_app _ 0 60 s1) ?_
      rw [if_neg (fun z => rg_in hlt (by decide) ((in60 _).mpr z)), if_neg one_ne0, mret_mbnd]
      refine RQ.get (thr_no D1 1) ?_
      rw [if_pos rfl]
      obtain ⟨s2, M2, r1, r2, r3, r4, r5, r6⟩ := m_keep 1071 0 s1 _ rfl D1 (fun i hi => absurd hi (Nat.not_lt_zero i))
      refine RQ.step (w := ()) (s1 := s2) (M1 := M2) ?_ r3 ⟨r5 1 (by decide), r5 2 (by decide), r5 5 (by decide), r5 6 (by decide), by rw [r4], by rw [r4], by rw [r4], by rw [r4]⟩ ?_
      · unfold mX12_keepsAll
        rw [onC_ok D1.1]
        exact (bnd_ok r1).trans rfl
      · have e1 : M2.2 1 = M.2 1 := r5 1 (by decide)
        have t := m_span (y := y) S hk hw (n := n) (by omega) 6 0 s2 M2 rfl r2 e1 (fun i hi => r6 i hi)
        refine WRun.rq (t.bnd fun s3 M3 C3 e3 _ _ => WRun.fin C3 (e3.trans e1.symm)) ?_
        rw [r4]
        rfl
end SP
