/-! STROKES: the most on one day, by runs and by counts -/
def cntS (W : Nat → Int32) (p : Nat) (v : Int32) : Nat → Nat
  | 0 => 0
  | d + 1 => if bt (W (171 + 7 * d + 6)) p = true ∧ W (171 + 7 * d) = v then cntS W p v d + 1 else cntS W p v d
def mxS (W : Nat → Int32) (p : Nat) : Nat → Nat
  | 0 => 0
  | d + 1 => if bt (W (171 + 7 * d + 6)) p = true then max (mxS W p d) (cntS W p (W (171 + 7 * d)) (d + 1)) else mxS W p d
def ltS (W : Nat → Int32) (p : Nat) : Nat → Int32
  | 0 => -1
  | d + 1 => if bt (W (171 + 7 * d + 6)) p = true then W (171 + 7 * d) else ltS W p d
/-- the reference's greatest so far -/
def rxS (W : Nat → Int32) (p n : Nat) : Nat → Nat
  | 0 => 0
  | d + 1 => max (rxS W p n d) (cntS W p (W (171 + 7 * d)) n)
section ST
variable {s : aS} {f : Int32} {K : CK} {M : MK} {W : Nat → Int32} {c : Nat} {x y z w : Int32} {p : Nat}
theorem cntS_le (v : Int32) : ∀ n, cntS W p v n ≤ n
  | 0 => Nat.le_refl 0
  | n + 1 => by
    have := cntS_le v n
    have e1 : cntS W p v (n + 1) = (if bt (W (171 + 7 * n + 6)) p = true ∧ W (171 + 7 * n) = v then cntS W p v n + 1 else cntS W p v n) := rfl
    rw [e1]
    split <;> omega
theorem cntS_mono (v : Int32) {n : Nat} : ∀ m, n ≤ m → cntS W p v n ≤ cntS W p v m := by
  intro m hm
  induction m with
  | zero =>
    have : n = 0 := by omega
    subst this
    exact Nat.le_refl _
  | succ m ih =>
    rcases Nat.lt_or_ge n (m + 1) with h | h
    · have h1 := ih (by omega)
      have e1 : cntS W p v (m + 1) = (if bt (W (171 + 7 * m + 6)) p = true ∧ W (171 + 7 * m) = v then cntS W p v m + 1 else cntS W p v m) := rfl
      rw [e1]
      split <;> omega
    · have : n = m + 1 := by omega
      subst this
      exact Nat.le_refl _
theorem cntS_mx (v : Int32) : ∀ n, cntS W p v n ≤ mxS W p n
  | 0 => Nat.le_refl 0
  | n + 1 => by
    have ih := cntS_mx v n
    have e1 : cntS W p v (n + 1) = (if bt (W (171 + 7 * n + 6)) p = true ∧ W (171 + 7 * n) = v then cntS W p v n + 1 else cntS W p v n) := rfl
    have e2 : mxS W p (n + 1) = (if bt (W (171 + 7 * n + 6)) p = true then max (mxS W p n) (cntS W p (W (171 + 7 * n)) (n + 1)) else mxS W p n) := rfl
    by_cases hb : bt (W (171 + 7 * n + 6)) p = true
    · rw [e2, if_pos hb]
      by_cases hv : W (171 + 7 * n) = v
      · rw [hv]
        exact Nat.le_max_right _ _
      · rw [e1, if_neg (fun q => hv q.2)]
        exact Nat.le_trans ih (Nat.le_max_left _ _)
    · rw [e2, if_neg hb, e1, if_neg (fun q => hb q.1)]
      exact ih
theorem mxS_rx (n : Nat) : ∀ k, k ≤ n → mxS W p k ≤ rxS W p n k
  | 0, _ => Nat.le_refl 0
  | k + 1, h => by
    have ih := mxS_rx n k (by omega)
    have h2 := cntS_mono (W := W) (p := p) (W (171 + 7 * k)) (n := k + 1) n h
    have e2 : mxS W p (k + 1) = (if bt (W (171 + 7 * k + 6)) p = true then max (mxS W p k) (cntS W p (W (171 + 7 * k)) (k + 1)) else mxS W p k) := rfl
    have e3 : rxS W p n (k + 1) = max (rxS W p n k) (cntS W p (W (171 + 7 * k)) n) := rfl
    rw [e2, e3]
    split <;> omega
theorem rxS_mx (n : Nat) : ∀ k, rxS W p n k ≤ mxS W p n
  | 0 => Nat.zero_le _
  | k + 1 => by
    have ih := rxS_mx n k
    have h2 := cntS_mx (W := W) (p := p) (W (171 + 7 * k)) n
    have e3 : rxS W p n (k + 1) = max (rxS W p n k) (cntS W p (W (171 + 7 * k)) n) := rfl
    omega
theorem mx_rx (n : Nat) : mxS W p n = rxS W p n n := Nat.le_antisymm (mxS_rx n n (Nat.le_refl n)) (rxS_mx n n)
theorem mxS_le : ∀ n, mxS W p n ≤ n
  | 0 => Nat.le_refl 0
  | n + 1 => by
    have ih := mxS_le n
    have h2 := cntS_le (W := W) (p := p) (W (171 + 7 * n)) (n + 1)
    have e2 : mxS W p (n + 1) = (if bt (W (171 + 7 * n + 6)) p = true then max (mxS W p n) (cntS W p (W (171 + 7 * n)) (n + 1)) else mxS W p n) := rfl
    rw [e2]
    split <;> omega
theorem cntS_0 (v : Int32) : ∀ n, (∀ d, d < n → bt (W (171 + 7 * d + 6)) p = true → ¬ W (171 + 7 * d) = v) → cntS W p v n = 0
  | 0, _ => rfl
  | n + 1, h => by
    have e1 : cntS W p v (n + 1) = (if bt (W (171 + 7 * n + 6)) p = true ∧ W (171 + 7 * n) = v then cntS W p v n + 1 else cntS W p v n) := rfl
    rw [e1, if_neg (fun q => h n (Nat.lt_succ_self n) q.1 q.2)]
    exact cntS_0 v n (fun d hd => h d (Nat.lt_succ_of_lt hd))
theorem sorted_le {n : Nat} (hs : ∀ d, d + 1 < n → W (171 + 7 * d) ≤ W (171 + 7 * (d + 1))) {d : Nat} : ∀ e, d ≤ e → e < n → W (171 + 7 * d) ≤ W (171 + 7 * e) := by
  intro e he hn
  induction e with
  | zero =>
    have : d = 0 := by omega
    subst this
    exact Int32.le_refl _
  | succ e ih =>
    rcases Nat.lt_or_ge d (e + 1) with h | h
    · exact Int32.le_trans (ih (by omega) (by omega)) (hs e hn)
    · have : d = e + 1 := by omega
      subst this
      exact Int32.le_refl _
theorem ltS_ge {n : Nat} (hs : ∀ d, d + 1 < n → W (171 + 7 * d) ≤ W (171 + 7 * (d + 1))) : ∀ j, j ≤ n → ∀ d, d < j → bt (W (171 + 7 * d + 6)) p = true → W (171 + 7 * d) ≤ ltS W p j
  | 0, _, d, hd, _ => absurd hd (Nat.not_lt_zero d)
  | j + 1, hj, d, hd, hb => by
    show _ ≤ (if _ then _ else _)
    split
    · exact sorted_le hs j (by omega) (by omega)
    · next hn =>
      rcases Nat.lt_or_ge d j with q | q
      · exact ltS_ge hs j (by omega) d q hb
      · exact absurd ((show d = j by omega) ▸ hb) hn
theorem ltS_or : ∀ j, ltS W p j = -1 ∨ ∃ d, d < j ∧ bt (W (171 + 7 * d + 6)) p = true ∧ ltS W p j = W (171 + 7 * d)
  | 0 => Or.inl rfl
  | j + 1 => by
    have e1 : ltS W p (j + 1) = (if bt (W (171 + 7 * j + 6)) p = true then W (171 + 7 * j) else ltS W p j) := rfl
    rw [e1]
    by_cases hb : bt (W (171 + 7 * j + 6)) p = true
    · rw [if_pos hb]
      exact Or.inr ⟨j, Nat.lt_succ_self j, hb, rfl⟩
    · rw [if_neg hb]
      exact (ltS_or j).imp id fun ⟨d, h1, h2⟩ => ⟨d, Nat.lt_succ_of_lt h1, h2⟩
/-- a run goes on, or begins -/
theorem run_step {n : Nat} (hs : ∀ d, d + 1 < n → W (171 + 7 * d) ≤ W (171 + 7 * (d + 1))) (h0 : ∀ d, d < n → ¬ W (171 + 7 * d) < 0) {j : Nat} (hj : j < n) (hb : bt (W (171 + 7 * j + 6)) p = true) : (if W (171 + 7 * j) = ltS W p j then cntS W p (ltS W p j) j + 1 else 1) = cntS W p (W (171 + 7 * j)) (j + 1) := by
  have e1 : cntS W p (W (171 + 7 * j)) (j + 1) = cntS W p (W (171 + 7 * j)) j + 1 := if_pos ⟨hb, rfl⟩
  rw [e1]
  by_cases h : W (171 + 7 * j) = ltS W p j
  · rw [if_pos h, ← h]
  · rw [if_neg h, cntS_0]
    intro d hd hbd hv
    have h1 := ltS_ge (p := p) hs j (by omega) d hd hbd
    rcases ltS_or (W := W) (p := p) j with h2 | ⟨e, he, -, h2⟩
    · rw [h2] at h1
      exact h0 d (by omega) (by
        rw [i32_lt]
        have := Int32.le_iff_toInt_le.mp h1
        have e9 : (-1 : Int32).toInt = -1 := rfl
        have e8 : (0 : Int32).toInt = 0 := rfl
        omega)
    · have h3 := sorted_le hs (d := e) j (by omega) hj
      rw [← h2] at h3
      rw [hv] at h1
      exact h (Int32.le_antisymm h1 h3)
theorem c_most (C : CC s f K) (S : Sm K W) (hk : kOk K) (hw : wOk K W c) (hc : c < 100000) (hp : p < 32) : mX11_mostOnOneDay 0 (Int32.ofNat p) s = some (.inl (Int32.ofNat (mxS W p (K.1 3))), s) := by
  have hb : K.1 3 ≤ 60 := hk 3 (by decide)
  have hl : loopM (mX11_mostOnOneDay_L10 0 (Int32.ofNat p)) (Int32.ofNat (mxS W p 0), Int32.ofNat (cntS W p (ltS W p 0) 0), ltS W p 0, Int32.ofNat 0) s = some (.inl (Int32.ofNat (mxS W p (K.1 3))), s) := by
    refine loop_steps (K.1 3) (fun j => (Int32.ofNat (mxS W p j), Int32.ofNat (cntS W p (ltS W p j) j), ltS W p j, Int32.ofNat j)) (fun _ => s) (fun j hj => ?_) ?_
    · show mX11_mostOnOneDay_L10 0 (Int32.ofNat p) (Int32.ofNat (mxS W p j), Int32.ofNat (cntS W p (ltS W p j) j), ltS W p j, Int32.ofNat j) s = _
      unfold mX11_mostOnOneDay_L10
      have e2 : mxS W p (j + 1) = (if bt (W (171 + 7 * j + 6)) p = true then max (mxS W p j) (cntS W p (W (171 + 7 * j)) (j + 1)) else mxS W p j) := rfl
      have e3 : ltS W p (j + 1) = (if bt (W (171 + 7 * j + 6)) p = true then W (171 + 7 * j) else ltS W p j) := rfl
      by_cases hbt : bt (W (171 + 7 * j + 6)) p = true
      · have hr := run_step (p := p) hw.2.2.2.2.1 (fun d hd => day_nn hw hc hd) hj hbt
        have hmx := mxS_le (W := W) (p := p) j
        have hcn := cntS_le (W := W) (p := p) (W (171 + 7 * j)) (j + 1)
        have e4 : (if W (171 + 7 * j) = ltS W p j then Int32.ofNat (cntS W p (ltS W p j) j + 1) else 1) = Int32.ofNat (cntS W p (W (171 + 7 * j)) (j + 1)) := by
          rw [← hr]
          split
          · rfl
          · rfl
        simp only [mbnd_app, kx_in, mite_app, mret_app, ite_some, CC.all C, nle hj (by omega), if_false, Sm.cols S hk, hj, inSet_app, inSet_0, hp, hbt, not_true, e4, imax_of (show mxS W p j < 2 ^ 31 by omega) (show cntS W p (W (171 + 7 * j)) (j + 1) < 2 ^ 31 by omega), e2, e3, if_true, ofN_succ]
      · have e5 : cntS W p (ltS W p j) (j + 1) = cntS W p (ltS W p j) j := if_neg (fun q => hbt q.1)
        simp only [mbnd_app, kx_in, mite_app, mret_app, ite_some, CC.all C, nle hj (by omega), if_false, Sm.cols S hk, hj, inSet_app, inSet_0, hp, if_neg hbt, if_pos hbt, e2, e3, e5, ofN_succ]
    · show mX11_mostOnOneDay_L10 0 (Int32.ofNat p) (_, _, _, Int32.ofNat (K.1 3)) s = _
      unfold mX11_mostOnOneDay_L10
      simp only [mbnd_app, kx_in, CC.all C, Int32.le_refl, if_true, mret_app]
  unfold mX11_mostOnOneDay
  rw [onC_ok C.1]
  exact bnd_ok hl
theorem m_strokesOn (C : Mdl s 66 M) {n : Nat} (hn : M.2 1 6 = Int32.ofNat n) (hb : n ≤ 60) (hp : p < 32) {v : Int32} : mX12_strokesOn 66 (Int32.ofNat p) v s = some (.inl (Int32.ofNat (cntS (M.2 1) p v n)), s) := by
  have hl : loopM (mX12_strokesOn_L5 66 (Int32.ofNat p) v) (Int32.ofNat (cntS (M.2 1) p v 0), 0) s = some (.inl (Int32.ofNat (cntS (M.2 1) p v n)), s) := by
    refine for_ok n (fun j => Int32.ofNat (cntS (M.2 1) p v j)) (fun j hj => ?_) ?_
    · have hj4 : j < 300 := by omega
      have e1 : cntS (M.2 1) p v (j + 1) = (if bt (M.2 1 (171 + 7 * j + 6)) p = true ∧ M.2 1 (171 + 7 * j) = v then cntS (M.2 1) p v j + 1 else cntS (M.2 1) p v j) := rfl
      have e2 : Int32.ofNat (cntS (M.2 1) p v j) + (if bt (M.2 1 (171 + 7 * j + 6)) p = true then (if M.2 1 (171 + 7 * j) = v then 1 else 0) else 0) = Int32.ofNat (cntS (M.2 1) p v (j + 1)) := by
        rw [e1]
        by_cases h1 : bt (M.2 1 (171 + 7 * j + 6)) p = true
        · rw [if_pos h1]
          by_cases h2 : M.2 1 (171 + 7 * j) = v
          · rw [if_pos h2, if_pos ⟨h1, h2⟩]
            exact ofN_succ _
          · rw [if_neg h2, if_neg (fun q => h2 q.2), Int32.add_zero]
        · rw [if_neg h1, if_neg (fun q => h1 q.1), Int32.add_zero]
      unfold mX12_strokesOn_L5
      simp only [mbnd_app, kx_in, mite_app, mret_app, ite_some, MD.cols C, MD.cnt C, hn, nle hj (by omega), if_false, hj4, didIt_run C hj4 hp, ite10_0, ite_not, e2]
    · unfold mX12_strokesOn_L5
      simp only [mbnd_app, kx_in, MD.cnt C, hn, Int32.le_refl, if_true, mret_app]
  unfold mX12_strokesOn
  rw [onC_ok C.1]
  exact bnd_ok hl
theorem rxS_le (n : Nat) : ∀ k, rxS W p n k ≤ n
  | 0 => Nat.zero_le _
  | k + 1 => by
    have ih := rxS_le n k
    have h2 := cntS_le (W := W) (p := p) (W (171 + 7 * k)) n
    have e3 : rxS W p n (k + 1) = max (rxS W p n k) (cntS W p (W (171 + 7 * k)) n) := rfl
    omega
theorem m_most (C : Mdl s 66 M) {n : Nat} (hn : M.2 1 6 = Int32.ofNat n) (hb : n ≤ 60) (hp : p < 32) : loopM (mX12_strokes_L35 66 (Int32.ofNat p)) (0, 0) s = some (.inl (Int32.ofNat (rxS (M.2 1) p n n)), s) := by
  have hl : loopM (mX12_strokes_L35 66 (Int32.ofNat p)) (Int32.ofNat (rxS (M.2 1) p n 0), 0) s = some (.inl (Int32.ofNat (rxS (M.2 1) p n n)), s) := by
    refine for_ok n (fun j => Int32.ofNat (rxS (M.2 1) p n j)) (fun j hj => ?_) ?_
    · have hj4 : j < 300 := by omega
      have e3 : rxS (M.2 1) p n (j + 1) = max (rxS (M.2 1) p n j) (cntS (M.2 1) p (M.2 1 (171 + 7 * j)) n) := rfl
      have h1 := rxS_le (W := M.2 1) (p := p) n j
      have h2 := cntS_le (W := M.2 1) (p := p) (M.2 1 (171 + 7 * j)) n
      unfold mX12_strokes_L35
      simp only [mbnd_app, kx_in, mite_app, mret_app, ite_some, MD.cols C, MD.cnt C, hn, nle hj (by omega), if_false, hj4, m_strokesOn C hn hb hp, imax_of (show rxS (M.2 1) p n j < 2 ^ 31 by omega) (show cntS (M.2 1) p (M.2 1 (171 + 7 * j)) n < 2 ^ 31 by omega), e3]
    · unfold mX12_strokes_L35
      simp only [mbnd_app, kx_in, MD.cnt C, hn, Int32.le_refl, if_true, mret_app]
  exact hl
theorem ag_strokes (E : Env s f K M c) : Ag K.2.2.2 (mX11_strokes 0 x y) (mX12_strokes 66 x y) s M [(2, 1)] := by
  obtain ⟨C, -, S, hk, hw, hc⟩ := E
  have hb : K.1 0 ≤ 16 := hk 0 (by decide)
  have hb3 : K.1 3 ≤ 60 := hk 3 (by decide)
  rcases rg_or (K.1 0) (by omega) x with h | ⟨p, hp, rfl⟩
  · refine Or.inr ⟨2, 1, 0, ?_, rfl, one_ne0, fun s' D' => ?_⟩
    · unfold mX11_strokes
      rw [onC_ok C.1, bnd_ex (need_part_no C h)]
    · unfold mX12_strokes
      exact RQ.start D' fun s1 D1 => RQ.get (noPart_no D1 S.1.1 (by omega) h) (RQ.thr D1 1 fun _ => rfl)
  have hp32 : p < 32 := by omega
  by_cases hy : y = 0
  · refine Or.inl ⟨wdeeds (M.2 1) p (K.1 3), s, ?_, ScR.rf, fun s' D' => ?_⟩
    · unfold mX11_strokes
      rw [onC_ok C.1, bnd_ok (need_part_ok C hk hp), if_pos hy, bnd_ok (c_deeds C S hk hp32)]
      rfl
    · unfold mX12_strokes
      refine RQ.start D' fun s1 D1 => RQ.get (noPart_in D1 S.1.1 (by omega) hp) (RQ.get (thr_no D1 1) ?_)
      rw [if_pos rfl, if_pos hy]
      exact RQ.get (m_deeds D1 (n := K.1 3) S.1.2.2.2.1 hb3 hp32) (RQ.val D1 rfl rfl)
  · refine Or.inl ⟨Int32.ofNat (mxS (M.2 1) p (K.1 3)), s, ?_, ScR.rf, fun s' D' => ?_⟩
    · unfold mX11_strokes
      rw [onC_ok C.1, bnd_ok (need_part_ok C hk hp), if_neg hy, bnd_ok (c_most C S hk hw hc hp32)]
      rfl
    · unfold mX12_strokes
      refine RQ.start D' fun s1 D1 => RQ.get (noPart_in D1 S.1.1 (by omega) hp) (RQ.get (thr_no D1 1) ?_)
      rw [if_pos rfl, if_neg hy, mx_rx]
      exact RQ.get (m_most D1 (n := K.1 3) S.1.2.2.2.1 hb3 hp32) (RQ.val D1 rfl rfl)
end ST
