/-! MORE CALLS THAT ASK: tool, truth, log, led, jury -/
theorem sumI_first (f : Nat → Int32) : ∀ n, sumI f (n + 1) = f 0 + sumI (fun i => f (i + 1)) n
  | 0 => by
    show 0 + f 0 = f 0 + 0
    rw [Int32.zero_add, Int32.add_zero]
  | n + 1 => by
    show sumI f (n + 1) + f (n + 1) = f 0 + (sumI (fun i => f (i + 1)) n + f (n + 1))
    rw [sumI_first f n, Int32.add_assoc]
theorem sumI_rev (F : Nat → Int32) : ∀ n, sumI (fun i => F (n - 1 - i)) n = sumI F n
  | 0 => rfl
  | n + 1 => by
    rw [sumI_first]
    show F (n + 1 - 1 - 0) + _ = sumI F n + F n
    rw [← sumI_rev F n, Int32.add_comm]
    congr 1
    exact sumI_congr fun k hk => by
      show F (n + 1 - 1 - (k + 1)) = F (n - 1 - k)
      congr 1
      omega
def wled (W : Nat → Int32) (x : Int32) (n : Nat) : Int32 := sumI (fun g => if W (771 + 5 * g + 1) = x then 1 else 0) n
section C3
variable {s : aS} {f : Int32} {K : CK} {M : MK} {W : Nat → Int32} {LW : Option (List Ln)} {c : Nat} {x y z w : Int32}
theorem Sm.logAt (S : Sm K W) (hk : kOk K) {i k : Nat} (hi : i < K.1 4) (hc : k < 5) : kget K 4 (Int32.ofNat i) (Int32.ofNat k) = W (771 + 5 * (K.1 4 - 1 - i) + k) := by
  have := hk 4 (by decide)
  have h16 : tM 4 = 60 := rfl
  have h := S.2.2.2.2.2.2.1 (K.1 4 - 1 - i) (by omega) k hc
  unfold kget
  rw [show tW 4 = 5 from rfl, tget_in hi hc (by omega) (by decide), ← h, show K.1 4 - 1 - (K.1 4 - 1 - i) = i by omega]
theorem ag_tool (E : Env s f K M c) : Ag K.2.2.2 (mX11_tool 0 x y) (mX12_tool 66 x y) s M [(2, 1), (3, 2)] := by
  obtain ⟨C, -, S, hk, hw, hc⟩ := E
  have hb1 : K.1 1 ≤ 6 := hk 1 (by decide)
  rcases rg_or (K.1 1) (by omega) x with h | ⟨t, ht, rfl⟩
  · refine Or.inr ⟨2, 1, 0, ?_, rfl, one_ne0, fun s' D' => ?_⟩
    · unfold mX11_tool
      rw [onC_ok C.1, bnd_ex (need_tool_no C h)]
    · unfold mX12_tool
      exact RQ.start D' fun s1 D1 => RQ.get (noTool_no D1 S.1.2.1 (by omega) h) (RQ.thr D1 1 fun _ => rfl)
  have cs := Sm.cols S hk
  have hto := hw.2.1 t ht
  rcases rg_or 6 (by decide) y with h | ⟨w, hw6, rfl⟩
  · have hne : ∀ k, k < 6 → ¬ y = Int32.ofNat k := fun k hk6 q => rg_in hk6 (by decide) (q ▸ h)
    refine Or.inr ⟨3, 2, 0, ?_, rfl, by decide, fun s' D' => ?_⟩
    · unfold mX11_tool
      rw [onC_ok C.1, bnd_ok (need_tool_ok C hk ht), if_neg (show ¬ y = 0 from hne 0 (by decide)), if_neg (show ¬ y = 1 from hne 1 (by decide)), if_neg (show ¬ y = 2 from hne 2 (by decide)), if_neg (show ¬ y = 3 from hne 3 (by decide)), if_neg (show ¬ y = 4 from hne 4 (by decide)), if_neg (show ¬ y = 5 from hne 5 (by decide))]
      rfl
    · unfold mX12_tool
      refine RQ.start D' fun s1 D1 => RQ.get (noTool_in D1 S.1.2.1 (by omega) ht) (RQ.get (thr_no D1 1) ?_)
      rw [if_pos rfl]
      refine RQ.get (in_app y 0 5 s1) ?_
      rw [if_pos (show y < 0 ∨ 5 < y from (rg_9 y 5 (by decide)).mp h), if_pos rfl]
      exact RQ.get (w := 1) rfl (RQ.thr D1 2 fun _ => rfl)
  · have h5 : ¬ (Int32.ofNat w < 0 ∨ 5 < Int32.ofNat w) := fun q => rg_in hw6 (by decide) ((rg_9 (Int32.ofNat w) 5 (by decide)).mpr q)
    have hcase : w = 0 ∨ w = 1 ∨ w = 2 ∨ w = 3 ∨ w = 4 ∨ w = 5 := by omega
    refine Or.inl ⟨if w = 3 then wans (M.2 1) t else if w = 4 then (wans (M.2 1) t + 10 - 1) / 10 else if w = 5 then M.2 1 (141 + 4 * t + 3) else M.2 1 (141 + 4 * t + w), s, ?_, ScR.rf, fun s' D' => ?_⟩
    · unfold mX11_tool
      rw [onC_ok C.1, bnd_ok (need_tool_ok C hk ht)]
      have ha := ans_same S hk ht hto.toolIn
      have g1 : gR 10 7 0 s = some (.inl 28, s) := gR_ok C.1 rfl
      have g2 : gR 1 1 28 s = some (.inl 31, s) := gR_ok C.2.1 rfl
      have gt : ∀ k, k < 4 → mX8_get 31 (Int32.ofNat t) (Int32.ofNat k) s = some (.inl (M.2 1 (141 + 4 * t + k)), s) := fun k hk4 => by
        rw [← cs.2.2.2.2.2.2.2.2.2.2.2.2.2.1 t k ht hk4]
        exact get_ok C.2.t1
      have an : mX1_answered 28 (Int32.ofNat t) s = some (.inl (wans (M.2 1) t), s) := by rw [← ha]; exact answered_run C.2
      have se : mX1_sentence 28 (Int32.ofNat t) s = some (.inl ((wans (M.2 1) t + 10 - 1) / 10), s) := by rw [← ha]; exact sentence_run C.2
      rcases hcase with rfl | rfl | rfl | rfl | rfl | rfl
      · rw [if_pos (by decide), bnd_ok g1, bnd_ok g2, bnd_ok (gt 0 (by decide))]; rfl
      · rw [if_neg (by decide), if_pos (by decide), bnd_ok g1, bnd_ok g2, bnd_ok (gt 1 (by decide))]; rfl
      · rw [if_neg (by decide), if_neg (by decide), if_pos (by decide), bnd_ok g1, bnd_ok g2, bnd_ok (gt 2 (by decide))]; rfl
      · rw [if_neg (by decide), if_neg (by decide), if_neg (by decide), if_pos (by decide), bnd_ok g1, bnd_ok an]; rfl
      · rw [if_neg (by decide), if_neg (by decide), if_neg (by decide), if_neg (by decide), if_pos (by decide), bnd_ok g1, bnd_ok se]; rfl
      · rw [if_neg (by decide), if_neg (by decide), if_neg (by decide), if_neg (by decide), if_neg (by decide), if_pos (by decide), bnd_ok g1, bnd_ok g2, bnd_ok (show mX8_get 31 (Int32.ofNat t) 3 s = _ from gt 3 (by decide))]; rfl
    · unfold mX12_tool
      refine RQ.start D' fun s1 D1 => RQ.get (noTool_in D1 S.1.2.1 (by omega) ht) (RQ.get (thr_no D1 1) ?_)
      rw [if_pos rfl]
      refine RQ.get (in_app _ 0 5 s1) ?_
      rw [if_neg h5, if_neg one_ne0]
      refine RQ.get (w := 0) rfl (RQ.get (thr_no D1 2) (RQ.val D1 ?_ rfl))
      rw [if_pos rfl]
      have an : mX12_answered 66 (Int32.ofNat t) s1 = some (.inl (wans (M.2 1) t), s1) := m_answered_run D1 (by omega) (hto.ok hk)
      have se : mX12_sentence 66 (Int32.ofNat t) s1 = some (.inl ((wans (M.2 1) t + 10 - 1) / 10), s1) := m_sentence_run D1 (by omega) (hto.ok hk)
      have gt : ∀ k, k < 4 → mX12_inTool 66 (Int32.ofNat t) (Int32.ofNat k) s1 = some (.inl (M.2 1 (141 + 4 * t + k)), s1) := fun k hk4 => inTool_run D1 (by omega)
      rcases hcase with rfl | rfl | rfl | rfl | rfl | rfl
      · rw [if_neg (by decide), if_neg (by decide), if_neg (by decide), bnd_ok (gt 0 (by decide))]; rfl
      · rw [if_neg (by decide), if_neg (by decide), if_neg (by decide), bnd_ok (gt 1 (by decide))]; rfl
      · rw [if_neg (by decide), if_neg (by decide), if_neg (by decide), bnd_ok (gt 2 (by decide))]; rfl
      · rw [if_pos (by decide), bnd_ok an]; rfl
      · rw [if_neg (by decide), if_pos (by decide), bnd_ok se]; rfl
      · rw [if_neg (by decide), if_neg (by decide), if_pos (by decide), bnd_ok (show mX12_inTool 66 (Int32.ofNat t) 3 s1 = _ from gt 3 (by decide))]; rfl
theorem ag_truth (E : Env s f K M c) : Ag K.2.2.2 (mX11_truth 0 x y) (mX12_truth 66 x y) s M [(2, 1), (3, 2)] := by
  obtain ⟨C, -, S, hk, hw, hc⟩ := E
  have hb3 : K.1 3 ≤ 60 := hk 3 (by decide)
  have g1 : gR 10 7 0 s = some (.inl 28, s) := gR_ok C.1 rfl
  have g2 : gR 1 3 28 s = some (.inl 35, s) := gR_ok C.2.1 rfl
  rcases rg_or (K.1 3) (by omega) x with h | ⟨d, hd, rfl⟩
  · refine Or.inr ⟨2, 1, 0, ?_, rfl, one_ne0, fun s' D' => ?_⟩
    · unfold mX11_truth
      rw [onC_ok C.1, bnd_ok g1, bnd_ok g2, bnd_ok (show mX8_has 35 x s = some (.inl 0, s) by rw [(show mX8_has 35 x s = _ from has_ok C.2.t3), if_pos (show x < 0 ∨ Int32.ofNat (K.1 3) ≤ x from h)]), if_pos rfl]
      rfl
    · unfold mX12_truth
      refine RQ.start D' fun s1 D1 => RQ.get (deeds_run D1) (RQ.get (in_app x 0 _ s1) ?_)
      simp only [mint_2, S.1.2.2.2.1, sub1_lt (show K.1 3 < 2 ^ 31 by omega), if_pos (show x < 0 ∨ Int32.ofNat (K.1 3) ≤ x from h), if_true, mret_mbnd]
      exact RQ.thr D1 1 fun _ => rfl
  have hin : ¬ (Int32.ofNat d < 0 ∨ Int32.ofNat (K.1 3) ≤ Int32.ofNat d) := rg_in hd (by omega)
  have hasd : mX8_has 35 (Int32.ofNat d) s = some (.inl 1, s) := by rw [(show mX8_has 35 (Int32.ofNat d) s = _ from has_ok C.2.t3), if_neg hin]
  rcases rg_or 7 (by decide) y with h | ⟨w, hw7, rfl⟩
  · refine Or.inr ⟨3, 2, 0, ?_, rfl, by decide, fun s' D' => ?_⟩
    · unfold mX11_truth
      rw [onC_ok C.1, bnd_ok g1, bnd_ok g2, bnd_ok hasd, if_neg one_ne0, bnd_ex (show mX11_needWhat y 7 s = _ from (need_what s y 7).1 h)]
    · unfold mX12_truth
      refine RQ.start D' fun s1 D1 => RQ.get (deeds_run D1) (RQ.get (in_app _ 0 _ s1) ?_)
      simp only [mint_2, S.1.2.2.2.1, sub1_lt (show K.1 3 < 2 ^ 31 by omega), if_neg hin, one_ne0, if_false, mret_mbnd]
      refine RQ.get (thr_no D1 1) ?_
      rw [if_pos rfl]
      refine RQ.get (in_app y 0 6 s1) ?_
      rw [if_pos (show y < 0 ∨ 6 < y from (rg_9 y 6 (by decide)).mp h), if_pos rfl]
      exact RQ.get (w := 1) rfl (RQ.thr D1 2 fun _ => rfl)
  · refine Or.inl ⟨M.2 1 (171 + 7 * d + w), s, ?_, ScR.rf, fun s' D' => ?_⟩
    · unfold mX11_truth
      rw [onC_ok C.1, bnd_ok g1, bnd_ok g2, bnd_ok hasd, if_neg one_ne0, bnd_ok (show mX11_needWhat (Int32.ofNat w) 7 s = _ from (need_what s (Int32.ofNat w) 7).2 (rg_in hw7 (by decide))), bnd_ok g1, bnd_ok g2, bnd_ok (show mX8_get 35 (Int32.ofNat d) (Int32.ofNat w) s = some (.inl (M.2 1 (171 + 7 * d + w)), s) by rw [← S.truth hk hd hw7]; exact get_ok C.2.t3)]
      rfl
    · unfold mX12_truth
      refine RQ.start D' fun s1 D1 => RQ.get (deeds_run D1) (RQ.get (in_app _ 0 _ s1) ?_)
      simp only [mint_2, S.1.2.2.2.1, sub1_lt (show K.1 3 < 2 ^ 31 by omega), if_neg hin, one_ne0, if_false, mret_mbnd]
      refine RQ.get (thr_no D1 1) ?_
      rw [if_pos rfl]
      refine RQ.get (in_app _ 0 6 s1) ?_
      rw [if_neg (show ¬ (Int32.ofNat w < 0 ∨ 6 < Int32.ofNat w) from fun q => rg_in hw7 (by decide) ((rg_9 (Int32.ofNat w) 6 (by decide)).mpr q)), if_neg one_ne0]
      refine RQ.get (w := 0) rfl (RQ.get (thr_no D1 2) ?_)
      rw [if_pos rfl]
      exact RQ.get (ofTruth_run D1 (by omega)) (RQ.val D1 rfl rfl)
theorem ag_log (E : Env s f K M c) : Ag K.2.2.2 (mX11_log 0 x y) (mX12_log 66 x y) s M [(3, 1)] := by
  obtain ⟨C, -, S, hk, hw, hc⟩ := E
  have hb4 : K.1 4 ≤ 60 := hk 4 (by decide)
  have g1 : gR 10 7 0 s = some (.inl 28, s) := gR_ok C.1 rfl
  have g2 : gR 1 4 28 s = some (.inl 37, s) := gR_ok C.2.1 rfl
  have g3 : gI 8 3 37 s = some (.inl (Int32.ofNat (K.1 4)), s) := gI_ok C.2.t4.1 rfl
  rcases rg_or 5 (by decide) y with h | ⟨w, hw5, rfl⟩
  · refine Or.inr ⟨3, 1, 0, ?_, rfl, one_ne0, fun s' D' => ?_⟩
    · unfold mX11_log
      rw [onC_ok C.1, bnd_ex (show mX11_needWhat y 5 s = _ from (need_what s y 5).1 h)]
    · unfold mX12_log
      refine RQ.start D' fun s1 D1 => RQ.get (in_app y 0 4 s1) ?_
      rw [if_pos (show y < 0 ∨ 4 < y from (rg_9 y 4 (by decide)).mp h), if_pos rfl]
      exact RQ.get (w := 1) rfl (RQ.thr D1 1 fun _ => rfl)
  have nw : mX11_needWhat (Int32.ofNat w) 5 s = some (.inl (), s) := (need_what s (Int32.ofNat w) 5).2 (rg_in hw5 (by decide))
  have n4 : ¬ (Int32.ofNat w < 0 ∨ 4 < Int32.ofNat w) := fun q => rg_in hw5 (by decide) ((rg_9 (Int32.ofNat w) 4 (by decide)).mpr q)
  rcases rg_or (K.1 4) (by omega) x with h | ⟨g, hg, rfl⟩
  · refine Or.inl ⟨-99, s, ?_, ScR.rf, fun s' D' => ?_⟩
    · unfold mX11_log
      rw [onC_ok C.1, bnd_ok nw]
      by_cases h1 : x < 0
      · rw [if_pos h1]; rfl
      · rw [if_neg h1, bnd_ok g1, bnd_ok g2, bnd_ok g3, if_neg (Int32.not_lt.mpr (h.elim (fun q => absurd q h1) id))]; rfl
    · unfold mX12_log
      refine RQ.start D' fun s1 D1 => RQ.get (in_app _ 0 4 s1) ?_
      rw [if_neg n4, if_neg one_ne0]
      refine RQ.get (w := 0) rfl (RQ.get (thr_no D1 1) (RQ.val D1 ?_ rfl))
      simp only [if_true, mbnd_app, kx_in, MD.refs D1, MD.wl D1, mint_2, S.1.2.2.2.2.1, in_app, sub1_lt (show K.1 4 < 2 ^ 31 by omega), if_pos (show x < 0 ∨ Int32.ofNat (K.1 4) ≤ x from h), mret_app]
  · refine Or.inl ⟨M.2 1 (771 + 5 * g + w), s, ?_, ScR.rf, fun s' D' => ?_⟩
    · have e : Int32.ofNat (K.1 4) - 1 - Int32.ofNat g = Int32.ofNat (K.1 4 - 1 - g) := by
        have h1 := ofN_sub (n := K.1 4) (m := 1) (by omega)
        rw [show Int32.ofNat (K.1 4) - 1 = Int32.ofNat (K.1 4 - 1) from h1]
        exact ofN_sub (by omega)
      have hl := S.logAt hk (i := K.1 4 - 1 - g) (k := w) (by omega) hw5
      rw [show K.1 4 - 1 - (K.1 4 - 1 - g) = g by omega] at hl
      unfold mX11_log
      rw [onC_ok C.1, bnd_ok nw, if_neg (ofN_nn (by omega)), bnd_ok g1, bnd_ok g2, bnd_ok g3, if_pos ((ofN_lt (by omega) (by omega)).mpr hg), bnd_ok g1, bnd_ok g2, bnd_ok g1, bnd_ok g2, bnd_ok g3, e, bnd_ok (show mX8_get 37 _ _ s = some (.inl (M.2 1 (771 + 5 * g + w)), s) by rw [← hl]; exact get_ok C.2.t4)]
      rfl
    · unfold mX12_log
      refine RQ.start D' fun s1 D1 => RQ.get (in_app _ 0 4 s1) ?_
      rw [if_neg n4, if_neg one_ne0]
      refine RQ.get (w := 0) rfl (RQ.get (thr_no D1 1) (RQ.val D1 ?_ rfl))
      simp only [if_true, mbnd_app, kx_in, MD.refs D1, MD.wl D1, mint_2, S.1.2.2.2.2.1, in_app, sub1_lt (show K.1 4 < 2 ^ 31 by omega), if_neg (rg_in hg (show K.1 4 < 2 ^ 31 by omega)), one_ne0, if_false, ofLog_run D1 (show 5 * g + w < 1900 by omega), mret_app]
theorem c_led (C : CC s f K) (S : Sm K W) (hk : kOk K) : loopM (mX11_led_L9 0 x) (0, 0) s = some (.inl (wled W x (K.1 4)), s) := by
  have hb : K.1 4 ≤ 60 := hk 4 (by decide)
  have hl : loopM (mX11_led_L9 0 x) (sumI (fun i => if W (771 + 5 * (K.1 4 - 1 - i) + 1) = x then 1 else 0) 0, 0) s = some (.inl (sumI (fun i => if W (771 + 5 * (K.1 4 - 1 - i) + 1) = x then 1 else 0) (K.1 4)), s) := by
    refine for_ok (K.1 4) (fun j => sumI (fun i => if W (771 + 5 * (K.1 4 - 1 - i) + 1) = x then 1 else 0) j) (fun j hj => ?_) ?_
    · have hg : mX8_get 37 (Int32.ofNat j) 1 s = some (.inl (W (771 + 5 * (K.1 4 - 1 - j) + 1)), s) := by
        rw [← S.logAt hk hj (k := 1) (by decide)]
        exact get_ok C.2.t4
      unfold mX11_led_L9
      simp only [mbnd_app, kx_in, mite_app, mret_app, ite_some, CC.refs C, (CC.tabs C).2.2.2.2.1, nle hj (by omega), if_false, if_true, hg, add_ite1]
      rfl
    · unfold mX11_led_L9
      simp only [mbnd_app, kx_in, CC.all C, Int32.le_refl, if_true, mret_app]
  rw [sumI_rev (fun g => if W (771 + 5 * g + 1) = x then 1 else 0)] at hl
  exact hl
theorem m_led (C : Mdl s 66 M) {n : Nat} (hn : M.2 1 10 = Int32.ofNat n) (hb : n ≤ 60) : loopM (mX12_led_L24 66 x) (0, 0) s = some (.inl (wled (M.2 1) x n), s) := by
  have hl : loopM (mX12_led_L24 66 x) (wled (M.2 1) x 0, 0) s = some (.inl (wled (M.2 1) x n), s) := by
    refine for_ok n (fun j => wled (M.2 1) x j) (fun j hj => ?_) ?_
    · have ho : mX12_ofLog 66 (Int32.ofNat j) 1 s = some (.inl (M.2 1 (771 + 5 * j + 1)), s) := ofLog_run C (c := 1) (by omega)
      unfold mX12_led_L24
      simp only [mbnd_app, kx_in, mite_app, mret_app, ite_some, MD.refs C, MD.wl C, hn, nle hj (by omega), if_false, if_true, ho]
      rfl
    · unfold mX12_led_L24
      simp only [mbnd_app, kx_in, MD.refs C, MD.wl C, hn, Int32.le_refl, if_true, mret_app]
  exact hl
theorem ag_led (E : Env s f K M c) : Ag K.2.2.2 (mX11_led 0 x) (mX12_led 66 x) s M [(2, 1)] := by
  obtain ⟨C, -, S, hk, hw, hc⟩ := E
  have hb : K.1 0 ≤ 16 := hk 0 (by decide)
  have hb4 : K.1 4 ≤ 60 := hk 4 (by decide)
  rcases rg_or (K.1 0) (by omega) x with h | ⟨p, hp, rfl⟩
  · refine Or.inr ⟨2, 1, 0, ?_, rfl, one_ne0, fun s' D' => ?_⟩
    · unfold mX11_led
      rw [onC_ok C.1, bnd_ex (need_part_no C h)]
    · unfold mX12_led
      exact RQ.start D' fun s1 D1 => RQ.get (noPart_no D1 S.1.1 (by omega) h) (RQ.thr D1 1 fun _ => rfl)
  refine Or.inl ⟨wled (M.2 1) (Int32.ofNat p) (K.1 4), s, ?_, ScR.rf, fun s' D' => ?_⟩
  · unfold mX11_led
    rw [onC_ok C.1, bnd_ok (need_part_ok C hk hp), bnd_ok (c_led C S hk)]
    rfl
  · unfold mX12_led
    refine RQ.start D' fun s1 D1 => RQ.get (noPart_in D1 S.1.1 (by omega) hp) (RQ.get (thr_no D1 1) ?_)
    rw [if_pos rfl]
    exact RQ.get (m_led D1 (n := K.1 4) S.1.2.2.2.2.1 hb4) (RQ.val D1 rfl rfl)
theorem c_jury (C : CC s f K) (S : Sm K W) (hk : kOk K) (hw : wOk K W c) {t : Nat} : loopM (mX11_jury_L20 0 x (wans W t)) (0, 0) s = some (.inl (wjury W x t (K.1 1)), s) := by
  have hb : K.1 1 ≤ 6 := hk 1 (by decide)
  have hl : loopM (mX11_jury_L20 0 x (wans W t)) (wjury W x t 0, 0) s = some (.inl (wjury W x t (K.1 1)), s) := by
    refine for_ok (K.1 1) (fun j => wjury W x t j) (fun j hj => ?_) ?_
    · have hj3 : j < 32 := by omega
      unfold mX11_jury_L20
      simp only [mbnd_app, kx_in, mite_app, mret_app, ite_some, CC.all C, nle hj (by omega), if_false, if_true, inSet_app, inSet_0, hj3, ite_not, ans_same S hk hj (hw.2.1 j hj).toolIn, add_ite1]
      rfl
    · unfold mX11_jury_L20
      simp only [mbnd_app, kx_in, CC.all C, Int32.le_refl, if_true, mret_app]
  exact hl
theorem m_jury (C : Mdl s 66 M) {n t : Nat} (hn : M.2 1 1 = Int32.ofNat n) (hb : n ≤ 6) (ht : t < n) (hto : ∀ j, j < n → toolOk (M.2 1) j) : loopM (mX12_jury_L25 66 x (Int32.ofNat t)) (0, 0) s = some (.inl (wjury (M.2 1) x t n), s) := by
  have hl : loopM (mX12_jury_L25 66 x (Int32.ofNat t)) (wjury (M.2 1) x t 0, 0) s = some (.inl (wjury (M.2 1) x t n), s) := by
    refine for_ok n (fun j => wjury (M.2 1) x t j) (fun j hj => ?_) ?_
    · have hj3 : j < 32 := by omega
      have a1 := m_answered_run C (t := j) (by omega) (hto j hj)
      have a2 := m_answered_run C (t := t) (by omega) (hto t ht)
      unfold mX12_jury_L25
      by_cases e : j = t
      · subst e
        simp only [mbnd_app, kx_in, mite_app, mret_app, ite_some, MD.all C, hn, nle hj (by omega), if_false, if_true, has_app, has_bt, hj3, ite10_0, ite_not, add_ite1]
        show some (Sum.inl (Sum.inl (_ + (if bt x j = true then -1 else 0), _)), s) = some (Sum.inl (Sum.inl (wjury (M.2 1) x j j + (if bt x j = true then (if wans (M.2 1) j ≤ wans (M.2 1) j then -1 else 1) else 0), _)), s)
        rw [if_pos (Int32.le_refl (wans (M.2 1) j))]
      · have e9 : ¬ Int32.ofNat j = Int32.ofNat t := fun q => e ((ofN_inj (by omega) (by omega)).mp q)
        simp only [mbnd_app, kx_in, mite_app, mret_app, ite_some, MD.all C, hn, nle hj (by omega), if_false, if_true, has_app, has_bt, hj3, ite10_0, ite_not, e9, a1, a2, add_ite1]
        rfl
    · unfold mX12_jury_L25
      simp only [mbnd_app, kx_in, MD.all C, hn, Int32.le_refl, if_true, mret_app]
  exact hl
theorem ag_jury (E : Env s f K M c) : Ag K.2.2.2 (mX11_jury 0 x y) (mX12_jury 66 x y) s M [(2, 1)] := by
  obtain ⟨C, -, S, hk, hw, hc⟩ := E
  have hb1 : K.1 1 ≤ 6 := hk 1 (by decide)
  rcases rg_or (K.1 1) (by omega) y with h | ⟨t, ht, rfl⟩
  · refine Or.inr ⟨2, 1, 0, ?_, rfl, one_ne0, fun s' D' => ?_⟩
    · unfold mX11_jury
      rw [onC_ok C.1, bnd_ex (need_tool_no C h)]
    · unfold mX12_jury
      exact RQ.start D' fun s1 D1 => RQ.get (noTool_no D1 S.1.2.1 (by omega) h) (RQ.thr D1 1 fun _ => rfl)
  refine Or.inl ⟨if wjury (M.2 1) x t (K.1 1) ≤ 0 then 0 else 1, s, ?_, ScR.rf, fun s' D' => ?_⟩
  · unfold mX11_jury
    rw [onC_ok C.1, bnd_ok (need_tool_ok C hk ht)]
    simp only [mbnd_app, kx_in, CC.all C, ans_same S hk ht (hw.2.1 t ht).toolIn, c_jury C S hk hw, mite_app, mret_app, ite_some]
  · unfold mX12_jury
    refine RQ.start D' fun s1 D1 => RQ.get (noTool_in D1 S.1.2.1 (by omega) ht) (RQ.get (thr_no D1 1) ?_)
    rw [if_pos rfl]
    refine RQ.get (m_jury D1 (n := K.1 1) S.1.2.1 hb1 ht (fun j hj => (hw.2.1 j hj).ok hk)) (RQ.val D1 ?_ rfl)
    show (if wjury (M.2 1) x t (K.1 1) ≤ 0 then mret 0 else mret 1 : MM Int32) s1 = _
    split <;> rfl
end C3
