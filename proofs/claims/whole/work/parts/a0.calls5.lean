/-! MORE CALLS THAT ASK: part, culprits -/
theorem i64_0 {x : Int32} (h : ¬ x = 0) : ¬ x.toInt64 = 0 := fun q => by
  have e := congrArg Int64.toInt q
  rw [Int32.toInt_toInt64] at e
  exact h (Int32.toInt_inj.mp e)
def wshare (W : Nat → Int32) (p : Nat) : Int32 := if 0 ≤ W (13 + 8 * p + 6) then (if wans W (W (13 + 8 * p + 6)).toNatClampNeg = 0 then 0 else ((10000 * (W (13 + 8 * p + 3)).toInt64) / (wans W (W (13 + 8 * p + 6)).toNatClampNeg).toInt64).toInt32) else 0
section C5
variable {s : aS} {f : Int32} {K : CK} {M : MK} {W : Nat → Int32} {LW : Option (List Ln)} {c : Nat} {x y z w : Int32}
theorem home_or (hk : kOk K) (hw : wOk K W c) {p : Nat} (hp : p < K.1 0) : W (13 + 8 * p + 6) = -1 ∨ ∃ t, t < K.1 1 ∧ t < 6 ∧ W (13 + 8 * p + 6) = Int32.ofNat t := by
  have hb1 : K.1 1 ≤ 6 := hk 1 (by decide)
  exact (hw.1 p hp).2.2.2.2.2.2.imp id fun ⟨t, h1, h2, _⟩ => ⟨t, h1, by omega, h2⟩
theorem c_share (C : CC s f K) (S : Sm K W) (hk : kOk K) (hw : wOk K W c) {p : Nat} (hp : p < K.1 0) : mX11_shareOf 0 (Int32.ofNat p) s = some (.inl (wshare W p), s) := by
  have cs := Sm.cols S hk
  unfold mX11_shareOf wshare
  rcases home_or hk hw hp with h | ⟨t, ht, ht6, h⟩
  · have h9 : ¬ (0 : Int32) ≤ -1 := by decide
    simp only [mbnd_app, kx_in, CC.all C, cs, hp, h, if_true, one_ne0, if_false, mret_app, h9]
  · have h9 := le0_ofN (p := t) (by omega)
    have hn := ofN_ne1 (p := t) (by omega)
    have hcl : (Int32.ofNat t).toNatClampNeg = t := ofN_cl (by omega)
    have ha := ans_same S hk ht (hw.2.1 t ht).toolIn
    have hnn := (wans_nn hw ht).nn (by decide)
    by_cases h0 : wans W t = 0
    · have hlt : ¬ (0 : Int32) < 0 := by decide
      simp only [mbnd_app, kx_in, CC.all C, cs, hp, h, hn, if_true, if_false, h9, hcl, ha, h0, hlt, mret_app]
    · have hlt : 0 < wans W t := Int32.lt_of_le_of_ne (Int32.not_lt.mp hnn) (fun q => h0 q.symm)
      have hz : nzL (wans W t).toInt64 s = some (.inl (), s) := if_neg (i64_0 h0)
      simp only [mbnd_app, kx_in, CC.all C, cs, hp, h, hn, if_true, if_false, h9, hcl, ha, h0, hlt, hz, mret_app, Int64.mul_comm]
theorem m_share (C : Mdl s 66 M) (hk : kOk K) (hw : wOk K (M.2 1) c) {p : Nat} (hp : p < K.1 0) : mX12_shareOf 66 (Int32.ofNat p) s = some (.inl (wshare (M.2 1) p), s) := by
  have hb : K.1 0 ≤ 16 := hk 0 (by decide)
  have hp3 : p < 300 := by omega
  unfold mX12_shareOf wshare
  rcases home_or hk hw hp with h | ⟨t, ht, ht6, h⟩
  · have h9 : ¬ (0 : Int32) ≤ -1 := by decide
    simp only [mbnd_app, kx_in, MD.all C, hp3, h, h9, if_false, one_ne0, mret_app, if_true]
  · have h9 := le0_ofN (p := t) (by omega)
    have hcl : (Int32.ofNat t).toNatClampNeg = t := ofN_cl (by omega)
    have ha := m_answered_run C (t := t) ht6 ((hw.2.1 t ht).ok hk)
    by_cases h0 : wans (M.2 1) t = 0
    · simp only [mbnd_app, kx_in, MD.all C, hp3, h, h9, if_true, ha, hcl, h0, mret_app]
    · have hz : nzL (wans (M.2 1) t).toInt64 s = some (.inl (), s) := if_neg (i64_0 h0)
      simp only [mbnd_app, kx_in, MD.all C, hp3, h, h9, if_true, ha, hcl, h0, if_false, hz, mret_app]
theorem ag_part (E : Env s f K M c) : Ag K.2.2.2 (mX11_part 0 x y) (mX12_part 66 x y) s M [(2, 1), (3, 2)] := by
  obtain ⟨C, -, S, hk, hw, hc⟩ := E
  have hb : K.1 0 ≤ 16 := hk 0 (by decide)
  rcases rg_or (K.1 0) (by omega) x with h | ⟨p, hp, rfl⟩
  · refine Or.inr ⟨2, 1, 0, ?_, rfl, one_ne0, fun s' D' => ?_⟩
    · unfold mX11_part
      rw [onC_ok C.1, bnd_ex (need_part_no C h)]
    · unfold mX12_part
      exact RQ.start D' fun s1 D1 => RQ.get (noPart_no D1 S.1.1 (by omega) h) (RQ.thr D1 1 fun _ => rfl)
  by_cases h8 : y = 8
  · subst h8
    refine Or.inl ⟨wshare (M.2 1) p, s, ?_, ScR.rf, fun s' D' => ?_⟩
    · unfold mX11_part
      rw [onC_ok C.1, bnd_ok (need_part_ok C hk hp), if_pos rfl, bnd_ok (c_share C S hk hw hp)]
      rfl
    · unfold mX12_part
      refine RQ.start D' fun s1 D1 => RQ.get (noPart_in D1 S.1.1 (by omega) hp) (RQ.get (thr_no D1 1) ?_)
      rw [if_pos rfl]
      refine RQ.get (in_app 8 0 8 s1) ?_
      rw [if_neg (by decide)]
      refine RQ.get (w := 0) rfl (RQ.get (thr_no D1 2) ?_)
      rw [if_pos rfl, if_pos rfl]
      exact RQ.get (m_share D1 hk hw hp) (RQ.val D1 rfl rfl)
  rcases rg_or 8 (by decide) y with h | ⟨w, hw8, rfl⟩
  · refine Or.inr ⟨3, 2, 0, ?_, rfl, by decide, fun s' D' => ?_⟩
    · unfold mX11_part
      rw [onC_ok C.1, bnd_ok (need_part_ok C hk hp), if_neg h8, bnd_ex (show mX11_needWhat y 8 s = _ from (need_what s y 8).1 h)]
    · unfold mX12_part
      refine RQ.start D' fun s1 D1 => RQ.get (noPart_in D1 S.1.1 (by omega) hp) (RQ.get (thr_no D1 1) ?_)
      have h9 : y < 0 ∨ 8 < y := h.imp id fun q => by
        rw [i32_lt]
        have h1 := Int32.le_iff_toInt_le.mp q
        have e8 : (Int32.ofNat 8).toInt = 8 := rfl
        have e8' : (8 : Int32).toInt = 8 := rfl
        have h2 : ¬ y.toInt = 8 := fun q2 => h8 (Int32.toInt_inj.mp (q2.trans e8'.symm))
        omega
      rw [if_pos rfl]
      refine RQ.get (in_app y 0 8 s1) ?_
      rw [if_pos h9, if_pos rfl]
      exact RQ.get (w := 1) rfl (RQ.thr D1 2 fun _ => rfl)
  · refine Or.inl ⟨M.2 1 (13 + 8 * p + w), s, ?_, ScR.rf, fun s' D' => ?_⟩
    · unfold mX11_part
      rw [onC_ok C.1, bnd_ok (need_part_ok C hk hp), if_neg h8, bnd_ok (show mX11_needWhat (Int32.ofNat w) 8 s = _ from (need_what s (Int32.ofNat w) 8).2 (rg_in hw8 (by decide))), bnd_ok (show gR 10 7 0 s = some (.inl 28, s) from gR_ok C.1 rfl), bnd_ok (show gR 1 0 28 s = some (.inl 29, s) from gR_ok C.2.1 rfl), bnd_ok (show mX8_get 29 (Int32.ofNat p) (Int32.ofNat w) s = some (.inl (M.2 1 (13 + 8 * p + w)), s) by rw [← S.part hk hp hw8]; exact get_ok C.2.t0)]
      rfl
    · unfold mX12_part
      refine RQ.start D' fun s1 D1 => RQ.get (noPart_in D1 S.1.1 (by omega) hp) (RQ.get (thr_no D1 1) ?_)
      rw [if_pos rfl]
      refine RQ.get (in_app _ 0 8 s1) ?_
      have h9 : ¬ (Int32.ofNat w < 0 ∨ 8 < Int32.ofNat w) := fun q => q.elim (ofN_nn (by omega)) fun q => absurd ((ofN_lt (n := 8) (m := w) (by decide) (by omega)).mp q) (by omega)
      rw [if_neg h9, if_neg one_ne0]
      refine RQ.get (w := 0) rfl (RQ.get (thr_no D1 2) ?_)
      rw [if_pos rfl, if_neg h8]
      exact RQ.get (of_run D1 (by omega)) (RQ.val D1 rfl rfl)
theorem Sm.sheetAt (S : Sm K W) (hk : kOk K) {i t : Nat} (hi : i < K.1 5) (hc : t < 6) : kget K 5 (Int32.ofNat i) (Int32.ofNat t) = W (591 + 6 * (K.1 5 - 1 - i) + t) := by
  have := hk 5 (by decide)
  have h16 : tM 5 = 30 := rfl
  have h := S.2.2.2.2.2.2.2 (K.1 5 - 1 - i) (by omega) t hc
  unfold kget
  rw [show tW 5 = 6 from rfl, tget_in hi hc (by omega) (by decide), ← h, show K.1 5 - 1 - (K.1 5 - 1 - i) = i by omega]
theorem c_marksNow (C : CC s f K) (S : Sm K W) (hk : kOk K) (hw : wOk K W c) : mX11_marksNow 0 x s = some (.inl (wmarks W x (K.1 1)), s) := by
  have hb : K.1 1 ≤ 6 := hk 1 (by decide)
  have hl : loopM (mX11_marksNow_L4 0 x) (wmarks W x 0, 0) s = some (.inl (wmarks W x (K.1 1)), s) := by
    refine for_ok (K.1 1) (fun j => wmarks W x j) (fun j hj => ?_) ?_
    · have hm := mark_same S hk hj (hw.2.1 j hj).toolIn
      unfold mX11_marksNow_L4
      simp only [mbnd_app, kx_in, mite_app, mret_app, ite_some, CC.all C, nle hj (by omega), if_false, hm]
      rfl
    · unfold mX11_marksNow_L4
      simp only [mbnd_app, kx_in, CC.all C, Int32.le_refl, if_true, mret_app]
  unfold mX11_marksNow
  rw [onC_ok C.1]
  exact bnd_ok hl
theorem orI_more {F : Nat → Int32} {n : Nat} : ∀ m, (∀ k, n ≤ k → k < n + m → F k = 0) → orI F (n + m) = orI F n
  | 0, _ => rfl
  | m + 1, h => by
    show orI F (n + m) ||| F (n + m) = _
    rw [orI_more m (fun k h1 h2 => h k h1 (by omega)), h (n + m) (by omega) (by omega), Int32.or_zero]
theorem c_marksThen (C : CC s f K) (S : Sm K W) (hk : kOk K) (hw : wOk K W c) {g : Nat} (hg : g < K.1 5) (hx : ¬ x = -1) : mX11_marksThen 0 x (Int32.ofNat (K.1 5 - 1 - g)) s = some (.inl (wculp W x g (K.1 1)), s) := by
  have hb : K.1 1 ≤ 6 := hk 1 (by decide)
  have hb5 : K.1 5 ≤ 30 := hk 5 (by decide)
  have hl : loopM (mX11_marksThen_L5 0 x (Int32.ofNat (K.1 5 - 1 - g))) (wculp W x g 0, 0) s = some (.inl (wculp W x g 6), s) := by
    refine for_ok 6 (fun j => wculp W x g j) (fun j hj => ?_) ?_
    · have hgt : mX8_get 39 (Int32.ofNat (K.1 5 - 1 - g)) (Int32.ofNat j) s = some (.inl (W (591 + 6 * g + j)), s) := by
        have h := S.sheetAt hk (i := K.1 5 - 1 - g) (t := j) (by omega) hj
        rw [show K.1 5 - 1 - (K.1 5 - 1 - g) = g by omega] at h
        rw [← h]
        exact get_ok C.2.t5
      have n6 : ¬ (6 : Int32) ≤ Int32.ofNat j := nle (n := 6) hj (by decide)
      unfold mX11_marksThen_L5
      simp only [if_neg n6, mbnd_app, kx_in, mite_app, mret_app, ite_some, CC.refs C, hgt]
      rfl
    · unfold mX11_marksThen_L5
      rw [if_pos (show (6 : Int32) ≤ Int32.ofNat 6 by decide)]
      rfl
  have hmore : wculp W x g 6 = wculp W x g (K.1 1) := by
    have := orI_more (F := fun t => if W (591 + 6 * g + t) = x then 1 <<< (Int32.ofNat t &&& (31 : Int32)) else 0) (n := K.1 1) (6 - K.1 1) (fun k h1 h2 => by
      show (if W (591 + 6 * g + k) = x then _ else _) = _
      rw [hw.2.2.2.2.2.1 g hg k h1 (by omega), if_neg (fun q => hx q.symm)])
    rw [show K.1 1 + (6 - K.1 1) = 6 by omega] at this
    exact this
  rw [hmore] at hl
  unfold mX11_marksThen
  rw [onC_ok C.1]
  exact bnd_ok hl
theorem rg10 {x : Int32} (h : ¬ (x < 0 ∨ 9 < x)) : ∃ e, e ≤ 9 ∧ x = Int32.ofNat e := by
  rcases rg_or 10 (by decide) x with q | ⟨e, h1, h2⟩
  · exact absurd ((rg_9 x 9 (by decide)).mp q) h
  · exact ⟨e, by omega, h2⟩
theorem m_culpNow (C : Mdl s 66 M) {n e g : Nat} (hn : M.2 1 1 = Int32.ofNat n) (hb : n ≤ 6) (hto : ∀ j, j < n → toolOk (M.2 1) j) : loopM (mX12_culprits_L82 66 (Int32.ofNat e) (Int32.ofNat g) (-1)) (0, 0) s = some (.inl (wmarks (M.2 1) (Int32.ofNat (10 * e + g)) n), s) := by
  have hl : loopM (mX12_culprits_L82 66 (Int32.ofNat e) (Int32.ofNat g) (-1)) (wmarks (M.2 1) (Int32.ofNat (10 * e + g)) 0, 0) s = some (.inl (wmarks (M.2 1) (Int32.ofNat (10 * e + g)) n), s) := by
    refine for_ok n (fun j => wmarks (M.2 1) (Int32.ofNat (10 * e + g)) j) (fun j hj => ?_) ?_
    · have hm := m_markNow_run C (t := j) (by omega) (hto j hj)
      have e1 : (10 : Int32) * Int32.ofNat e + Int32.ofNat g = Int32.ofNat (10 * e + g) := by
        rw [← ofN_add, ← ofN_mul]
        rfl
      have h9 : ¬ (0 : Int32) ≤ -1 := by decide
      unfold mX12_culprits_L82
      simp only [mbnd_app, kx_in, mite_app, mret_app, ite_some, MD.cnt C, hn, nle hj (by omega), if_false, h9, hm, e1]
      rfl
    · unfold mX12_culprits_L82
      simp only [mbnd_app, kx_in, MD.cnt C, hn, Int32.le_refl, if_true, mret_app]
  exact hl
theorem m_culpThen (C : Mdl s 66 M) {n e g a : Nat} (hn : M.2 1 1 = Int32.ofNat n) (hb : n ≤ 6) (ha : a < 30) : loopM (mX12_culprits_L82 66 (Int32.ofNat e) (Int32.ofNat g) (Int32.ofNat a)) (0, 0) s = some (.inl (wculp (M.2 1) (Int32.ofNat (10 * e + g)) a n), s) := by
  have hl : loopM (mX12_culprits_L82 66 (Int32.ofNat e) (Int32.ofNat g) (Int32.ofNat a)) (wculp (M.2 1) (Int32.ofNat (10 * e + g)) a 0, 0) s = some (.inl (wculp (M.2 1) (Int32.ofNat (10 * e + g)) a n), s) := by
    refine for_ok n (fun j => wculp (M.2 1) (Int32.ofNat (10 * e + g)) a j) (fun j hj => ?_) ?_
    · have e1 : (10 : Int32) * Int32.ofNat e + Int32.ofNat g = Int32.ofNat (10 * e + g) := by
        rw [← ofN_add, ← ofN_mul]
        rfl
      have e2 : (591 : Int32) + 6 * Int32.ofNat a + Int32.ofNat j = Int32.ofNat (591 + 6 * a + j) := at_lin 591 6 a j
      have h9 := le0_ofN (p := a) (by omega)
      have l1 : 591 + 6 * a + j < 2769 := by omega
      unfold mX12_culprits_L82
      simp only [mbnd_app, kx_in, mite_app, mret_app, ite_some, MD.cnt C, MD.refs C, hn, nle hj (by omega), if_false, h9, if_true, e2, (MD.wl C).1 _ l1, e1]
      rfl
    · unfold mX12_culprits_L82
      simp only [mbnd_app, kx_in, MD.cnt C, hn, Int32.le_refl, if_true, mret_app]
  exact hl
theorem ag_culprits (E : Env s f K M c) : Ag K.2.2.2 (mX11_culprits 0 x y z) (mX12_culprits 66 x y z) s M [(0, 1)] := by
  obtain ⟨C, -, S, hk, hw, hc⟩ := E
  have hb1 : K.1 1 ≤ 6 := hk 1 (by decide)
  have hb5 : K.1 5 ≤ 30 := hk 5 (by decide)
  obtain ⟨D, hD, hD5⟩ := hw.2.2.2.2.2.2.2.2.1
  have g1 : gR 10 7 0 s = some (.inl 28, s) := gR_ok C.1 rfl
  have g5 : gR 1 5 28 s = some (.inl 39, s) := gR_ok C.2.1 rfl
  have g8 : gI 1 8 28 s = some (.inl (Int32.ofNat D), s) := by
    rw [← hD5, ← (Sm.ints S).2.1]
    exact gI_ok C.2.1 rfl
  have gr : gI 8 3 39 s = some (.inl (Int32.ofNat (K.1 5)), s) := gI_ok C.2.t5.1 rfl
  by_cases hx : x < 0 ∨ 9 < x
  · refine Or.inr ⟨0, 1, 0, ?_, rfl, one_ne0, fun s' D' => ?_⟩
    · have hE : mX11_needEdge x s = some (.inr 0, thS s) := by
        unfold mX11_needEdge
        by_cases h1 : x < 0
        · rw [if_pos h1]; rfl
        · rw [if_neg h1, if_neg (Int32.not_le.mpr (hx.elim (fun q => absurd q h1) id))]; rfl
      unfold mX11_culprits
      rw [onC_ok C.1, bnd_ex hE]
    · unfold mX12_culprits
      refine RQ.start D' fun s1 D1 => RQ.get (in_app x 0 9 s1) ?_
      rw [if_pos hx, if_pos rfl]
      exact RQ.get (w := 1) rfl (RQ.thr D1 1 fun _ => rfl)
  obtain ⟨e, he, rfl⟩ := rg10 hx
  have hE : mX11_needEdge (Int32.ofNat e) s = some (.inl (), s) := by
    unfold mX11_needEdge
    rw [if_neg (fun q => hx (Or.inl q)), if_pos (Int32.not_lt.mp fun q => hx (Or.inr q))]; rfl
  by_cases hy : y < 0 ∨ 9 < y
  · refine Or.inr ⟨0, 1, 0, ?_, rfl, one_ne0, fun s' D' => ?_⟩
    · have hG : mX11_needGrade y s = some (.inr 0, thS s) := by
        unfold mX11_needGrade
        by_cases h1 : y < 0
        · rw [if_pos h1]; rfl
        · rw [if_neg h1, if_neg (Int32.not_le.mpr (hy.elim (fun q => absurd q h1) id))]; rfl
      unfold mX11_culprits
      rw [onC_ok C.1, bnd_ok hE, bnd_ex hG]
    · unfold mX12_culprits
      refine RQ.start D' fun s1 D1 => RQ.get (in_app _ 0 9 s1) ?_
      rw [if_neg hx, if_neg one_ne0]
      refine RQ.get (w := 1) ?_ (RQ.thr D1 1 fun _ => rfl)
      rw [bnd_ok (in_app y 0 9 s1), if_pos hy]
      rfl
  obtain ⟨g, hg, rfl⟩ := rg10 hy
  have hG : mX11_needGrade (Int32.ofNat g) s = some (.inl (), s) := by
    unfold mX11_needGrade
    rw [if_neg (fun q => hy (Or.inl q)), if_pos (Int32.not_lt.mp fun q => hy (Or.inr q))]; rfl
  have emark : Int32.ofNat e * 10 + Int32.ofNat g = Int32.ofNat (10 * e + g) := by
    rw [Nat.mul_comm, ← ofN_add, ← ofN_mul]
    rfl
  rcases rg_or (D + 1) (by omega) z with hz | ⟨d, hd, rfl⟩
  · have hz2 := (rg_9 z D (by omega)).mp hz
    refine Or.inr ⟨0, 1, 0, ?_, rfl, one_ne0, fun s' D' => ?_⟩
    · unfold mX11_culprits
      rw [onC_ok C.1, bnd_ok hE, bnd_ok hG]
      by_cases h1 : z < 0
      · rw [if_pos h1]; rfl
      · rw [if_neg h1, bnd_ok g1, bnd_ok g8, if_neg (Int32.not_le.mpr (hz2.elim (fun q => absurd q h1) id))]; rfl
    · unfold mX12_culprits
      refine RQ.start D' fun s1 D1 => RQ.get (in_app _ 0 9 s1) ?_
      rw [if_neg hx, if_neg one_ne0]
      refine RQ.get (w := 1) ?_ (RQ.thr D1 1 fun _ => rfl)
      rw [bnd_ok (in_app _ 0 9 s1), if_neg hy, if_neg one_ne0, bnd_ok (today_run D1), bnd_ok (in_app z 0 _ s1), show (mint M 0 0).2 1 5 = Int32.ofNat D from hD5, if_pos hz2]
      rfl
  have hz1 : ¬ Int32.ofNat d < 0 := ofN_nn (by omega)
  have hz2 : Int32.ofNat d ≤ Int32.ofNat D := (ofN_le (by omega) (by omega)).mpr (by omega)
  have hz3 : ¬ (Int32.ofNat d < 0 ∨ Int32.ofNat D < Int32.ofNat d) := fun q => q.elim hz1 fun q => absurd hz2 (Int32.not_le.mpr q)
  have esub : Int32.ofNat D - Int32.ofNat d = Int32.ofNat (D - d) := ofN_sub (by omega)
  have hto : ∀ j, j < K.1 1 → toolOk (M.2 1) j := fun j hj => (hw.2.1 j hj).ok hk
  have hmne : ¬ Int32.ofNat (10 * e + g) = -1 := ofN_ne1 (by omega)
  have mpre : ∀ {s1 : aS} (D1 : Mdl s1 66 (mint M 0 0)) {v : Int32} (k : MM Int32), RQ k s1 (mint M 0 0) v 0 → RQ (mbnd (mX12_in (Int32.ofNat e) 0 9) fun (v1 : Int32) =>
      mbnd (α := Int32) (
        if v1 = 0 then (
          mret 1
        ) else (
          mbnd (mX12_in (Int32.ofNat g) 0 9) fun (v6 : Int32) =>
          if v6 = 0 then (
            mret 1
          ) else (
            mbnd (mX12_today 66) fun (v8 : Int32) =>
            mbnd (mX12_in (Int32.ofNat d) 0 v8) fun (v9 : Int32) =>
            if v9 = 0 then (
              mret 1
            ) else (
              mret 0
            )
          )
        )
      ) fun (x3 : Int32) =>
      mbnd (mX12_throwsIf 66 x3 1) fun (v11 : Int32) =>
      if v11 = 0 then k else mret 0) s1 (mint M 0 0) v 0 := fun {s1} D1 {v} k hh => by
    refine RQ.get (in_app _ 0 9 s1) ?_
    rw [if_neg hx, if_neg one_ne0]
    refine RQ.get (w := 0) ?_ (RQ.get (thr_no D1 1) ?_)
    · rw [bnd_ok (in_app _ 0 9 s1), if_neg hy, if_neg one_ne0, bnd_ok (today_run D1), bnd_ok (in_app _ 0 _ s1), show (mint M 0 0).2 1 5 = Int32.ofNat D from hD5, if_neg hz3]
      rfl
    · rw [if_pos rfl]
      exact hh
  have ld11 : ∀ {s1 : aS} (D1 : Mdl s1 66 (mint M 0 0)), ldI 0 67 11 s1 = some (.inl (Int32.ofNat (K.1 5)), s1) := fun {s1} D1 => by
    rw [← S.1.2.2.2.2.2]
    exact wrd_ok (i := 11) D1 (by decide)
  have td : ∀ {s1 : aS} (D1 : Mdl s1 66 (mint M 0 0)), mX12_today 66 s1 = some (.inl (Int32.ofNat D), s1) := fun {s1} D1 => by
    have h := today_run D1
    rw [show (mint M 0 0).2 1 5 = Int32.ofNat D from hD5] at h
    exact h
  by_cases hnow : d = D
  · subst hnow
    refine Or.inl ⟨wmarks (M.2 1) (Int32.ofNat (10 * e + g)) (K.1 1), s, ?_, ScR.rf, fun s' D' => ?_⟩
    · unfold mX11_culprits
      rw [onC_ok C.1, bnd_ok hE, bnd_ok hG, if_neg hz1, bnd_ok g1, bnd_ok g8, if_pos hz2, emark, mret_mbnd, bnd_ok g1, bnd_ok g8, if_pos rfl, bnd_ok (c_marksNow C S hk hw)]
      rfl
    · unfold mX12_culprits
      refine RQ.start D' fun s1 D1 => mpre D1 _ (RQ.get (td D1) ?_)
      rw [esub, Nat.sub_self]
      refine RQ.get (w := -1) rfl (RQ.get (MD.refs D1).2.1 (RQ.get (ld11 D1) ?_))
      have hlt : (-1 : Int32) < Int32.ofNat (K.1 5) := by
        rw [i32_lt, ofN_toInt (by omega)]
        have e1 : (-1 : Int32).toInt = -1 := rfl
        omega
      rw [if_pos hlt]
      exact RQ.get (m_culpNow D1 (n := K.1 1) S.1.2.1 hb1 hto) (RQ.val D1 rfl rfl)
  · have hne : ¬ Int32.ofNat d = Int32.ofNat D := fun q => hnow ((ofN_inj (by omega) (by omega)).mp q)
    have ea : Int32.ofNat (D - d) - 1 = Int32.ofNat (D - d - 1) := ofN_sub (n := D - d) (m := 1) (by omega)
    by_cases hk5 : D - d - 1 < K.1 5
    · have es : Int32.ofNat (K.1 5) - Int32.ofNat (D - d) = Int32.ofNat (K.1 5 - 1 - (D - d - 1)) := by
        rw [ofN_sub (by omega)]
        congr 1
        omega
      have hh : mX8_has 39 (Int32.ofNat (K.1 5 - 1 - (D - d - 1))) s = some (.inl 1, s) := by
        rw [(show mX8_has 39 _ s = _ from has_ok C.2.t5), if_neg (rg_in (by omega) (by omega))]
      refine Or.inl ⟨wculp (M.2 1) (Int32.ofNat (10 * e + g)) (D - d - 1) (K.1 1), s, ?_, ScR.rf, fun s' D' => ?_⟩
      · unfold mX11_culprits
        rw [onC_ok C.1, bnd_ok hE, bnd_ok hG, if_neg hz1, bnd_ok g1, bnd_ok g8, if_pos hz2, emark, mret_mbnd, bnd_ok g1, bnd_ok g8, if_neg hne, bnd_ok g1, bnd_ok g5, bnd_ok gr, bnd_ok g1, bnd_ok g8, esub, es, mret_mbnd, bnd_ok g1, bnd_ok g5, bnd_ok hh, if_neg one_ne0, bnd_ok (c_marksThen C S hk hw hk5 hmne)]
        rfl
      · unfold mX12_culprits
        refine RQ.start D' fun s1 D1 => mpre D1 _ (RQ.get (td D1) ?_)
        rw [esub, ea]
        refine RQ.get (w := Int32.ofNat (D - d - 1)) rfl (RQ.get (MD.refs D1).2.1 (RQ.get (ld11 D1) ?_))
        rw [if_pos ((ofN_lt (by omega) (by omega)).mpr hk5)]
        exact RQ.get (m_culpThen D1 (n := K.1 1) S.1.2.1 hb1 (by omega)) (RQ.val D1 rfl rfl)
    · have hneg : Int32.ofNat (K.1 5) - Int32.ofNat (D - d) < 0 := by
        rw [i32_lt, i_sub (by rw [ofN_toInt (by omega), ofN_toInt (by omega)]; omega) (by rw [ofN_toInt (by omega), ofN_toInt (by omega)]; omega), ofN_toInt (by omega), ofN_toInt (by omega)]
        have e0 : (0 : Int32).toInt = 0 := rfl
        omega
      have hh : mX8_has 39 (Int32.ofNat (K.1 5) - Int32.ofNat (D - d)) s = some (.inl 0, s) := by
        rw [(show mX8_has 39 _ s = _ from has_ok C.2.t5), if_pos (Or.inl hneg)]
      refine Or.inl ⟨-1, s, ?_, ScR.rf, fun s' D' => ?_⟩
      · unfold mX11_culprits
        rw [onC_ok C.1, bnd_ok hE, bnd_ok hG, if_neg hz1, bnd_ok g1, bnd_ok g8, if_pos hz2, emark, mret_mbnd, bnd_ok g1, bnd_ok g8, if_neg hne, bnd_ok g1, bnd_ok g5, bnd_ok gr, bnd_ok g1, bnd_ok g8, esub, mret_mbnd, bnd_ok g1, bnd_ok g5, bnd_ok hh, if_pos rfl]
        rfl
      · unfold mX12_culprits
        refine RQ.start D' fun s1 D1 => mpre D1 _ (RQ.get (td D1) ?_)
        rw [esub, ea]
        refine RQ.get (w := Int32.ofNat (D - d - 1)) rfl (RQ.get (MD.refs D1).2.1 (RQ.get (ld11 D1) ?_))
        rw [if_neg (fun q => hk5 ((ofN_lt (by omega) (by omega)).mp q))]
        exact RQ.val D1 rfl rfl
end C5
