/-! WHO IS FIRST, WHO IS MOST: both sides' loops -/
theorem neg1_lt : (-1 : Int32) < 0 := by decide
theorem i32_lelt {a b c : Int32} (h1 : a ≤ b) (h2 : ¬ c ≤ b) : a ≤ c := Int32.le_trans h1 (Int32.le_of_lt (Int32.not_le.mp h2))
def wmostOf (W : Nat → Int32) (n : Nat) : Int32 := if wheir W n < 0 then 0 else W (13 + 8 * (wheir W n).toNatClampNeg + 7)
def wmostM (W : Nat → Int32) (n k : Nat) : Int32 := if wworstM W n k < 0 then 0 else wharm W (wworstM W n k) n
theorem wheir_step (W : Nat → Int32) (n : Nat) (hn : n < 2 ^ 31) : (if W (13 + 8 * n + 7) ≤ wmostOf W n then (wheir W n, wmostOf W n) else (Int32.ofNat n, W (13 + 8 * n + 7))) = (wheir W (n + 1), wmostOf W (n + 1)) := by
  have e : wheir W (n + 1) = (if W (13 + 8 * n + 7) ≤ 0 then wheir W n else if wheir W n < 0 then Int32.ofNat n else if W (13 + 8 * n + 7) ≤ W (13 + 8 * (wheir W n).toNatClampNeg + 7) then wheir W n else Int32.ofNat n) := rfl
  have same : wheir W (n + 1) = wheir W n → wmostOf W (n + 1) = wmostOf W n := fun q => by unfold wmostOf; rw [q]
  have new : wheir W (n + 1) = Int32.ofNat n → wmostOf W (n + 1) = W (13 + 8 * n + 7) := fun q => by
    unfold wmostOf
    rw [q, if_neg (ofN_nn hn), ofN_cl hn]
  rcases wheir_or W n with h0 | ⟨p, hp, h0, hpos⟩
  · have hlt : wheir W n < 0 := by rw [h0]; exact neg1_lt
    have hm : wmostOf W n = 0 := if_pos hlt
    by_cases h : W (13 + 8 * n + 7) ≤ 0
    · rw [if_pos h] at e
      rw [hm, if_pos h, same e, e, hm]
    · rw [if_neg h, if_pos hlt] at e
      rw [hm, if_neg h, new e, e]
  · have hlt : ¬ wheir W n < 0 := by rw [h0]; exact ofN_nn (by omega)
    have hm : wmostOf W n = W (13 + 8 * (wheir W n).toNatClampNeg + 7) := if_neg hlt
    by_cases h2 : W (13 + 8 * n + 7) ≤ W (13 + 8 * (wheir W n).toNatClampNeg + 7)
    · have e2 : wheir W (n + 1) = wheir W n := by
        rw [e]
        split
        · rfl
        · first
          | rfl
          | rw [if_neg hlt, if_pos h2]
      rw [hm, if_pos h2, same e2, e2, hm]
    · have h : ¬ W (13 + 8 * n + 7) ≤ 0 := fun q => by
        have hpos' : ¬ W (13 + 8 * (wheir W n).toNatClampNeg + 7) ≤ 0 := by
          rw [h0, ofN_cl (by omega)]
          exact hpos
        exact h2 (i32_lelt q hpos')
      rw [if_neg h, if_neg hlt, if_neg h2] at e
      rw [hm, if_neg h2, new e, e]
theorem wworst_step (W : Nat → Int32) (n k : Nat) (hk : k < 2 ^ 31) : (if wharm W (Int32.ofNat k) n ≤ wmostM W n k then (wworstM W n k, wmostM W n k) else (Int32.ofNat k, wharm W (Int32.ofNat k) n)) = (wworstM W n (k + 1), wmostM W n (k + 1)) := by
  have e : wworstM W n (k + 1) = (if wharm W (Int32.ofNat k) n ≤ 0 then wworstM W n k else if wworstM W n k < 0 then Int32.ofNat k else if wharm W (Int32.ofNat k) n ≤ wharm W (wworstM W n k) n then wworstM W n k else Int32.ofNat k) := rfl
  have same : wworstM W n (k + 1) = wworstM W n k → wmostM W n (k + 1) = wmostM W n k := fun q => by unfold wmostM; rw [q]
  have new : wworstM W n (k + 1) = Int32.ofNat k → wmostM W n (k + 1) = wharm W (Int32.ofNat k) n := fun q => by
    unfold wmostM
    rw [q, if_neg (ofN_nn hk)]
  rcases wworstM_or W n k with h0 | ⟨p, hp, h0, hpos⟩
  · have hlt : wworstM W n k < 0 := by rw [h0]; exact neg1_lt
    have hm : wmostM W n k = 0 := if_pos hlt
    by_cases h : wharm W (Int32.ofNat k) n ≤ 0
    · rw [if_pos h] at e
      rw [hm, if_pos h, same e, e, hm]
    · rw [if_neg h, if_pos hlt] at e
      rw [hm, if_neg h, new e, e]
  · have hlt : ¬ wworstM W n k < 0 := by rw [h0]; exact ofN_nn (by omega)
    have hm : wmostM W n k = wharm W (wworstM W n k) n := if_neg hlt
    by_cases h2 : wharm W (Int32.ofNat k) n ≤ wharm W (wworstM W n k) n
    · have e2 : wworstM W n (k + 1) = wworstM W n k := by
        rw [e]
        split
        · rfl
        · first
          | rfl
          | rw [if_neg hlt, if_pos h2]
      rw [hm, if_pos h2, same e2, e2, hm]
    · have h : ¬ wharm W (Int32.ofNat k) n ≤ 0 := fun q => by
        have hpos' : ¬ wharm W (wworstM W n k) n ≤ 0 := by
          rw [h0]
          exact hpos
        exact h2 (i32_lelt q hpos')
      rw [if_neg h, if_neg hlt, if_neg h2] at e
      rw [hm, if_neg h2, new e, e]
theorem for_ok3 {γ δ ε : Type} {s : aS} {b : γ × δ × Int32 → MM ((γ × δ × Int32) ⊕ ε)} {e : ε} (n : Nat) (g : Nat → γ) (h : Nat → δ) (hs : ∀ j, j < n → b (g j, h j, Int32.ofNat j) s = some (.inl (.inl (g (j + 1), h (j + 1), Int32.ofNat j + 1)), s)) (he : b (g n, h n, Int32.ofNat n) s = some (.inl (.inr e), s)) : loopM b (g 0, h 0, 0) s = some (.inl e, s) :=
  loop_steps n (fun j => (g j, h j, Int32.ofNat j)) (fun _ => s) (fun j hj => by rw [hs j hj, ofN_succ]) he
section MW
variable {s : aS} {f : Int32} {K : CK} {W : Nat → Int32} {M : MK}
theorem c_heir (C : CC s f K) (S : Sm K W) (hk : kOk K) : mX11_heir 0 s = some (.inl (wheir W (K.1 0)), s) := by
  have hb : K.1 0 ≤ 16 := hk 0 (by decide)
  have hl : loopM (mX11_heir_L6 0) (wheir W 0, wmostOf W 0, 0) s = some (.inl (wheir W (K.1 0)), s) := by
    refine for_ok3 (K.1 0) (fun j => wheir W j) (fun j => wmostOf W j) (fun j hj => ?_) ?_
    · unfold mX11_heir_L6
      simp only [mbnd_app, kx_in, mite_app, mret_app, ite_some, CC.all C, nle hj (by omega), if_false, Sm.cols S hk, hj, wheir_step W j (by omega)]
    · unfold mX11_heir_L6
      simp only [mbnd_app, kx_in, CC.all C, Int32.le_refl, if_true, mret_app]
  unfold mX11_heir
  rw [onC_ok C.1]
  exact bnd_ok hl
theorem m_heir (C : Mdl s 66 M) {n : Nat} (hn : M.2 1 0 = Int32.ofNat n) (hb : n ≤ 16) : loopM (mX12_heir_L9 66) ((-1), 0) s = some (.inl (wheir (M.2 1) n), s) := by
  have hl : loopM (mX12_heir_L9 66) (wheir (M.2 1) 0, 0) s = some (.inl (wheir (M.2 1) n), s) := by
    refine for_ok n (fun j => wheir (M.2 1) j) (fun j hj => ?_) ?_
    · have hj4 : j < 300 := by omega
      unfold mX12_heir_L9
      rcases wheir_or (M.2 1) j with h0 | ⟨p, hp, h0, -⟩
      · have hlt : wheir (M.2 1) j < 0 := by rw [h0]; exact neg1_lt
        simp only [mbnd_app, kx_in, mite_app, mret_app, ite_some, MD.all C, hn, nle hj (by omega), if_false, if_true, hj4, wheir, hlt]
      · have hlt : ¬ wheir (M.2 1) j < 0 := by rw [h0]; exact ofN_nn (by omega)
        have hp4 : p < 300 := by omega
        have hcl : (Int32.ofNat p).toNatClampNeg = p := ofN_cl (by omega)
        have hnn : ¬ Int32.ofNat p < 0 := ofN_nn (by omega)
        simp only [mbnd_app, kx_in, mite_app, mret_app, ite_some, MD.all C, hn, nle hj (by omega), if_false, if_true, hj4, wheir, h0, hp4, hcl, hnn]
    · unfold mX12_heir_L9
      simp only [mbnd_app, kx_in, MD.all C, hn, Int32.le_refl, if_true, mret_app]
  exact hl
theorem c_worstM (C : CC s f K) (S : Sm K W) (hk : kOk K) : mX11_worstMaster 0 s = some (.inl (wworstM W (K.1 3) (K.1 2)), s) := by
  have hb : K.1 2 ≤ 6 := hk 2 (by decide)
  have hl : loopM (mX11_worstMaster_L6 0) (wworstM W (K.1 3) 0, wmostM W (K.1 3) 0, 0) s = some (.inl (wworstM W (K.1 3) (K.1 2)), s) := by
    refine for_ok3 (K.1 2) (fun j => wworstM W (K.1 3) j) (fun j => wmostM W (K.1 3) j) (fun j hj => ?_) ?_
    · unfold mX11_worstMaster_L6
      simp only [mbnd_app, kx_in, mite_app, mret_app, ite_some, CC.all C, nle hj (by omega), if_false, c_harm C S hk, wworst_step W (K.1 3) j (by omega)]
    · unfold mX11_worstMaster_L6
      simp only [mbnd_app, kx_in, CC.all C, Int32.le_refl, if_true, mret_app]
  unfold mX11_worstMaster
  rw [onC_ok C.1]
  exact bnd_ok hl
theorem m_worstM (C : Mdl s 66 M) {n k : Nat} (hn : M.2 1 6 = Int32.ofNat n) (hb : n ≤ 60) (hk : M.2 1 2 = Int32.ofNat k) (hb2 : k ≤ 6) : loopM (mX12_worstMaster_L9 66) ((-1), 0) s = some (.inl (wworstM (M.2 1) n k), s) := by
  have hl : loopM (mX12_worstMaster_L9 66) (wworstM (M.2 1) n 0, 0) s = some (.inl (wworstM (M.2 1) n k), s) := by
    refine for_ok k (fun j => wworstM (M.2 1) n j) (fun j hj => ?_) ?_
    · unfold mX12_worstMaster_L9
      simp only [mbnd_app, kx_in, mite_app, mret_app, ite_some, MD.all C, hk, nle hj (by omega), if_false, if_true, wworstM, m_harm C hn hb]
    · unfold mX12_worstMaster_L9
      simp only [mbnd_app, kx_in, MD.all C, hk, Int32.le_refl, if_true, mret_app]
  exact hl
theorem c_clock (C : CC s f K) (S : Sm K W) (hk : kOk K) {p : Nat} {g last : Int32} (hp : p < 32) (hd : ∀ d, d < K.1 3 → ¬ W (171 + 7 * d) < 0) : loopM (mX11_clock_L20 0 (Int32.ofNat p) g last) ((-1), 0) s = some (.inl (wclock W p g last (K.1 3)), s) := by
  have hb : K.1 3 ≤ 60 := hk 3 (by decide)
  have hl : loopM (mX11_clock_L20 0 (Int32.ofNat p) g last) (wclock W p g last 0, 0) s = some (.inl (wclock W p g last (K.1 3)), s) := by
    refine for_ok (K.1 3) (fun j => wclock W p g last j) (fun j hj => ?_) ?_
    · unfold mX11_clock_L20
      have hor := wclock_or (W := W) (p := p) (g := g) (last := last) j (fun d h => hd d (Nat.lt_trans h hj))
      have hx : (wclock W p g last j = -1) = (wclock W p g last j < 0) := by
        rcases hor with h | h
        · rw [h]
          exact propext ⟨fun _ => neg1_lt, fun _ => rfl⟩
        · exact propext ⟨fun q => absurd (by rw [q]; exact neg1_lt) h, fun q => absurd q h⟩
      by_cases h1 : bt (W (171 + 7 * j + 6)) p = true
      · by_cases h2 : W (171 + 7 * j + 5) = g
        · by_cases h3 : last = 0
          · subst h3
            simp only [mbnd_app, kx_in, mite_app, mret_app, ite_some, CC.all C, nle hj (by omega), if_false, if_true, Sm.cols S hk, hj, inSet_app, inSet_0, hp, h1, h2, one_ne0, not_true, hx, eq_self, wclock]
          · simp only [mbnd_app, kx_in, mite_app, mret_app, ite_some, CC.all C, nle hj (by omega), if_false, if_true, Sm.cols S hk, hj, inSet_app, inSet_0, hp, h1, h2, h3, one_ne0, not_true, ite_self, wclock]
        · simp only [mbnd_app, kx_in, mite_app, mret_app, ite_some, CC.all C, nle hj (by omega), if_false, if_true, Sm.cols S hk, hj, inSet_app, inSet_0, hp, h1, h2, not_true, wclock]
      · simp only [mbnd_app, kx_in, mite_app, mret_app, ite_some, CC.all C, nle hj (by omega), if_false, if_true, Sm.cols S hk, hj, inSet_app, inSet_0, hp, h1, Bool.false_eq_true, not_false_eq_true, wclock]
    · unfold mX11_clock_L20
      simp only [mbnd_app, kx_in, CC.all C, Int32.le_refl, if_true, mret_app]
  exact hl
theorem m_clock (C : Mdl s 66 M) {n p : Nat} {g last : Int32} (hn : M.2 1 6 = Int32.ofNat n) (hb : n ≤ 60) (hp : p < 32) : loopM (mX12_clock_L57 66 (Int32.ofNat p) g last) ((-1), 0) s = some (.inl (wclock (M.2 1) p g last n), s) := by
  have hl : loopM (mX12_clock_L57 66 (Int32.ofNat p) g last) (wclock (M.2 1) p g last 0, 0) s = some (.inl (wclock (M.2 1) p g last n), s) := by
    refine for_ok n (fun j => wclock (M.2 1) p g last j) (fun j hj => ?_) ?_
    · have hj4 : j < 300 := by omega
      unfold mX12_clock_L57
      simp only [mbnd_app, kx_in, mite_app, mret_app, ite_some, MD.all C, hn, nle hj (by omega), if_false, if_true, hj4, didIt_run C hj4 hp, ite10_0, ite_not, wclock]
    · unfold mX12_clock_L57
      simp only [mbnd_app, kx_in, MD.all C, hn, Int32.le_refl, if_true, mret_app]
  exact hl
end MW
