/-! WHAT IS ASKED OF TRUTH, PARTS, TOOLS: told by the reference's world alone -/
def wharm (W : Nat → Int32) (m : Int32) (n : Nat) : Int32 := sumI (fun d => if W (171 + 7 * d + 2) = m then W (171 + 7 * d + 3) else 0) n
def wdeeds (W : Nat → Int32) (p : Nat) (n : Nat) : Int32 := sumI (fun d => if bt (W (171 + 7 * d + 6)) p = true then 1 else 0) n
def walw (W : Nat → Int32) (p : Nat) (a0 : Int32) : Nat → Int32
  | 0 => a0
  | d + 1 => walw W p a0 d &&& (if bt (W (171 + 7 * d + 6)) p = true then W (171 + 7 * d + 6) else walw W p a0 d)
def wsure (W : Nat → Int32) (e : Int32) (a0 : Int32) : Nat → Int32
  | 0 => a0
  | d + 1 => wsure W e a0 d &&& (if W (171 + 7 * d + 4) = e then W (171 + 7 * d + 6) else wsure W e a0 d)
def wharmed (W : Nat → Int32) (a b : Int32) (n : Nat) : Int32 := sumI (fun d => if W (171 + 7 * d) < a ∨ b < W (171 + 7 * d) then 0 else W (171 + 7 * d + 3)) n
def wused (W : Nat → Int32) (t : Int32) (n : Nat) : Int32 := orI (fun d => if W (171 + 7 * d + 1) = t then W (171 + 7 * d + 6) else 0) n
def wjoint (W : Nat → Int32) (x : Int32) (n : Nat) : Int32 := sumI (fun p => if bt x p = true then W (13 + 8 * p + 3) else 0) n
def wpairs (W : Nat → Int32) (m t : Int32) (n : Nat) : Int32 := sumI (fun d => if W (171 + 7 * d + 2) = m then (if W (171 + 7 * d + 1) = t then 1 else 0) else 0) n
def wspares (W : Nat → Int32) (n : Nat) : Int32 := orI (fun p => if 0 ≤ W (13 + 8 * p + 6) then 0 else 1 <<< (Int32.ofNat p &&& (31 : Int32))) n
def wguiltAll (W : Nat → Int32) (n : Nat) : Int32 := sumI (fun p => W (13 + 8 * p + 3)) n
section CQ
variable {s : aS} {f : Int32} {K : CK} {W : Nat → Int32}
theorem c_harm (C : CC s f K) (S : Sm K W) (hk : kOk K) {m : Int32} : mX11_harmOf 0 m s = some (.inl (wharm W m (K.1 3)), s) := by
  have hb : K.1 3 ≤ 60 := hk 3 (by decide)
  have hl : loopM (mX11_harmOf_L4 0 m) (wharm W m 0, 0) s = some (.inl (wharm W m (K.1 3)), s) := by
    refine for_ok (K.1 3) (fun j => wharm W m j) (fun j hj => ?_) ?_
    · have hj6 : j < 600 := by omega
      have hj3 : j < 90 := by omega
      unfold mX11_harmOf_L4
      simp only [mbnd_app, kx_in, mite_app, mret_app, ite_some, CC.all C, nle hj (by omega), if_false, if_true, Sm.cols S hk, hj, hj3, ite_some]
      rfl
    · unfold mX11_harmOf_L4
      simp only [mbnd_app, kx_in, CC.all C, Int32.le_refl, if_true, mret_app]
  unfold mX11_harmOf
  rw [onC_ok C.1]
  exact bnd_ok hl
theorem c_deeds (C : CC s f K) (S : Sm K W) (hk : kOk K) {p : Nat} (hp : p < 32) : mX11_deedsOf 0 (Int32.ofNat p) s = some (.inl (wdeeds W p (K.1 3)), s) := by
  have hb : K.1 3 ≤ 60 := hk 3 (by decide)
  have hl : loopM (mX11_deedsOf_L4 0 (Int32.ofNat p)) (wdeeds W p 0, 0) s = some (.inl (wdeeds W p (K.1 3)), s) := by
    refine for_ok (K.1 3) (fun j => wdeeds W p j) (fun j hj => ?_) ?_
    · have hj6 : j < 600 := by omega
      have hj3 : j < 90 := by omega
      unfold mX11_deedsOf_L4
      simp only [mbnd_app, kx_in, mite_app, mret_app, ite_some, CC.all C, nle hj (by omega), if_false, if_true, Sm.cols S hk, hj, hj3, inSet_app, inSet_0, ite10_0, ite01_0, ite_not, hp]
      rfl
    · unfold mX11_deedsOf_L4
      simp only [mbnd_app, kx_in, CC.all C, Int32.le_refl, if_true, mret_app]
  unfold mX11_deedsOf
  rw [onC_ok C.1]
  exact bnd_ok hl
theorem c_alw (C : CC s f K) (S : Sm K W) (hk : kOk K) {p : Nat} (hp : p < 32) {a0 : Int32} : loopM (mX11_alwaysThere_L10 0 (1 <<< (Int32.ofNat p &&& (31 : Int32)))) (a0, 0) s = some (.inl (walw W p a0 (K.1 3)), s) := by
  have hb : K.1 3 ≤ 60 := hk 3 (by decide)
  have hl : loopM (mX11_alwaysThere_L10 0 (1 <<< (Int32.ofNat p &&& (31 : Int32)))) (walw W p a0 0, 0) s = some (.inl (walw W p a0 (K.1 3)), s) := by
    refine for_ok (K.1 3) (fun j => walw W p a0 j) (fun j hj => ?_) ?_
    · have hj6 : j < 600 := by omega
      have hj3 : j < 90 := by omega
      unfold mX11_alwaysThere_L10
      simp only [mbnd_app, kx_in, mite_app, mret_app, ite_some, CC.all C, nle hj (by omega), if_false, if_true, Sm.cols S hk, hj, hj3, and_shl, hp, and_ite]
      rfl
    · unfold mX11_alwaysThere_L10
      simp only [mbnd_app, kx_in, CC.all C, Int32.le_refl, if_true, mret_app]
  exact hl
theorem c_sure (C : CC s f K) (S : Sm K W) (hk : kOk K) {e a0 : Int32} : loopM (mX11_sure_L14 0 e) (a0, 0) s = some (.inl (wsure W e a0 (K.1 3)), s) := by
  have hb : K.1 3 ≤ 60 := hk 3 (by decide)
  have hl : loopM (mX11_sure_L14 0 e) (wsure W e a0 0, 0) s = some (.inl (wsure W e a0 (K.1 3)), s) := by
    refine for_ok (K.1 3) (fun j => wsure W e a0 j) (fun j hj => ?_) ?_
    · have hj6 : j < 600 := by omega
      have hj3 : j < 90 := by omega
      unfold mX11_sure_L14
      simp only [mbnd_app, kx_in, mite_app, mret_app, ite_some, CC.all C, nle hj (by omega), if_false, if_true, Sm.cols S hk, hj, hj3, and_ite]
      rfl
    · unfold mX11_sure_L14
      simp only [mbnd_app, kx_in, CC.all C, Int32.le_refl, if_true, mret_app]
  exact hl
theorem c_harmed (C : CC s f K) (S : Sm K W) (hk : kOk K) {a b : Int32} : loopM (mX11_harmed_L25 0 a b) (0, 0) s = some (.inl (wharmed W a b (K.1 3)), s) := by
  have hb : K.1 3 ≤ 60 := hk 3 (by decide)
  have hl : loopM (mX11_harmed_L25 0 a b) (wharmed W a b 0, 0) s = some (.inl (wharmed W a b (K.1 3)), s) := by
    refine for_ok (K.1 3) (fun j => wharmed W a b j) (fun j hj => ?_) ?_
    · have hj6 : j < 600 := by omega
      have hj3 : j < 90 := by omega
      unfold mX11_harmed_L25
      simp only [mbnd_app, kx_in, mite_app, mret_app, ite_some, CC.all C, nle hj (by omega), if_false, if_true, Sm.cols S hk, hj, hj3, ite_or2, add_ite0]
      rfl
    · unfold mX11_harmed_L25
      simp only [mbnd_app, kx_in, CC.all C, Int32.le_refl, if_true, mret_app]
  exact hl
theorem c_used (C : CC s f K) (S : Sm K W) (hk : kOk K) {t : Int32} : mX11_partsUsedIn 0 t s = some (.inl (wused W t (K.1 3)), s) := by
  have hb : K.1 3 ≤ 60 := hk 3 (by decide)
  have hl : loopM (mX11_partsUsedIn_L4 0 t) (wused W t 0, 0) s = some (.inl (wused W t (K.1 3)), s) := by
    refine for_ok (K.1 3) (fun j => wused W t j) (fun j hj => ?_) ?_
    · have hj6 : j < 600 := by omega
      have hj3 : j < 90 := by omega
      unfold mX11_partsUsedIn_L4
      simp only [mbnd_app, kx_in, mite_app, mret_app, ite_some, CC.all C, nle hj (by omega), if_false, if_true, Sm.cols S hk, hj, hj3, ite_some]
      rfl
    · unfold mX11_partsUsedIn_L4
      simp only [mbnd_app, kx_in, CC.all C, Int32.le_refl, if_true, mret_app]
  unfold mX11_partsUsedIn
  rw [onC_ok C.1]
  exact bnd_ok hl
theorem c_joint (C : CC s f K) (S : Sm K W) (hk : kOk K) {x : Int32} : loopM (mX11_joint_L24 0 x) (0, 0) s = some (.inl (wjoint W x (K.1 0)), s) := by
  have hb : K.1 0 ≤ 16 := hk 0 (by decide)
  have hl : loopM (mX11_joint_L24 0 x) (wjoint W x 0, 0) s = some (.inl (wjoint W x (K.1 0)), s) := by
    refine for_ok (K.1 0) (fun j => wjoint W x j) (fun j hj => ?_) ?_
    · have hj6 : j < 600 := by omega
      have hj3 : j < 32 := by omega
      unfold mX11_joint_L24
      simp only [mbnd_app, kx_in, mite_app, mret_app, ite_some, CC.all C, nle hj (by omega), if_false, if_true, Sm.cols S hk, hj, hj3, inSet_app, inSet_0, ite10_0, ite01_0, ite_not, add_ite1]
      rfl
    · unfold mX11_joint_L24
      simp only [mbnd_app, kx_in, CC.all C, Int32.le_refl, if_true, mret_app]
  exact hl
theorem c_pairs (C : CC s f K) (S : Sm K W) (hk : kOk K) {m t : Int32} : loopM (mX11_pairs_L15 0 m t) (0, 0) s = some (.inl (wpairs W m t (K.1 3)), s) := by
  have hb : K.1 3 ≤ 60 := hk 3 (by decide)
  have hl : loopM (mX11_pairs_L15 0 m t) (wpairs W m t 0, 0) s = some (.inl (wpairs W m t (K.1 3)), s) := by
    refine for_ok (K.1 3) (fun j => wpairs W m t j) (fun j hj => ?_) ?_
    · have hj6 : j < 600 := by omega
      have hj3 : j < 90 := by omega
      unfold mX11_pairs_L15
      simp only [mbnd_app, kx_in, mite_app, mret_app, ite_some, CC.all C, nle hj (by omega), if_false, if_true, Sm.cols S hk, hj, hj3, add_ite1]
      rfl
    · unfold mX11_pairs_L15
      simp only [mbnd_app, kx_in, CC.all C, Int32.le_refl, if_true, mret_app]
  exact hl
end CQ
