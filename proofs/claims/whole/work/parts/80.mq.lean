/-! THE REFERENCE'S ASKING LOOPS -/
section MQ
variable {s : aS} {M : MK}
theorem didIt_run (C : Mdl s 66 M) {d p : Nat} (hd : d < 300) (hp : p < 32) : mX12_didIt 66 (Int32.ofNat d) (Int32.ofNat p) s = some (.inl (if bt (M.2 1 (171 + 7 * d + 6)) p = true then 1 else 0), s) := by
  unfold mX12_didIt
  simp only [mbnd_app, kx_in, MD.all C, hd, has_app, has_bt _ hp, mbool_ite]
theorem ofLog_run (C : Mdl s 66 M) {g c : Nat} (h : 5 * g + c < 1900) : mX12_ofLog 66 (Int32.ofNat g) (Int32.ofNat c) s = some (.inl (M.2 1 (771 + 5 * g + c)), s) := by
  unfold mX12_ofLog
  rw [onC_ok C.1, bnd_ok (gR_ok C.1 rfl)]
  have e := at_lin 771 5 g c
  refine (bnd_ok (v := M.2 1 (771 + 5 * g + c)) (s' := s) ?_).trans rfl
  show ldI 0 (66 + 1) (Int32.ofNat 771 + Int32.ofNat 5 * Int32.ofNat g + Int32.ofNat c) s = _
  rw [e]
  exact wrd_ok C (by omega)
theorem m_harm (C : Mdl s 66 M) {n : Nat} (hn : M.2 1 6 = Int32.ofNat n) (hb : n ≤ 60) {m : Int32} : mX12_harmBy 66 m s = some (.inl (wharm (M.2 1) m n), s) := by
  have hl : loopM (mX12_harmBy_L4 66 m) (wharm (M.2 1) m 0, 0) s = some (.inl (wharm (M.2 1) m n), s) := by
    refine for_ok n (fun j => wharm (M.2 1) m j) (fun j hj => ?_) ?_
    · have hj6 : j < 600 := by omega
      have hj4 : j < 300 := by omega
      have hj3 : j < 90 := by omega
      unfold mX12_harmBy_L4
      simp only [mbnd_app, kx_in, mite_app, mret_app, ite_some, MD.all C, hn, nle hj (by omega), if_false, if_true, hj6, hj4, hj3, ite_some]
      rfl
    · unfold mX12_harmBy_L4
      simp only [mbnd_app, kx_in, MD.all C, hn, Int32.le_refl, if_true, mret_app]
  unfold mX12_harmBy
  rw [onC_ok C.1]
  exact bnd_ok hl
theorem m_deeds (C : Mdl s 66 M) {n : Nat} (hn : M.2 1 6 = Int32.ofNat n) (hb : n ≤ 60) {p : Nat} (hp : p < 32) : mX12_strokesOf 66 (Int32.ofNat p) s = some (.inl (wdeeds (M.2 1) p n), s) := by
  have hl : loopM (mX12_strokesOf_L4 66 (Int32.ofNat p)) (wdeeds (M.2 1) p 0, 0) s = some (.inl (wdeeds (M.2 1) p n), s) := by
    refine for_ok n (fun j => wdeeds (M.2 1) p j) (fun j hj => ?_) ?_
    · have hj6 : j < 600 := by omega
      have hj4 : j < 300 := by omega
      have hj3 : j < 90 := by omega
      unfold mX12_strokesOf_L4
      simp only [mbnd_app, kx_in, mite_app, mret_app, ite_some, MD.all C, hn, nle hj (by omega), if_false, if_true, hj6, hj4, hj3, didIt_run C hj4 hp, ite10_0, ite_not]
      rfl
    · unfold mX12_strokesOf_L4
      simp only [mbnd_app, kx_in, MD.all C, hn, Int32.le_refl, if_true, mret_app]
  unfold mX12_strokesOf
  rw [onC_ok C.1]
  exact bnd_ok hl
theorem m_alw (C : Mdl s 66 M) {n : Nat} (hn : M.2 1 6 = Int32.ofNat n) (hb : n ≤ 60) {p : Nat} (hp : p < 32) {a0 : Int32} : loopM (mX12_with_L39 66 (Int32.ofNat p)) (a0, 0) s = some (.inl (walw (M.2 1) p a0 n), s) := by
  have hl : loopM (mX12_with_L39 66 (Int32.ofNat p)) (walw (M.2 1) p a0 0, 0) s = some (.inl (walw (M.2 1) p a0 n), s) := by
    refine for_ok n (fun j => walw (M.2 1) p a0 j) (fun j hj => ?_) ?_
    · have hj6 : j < 600 := by omega
      have hj4 : j < 300 := by omega
      have hj3 : j < 90 := by omega
      unfold mX12_with_L39
      simp only [mbnd_app, kx_in, mite_app, mret_app, ite_some, MD.all C, hn, nle hj (by omega), if_false, if_true, hj6, hj4, hj3, didIt_run C hj4 hp, ite10_0, ite_not]
      rfl
    · unfold mX12_with_L39
      simp only [mbnd_app, kx_in, MD.all C, hn, Int32.le_refl, if_true, mret_app]
  exact hl
theorem m_sure (C : Mdl s 66 M) {n : Nat} (hn : M.2 1 6 = Int32.ofNat n) (hb : n ≤ 60) {e a0 : Int32} : loopM (mX12_sure_L41 66 e) (a0, 0) s = some (.inl (wsure (M.2 1) e a0 n), s) := by
  have hl : loopM (mX12_sure_L41 66 e) (wsure (M.2 1) e a0 0, 0) s = some (.inl (wsure (M.2 1) e a0 n), s) := by
    refine for_ok n (fun j => wsure (M.2 1) e a0 j) (fun j hj => ?_) ?_
    · have hj6 : j < 600 := by omega
      have hj4 : j < 300 := by omega
      have hj3 : j < 90 := by omega
      unfold mX12_sure_L41
      simp only [mbnd_app, kx_in, mite_app, mret_app, ite_some, MD.all C, hn, nle hj (by omega), if_false, if_true, hj6, hj4, hj3, ite_some]
      rfl
    · unfold mX12_sure_L41
      simp only [mbnd_app, kx_in, MD.all C, hn, Int32.le_refl, if_true, mret_app]
  exact hl
theorem m_harmed (C : Mdl s 66 M) {n : Nat} (hn : M.2 1 6 = Int32.ofNat n) (hb : n ≤ 60) {a b : Int32} : loopM (mX12_harmed_L34 66 a b) (0, 0) s = some (.inl (wharmed (M.2 1) a b n), s) := by
  have hl : loopM (mX12_harmed_L34 66 a b) (wharmed (M.2 1) a b 0, 0) s = some (.inl (wharmed (M.2 1) a b n), s) := by
    refine for_ok n (fun j => wharmed (M.2 1) a b j) (fun j hj => ?_) ?_
    · have hj6 : j < 600 := by omega
      have hj4 : j < 300 := by omega
      have hj3 : j < 90 := by omega
      unfold mX12_harmed_L34
      simp only [mbnd_app, kx_in, mite_app, mret_app, ite_some, MD.all C, hn, nle hj (by omega), if_false, if_true, hj6, hj4, hj3, in_app, ite01_0]
      rfl
    · unfold mX12_harmed_L34
      simp only [mbnd_app, kx_in, MD.all C, hn, Int32.le_refl, if_true, mret_app]
  exact hl
theorem m_used (C : Mdl s 66 M) {n : Nat} (hn : M.2 1 6 = Int32.ofNat n) (hb : n ≤ 60) {t : Int32} : mX12_didIn 66 t s = some (.inl (wused (M.2 1) t n), s) := by
  have hl : loopM (mX12_didIn_L4 66 t) (wused (M.2 1) t 0, 0) s = some (.inl (wused (M.2 1) t n), s) := by
    refine for_ok n (fun j => wused (M.2 1) t j) (fun j hj => ?_) ?_
    · have hj6 : j < 600 := by omega
      have hj4 : j < 300 := by omega
      have hj3 : j < 90 := by omega
      unfold mX12_didIn_L4
      simp only [mbnd_app, kx_in, mite_app, mret_app, ite_some, MD.all C, hn, nle hj (by omega), if_false, if_true, hj6, hj4, hj3, ite_some]
      rfl
    · unfold mX12_didIn_L4
      simp only [mbnd_app, kx_in, MD.all C, hn, Int32.le_refl, if_true, mret_app]
  unfold mX12_didIn
  rw [onC_ok C.1]
  exact bnd_ok hl
theorem m_joint (C : Mdl s 66 M) {n : Nat} (hn : M.2 1 0 = Int32.ofNat n) (hb : n ≤ 16) {x : Int32} : loopM (mX12_joint_L72 66 x) (0, 0) s = some (.inl (wjoint (M.2 1) x n), s) := by
  have hl : loopM (mX12_joint_L72 66 x) (wjoint (M.2 1) x 0, 0) s = some (.inl (wjoint (M.2 1) x n), s) := by
    refine for_ok n (fun j => wjoint (M.2 1) x j) (fun j hj => ?_) ?_
    · have hj6 : j < 600 := by omega
      have hj4 : j < 300 := by omega
      have hj3 : j < 32 := by omega
      unfold mX12_joint_L72
      simp only [mbnd_app, kx_in, mite_app, mret_app, ite_some, MD.all C, hn, nle hj (by omega), if_false, if_true, hj6, hj4, hj3, has_app, has_bt, ite10_0, ite_not]
      rfl
    · unfold mX12_joint_L72
      simp only [mbnd_app, kx_in, MD.all C, hn, Int32.le_refl, if_true, mret_app]
  exact hl
theorem m_pairs (C : Mdl s 66 M) {n : Nat} (hn : M.2 1 6 = Int32.ofNat n) (hb : n ≤ 60) {m t : Int32} : loopM (mX12_pairs_L41 66 m t) (0, 0) s = some (.inl (wpairs (M.2 1) m t n), s) := by
  have hl : loopM (mX12_pairs_L41 66 m t) (wpairs (M.2 1) m t 0, 0) s = some (.inl (wpairs (M.2 1) m t n), s) := by
    refine for_ok n (fun j => wpairs (M.2 1) m t j) (fun j hj => ?_) ?_
    · have hj6 : j < 600 := by omega
      have hj4 : j < 300 := by omega
      have hj3 : j < 90 := by omega
      unfold mX12_pairs_L41
      simp only [mbnd_app, kx_in, mite_app, mret_app, ite_some, MD.all C, hn, nle hj (by omega), if_false, if_true, hj6, hj4, hj3, ite_some]
      rfl
    · unfold mX12_pairs_L41
      simp only [mbnd_app, kx_in, MD.all C, hn, Int32.le_refl, if_true, mret_app]
  exact hl
theorem m_spares (C : Mdl s 66 M) {n : Nat} (hn : M.2 1 0 = Int32.ofNat n) (hb : n ≤ 16) : mX12_spares 66 s = some (.inl (wspares (M.2 1) n), s) := by
  have hl : loopM (mX12_spares_L4 66) (wspares (M.2 1) 0, 0) s = some (.inl (wspares (M.2 1) n), s) := by
    refine for_ok n (fun j => wspares (M.2 1) j) (fun j hj => ?_) ?_
    · have hj6 : j < 600 := by omega
      have hj4 : j < 300 := by omega
      have hj3 : j < 32 := by omega
      unfold mX12_spares_L4
      simp only [mbnd_app, kx_in, mite_app, mret_app, ite_some, MD.all C, hn, nle hj (by omega), if_false, if_true, hj6, hj4, hj3, ite01_0]
      rfl
    · unfold mX12_spares_L4
      simp only [mbnd_app, kx_in, MD.all C, hn, Int32.le_refl, if_true, mret_app]
  unfold mX12_spares
  rw [onC_ok C.1]
  exact bnd_ok hl
theorem m_guiltAll (C : Mdl s 66 M) {n : Nat} (hn : M.2 1 0 = Int32.ofNat n) (hb : n ≤ 16) : mX12_allGuilt 66 s = some (.inl (wguiltAll (M.2 1) n), s) := by
  have hl : loopM (mX12_allGuilt_L4 66) (wguiltAll (M.2 1) 0, 0) s = some (.inl (wguiltAll (M.2 1) n), s) := by
    refine for_ok n (fun j => wguiltAll (M.2 1) j) (fun j hj => ?_) ?_
    · have hj6 : j < 600 := by omega
      have hj4 : j < 300 := by omega
      have hj3 : j < 32 := by omega
      unfold mX12_allGuilt_L4
      simp only [mbnd_app, kx_in, mite_app, mret_app, ite_some, MD.all C, hn, nle hj (by omega), if_false, if_true, hj6, hj4, hj3, ite_some]
      rfl
    · unfold mX12_allGuilt_L4
      simp only [mbnd_app, kx_in, MD.all C, hn, Int32.le_refl, if_true, mret_app]
  unfold mX12_allGuilt
  rw [onC_ok C.1]
  exact bnd_ok hl
end MQ
