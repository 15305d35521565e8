/-! TRIAL: what days make of the world -/
def dN (W : Nat → Int32) (n0 n1 : Nat) : Nat → Nat → Int32
  | 0 => W
  | k + 1 => oneW (dN W n0 n1 k) n0 n1
theorem dyC_off (W : Nat → Int32) (n1 : Nat) {i : Nat} (h : i < 591 ∨ 770 < i) (h11 : i ≠ 11) (h12 : i ≠ 12) : dyC W n1 i = W i := by
  unfold dyC dyB dyA upd
  rw [if_neg h12, if_neg h11, mkN_off _ _ (by omega) 6 (by decide), shN_off _ (by omega) 174 (by decide)]
theorem dyD_off (W : Nat → Int32) {n0 : Nat} (n1 : Nat) (hn : n0 ≤ 16) {i : Nat} (h : i < 591 ∨ 770 < i) (h11 : i ≠ 11) (h12 : i ≠ 12) (hw : ∀ p, p < 16 → i ≠ 13 + 8 * p + 2) : dyD W n0 n1 i = W i := by
  unfold dyD
  split
  · exact dyC_off W n1 h h11 h12
  · rw [wrN_off _ hw n0 hn, dyC_off W n1 h h11 h12]
theorem oneW_off (W : Nat → Int32) {n0 n1 : Nat} (hn : n0 ≤ 16) (h6 : n1 ≤ 6) {i : Nat} (h : i < 591 ∨ 770 < i) (h5 : i ≠ 5) (h11 : i ≠ 11) (h12 : i ≠ 12) (hw : ∀ p, p < 16 → i ≠ 13 + 8 * p + 2) (ht : i < 141 ∨ 165 ≤ i ∨ ∃ t k, k < 3 ∧ i = 141 + 4 * t + k) : oneW W n0 n1 i = W i := by
  unfold oneW
  rw [ndN_off _ ht n1 h6]
  unfold dyE upd
  rw [if_neg h5]
  exact dyD_off W n1 hn h h11 h12 hw
theorem dyC_seed (W : Nat → Int32) (n1 : Nat) : dyC W n1 12 = kseed (W 12) := by
  unfold dyC kseed
  have e : dyB W n1 12 = W 12 := by
    unfold dyB dyA upd
    rw [if_neg (show ¬ (12 : Nat) = 11 by decide), mkN_off _ _ (by omega) 6 (by decide), shN_off _ (by omega) 174 (by decide)]
  unfold upd
  rw [if_pos rfl, e]
theorem oneW_seed (W : Nat → Int32) {n0 n1 : Nat} (hn : n0 ≤ 16) (h6 : n1 ≤ 6) : oneW W n0 n1 12 = kseed (W 12) := by
  unfold oneW
  rw [ndN_off _ (by omega) n1 h6]
  unfold dyE upd
  rw [if_neg (show ¬ (12 : Nat) = 5 by decide)]
  unfold dyD
  split
  · exact dyC_seed W n1
  · rw [wrN_off _ (fun p _ => by omega) n0 hn]
    exact dyC_seed W n1
theorem oneW_wear (W : Nat → Int32) {n0 n1 : Nat} (hn : n0 ≤ 16) (h6 : n1 ≤ 6) {p : Nat} (hp : p < n0) : oneW W n0 n1 (13 + 8 * p + 2) = if W (13 + 8 * p) = 1 ∧ ¬ wdamp (W 8) (kseed (W 12)) = 0 then imin 99 (W (13 + 8 * p + 2) + 1) else W (13 + 8 * p + 2) := by
  unfold oneW
  rw [ndN_off _ (by omega) n1 h6]
  unfold dyE upd
  rw [if_neg (show ¬ 13 + 8 * p + 2 = 5 by omega)]
  unfold dyD
  rw [dyC_seed, dyC_off W n1 (i := 8) (by omega) (by omega) (by omega)]
  by_cases q : wdamp (W 8) (kseed (W 12)) = 0
  · rw [if_pos q, if_neg (fun z => z.2 q), dyC_off W n1 (by omega) (by omega) (by omega)]
  · rw [if_neg q, wrN_at _ (by omega) n0 hn, dyC_off W n1 (i := 13 + 8 * p + 2) (by omega) (by omega) (by omega), dyC_off W n1 (i := 13 + 8 * p) (by omega) (by omega) (by omega)]
    by_cases z : W (13 + 8 * p) = 1
    · rw [if_pos ⟨hp, z⟩, if_pos ⟨z, q⟩]
    · rw [if_neg (fun y => z y.2), if_neg (fun y => z y.1)]
/-- what stays over the days -/
theorem dN_off (W : Nat → Int32) {n0 n1 : Nat} (hn : n0 ≤ 16) (h6 : n1 ≤ 6) {i : Nat} (h : i < 591 ∨ 770 < i) (h5 : i ≠ 5) (h11 : i ≠ 11) (h12 : i ≠ 12) (hw : ∀ p, p < 16 → i ≠ 13 + 8 * p + 2) (ht : i < 141 ∨ 165 ≤ i ∨ ∃ t k, k < 3 ∧ i = 141 + 4 * t + k) : ∀ k, dN W n0 n1 k i = W i
  | 0 => rfl
  | k + 1 => by
    show oneW (dN W n0 n1 k) n0 n1 i = _
    rw [oneW_off _ hn h6 h h5 h11 h12 hw ht]
    exact dN_off W hn h6 h h5 h11 h12 hw ht k
section TR
variable {s : aS} {M : MK} {n0 n1 : Nat}
theorem m_days (C : Mdl s 66 M) (h0 : M.2 1 0 = Int32.ofNat n0) (hn : n0 ≤ 16) (h1 : M.2 1 1 = Int32.ofNat n1) (h6 : n1 ≤ 6) (hto : ∀ t, t < n1 → toolOk (M.2 1) t) {n : Nat} (hb : n < 2 ^ 31) : WRun (loopM (mX12_tries_L2 66 (Int32.ofNat n)) 0) s M () (dN (M.2 1) n0 n1 n) := by
  refine WRun.loop n (fun k => Int32.ofNat k) (fun k => dN (M.2 1) n0 n1 k) (fun k hk s' M' C' h' => ?_) (fun s' M' C' h' => ?_) C rfl
  · show WRun (mX12_tries_L2 66 (Int32.ofNat n) (Int32.ofNat k)) s' M' (.inl (Int32.ofNat (k + 1))) (oneW (dN (M.2 1) n0 n1 k) n0 n1)
    unfold mX12_tries_L2
    rw [if_neg (nle hk hb), ← ofN_succ, ← h']
    refine (m_oneDay C' ?_ hn ?_ h6 fun t ht => toolOk_low (by omega) (fun i a b z => ?_) (hto t ht)).bnd fun s2 M2 C2 h2 _ _ => WRun.fin C2 h2
    · rw [h', dN_off _ hn h6 (by omega) (by omega) (by omega) (by omega) (fun p _ => by omega) (by omega), h0]
    · rw [h', dN_off _ hn h6 (by omega) (by omega) (by omega) (by omega) (fun p _ => by omega) (by omega), h1]
    · rw [h']
      exact dN_off _ hn h6 (by omega) (by omega) (by omega) (by omega) (fun p _ => by omega) (Or.inr (Or.inr z)) k
  · show WRun (mX12_tries_L2 66 (Int32.ofNat n) (Int32.ofNat n)) s' M' _ _
    unfold mX12_tries_L2
    rw [if_pos (Int32.le_refl _)]
    exact WRun.fin C' h'
def wheads (W : Nat → Int32) (n : Nat) : Int32 := sumI (fun p => if W (13 + 8 * p) = 1 then W (13 + 8 * p + 2) else 0) n
theorem m_heads (C : Mdl s 66 M) (h0 : M.2 1 0 = Int32.ofNat n0) (hn : n0 ≤ 16) : mX12_headsWear 66 s = some (.inl (wheads (M.2 1) n0), s) := by
  have key : loopM (mX12_headsWear_L4 66) (sumI (fun p => if M.2 1 (13 + 8 * p) = 1 then M.2 1 (13 + 8 * p + 2) else 0) 0, Int32.ofNat 0) s = some (.inl (wheads (M.2 1) n0), s) := by
    refine loop_steps n0 (fun j => (sumI (fun p => if M.2 1 (13 + 8 * p) = 1 then M.2 1 (13 + 8 * p + 2) else 0) j, Int32.ofNat j)) (fun _ => s) (fun j hj => ?_) ?_
    · show mX12_headsWear_L4 66 (_, Int32.ofNat j) s = some (.inl (.inl (sumI (fun p => if M.2 1 (13 + 8 * p) = 1 then M.2 1 (13 + 8 * p + 2) else 0) j + (if M.2 1 (13 + 8 * j) = 1 then M.2 1 (13 + 8 * j + 2) else 0), Int32.ofNat (j + 1))), s)
      unfold mX12_headsWear_L4
      dsimp only
      rw [bnd_ok (parts_run C), h0, if_neg (nle hj (by omega)), bnd_ok ((MD.is C).2.2 j (by omega)), ← ofN_succ]
      by_cases q : M.2 1 (13 + 8 * j) = 1
      · rw [if_pos q, if_neg one_ne0, bnd_ok ((bnd_ok ((MD.cols C).2.2.1 j (by omega))).trans rfl), if_pos q]
        rfl
      · rw [if_neg q, if_pos rfl, mret_mbnd, if_neg q]
        rfl
    · show mX12_headsWear_L4 66 (_, Int32.ofNat n0) s = _
      unfold mX12_headsWear_L4
      dsimp only
      rw [bnd_ok (parts_run C), h0, if_pos (Int32.le_refl _)]
      rfl
  unfold mX12_headsWear
  rw [onC_ok C.1]
  exact (bnd_ok key).trans rfl
def rsN (V T : Nat → Int32) : Nat → Nat → Int32
  | 0 => V
  | k + 1 => upd (rsN V T k) k (T k)
theorem rsN_at (V T : Nat → Int32) : ∀ k i, rsN V T k i = if i < k then T i else V i
  | 0, i => by rw [if_neg (Nat.not_lt_zero i)]; rfl
  | k + 1, i => by
    unfold rsN upd
    by_cases e : i = k
    · rw [if_pos e, if_pos (by omega), e]
    · rw [if_neg e, rsN_at V T k i]
      by_cases q : i < k
      · rw [if_pos q, if_pos (by omega)]
      · rw [if_neg q, if_neg (by omega)]
theorem m_back (C : Mdl s 66 M) : WRun (loopM (mX12_tries_L24 66) 0) s M () (rsN (M.2 1) (M.2 4) 1071) := by
  have key : ∀ d k, d + k = 1071 → ∀ s' M', Mdl s' 66 M' → M'.2 1 = rsN (M.2 1) (M.2 4) k → M'.2 4 = M.2 4 → WRun (loopM (mX12_tries_L24 66) (Int32.ofNat k)) s' M' () (rsN (M.2 1) (M.2 4) 1071) := by
    intro d
    induction d with
    | zero =>
      intro k e s' M' C' h' h4
      have ek : k = 1071 := by omega
      subst ek
      rw [loopM_eq]
      refine WRun.bnd (x := (.inr () : Int32 ⊕ Unit)) (W1 := rsN (M.2 1) (M.2 4) 1071) ?_ fun s2 M2 C2 h2 _ _ => WRun.fin C2 h2
      unfold mX12_tries_L24
      rw [if_pos (show (1071 : Int32) ≤ Int32.ofNat 1071 from Int32.le_refl _)]
      exact WRun.fin C' h'
    | succ d ih =>
      intro k e s' M' C' h' h4
      rw [loopM_eq]
      refine WRun.bnd (x := (.inl (Int32.ofNat (k + 1)) : Int32 ⊕ Unit)) (W1 := rsN (M.2 1) (M.2 4) (k + 1)) ?_ fun s2 M2 C2 h2 _ hq => ih (k + 1) (by omega) s2 M2 C2 h2 ((hq 4 (by decide)).trans h4)
      unfold mX12_tries_L24
      have l4 : ldI 0 70 (Int32.ofNat k) s' = some (.inl (M.2 4 k), s') := by
        rw [← h4]
        have := ldI_ok (i := Int32.ofNat k) (C'.2 4 (by decide) (by decide)) (ofN_nn (by omega)) (by rw [ofN_cl (by omega)]; show k < 1071; omega)
        rwa [ofN_cl (by omega)] at this
      rw [if_neg (show ¬ (1071 : Int32) ≤ Int32.ofNat k from nle (n := 1071) (by omega) (by decide)), ← ofN_succ]
      refine WRun.get (MD.refs C').2.1 (WRun.get (MD.refs C').2.2.2.2.1 (WRun.get l4 ((WRun.put C' (by omega)).bnd fun s2 M2 C2 h2 _ _ => WRun.fin C2 ?_)))
      rw [h2, h']
      rfl
  exact key 1071 0 rfl s M C rfl rfl
theorem m_tries (C : Mdl s 66 M) (h0 : M.2 1 0 = Int32.ofNat n0) (hn : n0 ≤ 16) (h1 : M.2 1 1 = Int32.ofNat n1) (h6 : n1 ≤ 6) (hto : ∀ t, t < n1 → toolOk (M.2 1) t) (hk : ∀ i, i < 1071 → M.2 4 i = M.2 1 i) {n : Nat} (hb : n < 2 ^ 31) : WRun (mX12_tries 66 (Int32.ofNat n)) s M (wheads (dN (M.2 1) n0 n1 n) n0) (M.2 1) := by
  unfold mX12_tries
  refine WRun.o11 C ((m_days C h0 hn h1 h6 hto hb).bnd fun s1 M1 C1 e1 _ q1 => ?_)
  have a0 : M1.2 1 0 = Int32.ofNat n0 := by
    rw [e1, dN_off _ hn h6 (by omega) (by omega) (by omega) (by omega) (fun p _ => by omega) (by omega), h0]
  refine WRun.get (x := wheads (dN (M.2 1) n0 n1 n) n0) (by rw [m_heads C1 a0 hn, e1]) ((m_back C1).bnd fun s2 M2 C2 e2 _ _ => WRun.fin C2 ?_)
  rw [e2]
  funext i
  rw [rsN_at, q1 4 (by decide), e1]
  by_cases q : i < 1071
  · rw [if_pos q, hk i q]
  · rw [if_neg q]
    exact dN_off _ hn h6 (by omega) (by omega) (by omega) (by omega) (fun p _ => by omega) (by omega) n
end TR
