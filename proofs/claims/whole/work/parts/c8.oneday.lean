/-! THE REFERENCE'S DAY -/
def mkN (W : Nat → Int32) (n : Nat) : Nat → Nat → Int32
  | 0 => W
  | k + 1 => upd (mkN W n k) (591 + k) (if k < n then wmark (mkN W n k) k else -1)
def wrN (W : Nat → Int32) : Nat → Nat → Int32
  | 0 => W
  | k + 1 => if wrN W k (13 + 8 * k) = 1 then upd (wrN W k) (13 + 8 * k + 2) (imin 99 (wrN W k (13 + 8 * k + 2) + 1)) else wrN W k
def ndN (W : Nat → Int32) : Nat → Nat → Int32
  | 0 => W
  | k + 1 => upd (ndN W k) (141 + 4 * k + 3) (iushr (ndN W k (141 + 4 * k + 3)) 1)
def wdamp (r x : Int32) : Int32 := if r ≤ ((x >>> (16 &&& (31 : Int32))) &&& 32767) - ((x >>> (16 &&& (31 : Int32))) &&& 32767) / 100 * 100 then 0 else 1
def dyA (W : Nat → Int32) (n1 : Nat) : Nat → Int32 := mkN (shN W 174) n1 6
def dyB (W : Nat → Int32) (n1 : Nat) : Nat → Int32 := upd (dyA W n1) 11 (imin 30 (dyA W n1 11 + 1))
def dyC (W : Nat → Int32) (n1 : Nat) : Nat → Int32 := upd (dyB W n1) 12 (1103515245 * dyB W n1 12 + 12345)
def dyD (W : Nat → Int32) (n0 n1 : Nat) : Nat → Int32 := if wdamp (dyC W n1 8) (dyC W n1 12) = 0 then dyC W n1 else wrN (dyC W n1) n0
def dyE (W : Nat → Int32) (n0 n1 : Nat) : Nat → Int32 := upd (dyD W n0 n1) 5 (dyD W n0 n1 5 + 1)
def oneW (W : Nat → Int32) (n0 n1 : Nat) : Nat → Int32 := ndN (dyE W n0 n1) n1
theorem mkN_off (W : Nat → Int32) (n : Nat) {i : Nat} (h : i < 591 ∨ 597 ≤ i) : ∀ k, k ≤ 6 → mkN W n k i = W i
  | 0, _ => rfl
  | k + 1, hk => by
    show (if i = 591 + k then _ else _) = _
    rw [if_neg (by omega)]
    exact mkN_off W n h k (by omega)
theorem wrN_off (W : Nat → Int32) {i : Nat} (h : ∀ p, p < 16 → i ≠ 13 + 8 * p + 2) : ∀ k, k ≤ 16 → wrN W k i = W i
  | 0, _ => rfl
  | k + 1, hk => by
    show (if wrN W k (13 + 8 * k) = 1 then upd (wrN W k) (13 + 8 * k + 2) (imin 99 (wrN W k (13 + 8 * k + 2) + 1)) else wrN W k) i = _
    split
    · show (if i = 13 + 8 * k + 2 then _ else _) = _
      rw [if_neg (h k (by omega))]
      exact wrN_off W h k (by omega)
    · exact wrN_off W h k (by omega)
theorem wrN_at (W : Nat → Int32) {p : Nat} (hp : p < 16) : ∀ k, k ≤ 16 → wrN W k (13 + 8 * p + 2) = if p < k ∧ W (13 + 8 * p) = 1 then imin 99 (W (13 + 8 * p + 2) + 1) else W (13 + 8 * p + 2)
  | 0, _ => by
    rw [if_neg (fun q => Nat.not_lt_zero p q.1)]
    rfl
  | k + 1, hk => by
    have ih := wrN_at W hp k (by omega)
    have h0 : wrN W k (13 + 8 * k) = W (13 + 8 * k) := wrN_off W (fun q _ => by omega) k (by omega)
    show (if wrN W k (13 + 8 * k) = 1 then upd (wrN W k) (13 + 8 * k + 2) (imin 99 (wrN W k (13 + 8 * k + 2) + 1)) else wrN W k) (13 + 8 * p + 2) = _
    rw [h0]
    by_cases e : p = k
    · subst e
      rw [if_neg (fun q => Nat.lt_irrefl p q.1)] at ih
      by_cases q : W (13 + 8 * p) = 1
      · rw [if_pos q, if_pos ⟨Nat.lt_succ_self p, q⟩]
        show (if 13 + 8 * p + 2 = 13 + 8 * p + 2 then _ else _) = _
        rw [if_pos rfl, ih]
      · rw [if_neg q, if_neg (fun z => q z.2), ih]
    · have hpk : (p < k + 1 ∧ W (13 + 8 * p) = 1) = (p < k ∧ W (13 + 8 * p) = 1) := by
        apply propext
        constructor
        · exact fun z => ⟨by omega, z.2⟩
        · exact fun z => ⟨by omega, z.2⟩
      simp only [hpk]
      rw [← ih]
      split
      · show (if 13 + 8 * p + 2 = 13 + 8 * k + 2 then _ else _) = _
        rw [if_neg (by omega)]
      · rfl
theorem ndN_off (W : Nat → Int32) {i : Nat} (h : i < 141 ∨ 165 ≤ i ∨ ∃ t k, k < 3 ∧ i = 141 + 4 * t + k) : ∀ k, k ≤ 6 → ndN W k i = W i
  | 0, _ => rfl
  | k + 1, hk => by
    show (if i = 141 + 4 * k + 3 then _ else _) = _
    rw [if_neg (by rcases h with h | h | ⟨t, j, hj, h⟩ <;> omega)]
    exact ndN_off W h k (by omega)
section OD
variable {s : aS} {M : MK} {n0 n1 : Nat}
theorem MRun.wrun {α : Type} {m : MM α} {v : α} {i : Nat} {x : Int32} (h : MRun m s 66 v (mput M 1 i x)) : WRun m s M v (upd (M.2 1) i x) := by
  obtain ⟨s', h1, h2, h3⟩ := h
  exact ⟨s', _, h1, h2, h3, rfl, rfl, fun q hq => if_neg hq⟩
theorem WRun.fin {α : Type} {x : α} {W' : Nat → Int32} (C : Mdl s 66 M) (h : M.2 1 = W') : WRun (mret x) s M x W' := ⟨s, M, rfl, C, Off.rf, rfl, h, fun _ _ => rfl⟩
theorem toolOk_low {W W' : Nat → Int32} {t : Nat} (ht : t < 6) (e : ∀ i, 141 ≤ i → i < 165 → (∃ t k, k < 3 ∧ i = 141 + 4 * t + k) → W' i = W i) (h : toolOk W t) : toolOk W' t := fun k hk => by
  have := h k hk
  rwa [← e (141 + 4 * t + k) (by omega) (by omega) ⟨t, k, hk, rfl⟩] at this
theorem m_marks (C : Mdl s 66 M) (h1 : M.2 1 1 = Int32.ofNat n1) (h6 : n1 ≤ 6) (hto : ∀ t, t < n1 → toolOk (M.2 1) t) : WRun (loopM (mX12_keepsSheet_L41 66) 0) s M () (mkN (M.2 1) n1 6) := by
  refine WRun.loop 6 (fun k => Int32.ofNat k) (fun k => mkN (M.2 1) n1 k) (fun k hk s' M' C' h' => ?_) (fun s' M' C' h' => ?_) C rfl
  · show WRun (mX12_keepsSheet_L41 66 (Int32.ofNat k)) s' M' (.inl (Int32.ofNat (k + 1))) (upd (mkN (M.2 1) n1 k) (591 + k) (if k < n1 then wmark (mkN (M.2 1) n1 k) k else -1))
    unfold mX12_keepsSheet_L41
    have ht : mX12_tools 66 s' = some (.inl (Int32.ofNat n1), s') := by
      rw [← h1, ← mkN_off (M.2 1) n1 (i := 1) (by omega) k (by omega), ← h']
      exact tools_run C'
    have e1 : (591 : Int32) + Int32.ofNat k = Int32.ofNat (591 + k) := by rw [show (591 : Int32) = Int32.ofNat 591 from rfl, ofN_add]
    rw [if_neg (show ¬ (6 : Int32) ≤ Int32.ofNat k from nle (n := 6) hk (by decide)), e1, ← ofN_succ, ← h']
    refine WRun.get (MD.refs C').2.1 (WRun.get ht (WRun.get (x := if k < n1 then wmark (M'.2 1) k else -1) ?_ ((WRun.put C' (by omega)).bnd fun s2 M2 C2 h2 _ _ => by
      rw [← h2]
      exact WRun.ret C2)))
    by_cases q : k < n1
    · rw [if_neg (nle q (by omega)), if_pos q]
      refine (bnd_ok (m_markNow_run C' (t := k) (by omega) (toolOk_low (by omega) (fun i a b _ => ?_) (hto k q)))).trans rfl
      rw [h']
      exact mkN_off (M.2 1) n1 (by omega) k (by omega)
    · rw [if_pos ((ofN_le (by omega) (by omega)).mpr (by omega)), if_neg q]
      rfl
  · show WRun (mX12_keepsSheet_L41 66 (Int32.ofNat 6)) s' M' _ _
    unfold mX12_keepsSheet_L41
    rw [if_pos (show (6 : Int32) ≤ Int32.ofNat 6 from Int32.le_refl _), ← h']
    exact WRun.ret C'
theorem m_wearing (C : Mdl s 66 M) (h0 : M.2 1 0 = Int32.ofNat n0) (hn : n0 ≤ 16) {x5 : Int32} : WRun (loopM (mX12_oneDay_L28 66 x5) 0) s M () (if x5 = 0 then M.2 1 else wrN (M.2 1) n0) := by
  by_cases q : x5 = 0
  · rw [if_pos q]
    refine WRun.loop 0 (fun k => Int32.ofNat k) (fun _ => M.2 1) (fun k hk => absurd hk (Nat.not_lt_zero k)) (fun s' M' C' h' => ?_) C rfl
    show WRun (mX12_oneDay_L28 66 x5 (Int32.ofNat 0)) s' M' _ _
    unfold mX12_oneDay_L28
    refine WRun.get (parts_run C') ?_
    rw [← h']
    by_cases z : M'.2 1 0 ≤ Int32.ofNat 0
    · rw [if_pos z]
      exact WRun.ret C'
    · rw [if_neg z, if_pos q]
      exact WRun.ret C'
  · rw [if_neg q]
    refine WRun.loop n0 (fun k => Int32.ofNat k) (fun k => wrN (M.2 1) k) (fun k hk s' M' C' h' => ?_) (fun s' M' C' h' => ?_) C rfl
    · have hp : mX12_parts 66 s' = some (.inl (Int32.ofNat n0), s') := by
        rw [← h0, ← wrN_off (M.2 1) (i := 0) (fun p _ => by omega) k (by omega), ← h']
        exact parts_run C'
      show WRun (mX12_oneDay_L28 66 x5 (Int32.ofNat k)) s' M' (.inl (Int32.ofNat (k + 1))) (if wrN (M.2 1) k (13 + 8 * k) = 1 then upd (wrN (M.2 1) k) (13 + 8 * k + 2) (imin 99 (wrN (M.2 1) k (13 + 8 * k + 2) + 1)) else wrN (M.2 1) k)
      unfold mX12_oneDay_L28
      rw [← h', ← ofN_succ]
      refine WRun.get hp ?_
      rw [if_neg (nle hk (by omega)), if_neg q]
      refine WRun.get ((MD.is C').2.2 k (by omega)) ?_
      by_cases z : M'.2 1 (13 + 8 * k) = 1
      · rw [if_pos z, if_pos z, if_neg one_ne0]
        exact WRun.bnd (WRun.bnd (MRun.wrun (m_wears_run C' (by omega))) fun s2 M2 C2 h2 _ _ => WRun.fin C2 h2) fun s2 M2 C2 h2 _ _ => WRun.fin C2 h2
      · rw [if_neg z, if_neg z, if_pos rfl]
        exact WRun.get (x := ()) rfl (WRun.ret C')
    · have hp : mX12_parts 66 s' = some (.inl (Int32.ofNat n0), s') := by
        rw [← h0, ← wrN_off (M.2 1) (i := 0) (fun p _ => by omega) n0 (by omega), ← h']
        exact parts_run C'
      show WRun (mX12_oneDay_L28 66 x5 (Int32.ofNat n0)) s' M' _ _
      unfold mX12_oneDay_L28
      refine WRun.get hp ?_
      rw [if_pos (Int32.le_refl _), ← h']
      exact WRun.ret C'
theorem m_needs (C : Mdl s 66 M) (h1 : M.2 1 1 = Int32.ofNat n1) (h6 : n1 ≤ 6) : WRun (loopM (mX12_oneDay_L72 66) 0) s M () (ndN (M.2 1) n1) := by
  refine WRun.loop n1 (fun k => Int32.ofNat k) (fun k => ndN (M.2 1) k) (fun k hk s' M' C' h' => ?_) (fun s' M' C' h' => ?_) C rfl
  · have ht : mX12_tools 66 s' = some (.inl (Int32.ofNat n1), s') := by
      rw [← h1, ← ndN_off (M.2 1) (i := 1) (by omega) k (by omega), ← h']
      exact tools_run C'
    show WRun (mX12_oneDay_L72 66 (Int32.ofNat k)) s' M' (.inl (Int32.ofNat (k + 1))) (upd (ndN (M.2 1) k) (141 + 4 * k + 3) (iushr (ndN (M.2 1) k (141 + 4 * k + 3)) 1))
    unfold mX12_oneDay_L72
    have e1 : ((141 : Int32) + 4 * Int32.ofNat k) + 3 = Int32.ofNat (141 + 4 * k + 3) := at_lin 141 4 k 3
    rw [← h', ← ofN_succ]
    refine WRun.get ht ?_
    rw [if_neg (nle hk (by omega)), e1]
    refine WRun.get (MD.refs C').2.1 (WRun.get (x := Int32.ofNat (141 + 4 * k + 3)) rfl (WRun.get ((MD.wl C').1 _ (by omega)) ((WRun.put C' (by omega)).bnd fun s2 M2 C2 h2 _ _ => by
      rw [← h2]
      exact WRun.ret C2)))
  · have ht : mX12_tools 66 s' = some (.inl (Int32.ofNat n1), s') := by
      rw [← h1, ← ndN_off (M.2 1) (i := 1) (by omega) n1 (by omega), ← h']
      exact tools_run C'
    show WRun (mX12_oneDay_L72 66 (Int32.ofNat n1)) s' M' _ _
    unfold mX12_oneDay_L72
    refine WRun.get ht ?_
    rw [if_pos (Int32.le_refl _), ← h']
    exact WRun.ret C'
theorem m_sheet (C : Mdl s 66 M) (h1 : M.2 1 1 = Int32.ofNat n1) (h6 : n1 ≤ 6) (hto : ∀ t, t < n1 → toolOk (M.2 1) t) : WRun (mX12_keepsSheet 66) s M () (dyB (M.2 1) n1) := by
  unfold mX12_keepsSheet
  refine WRun.o11 C ((m_shift C).bnd fun s1 M1 C1 e1 _ _ => ?_)
  have a1 : M1.2 1 1 = Int32.ofNat n1 := by rw [e1, shN_off (M.2 1) (i := 1) (by omega) 174 (by decide), h1]
  refine (m_marks C1 a1 h6 (fun t ht => toolOk_low (by omega) (fun i a b _ => by rw [e1]; exact shN_off (M.2 1) (by omega) 174 (by decide)) (hto t ht))).bnd fun s2 M2 C2 e2 _ _ => ?_
  rw [e1] at e2
  refine WRun.get (MD.refs C2).2.1 (WRun.get (MD.refs C2).2.1 (WRun.get (x := M2.2 1 11) ((MD.wl C2).1 11 (by decide)) (WRun.bnd (W1 := upd (M2.2 1) 11 (imin 30 (M2.2 1 11 + 1))) (WRun.put (i := 11) C2 (by decide)) fun s3 M3 C3 e3 _ _ => ?_)))
  refine WRun.fin C3 ?_
  rw [e3, e2]
  rfl
theorem m_oneDay (C : Mdl s 66 M) (h0 : M.2 1 0 = Int32.ofNat n0) (hn : n0 ≤ 16) (h1 : M.2 1 1 = Int32.ofNat n1) (h6 : n1 ≤ 6) (hto : ∀ t, t < n1 → toolOk (M.2 1) t) : WRun (mX12_oneDay 66) s M () (oneW (M.2 1) n0 n1) := by
  have lowB : ∀ i, i < 591 → i ≠ 11 → dyB (M.2 1) n1 i = M.2 1 i := fun i hi h11 => by
    show (if i = 11 then _ else _) = _
    rw [if_neg h11]
    show mkN _ _ 6 i = _
    rw [mkN_off _ _ (by omega) 6 (by decide), shN_off _ (by omega) 174 (by decide)]
  have lowC : ∀ i, i < 591 → i ≠ 11 → i ≠ 12 → dyC (M.2 1) n1 i = M.2 1 i := fun i hi h11 h12 => by
    show (if i = 12 then _ else _) = _
    rw [if_neg h12]
    exact lowB i hi h11
  unfold mX12_oneDay
  refine WRun.o11 C ((m_sheet C h1 h6 hto).bnd fun s1 M1 C1 e1 _ _ => ?_)
  have draw : WRun (mX12_draw 66 100) s1 M1 (((dyC (M.2 1) n1 12 >>> (16 &&& (31 : Int32))) &&& 32767) - ((dyC (M.2 1) n1 12 >>> (16 &&& (31 : Int32))) &&& 32767) / 100 * 100) (dyC (M.2 1) n1) := by
    unfold mX12_draw
    refine WRun.o11 C1 (WRun.get (MD.refs C1).2.1 (WRun.get (MD.refs C1).2.1 (WRun.get (x := M1.2 1 12) ((MD.wl C1).1 12 (by decide)) (WRun.bnd (W1 := upd (M1.2 1) 12 (1103515245 * M1.2 1 12 + 12345)) (WRun.put (i := 12) C1 (by decide)) fun s2 M2 C2 e2 _ _ => ?_))))
    have e2' : M2.2 1 = dyC (M.2 1) n1 := by
      rw [e2, e1]
      rfl
    refine WRun.get (MD.refs C2).2.1 (WRun.get (x := M2.2 1 12) ((MD.wl C2).1 12 (by decide)) (WRun.get (x := ()) rfl ?_))
    rw [e2']
    exact WRun.fin C2 e2'
  refine draw.bnd fun s2 M2 C2 e2 _ _ => ?_
  refine WRun.get (MD.refs C2).2.1 (WRun.get (x := M2.2 1 8) ((MD.wl C2).1 8 (by decide)) (WRun.get (x := wdamp (dyC (M.2 1) n1 8) (dyC (M.2 1) n1 12)) ?_ ?_))
  · rw [e2]
    unfold wdamp
    split <;> rfl
  have a0 : M2.2 1 0 = Int32.ofNat n0 := by rw [e2, lowC 0 (by decide) (by decide) (by decide), h0]
  refine (m_wearing C2 a0 hn).bnd fun s3 M3 C3 e3 _ _ => ?_
  rw [e2] at e3
  have e3' : M3.2 1 = dyD (M.2 1) n0 n1 := e3
  refine WRun.get (MD.refs C3).2.1 (WRun.get (x := M3.2 1 5) ((MD.wl C3).1 5 (by decide)) (WRun.bnd (W1 := upd (M3.2 1) 5 (M3.2 1 5 + 1)) (WRun.put (i := 5) C3 (by decide)) fun s4 M4 C4 e4 _ _ => ?_))
  have e4' : M4.2 1 = dyE (M.2 1) n0 n1 := by
    rw [e4, e3']
    rfl
  have a1 : M4.2 1 1 = Int32.ofNat n1 := by
    rw [e4']
    rw [show dyE (M.2 1) n0 n1 1 = dyD (M.2 1) n0 n1 1 from by
      unfold dyE upd
      rw [if_neg (show ¬ (1 : Nat) = 5 by decide)]]
    unfold dyD
    split
    · rw [lowC 1 (by decide) (by decide) (by decide), h1]
    · rw [wrN_off _ (fun p _ => by omega) n0 hn, lowC 1 (by decide) (by decide) (by decide), h1]
  refine (m_needs C4 a1 h6).bnd fun s5 M5 C5 e5 _ _ => WRun.fin C5 ?_
  rw [e5, e4']
  rfl
end OD
