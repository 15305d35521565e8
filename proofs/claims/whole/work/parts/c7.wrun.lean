/-! THE REFERENCE'S WORLD CHANGES: one day of it -/
def WRun {α : Type} (m : MM α) (s : aS) (M : MK) (v : α) (W' : Nat → Int32) : Prop := ∃ s' M', m s = some (.inl v, s') ∧ Mdl s' 66 M' ∧ Off s s' 66 78 ∧ M'.1 = M.1 ∧ M'.2 1 = W' ∧ ∀ q, q ≠ 1 → M'.2 q = M.2 q
section WR
variable {α β σ ε : Type} {s : aS} {M : MK} {W' : Nat → Int32}
theorem WRun.bnd {m : MM α} {g : α → MM β} {x : α} {y : β} {W1 : Nat → Int32} (h : WRun m s M x W1) (k : ∀ s' M', Mdl s' 66 M' → M'.2 1 = W1 → M'.1 = M.1 → (∀ q, q ≠ 1 → M'.2 q = M.2 q) → WRun (g x) s' M' y W') : WRun (mbnd m g) s M y W' := by
  obtain ⟨s1, M1, h1, h2, h3, h4, h5, h6⟩ := h
  obtain ⟨s2, M2, g1, g2, g3, g4, g5, g6⟩ := k s1 M1 h2 h5 h4 h6
  exact ⟨s2, M2, (bnd_ok h1).trans g1, g2, h3.trans g3, g4.trans h4, g5, fun q hq => (g6 q hq).trans (h6 q hq)⟩
theorem WRun.get {m : MM α} {g : α → MM β} {x : α} {y : β} (h : m s = some (.inl x, s)) (k : WRun (g x) s M y W') : WRun (mbnd m g) s M y W' := by
  obtain ⟨s2, M2, g1, g2⟩ := k
  exact ⟨s2, M2, (bnd_ok h).trans g1, g2⟩
theorem WRun.ret {x : α} (C : Mdl s 66 M) : WRun (mret x) s M x (M.2 1) := ⟨s, M, rfl, C, Off.rf, rfl, rfl, fun _ _ => rfl⟩
theorem WRun.o11 {m : MM α} {x : α} (C : Mdl s 66 M) (h : WRun m s M x W') : WRun (onC 11 66 m) s M x W' := by
  obtain ⟨s', M', h1, h2⟩ := h
  exact ⟨s', M', (onC_ok C.1).trans h1, h2⟩
theorem WRun.put {i : Nat} {v : Int32} (C : Mdl s 66 M) (hi : i < 2769) : WRun (stI 0 67 (Int32.ofNat i) v) s M () (upd (M.2 1) i v) := by
  obtain ⟨s', h1, h2, h3⟩ := wput (v := v) C hi
  exact ⟨s', _, h1, h2, h3, rfl, rfl, fun q hq => if_neg hq⟩
theorem WRun.loop {b : σ → MM (σ ⊕ ε)} {e : ε} (N : Nat) (X : Nat → σ) (Q : Nat → Nat → Int32) (hs : ∀ j, j < N → ∀ s' M', Mdl s' 66 M' → M'.2 1 = Q j → WRun (b (X j)) s' M' (.inl (X (j + 1))) (Q (j + 1))) (he : ∀ s' M', Mdl s' 66 M' → M'.2 1 = Q N → WRun (b (X N)) s' M' (.inr e) (Q N)) (C : Mdl s 66 M) (h0 : M.2 1 = Q 0) : WRun (loopM b (X 0)) s M e (Q N) := by
  have key : ∀ m, m ≤ N → ∀ s' M', Mdl s' 66 M' → M'.2 1 = Q (N - m) → WRun (loopM b (X (N - m))) s' M' e (Q N) := by
    intro m
    induction m with
    | zero =>
      intro _ s' M' C' h'
      rw [loopM_eq, Nat.sub_zero]
      exact (he s' M' C' h').bnd fun s2 M2 C2 h2 _ _ => by
        rw [← h2]
        exact WRun.ret C2
    | succ m ih =>
      intro hm s' M' C' h'
      rw [loopM_eq]
      have h := hs (N - (m + 1)) (by omega) s' M' C' h'
      rw [show N - (m + 1) + 1 = N - m by omega] at h
      exact h.bnd fun s2 M2 C2 h2 _ _ => ih (by omega) s2 M2 C2 h2
  have h := key N (Nat.le_refl N) s M C (by rw [Nat.sub_self]; exact h0)
  rwa [Nat.sub_self] at h
end WR
def shN (W : Nat → Int32) : Nat → Nat → Int32
  | 0 => W
  | k + 1 => upd (shN W k) (770 - k) (shN W k (764 - k))
theorem shN_off (W : Nat → Int32) {i : Nat} (h : i < 597 ∨ 770 < i) : ∀ k, k ≤ 174 → shN W k i = W i
  | 0, _ => rfl
  | k + 1, hk => by
    show (if i = 770 - k then _ else _) = _
    rw [if_neg (by omega)]
    exact shN_off W h k (by omega)
section DW
variable {s : aS} {M : MK}
theorem m_shift (C : Mdl s 66 M) : WRun (loopM (mX12_keepsSheet_L4 66) 179) s M () (shN (M.2 1) 174) := by
  refine WRun.loop 174 (fun k => Int32.ofNat (179 - k)) (fun k => shN (M.2 1) k) (fun k hk s' M' C' h' => ?_) (fun s' M' C' h' => ?_) C rfl
  · show WRun (mX12_keepsSheet_L4 66 (Int32.ofNat (179 - k))) s' M' (.inl (Int32.ofNat (179 - (k + 1)))) (upd (shN (M.2 1) k) (770 - k) (shN (M.2 1) k (764 - k)))
    unfold mX12_keepsSheet_L4
    have e1 : (591 : Int32) + Int32.ofNat (179 - k) = Int32.ofNat (770 - k) := by
      rw [show (591 : Int32) = Int32.ofNat 591 from rfl, ofN_add]
      congr 1
      omega
    have e2 : Int32.ofNat (770 - k) - 6 = Int32.ofNat (764 - k) := by
      rw [show 770 - k = (764 - k) + 6 by omega, ← ofN_add, show Int32.ofNat 6 = 6 from rfl]
      grind
    have e3 : Int32.ofNat (179 - k) + (-1) = Int32.ofNat (179 - (k + 1)) := by
      rw [show 179 - k = (179 - (k + 1)) + 1 by omega, ← ofN_succ]
      grind
    rw [if_neg (show ¬ Int32.ofNat (179 - k) < 6 from fun q => absurd ((ofN_lt (m := 6) (by omega) (by decide)).mp q) (by omega)), e1, e2, e3, ← h']
    refine WRun.get (MD.refs C').2.1 (WRun.get (MD.refs C').2.1 (WRun.get ((MD.wl C').1 _ (by omega)) ((WRun.put C' (by omega)).bnd fun s2 M2 C2 h2 _ _ => ?_)))
    rw [← h2]
    exact WRun.ret C2
  · show WRun (mX12_keepsSheet_L4 66 (Int32.ofNat (179 - 174))) s' M' _ _
    unfold mX12_keepsSheet_L4
    rw [if_pos (show Int32.ofNat (179 - 174) < 6 by decide), ← h']
    exact WRun.ret C'
end DW
