/-! THE REFERENCE'S OBJECT CHANGES: what a step makes of it, all else as it was -/
def MRun {α : Type} (m : MM α) (s : aS) (b : Nat) (v : α) (M' : MK) : Prop := ∃ s', m s = some (.inl v, s') ∧ Mdl s' b M' ∧ Off s s' b (b + 12)
def mint (M : MK) (k : Nat) (v : Int32) : MK := ((fun j => if j = k then v else M.1 j), M.2)
def mput (M : MK) (q i : Nat) (v : Int32) : MK := (M.1, mrow M.2 q (upd (M.2 q) i v))
def isInt (k : Nat) : Bool := [0, 6, 7, 9, 10, 11, 12, 13, 14, 16, 18, 19, 20, 23, 24].contains k
section MR
variable {α β σ ε : Type} {s : aS} {b q k i : Nat} {M M' : MK} {v : Int32}
theorem MRun.bnd {m : MM α} {f : α → MM β} {x : α} {y : β} (h : MRun m s b x M) (g : ∀ s', Mdl s' b M → MRun (f x) s' b y M') : MRun (mbnd m f) s b y M' := by
  obtain ⟨s1, h1, h2, h3⟩ := h
  obtain ⟨s2, g1, g2, g3⟩ := g s1 h2
  exact ⟨s2, (bnd_ok h1).trans g1, g2, h3.trans g3⟩
theorem MRun.get {m : MM α} {f : α → MM β} {x : α} {y : β} (h : m s = some (.inl x, s)) (g : MRun (f x) s b y M') : MRun (mbnd m f) s b y M' := by
  obtain ⟨s2, g1, g2, g3⟩ := g
  exact ⟨s2, (bnd_ok h).trans g1, g2, g3⟩
theorem MRun.ret {x : α} (C : Mdl s b M) : MRun (mret x) s b x M := ⟨s, rfl, C, Off.rf⟩
theorem MRun.onC {m : MM α} {x : α} (C : Mdl s b M) (h : MRun m s b x M') : MRun (onC 11 b m) s b x M' := by
  obtain ⟨s', h1, h2⟩ := h
  exact ⟨s', (onC_ok C.1).trans h1, h2⟩
theorem MRun.loop {f : σ → MM (σ ⊕ ε)} {e : ε} (N : Nat) (X : Nat → σ) (Q : Nat → MK) (hs : ∀ n s', n < N → Mdl s' b (Q n) → MRun (f (X n)) s' b (.inl (X (n + 1))) (Q (n + 1))) (he : ∀ s', Mdl s' b (Q N) → MRun (f (X N)) s' b (.inr e) M') (C : Mdl s b (Q 0)) : MRun (loopM f (X 0)) s b e M' := by
  have key : ∀ m, m ≤ N → ∀ s', Mdl s' b (Q (N - m)) → MRun (loopM f (X (N - m))) s' b e M' := by
    intro m
    induction m with
    | zero =>
      intro _ s' C'
      rw [loopM_eq]
      exact MRun.bnd (he s' C') fun s2 C2 => MRun.ret C2
    | succ m ih =>
      intro hm s' C'
      rw [loopM_eq]
      have h := hs (N - (m + 1)) s' (by omega) C'
      rw [show N - (m + 1) + 1 = N - m by omega] at h
      exact MRun.bnd h fun s2 C2 => ih (by omega) s2 C2
  have h := key N (Nat.le_refl N) s (by rw [Nat.sub_self]; exact C)
  rwa [Nat.sub_self] at h
theorem mint_run (C : Mdl s b M) (hk : isInt k = true) : MRun (pI 11 k b v) s b () (mint M k v) := by
  have hk2 : k = 0 ∨ k = 6 ∨ k = 7 ∨ k = 9 ∨ k = 10 ∨ k = 11 ∨ k = 12 ∨ k = 13 ∨ k = 14 ∨ k = 16 ∨ k = 18 ∨ k = 19 ∨ k = 20 ∨ k = 23 ∨ k = 24 := by
    simpa [isInt] using hk
  have hF : mF b (mint M k v) = (mF b M).set k (.int v) ∧ k < 27 := by
    rcases hk2 with rfl | rfl | rfl | rfl | rfl | rfl | rfl | rfl | rfl | rfl | rfl | rfl | rfl | rfl | rfl <;> exact ⟨rfl, by decide⟩
  refine ⟨_, pF_ok C.1 hF.2, ⟨?_, fun q h1 h2 => hasI_sup (C.2 q h1 h2) (by omega)⟩, Off.sup (Nat.le_refl b) (by omega)⟩
  rw [hF.1]
  exact hasO_put C.1.2
theorem mput_run (C : Mdl s b M) (h1 : 1 ≤ q) (h2 : q ≤ 12) (hi : i < mS q) (hb : mS q < 2 ^ 31) : MRun (stI (mT q) (b + q) (Int32.ofNat i) v) s b () (mput M q i v) := by
  refine ⟨_, stI_ok (C.2 q h1 h2) (ofN_nn (by omega)) (by rw [ofN_cl (by omega)]; exact hi), ?_, Off.sup (by omega) (by omega)⟩
  rw [ofN_cl (by omega)]
  exact C.row h1 h2
theorem wput (C : Mdl s b M) (hi : i < 2769) : MRun (stI 0 (b + 1) (Int32.ofNat i) v) s b () (mput M 1 i v) := mput_run (q := 1) C (by decide) (by decide) hi (by decide)
theorem m_wears_run (C : Mdl s b M) {p : Nat} (hp : p < 16) : MRun (mX12_wears b (Int32.ofNat p) v) s b () (mput M 1 (13 + 8 * p + 2) (imin 99 (M.2 1 (13 + 8 * p + 2) + v))) := by
  unfold mX12_wears
  refine MRun.onC C (MRun.get (gR_ok C.1 rfl) (MRun.get (x := Int32.ofNat (13 + 8 * p + 2)) ?_ (MRun.get (of_run (c := 2) C (by omega)) (MRun.bnd (wput C (by omega)) fun s1 C1 => MRun.ret C1))))
  show some (Sum.inl (Int32.ofNat 13 + Int32.ofNat 8 * Int32.ofNat p + Int32.ofNat 2), s) = _
  rw [at_lin]
end MR
