/-! AN ACT: both sides go on -/
/-- only the law's own place differs -/
def St79 (s s' : aS) : Prop := s'.2 = s.2 ∧ (∀ k, k ≠ 79 → s'.1 k = s.1 k) ∧ ∃ g, s'.1 79 = .inr (.inr (.inr (1, g)))
theorem St79.fr {s s' : aS} (h : St79 s s') : Fr (fun k => k = 79) s s' := ⟨by rw [h.1]; exact Nat.le_refl _, fun k _ hp => h.2.1 k hp⟩
/-- the room a call may take -/
def Rm (s s' : aS) : Prop := s'.2.2.1 ≤ s.2.2.1 + 20 ∧ s'.2.2.2 ≤ s.2.2.2 + 2000
/-- both sides answer alike and go on, or both refuse alike -/
def Both (s : aS) (mc mr : MM Int32) (hs : List (Nat × Int32)) (c' : Nat) : Prop :=
  (∃ v s1, mc s = some (.inl v, s1) ∧ Ot s1 ∧ ∀ s1', St79 s1 s1' → ∃ s2 f K M' LW, mr s1' = some (.inl v, s2) ∧ s2.1 79 = s1'.1 79 ∧ M'.1 0 = 0 ∧ Rm s s2 ∧ World s2 f K M' LW c') ∨
  (∃ e t r s1, mc s = some (.inr e, s1) ∧ hsel hs e = mret t ∧ ¬ t = 0 ∧ ∃ s2 f K M' LW, mr s1 = some (.inl r, s2) ∧ M'.1 0 = t ∧ Rm s s2 ∧ World s2 f K M' LW c')
theorem World.more {s : aS} {f : Int32} {K : CK} {M : MK} {LW : Option (List Ln)} {c c' : Nat} (H : World s f K M LW c) (h : c ≤ c') (h' : c' < 100000) : World s f K M LW c' := by
  obtain ⟨⟨⟨C, D, S, hk, hw, hc⟩, CLs, LR⟩, ef, T, R, O, li, o, h0, A, mc, mr, ml⟩ := H
  exact ⟨⟨⟨C, D, S, hk, hw.more h, h'⟩, CLs, LR⟩, ef, T, R, O, li, o, h0, A, mc, mr.keep h rfl rfl rfl rfl rfl, ml⟩
/-- what only asks goes on -/
theorem Ag.goes {s : aS} {f : Int32} {K : CK} {M : MK} {LW : Option (List Ln)} {c c' : Nat} {mc mr : MM Int32} {hs : List (Nat × Int32)} (H : World s f K M LW c) (h : c ≤ c') (h' : c' < 100000) (A : Ag K.2.2.2 mc mr s M hs) : Both s mc mr hs c' := by
  have hD : Mdl s 66 M := H.1.1.2.1
  have hS : ScOk K.2.2.2 s := H.1.2.1.2.1
  have hl := H.lt.2
  have hO : Ot s := H.2.2.2.2.1
  rcases A with ⟨v, s1, a1, a2, a3⟩ | ⟨e, t, r, a1, a2, a3, a4⟩
  · have O1 : Ot s1 := hO.fr a2.fr (by unfold scr; unfold lOk at hl; omega)
    refine Or.inl ⟨v, s1, a1, O1, fun s1' h79 => ?_⟩
    have D1 : Mdl s1' 66 M := (hD.scR hl a2).fr h79.fr fun k k1 k2 (q : k = 79) => by omega
    obtain ⟨s2, M', b1, b2, b3, b4, b5⟩ := a3 s1' D1
    have fr : Fr (pAsk K.2.2.2) s s2 := Fr.tr (a2.fr.mono fun k q => Or.inl q) (Fr.tr (h79.fr.mono fun k q => Or.inr (Or.inl q)) (b3.fr.mono fun k q => Or.inr (Or.inr q)))
    have S2 : ScOk K.2.2.2 s2 := ((a2.2.2 hS).fr h79.fr (fun k k1 (q : k = 79) => by unfold scr at k1; unfold lOk at hl; omega)).fr b3.fr (fun k k1 (q : 66 ≤ k ∧ k ≤ 78) => by unfold scr at k1; unfold lOk at hl; omega)
    have O2 : Ot s2 := ⟨⟨h79.2.2.choose, (b3.2 79 (by omega)).trans h79.2.2.choose_spec⟩, by rw [b3.1, h79.1]; exact O1.2⟩
    refine ⟨s2, f, K, M', LW, b1, b3.2 79 (by omega), b4, ⟨?_, ?_⟩, (H.keep fr S2 b2 b5 O2).more h h'⟩
    · rw [b3.1, h79.1, a2.1]
      omega
    · rw [b3.1, h79.1, a2.1]
      omega
  · obtain ⟨s2, M', b1, b2, b3, b4, b5⟩ := a4 (thS s) (hD.fr (thS_fr (P := fun _ => False)) fun _ _ _ => id)
    have fr : Fr (pAsk K.2.2.2) s s2 := Fr.tr thS_fr (b3.fr.mono fun k q => Or.inr (Or.inr q))
    have S2 : ScOk K.2.2.2 s2 := (hS.fr (thS_fr (P := fun _ => False)) (fun _ _ => id)).fr b3.fr (fun k k1 (q : 66 ≤ k ∧ k ≤ 78) => by unfold scr at k1; unfold lOk at hl; omega)
    have O2 : Ot s2 := (hO.fr (thS_fr (P := fun _ => False)) id).fr b3.fr (fun q : 66 ≤ 79 ∧ 79 ≤ 78 => by omega)
    refine Or.inr ⟨e, t, r, thS s, a1, a2, a3, s2, f, K, M', LW, b1, b4, ⟨?_, ?_⟩, (H.keep fr S2 b2 b5 O2).more h h'⟩
    · rw [b3.1]
      show s.2.2.1 + 1 ≤ _
      omega
    · rw [b3.1]
      show s.2.2.2 + 6 ≤ _
      omega
/-- m answers v and makes K' of the class's Court -/
def KRun {α : Type} (m : MM α) (s : aS) (f : Int32) (v : α) (K' : CK) : Prop := ∃ s', m s = some (.inl v, s') ∧ CC s' f K' ∧ Off s s' 28 40
section KR
variable {α β σ ε : Type} {s : aS} {f : Int32} {K K' : CK}
theorem KRun.bnd {m : MM α} {g : α → MM β} {x : α} {y : β} (h : KRun m s f x K) (k : ∀ s', CC s' f K → Off s s' 28 40 → KRun (g x) s' f y K') : KRun (mbnd m g) s f y K' := by
  obtain ⟨s1, h1, h2, h3⟩ := h
  obtain ⟨s2, g1, g2, g3⟩ := k s1 h2 h3
  exact ⟨s2, (bnd_ok h1).trans g1, g2, h3.trans g3⟩
theorem KRun.get {m : MM α} {g : α → MM β} {x : α} {y : β} (h : m s = some (.inl x, s)) (k : KRun (g x) s f y K') : KRun (mbnd m g) s f y K' := by
  obtain ⟨s2, g1, g2⟩ := k
  exact ⟨s2, (bnd_ok h).trans g1, g2⟩
theorem KRun.ret {x : α} (C : CC s f K) : KRun (mret x) s f x K := ⟨s, rfl, C, Off.rf⟩
theorem KRun.oC0 {m : MM α} {x : α} (C : CC s f K) (h : KRun m s f x K') : KRun (onC 10 0 m) s f x K' := by
  obtain ⟨s', h1, h2⟩ := h
  exact ⟨s', (onC_ok C.1).trans h1, h2⟩
theorem KRun.of {m : MM α} {x : α} (C : CC s f K) (h : CRun m s 28 x K') : KRun m s f x K' := by
  obtain ⟨s', h1, h2, h3⟩ := h
  exact ⟨s', h1, ⟨hasO_off C.1 h3 (by decide), h2⟩, h3⟩
theorem KRun.loop {b : σ → MM (σ ⊕ ε)} {e : ε} (N : Nat) (X : Nat → σ) (Q : Nat → CK) (hs : ∀ n s', n < N → CC s' f (Q n) → Off s s' 28 40 → KRun (b (X n)) s' f (.inl (X (n + 1))) (Q (n + 1))) (he : ∀ s', CC s' f (Q N) → KRun (b (X N)) s' f (.inr e) K') (C : CC s f (Q 0)) : KRun (loopM b (X 0)) s f e K' := by
  have key : ∀ m, m ≤ N → ∀ s', CC s' f (Q (N - m)) → Off s s' 28 40 → KRun (loopM b (X (N - m))) s' f e K' := by
    intro m
    induction m with
    | zero =>
      intro _ s' C' _
      rw [loopM_eq]
      exact KRun.bnd (he s' C') fun s2 C2 _ => KRun.ret C2
    | succ m ih =>
      intro hm s' C' o'
      rw [loopM_eq]
      have h := hs (N - (m + 1)) s' (by omega) C' o'
      rw [show N - (m + 1) + 1 = N - m by omega] at h
      exact KRun.bnd h fun s2 C2 o2 => ih (by omega) s2 C2 (o'.trans o2)
  have h := key N (Nat.le_refl N) s (by rw [Nat.sub_self]; exact C) Off.rf
  rwa [Nat.sub_self] at h
end KR
/-- what the reference keeps in an act, once it has remembered -/
def KeepA (M M' : MK) : Prop := M'.2 2 = M.2 2 ∧ M'.2 5 = M.2 5 ∧ M'.2 6 = M.2 6 ∧ M'.1 0 = M.1 0 ∧ M'.1 6 = M.1 6 ∧ M'.1 7 = M.1 7 ∧ M'.1 9 = M.1 9 ∧ M'.1 14 = M.1 14
theorem KeepA.rf {M : MK} : KeepA M M := ⟨rfl, rfl, rfl, rfl, rfl, rfl, rfl, rfl⟩
theorem KeepA.tr {M M' M'' : MK} (h : KeepA M M') (g : KeepA M' M'') : KeepA M M'' := ⟨g.1.trans h.1, g.2.1.trans h.2.1, g.2.2.1.trans h.2.2.1, g.2.2.2.1.trans h.2.2.2.1, g.2.2.2.2.1.trans h.2.2.2.2.1, g.2.2.2.2.2.1.trans h.2.2.2.2.2.1, g.2.2.2.2.2.2.1.trans h.2.2.2.2.2.2.1, g.2.2.2.2.2.2.2.trans h.2.2.2.2.2.2.2⟩
/-- m answers v and makes W' of the reference's world -/
def AR {α : Type} (m : MM α) (s : aS) (M : MK) (v : α) (W' : Nat → Int32) : Prop := ∃ s' M', m s = some (.inl v, s') ∧ Mdl s' 66 M' ∧ Off s s' 66 78 ∧ M'.2 1 = W' ∧ KeepA M M'
section ARS
variable {α β σ ε : Type} {s : aS} {M : MK} {W' : Nat → Int32}
theorem AR.bnd {m : MM α} {g : α → MM β} {x : α} {y : β} {W1 : Nat → Int32} (h : AR m s M x W1) (k : ∀ s' M', Mdl s' 66 M' → M'.2 1 = W1 → KeepA M M' → AR (g x) s' M' y W') : AR (mbnd m g) s M y W' := by
  obtain ⟨s1, M1, h1, h2, h3, h4, h5⟩ := h
  obtain ⟨s2, M2, g1, g2, g3, g4, g5⟩ := k s1 M1 h2 h4 h5
  exact ⟨s2, M2, (bnd_ok h1).trans g1, g2, h3.trans g3, g4, h5.tr g5⟩
theorem AR.get {m : MM α} {g : α → MM β} {x : α} {y : β} (h : m s = some (.inl x, s)) (k : AR (g x) s M y W') : AR (mbnd m g) s M y W' := by
  obtain ⟨s2, M2, g1, g2⟩ := k
  exact ⟨s2, M2, (bnd_ok h).trans g1, g2⟩
theorem AR.fin {x : α} (C : Mdl s 66 M) (h : M.2 1 = W') : AR (mret x) s M x W' := ⟨s, M, rfl, C, Off.rf, h, KeepA.rf⟩
theorem AR.o11 {m : MM α} {x : α} (C : Mdl s 66 M) (h : AR m s M x W') : AR (onC 11 66 m) s M x W' := by
  obtain ⟨s', M', h1, h2⟩ := h
  exact ⟨s', M', (onC_ok C.1).trans h1, h2⟩
theorem WRun.ar {m : MM α} {x : α} (h : WRun m s M x W') : AR m s M x W' := by
  obtain ⟨s', M', h1, h2, h3, h4, h5, h6⟩ := h
  exact ⟨s', M', h1, h2, h3, h5, h6 2 (by decide), h6 5 (by decide), h6 6 (by decide), by rw [h4], by rw [h4], by rw [h4], by rw [h4], by rw [h4]⟩
theorem AR.put {i : Nat} {v : Int32} (C : Mdl s 66 M) (hi : i < 2769) : AR (stI 0 67 (Int32.ofNat i) v) s M () (upd (M.2 1) i v) := (WRun.put C hi).ar
end ARS
theorem LawR.congr {W W' : Nat → Int32} {LW : Option (List Ln)} (L : LawR W LW) (h4 : W' 4 = W 4) (e : ∀ i, 1071 ≤ i → W' i = W i) : LawR W' LW := by
  have st : ∀ (P : List It) (a : Nat), stepsAt W a P → stepsAt W' a P := by
    intro P
    induction P with
    | nil => exact fun _ _ => trivial
    | cons i r ih =>
      intro a h
      obtain ⟨h1, h2, h3, h4⟩ := h
      exact ⟨(e _ (by omega)).trans h1, fun q => (e _ (by omega)).trans (h2 q), fun q => (e _ (by omega)).trans (h3 q), ih _ h4⟩
  have ln : ∀ (L : List Ln) (j a : Nat), lnsAt W j a L → lnsAt W' j a L := by
    intro L
    induction L with
    | nil => exact fun _ _ _ => trivial
    | cons x r ih =>
      intro j a h
      obtain ⟨h1, h2, h3, h5, h6, h7⟩ := h
      exact ⟨(e _ (by omega)).trans h1, (e _ (by omega)).trans h2, (e _ (by omega)).trans h3, (e _ (by omega)).trans h5, st _ _ h6, ih _ _ h7⟩
  cases LW with
  | none => exact h4.trans L
  | some LL =>
    obtain ⟨h, h1, h2⟩ := L
    exact ⟨h4.trans h, (e _ (by omega)).trans h1, ln _ _ _ h2⟩
section AKP
variable {s : aS} {f : Int32} {K : CK} {M : MK} {LW : Option (List Ln)} {c : Nat}
/-- what an act may change of the class behind its keeping -/
def pAct (l k : Nat) : Prop := scr l k ∨ (28 ≤ k ∧ k ≤ 40)
theorem act_keep (H : World s f K M LW c) : ∃ sa, mX6_keepAct 23 28 s = some (.inl (), sa) ∧ CL sa f K LW ∧ Mdl sa 66 M ∧
    ∀ s1 K', Fr (pAct K.2.2.2) sa s1 → s1.2 = sa.2 → CC s1 f K' → ScOk K.2.2.2 s1 → K'.2.2.2 = K.2.2.2 → Ot s1 ∧
     ∀ s1', St79 s1 s1' → Mdl s1' 66 M ∧
      ∀ s2, Mdl s2 66 (mint M 0 0) → Off s1' s2 66 78 → ∃ s3 M3, mX12_remembers 66 s2 = some (.inl (), s3) ∧ Mdl s3 66 M3 ∧ M3.2 1 = M.2 1 ∧ Off s1' s3 66 78 ∧ M3.1 0 = 0 ∧
       ∀ s4 M4 c', Mdl s4 66 M4 → Off s3 s4 66 78 → KeepA M3 M4 → c ≤ c' → c' < 100000 → Sm K' (M4.2 1) → kOk K' → wOk K' (M4.2 1) c' → M4.2 1 4 = M.2 1 4 → (∀ i, 1071 ≤ i → M4.2 1 i = M.2 1 i) →
        World s4 f K' M4 LW c' ∧ s4.1 79 = s1'.1 79 ∧ M4.1 0 = 0 ∧ Rm s s4 := by
  obtain ⟨hl2, hl⟩ := H.lt
  obtain ⟨⟨⟨C, D, S, hk, hw, hc⟩, ⟨-, Sc, L, -, Lok⟩, LR⟩, ef, T, R, O, li, o, h, A, mc, mr, ml⟩ := H
  have hl' := hl
  unfold lOk at hl'
  have hli := Memo.lt ml
  obtain ⟨sa, a, K1, r1, cp, mc1, f1, m1, m2⟩ := keepAct_run mc C.2 hl2 hli O.2
  have nk : ∀ k, k < 80 → k ≠ 23 → k ≠ 24 → ¬ pKeep K.2.2.2 li k := fun k h1 h2 h3 q => by
    unfold pKeep at q
    omega
  have nl : ∀ k, K.2.2.2 ≤ k → k ≤ K.2.2.2 + 2 → ¬ pKeep K.2.2.2 li k := fun k h1 h2 q => by
    unfold pKeep at q
    omega
  have nli : ∀ k, li ≤ k → k ≤ li + 2 → ¬ pKeep K.2.2.2 li k := fun k h1 h2 q => by
    have h3 := ml.1
    unfold lOk at h3
    unfold pKeep at q
    omega
  have Ca : CC sa f K := C.fr f1 (nk 0 (by decide) (by decide) (by decide)) fun k h1 h2 => nk k (by omega) (by omega) (by omega)
  have Sca : ScOk K.2.2.2 sa := Sc.fr f1 fun k q => by
    rcases q with q | q
    · exact nk k (by omega) (by omega) (by omega)
    · exact nl k (by omega) (by omega)
  have La : LawC sa K.2.2.2 LW := L.fr f1 (nl _ (Nat.le_refl _) (by omega)) (nl _ (by omega) (by omega))
  have Da : Mdl sa 66 M := D.fr f1 fun k h1 h2 => nk k (by omega) (by omega) (by omega)
  have mla : MemL sa M K.2.2.2 li := by
    obtain ⟨z1, z2, ⟨LWi, z3, z4, z5⟩, g, z6⟩ := ml
    exact ⟨z1, z2, ⟨LWi, z3.fr f1 (nli _ (Nat.le_refl _) (by omega)) (nli _ (by omega) (by omega)), z4, z5⟩, g, hasI_fr z6 f1 (nli _ (by omega) (Nat.le_refl _))⟩
  have Ta : Tp sa M := T.fr f1 (nk 1 (by decide) (by decide) (by decide)) (nk 2 (by decide) (by decide) (by decide)) rfl rfl
  have Ra : Rdr sa := R.fr f1 fun k h1 h2 => nk k (by omega) (by omega) (by omega)
  have Oa : Ot sa := O.fr f1 (nk 79 (by decide) (by decide) (by decide))
  refine ⟨sa, r1, ⟨Ca, Sca, La, hl, Lok⟩, Da, fun s1 K' fr es C1 Sc1 el => ?_⟩
  have np : ∀ k, ¬ scr K.2.2.2 k → ¬ (28 ≤ k ∧ k ≤ 40) → ¬ pAct K.2.2.2 k := fun k h1 h2 q => q.elim h1 h2
  have O1 : Ot s1 := Oa.fr fr (np 79 (by unfold scr; omega) (by decide))
  refine ⟨O1, fun s1' h79 => ⟨(Da.fr fr fun k h1 h2 => np k (by unfold scr; omega) (by omega)).fr h79.fr fun k h1 h2 (q : k = 79) => by omega, fun s2 D2 o2 => ?_⟩⟩
  obtain ⟨-, h10⟩ := mc.1
  obtain ⟨s3, q1, D3, o3⟩ := remembers_run D2 h10 (show (mint M 0 0).1 7 = Int32.ofNat h from mr.2.1)
  refine ⟨s3, _, q1, D3, rfl, o2.trans o3, rfl, fun s4 M4 c' D4 o4 kp hc1 hc2 S4 hk4 hw4 e4 e1071 => ?_⟩
  have oo : Off s1' s4 66 78 := o2.trans (o3.trans o4)
  obtain ⟨k2, k5, k6, i0, i6, i7, i9, i14⟩ := kp
  -- all that changed since sa
  have fz : Fr (fun k => pAct K.2.2.2 k ∨ k = 79 ∨ (66 ≤ k ∧ k ≤ 78)) sa s4 := Fr.tr (fr.mono fun k q => Or.inl q) (Fr.tr (h79.fr.mono fun k q => Or.inr (Or.inl q)) (oo.fr.mono fun k q => Or.inr (Or.inr q)))
  have nz : ∀ k, ¬ scr K.2.2.2 k → ¬ (28 ≤ k ∧ k ≤ 40) → k ≠ 79 → ¬ (66 ≤ k ∧ k ≤ 78) → ¬ (pAct K.2.2.2 k ∨ k = 79 ∨ (66 ≤ k ∧ k ≤ 78)) := fun k h1 h2 h3 h4 q => q.elim (np k h1 h2) fun q => q.elim h3 h4
  have n80 : ∀ k, 80 ≤ k → ¬ (K.2.2.2 ≤ k ∧ k ≤ K.2.2.2 + 2) → ¬ (pAct K.2.2.2 k ∨ k = 79 ∨ (66 ≤ k ∧ k ≤ 78)) := fun k h1 h2 => nz k (by unfold scr; omega) (by omega) (by omega) (by omega)
  have f14 : Fr (fun k => k = 79 ∨ (66 ≤ k ∧ k ≤ 78)) s1 s4 := Fr.tr (h79.fr.mono fun k q => Or.inl q) (oo.fr.mono fun k q => Or.inr q)
  have C4 : CC s4 f K' := C1.fr f14 (by omega) fun k h1 h2 (q : k = 79 ∨ (66 ≤ k ∧ k ≤ 78)) => by omega
  have Sc4 : ScOk K.2.2.2 s4 := Sc1.fr f14 fun k q (z : k = 79 ∨ (66 ≤ k ∧ k ≤ 78)) => by
    unfold scr at q
    omega
  have nll : ¬ (pAct K.2.2.2 K.2.2.2 ∨ K.2.2.2 = 79 ∨ (66 ≤ K.2.2.2 ∧ K.2.2.2 ≤ 78)) ∧ ¬ (pAct K.2.2.2 (K.2.2.2 + 1) ∨ K.2.2.2 + 1 = 79 ∨ (66 ≤ K.2.2.2 + 1 ∧ K.2.2.2 + 1 ≤ 78)) := ⟨nz _ (by unfold scr; omega) (by omega) (by omega) (by omega), nz _ (by unfold scr; omega) (by omega) (by omega) (by omega)⟩
  refine ⟨⟨⟨⟨C4, D4, S4, hk4, hw4, hc2⟩, ⟨C4, by rw [el]; exact Sc4, by rw [el]; exact La.fr fz nll.1 nll.2, by rw [el]; exact hl, Lok⟩, LR.congr e4 e1071⟩, ef.trans i14.symm, Ta.fr fz (nz 1 (by unfold scr; omega) (by decide) (by decide) (by decide)) (nz 2 (by unfold scr; omega) (by decide) (by decide) (by decide)) i9 k6, Ra.fr fz fun k h1 h2 => nz k (by unfold scr; omega) (by omega) (by omega) (by omega), ⟨⟨h79.2.2.choose, (oo.2 79 (by omega)).trans h79.2.2.choose_spec⟩, by rw [oo.1, h79.1]; exact O1.2⟩, ?_⟩, oo.2 79 (by omega), i0, ?_, ?_⟩
  · rw [el]
    refine ⟨li, nextO o h, nextH h, setA A ((o + h) % 10) a K1, mc1.fr fz (nz 23 (by unfold scr; omega) (by decide) (by decide) (by decide)) (nz 24 (by unfold scr; omega) (by decide) (by decide) (by decide)) n80, ?_, mla.fr fz hl nll (Sc4.stack hl) ⟨nz 25 (by unfold scr; omega) (by decide) (by decide) (by decide), nz 26 (by unfold scr; omega) (by decide) (by decide) (by decide)⟩ (fun e => nz 27 (by unfold scr; omega) (by decide) (by decide) (by decide)) n80 i6 k2⟩
    obtain ⟨ra, rb, rc⟩ := mr
    obtain ⟨ho, -⟩ := mc.1
    have e5 : M4.2 5 = remV M h := k5
    refine ⟨fun j hj => ?_, i7, ?_⟩
    · by_cases hn : j + 1 < nextH h
      · have hjh : (if h = 10 then j + 1 else j) < h := by
          unfold nextH at hn
          split at hn
          · rw [if_pos (by assumption)]
            omega
          · rw [if_neg (by assumption)]
            omega
        obtain ⟨x, Kx, z1, z2, ⟨z3, z4, z5⟩, z6⟩ := ra _ hjh
        have ei : (nextO o h + j) % 10 = (o + (if h = 10 then j + 1 else j)) % 10 := by
          unfold nextO
          by_cases q : h = 10
          · rw [if_pos q, if_pos q]
            omega
          · rw [if_neg q, if_neg q]
        have hne : (nextO o h + j) % 10 ≠ (o + h) % 10 := by
          rw [ei]
          by_cases q : h = 10
          · rw [if_pos q] at hjh ⊢
            omega
          · rw [if_neg q] at hjh ⊢
            omega
        refine ⟨x, Kx, ?_, z2, ⟨z3.congr z4 fun i hi => ?_, z4, (z5.congr z4 fun i hi => ?_).more hc1⟩, ?_⟩
        · show (if (nextO o h + j) % 10 = (o + h) % 10 then _ else _) = _
          rw [if_neg hne, ei]
          exact z1
        · rw [e5]
          exact remV_old h10 hn hi
        · rw [e5]
          exact remV_old h10 hn hi
        · rw [e5, remV_old h10 hn (by decide), z6, e4]
      · have ej : j = nextH h - 1 := by omega
        subst ej
        have en : ∀ i, i < 1071 → remV M h (1071 * (nextH h - 1) + i) = M.2 1 i := fun i hi => remV_new h10 hi
        refine ⟨a, K1, ?_, cp.2.2.2, ⟨(S.cpy cp).congr (hk.rows cp.1) fun i hi => ?_, hk.rows cp.1, ((hw.rows fun t h _ => cp.1 t h).congr (hk.rows cp.1) fun i hi => ?_).more hc1⟩, ?_⟩
        · show (if (nextO o h + (nextH h - 1)) % 10 = (o + h) % 10 then _ else _) = _
          rw [if_pos]
          unfold nextO nextH
          by_cases q : h = 10
          · rw [if_pos q, if_pos q]
            omega
          · rw [if_neg q, if_neg q]
            congr 1
        · rw [e5]
          exact en i hi
        · rw [e5]
          exact en i hi
        · rw [e5, en 4 (by decide), e4]
    · have e10 : setA A ((o + h) % 10) a K1 10 = A 10 := if_neg (by omega)
      rw [e10, i6, k2]
      exact rc.imp id fun ⟨x, Kx, z1, z2, ⟨z3, z4, z5⟩, z6⟩ => ⟨x, Kx, z1, z2, ⟨z3, z4, z5.more hc1⟩, z6⟩
  · rw [oo.1, h79.1, es]
    omega
  · rw [oo.1, h79.1, es]
    omega
end AKP
