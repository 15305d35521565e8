/-! EVALUATION BY REWRITING: code that reads, at known addresses -/
def kx {α β : Type} (f : α → MM β) : Option ((α ⊕ Nat) × aS) → Option ((β ⊕ Nat) × aS)
  | some (.inl x, s') => f x s'
  | some (.inr e, s') => some (.inr e, s')
  | none => none
def kn {α : Type} : Option ((α ⊕ Nat) × aS) → Option ((α ⊕ Nat) × aS)
  | some (.inr _, _) => none
  | r => r
section EV
variable {α β γ ε : Type} {s s' : aS}
theorem mbnd_app (m : MM α) (f : α → MM β) (s : aS) : mbnd m f s = kx f (m s) := by
  unfold mbnd
  cases m s with
  | none => rfl
  | some r =>
    obtain ⟨o, s'⟩ := r
    cases o <;> rfl
theorem kx_in (f : α → MM β) (x : α) (s' : aS) : kx f (some (.inl x, s')) = f x s' := rfl
theorem kx_ex (f : α → MM β) (e : Nat) (s' : aS) : kx f (some (.inr e, s')) = some (.inr e, s') := rfl
theorem nox_app (m : MM α) (s : aS) : nox m s = kn (m s) := by
  unfold nox
  cases m s with
  | none => rfl
  | some r =>
    obtain ⟨o, s'⟩ := r
    cases o <;> rfl
theorem kn_in (x : α) (s' : aS) : kn (some (.inl x, s')) = some (.inl x, s') := rfl
theorem mret_app (x : α) (s : aS) : mret x s = some (.inl x, s) := rfl
def thS (s : aS) : aS := (s.1, s.2.1, s.2.2.1 + 1, s.2.2.2 + 6)
theorem mthr_app (e : Nat) (s : aS) : (mthr e : MM α) s = some (.inr e, thS s) := rfl
theorem mite_app {c : Prop} [Decidable c] (a b : MM α) (s : aS) : (if c then a else b) s = if c then a s else b s := by split <;> rfl
theorem ite_some {c : Prop} [Decidable c] (x y : α) (s : aS) : (if c then (some (.inl x, s) : Option ((α ⊕ Nat) × aS)) else some (.inl y, s)) = some (.inl (if c then x else y), s) := by split <;> rfl
theorem mbool_ite {c : Prop} [Decidable c] (s : aS) : mbool (if c then 1 else 0) s = some (.inl (if c then 1 else 0), s) := by split <;> rfl
theorem mbool_ite2 {c : Prop} [Decidable c] (s : aS) : mbool (if c then 0 else 1) s = some (.inl (if c then 0 else 1), s) := by split <;> rfl
theorem mbool_0 (s : aS) : mbool 0 s = some (.inl 0, s) := rfl
theorem mbool_1 (s : aS) : mbool 1 s = some (.inl 1, s) := rfl
theorem in_app (x l h : Int32) (s : aS) : mX12_in x l h s = some (.inl (if x < l ∨ h < x then 0 else 1), s) := by
  unfold mX12_in
  by_cases h1 : x < l
  · rw [if_pos h1, if_pos (Or.inl h1)]; rfl
  · rw [if_neg h1]
    by_cases h2 : h < x
    · rw [if_pos h2, if_pos (Or.inr h2)]; rfl
    · rw [if_neg h2, if_neg (fun q => q.elim h1 h2)]; rfl
theorem has_app (x k : Int32) (s : aS) : mX12_has x k s = some (.inl (if (x >>> (k &&& (31 : Int32))) &&& 1 = 1 then 1 else 0), s) := by
  unfold mX12_has
  split <;> rfl
def inSet (x k : Int32) : Int32 := if k < 0 ∨ 32 ≤ k ∨ (iushr x k) &&& 1 = 0 then 0 else 1
theorem inSet_app (x k : Int32) (s : aS) : mX11_inSet x k s = some (.inl (inSet x k), s) := by
  unfold mX11_inSet inSet
  by_cases h1 : k < 0
  · rw [if_pos h1, if_pos (Or.inl h1)]; rfl
  rw [if_neg h1]
  by_cases h2 : 32 ≤ k
  · rw [if_pos h2, if_pos (Or.inr (Or.inl h2))]; rfl
  rw [if_neg h2]
  by_cases h3 : (iushr x k) &&& 1 = 0
  · rw [if_pos h3, if_pos (Or.inr (Or.inr h3))]; rfl
  rw [if_neg h3, if_neg (fun q => q.elim h1 (fun q => q.elim h2 h3))]; rfl
theorem one_ne0 : ¬ (1 : Int32) = 0 := by decide
theorem ite10_0 {c : Prop} [Decidable c] : ((if c then (1 : Int32) else 0) = 0) = ¬ c := by
  split
  · next h => exact propext ⟨fun q => absurd q (by decide), fun q => absurd h q⟩
  · next h => exact propext ⟨fun _ => h, fun _ => rfl⟩
theorem ite01_0 {c : Prop} [Decidable c] : ((if c then (0 : Int32) else 1) = 0) = c := by
  split
  · next h => exact propext ⟨fun _ => h, fun _ => rfl⟩
  · next h => exact propext ⟨fun q => absurd q (by decide), fun q => absurd q h⟩
theorem nle {n j : Nat} (h : j < n) (hn : n < 2 ^ 31) : ¬ Int32.ofNat n ≤ Int32.ofNat j := fun q => absurd ((ofN_le hn (by omega)).mp q) (by omega)
/-- a loop over numbers from 0 on, where nothing changes but what is summed up -/
theorem for_ok {b : γ × Int32 → MM ((γ × Int32) ⊕ ε)} {e : ε} (n : Nat) (g : Nat → γ) (hs : ∀ j, j < n → b (g j, Int32.ofNat j) s = some (.inl (.inl (g (j + 1), Int32.ofNat j + 1)), s)) (he : b (g n, Int32.ofNat n) s = some (.inl (.inr e), s)) : loopM b (g 0, 0) s = some (.inl e, s) :=
  loop_steps n (fun j => (g j, Int32.ofNat j)) (fun _ => s) (fun j hj => by rw [hs j hj, ofN_succ]) he
end EV
/-! THE CLASS'S OBJECT (at 0), its Court (at 28): what reading code does -/
abbrev tF (f : Int32) : List Value := [.ref 1, .ref 54, .ref 59, .ref 3, .ref 8, .ref 18, .ref 23, .ref 28, .ref 41, .int f]
def CC (s : aS) (f : Int32) (K : CK) : Prop := hasO s 0 10 (tF f) ∧ Crt s 28 K
theorem CC.refs {s : aS} {f : Int32} {K : CK} (C : CC s f K) : (∀ (α : Type) (m : MM α), onC 10 0 m s = m s) ∧ (∀ (α : Type) (m : MM α), onC 1 28 m s = m s) ∧ gR 10 0 0 s = some (.inl 1, s) ∧ gR 10 1 0 s = some (.inl 54, s) ∧ gR 10 2 0 s = some (.inl 59, s) ∧ gR 10 3 0 s = some (.inl 3, s) ∧ gR 10 4 0 s = some (.inl 8, s) ∧ gR 10 5 0 s = some (.inl 18, s) ∧ gR 10 6 0 s = some (.inl 23, s) ∧ gR 10 7 0 s = some (.inl 28, s) ∧ gR 10 8 0 s = some (.inl 41, s) ∧ gI 10 9 0 s = some (.inl f, s) ∧
    gR 1 0 28 s = some (.inl 29, s) ∧ gR 1 1 28 s = some (.inl 31, s) ∧ gR 1 2 28 s = some (.inl 33, s) ∧ gR 1 3 28 s = some (.inl 35, s) ∧ gR 1 4 28 s = some (.inl 37, s) ∧ gR 1 5 28 s = some (.inl 39, s) ∧ gR 1 6 28 s = some (.inl K.2.2.2, s) ∧
    gI 1 7 28 s = some (.inl (K.2.2.1 7), s) ∧ gI 1 8 28 s = some (.inl (K.2.2.1 8), s) ∧ gI 1 9 28 s = some (.inl (K.2.2.1 9), s) ∧ gI 1 10 28 s = some (.inl (K.2.2.1 10), s) ∧ gI 1 11 28 s = some (.inl (K.2.2.1 11), s) ∧ gI 1 12 28 s = some (.inl (K.2.2.1 12), s) :=
  ⟨fun _ _ => onC_ok C.1, fun _ _ => onC_ok C.2.1, gR_ok C.1 rfl, gR_ok C.1 rfl, gR_ok C.1 rfl, gR_ok C.1 rfl, gR_ok C.1 rfl, gR_ok C.1 rfl, gR_ok C.1 rfl, gR_ok C.1 rfl, gR_ok C.1 rfl, gI_ok C.1 rfl, gR_ok C.2.1 rfl, gR_ok C.2.1 rfl, gR_ok C.2.1 rfl, gR_ok C.2.1 rfl, gR_ok C.2.1 rfl, gR_ok C.2.1 rfl, gR_ok C.2.1 rfl, gI_ok C.2.1 rfl, gI_ok C.2.1 rfl, gI_ok C.2.1 rfl, gI_ok C.2.1 rfl, gI_ok C.2.1 rfl, gI_ok C.2.1 rfl⟩
theorem CC.tabs {s : aS} {f : Int32} {K : CK} (C : CC s f K) : gI 8 3 29 s = some (.inl (Int32.ofNat (K.1 0)), s) ∧ gI 8 3 31 s = some (.inl (Int32.ofNat (K.1 1)), s) ∧ gI 8 3 33 s = some (.inl (Int32.ofNat (K.1 2)), s) ∧ gI 8 3 35 s = some (.inl (Int32.ofNat (K.1 3)), s) ∧ gI 8 3 37 s = some (.inl (Int32.ofNat (K.1 4)), s) ∧ gI 8 3 39 s = some (.inl (Int32.ofNat (K.1 5)), s) ∧
    (∀ i j, mX8_get 29 i j s = some (.inl (kget K 0 i j), s)) ∧ (∀ i j, mX8_get 31 i j s = some (.inl (kget K 1 i j), s)) ∧ (∀ i j, mX8_get 33 i j s = some (.inl (kget K 2 i j), s)) ∧ (∀ i j, mX8_get 35 i j s = some (.inl (kget K 3 i j), s)) ∧ (∀ i j, mX8_get 37 i j s = some (.inl (kget K 4 i j), s)) ∧ (∀ i j, mX8_get 39 i j s = some (.inl (kget K 5 i j), s)) ∧
    (∀ i, mX8_has 29 i s = some (.inl (if i < 0 ∨ Int32.ofNat (K.1 0) ≤ i then 0 else 1), s)) ∧ (∀ i, mX8_has 31 i s = some (.inl (if i < 0 ∨ Int32.ofNat (K.1 1) ≤ i then 0 else 1), s)) ∧ (∀ i, mX8_has 33 i s = some (.inl (if i < 0 ∨ Int32.ofNat (K.1 2) ≤ i then 0 else 1), s)) ∧ (∀ i, mX8_has 35 i s = some (.inl (if i < 0 ∨ Int32.ofNat (K.1 3) ≤ i then 0 else 1), s)) ∧ (∀ i, mX8_has 39 i s = some (.inl (if i < 0 ∨ Int32.ofNat (K.1 5) ≤ i then 0 else 1), s)) ∧
    mX8_isFull 35 s = some (.inl (if K.1 3 < 60 then 0 else 1), s) :=
  ⟨gI_ok C.2.t0.1 rfl, gI_ok C.2.t1.1 rfl, gI_ok C.2.t2.1 rfl, gI_ok C.2.t3.1 rfl, gI_ok C.2.t4.1 rfl, gI_ok C.2.t5.1 rfl, fun _ _ => get_ok C.2.t0, fun _ _ => get_ok C.2.t1, fun _ _ => get_ok C.2.t2, fun _ _ => get_ok C.2.t3, fun _ _ => get_ok C.2.t4, fun _ _ => get_ok C.2.t5, fun _ => has_ok C.2.t0, fun _ => has_ok C.2.t1, fun _ => has_ok C.2.t2, fun _ => has_ok C.2.t3, fun _ => has_ok C.2.t5, isFull_ok C.2.t3⟩
theorem CC.fns {s : aS} {f : Int32} {K : CK} (C : CC s f K) : (∀ i, mX1_isSpare 28 i s = some (.inl (if kget K 0 i 6 = -1 then 1 else 0), s)) ∧ (∀ i, mX1_isNailed 28 i s = some (.inl (if kget K 0 i 4 = 1 then 1 else 0), s)) ∧ (∀ i, mX1_guiltOf 28 i s = some (.inl (kguilt K i), s)) ∧ (∀ i, mX1_answered 28 i s = some (.inl (kans K i), s)) ∧ (∀ i, mX1_sentence 28 i s = some (.inl ((kans K i + 10 - 1) / 10), s)) ∧ (∀ i, mX1_markOf 28 i s = some (.inl (kmark K i), s)) ∧ mX1_guiltySet 28 s = some (.inl (kguilty K), s) ∧ mX1_spareSet 28 s = some (.inl (kspares K), s) ∧ mX1_guiltOfAll 28 s = some (.inl (kguiltAll K), s) ∧ mX1_allParts 28 s = some (.inl ((1 <<< (Int32.ofNat (K.1 0) &&& (31 : Int32))) - 1), s) :=
  ⟨fun _ => isSpare_run C.2, fun _ => isNailed_run C.2, fun _ => guiltOf_run C.2, fun _ => answered_run C.2, fun _ => sentence_run C.2, fun _ => markOf_run C.2, guiltySet_run C.2, spareSet_run C.2, guiltOfAll_run C.2, allParts_run C.2⟩
def CC.all {s : aS} {f : Int32} {K : CK} (C : CC s f K) := And.intro C.refs (And.intro C.tabs C.fns)
/-! THE REFERENCE'S OBJECT (at 66): what reading code does -/
theorem MD.refs {s : aS} {M : MK} (C : Mdl s 66 M) : (∀ (α : Type) (m : MM α), onC 11 66 m s = m s) ∧ gR 11 1 66 s = some (.inl 67, s) ∧ gR 11 2 66 s = some (.inl 68, s) ∧ gR 11 3 66 s = some (.inl 69, s) ∧ gR 11 4 66 s = some (.inl 70, s) ∧ gR 11 5 66 s = some (.inl 71, s) ∧ gR 11 8 66 s = some (.inl 72, s) ∧ gR 11 15 66 s = some (.inl 73, s) ∧ gR 11 17 66 s = some (.inl 74, s) ∧ gR 11 21 66 s = some (.inl 75, s) ∧ gR 11 22 66 s = some (.inl 76, s) ∧ gR 11 25 66 s = some (.inl 77, s) ∧ gR 11 26 66 s = some (.inl 78, s) ∧
    gI 11 0 66 s = some (.inl (M.1 0), s) ∧ gI 11 6 66 s = some (.inl (M.1 6), s) ∧ gI 11 7 66 s = some (.inl (M.1 7), s) ∧ gI 11 9 66 s = some (.inl (M.1 9), s) ∧ gI 11 10 66 s = some (.inl (M.1 10), s) ∧ gI 11 11 66 s = some (.inl (M.1 11), s) ∧ gI 11 12 66 s = some (.inl (M.1 12), s) ∧ gI 11 13 66 s = some (.inl (M.1 13), s) ∧ gI 11 14 66 s = some (.inl (M.1 14), s) ∧ gI 11 16 66 s = some (.inl (M.1 16), s) ∧ gI 11 18 66 s = some (.inl (M.1 18), s) ∧ gI 11 19 66 s = some (.inl (M.1 19), s) ∧ gI 11 20 66 s = some (.inl (M.1 20), s) ∧ gI 11 23 66 s = some (.inl (M.1 23), s) ∧ gI 11 24 66 s = some (.inl (M.1 24), s) :=
  ⟨fun _ _ => onC_ok C.1, gR_ok C.1 rfl, gR_ok C.1 rfl, gR_ok C.1 rfl, gR_ok C.1 rfl, gR_ok C.1 rfl, gR_ok C.1 rfl, gR_ok C.1 rfl, gR_ok C.1 rfl, gR_ok C.1 rfl, gR_ok C.1 rfl, gR_ok C.1 rfl, gR_ok C.1 rfl, gI_ok C.1 rfl, gI_ok C.1 rfl, gI_ok C.1 rfl, gI_ok C.1 rfl, gI_ok C.1 rfl, gI_ok C.1 rfl, gI_ok C.1 rfl, gI_ok C.1 rfl, gI_ok C.1 rfl, gI_ok C.1 rfl, gI_ok C.1 rfl, gI_ok C.1 rfl, gI_ok C.1 rfl, gI_ok C.1 rfl, gI_ok C.1 rfl⟩
theorem MD.wl {s : aS} {M : MK} (C : Mdl s 66 M) : (∀ i, i < 2769 → ldI 0 67 (Int32.ofNat i) s = some (.inl (M.2 1 i), s)) ∧ ldI 0 67 0 s = some (.inl (M.2 1 0), s) ∧ ldI 0 67 1 s = some (.inl (M.2 1 1), s) ∧ ldI 0 67 2 s = some (.inl (M.2 1 2), s) ∧ ldI 0 67 3 s = some (.inl (M.2 1 3), s) ∧ ldI 0 67 4 s = some (.inl (M.2 1 4), s) ∧ ldI 0 67 5 s = some (.inl (M.2 1 5), s) ∧ ldI 0 67 6 s = some (.inl (M.2 1 6), s) ∧ ldI 0 67 7 s = some (.inl (M.2 1 7), s) ∧ ldI 0 67 8 s = some (.inl (M.2 1 8), s) ∧ ldI 0 67 9 s = some (.inl (M.2 1 9), s) ∧ ldI 0 67 10 s = some (.inl (M.2 1 10), s) ∧ ldI 0 67 11 s = some (.inl (M.2 1 11), s) ∧ ldI 0 67 12 s = some (.inl (M.2 1 12), s) ∧ ldI 0 67 1071 s = some (.inl (M.2 1 1071), s) :=
  ⟨fun _ h => wrd_ok C h, wrd_ok (i := 0) C (by decide), wrd_ok (i := 1) C (by decide), wrd_ok (i := 2) C (by decide), wrd_ok (i := 3) C (by decide), wrd_ok (i := 4) C (by decide), wrd_ok (i := 5) C (by decide), wrd_ok (i := 6) C (by decide), wrd_ok (i := 7) C (by decide), wrd_ok (i := 8) C (by decide), wrd_ok (i := 9) C (by decide), wrd_ok (i := 10) C (by decide), wrd_ok (i := 11) C (by decide), wrd_ok (i := 12) C (by decide), wrd_ok (i := 1071) C (by decide)⟩
theorem MD.cols {s : aS} {M : MK} (C : Mdl s 66 M) : (∀ p, p < 300 → mX12_of 66 (Int32.ofNat p) 0 s = some (.inl (M.2 1 (13 + 8 * p)), s)) ∧ (∀ p, p < 300 → mX12_of 66 (Int32.ofNat p) 1 s = some (.inl (M.2 1 (13 + 8 * p + 1)), s)) ∧ (∀ p, p < 300 → mX12_of 66 (Int32.ofNat p) 2 s = some (.inl (M.2 1 (13 + 8 * p + 2)), s)) ∧ (∀ p, p < 300 → mX12_of 66 (Int32.ofNat p) 3 s = some (.inl (M.2 1 (13 + 8 * p + 3)), s)) ∧ (∀ p, p < 300 → mX12_of 66 (Int32.ofNat p) 4 s = some (.inl (M.2 1 (13 + 8 * p + 4)), s)) ∧ (∀ p, p < 300 → mX12_of 66 (Int32.ofNat p) 5 s = some (.inl (M.2 1 (13 + 8 * p + 5)), s)) ∧ (∀ p, p < 300 → mX12_of 66 (Int32.ofNat p) 6 s = some (.inl (M.2 1 (13 + 8 * p + 6)), s)) ∧ (∀ p, p < 300 → mX12_of 66 (Int32.ofNat p) 7 s = some (.inl (M.2 1 (13 + 8 * p + 7)), s)) ∧ (∀ p c, p < 300 → c < 8 → mX12_of 66 (Int32.ofNat p) (Int32.ofNat c) s = some (.inl (M.2 1 (13 + 8 * p + c)), s)) ∧
    (∀ t, t < 600 → mX12_inTool 66 (Int32.ofNat t) 0 s = some (.inl (M.2 1 (141 + 4 * t)), s)) ∧ (∀ t, t < 600 → mX12_inTool 66 (Int32.ofNat t) 1 s = some (.inl (M.2 1 (141 + 4 * t + 1)), s)) ∧ (∀ t, t < 600 → mX12_inTool 66 (Int32.ofNat t) 2 s = some (.inl (M.2 1 (141 + 4 * t + 2)), s)) ∧ (∀ t, t < 600 → mX12_inTool 66 (Int32.ofNat t) 3 s = some (.inl (M.2 1 (141 + 4 * t + 3)), s)) ∧ (∀ t k, t < 600 → k < 4 → mX12_inTool 66 (Int32.ofNat t) (Int32.ofNat k) s = some (.inl (M.2 1 (141 + 4 * t + k)), s)) ∧
    (∀ d, d < 300 → mX12_ofTruth 66 (Int32.ofNat d) 0 s = some (.inl (M.2 1 (171 + 7 * d)), s)) ∧ (∀ d, d < 300 → mX12_ofTruth 66 (Int32.ofNat d) 1 s = some (.inl (M.2 1 (171 + 7 * d + 1)), s)) ∧ (∀ d, d < 300 → mX12_ofTruth 66 (Int32.ofNat d) 2 s = some (.inl (M.2 1 (171 + 7 * d + 2)), s)) ∧ (∀ d, d < 300 → mX12_ofTruth 66 (Int32.ofNat d) 3 s = some (.inl (M.2 1 (171 + 7 * d + 3)), s)) ∧ (∀ d, d < 300 → mX12_ofTruth 66 (Int32.ofNat d) 4 s = some (.inl (M.2 1 (171 + 7 * d + 4)), s)) ∧ (∀ d, d < 300 → mX12_ofTruth 66 (Int32.ofNat d) 5 s = some (.inl (M.2 1 (171 + 7 * d + 5)), s)) ∧ (∀ d, d < 300 → mX12_ofTruth 66 (Int32.ofNat d) 6 s = some (.inl (M.2 1 (171 + 7 * d + 6)), s)) ∧ (∀ d c, d < 300 → c < 7 → mX12_ofTruth 66 (Int32.ofNat d) (Int32.ofNat c) s = some (.inl (M.2 1 (171 + 7 * d + c)), s)) :=
  ⟨fun p h => of_run (c := 0) C (by omega), fun p h => of_run (c := 1) C (by omega), fun p h => of_run (c := 2) C (by omega), fun p h => of_run (c := 3) C (by omega), fun p h => of_run (c := 4) C (by omega), fun p h => of_run (c := 5) C (by omega), fun p h => of_run (c := 6) C (by omega), fun p h => of_run (c := 7) C (by omega), fun p c h h2 => of_run C (by omega),
   fun p h => inTool_run (c := 0) C (by omega), fun p h => inTool_run (c := 1) C (by omega), fun p h => inTool_run (c := 2) C (by omega), fun p h => inTool_run (c := 3) C (by omega), fun p c h h2 => inTool_run C (by omega),
   fun p h => ofTruth_run (c := 0) C (by omega), fun p h => ofTruth_run (c := 1) C (by omega), fun p h => ofTruth_run (c := 2) C (by omega), fun p h => ofTruth_run (c := 3) C (by omega), fun p h => ofTruth_run (c := 4) C (by omega), fun p h => ofTruth_run (c := 5) C (by omega), fun p h => ofTruth_run (c := 6) C (by omega), fun p c h h2 => ofTruth_run C (by omega)⟩
theorem MD.cnt {s : aS} {M : MK} (C : Mdl s 66 M) : mX12_parts 66 s = some (.inl (M.2 1 0), s) ∧ mX12_tools 66 s = some (.inl (M.2 1 1), s) ∧ mX12_masters 66 s = some (.inl (M.2 1 2), s) ∧ mX12_deeds 66 s = some (.inl (M.2 1 6), s) ∧ mX12_today 66 s = some (.inl (M.2 1 5), s) := ⟨parts_run C, tools_run C, masters_run C, deeds_run C, today_run C⟩
theorem MD.is {s : aS} {M : MK} (C : Mdl s 66 M) : (∀ p, p < 300 → mX12_isSpare 66 (Int32.ofNat p) s = some (.inl (if 0 ≤ M.2 1 (13 + 8 * p + 6) then 0 else 1), s)) ∧ (∀ p, p < 300 → mX12_isNailed 66 (Int32.ofNat p) s = some (.inl (if M.2 1 (13 + 8 * p + 4) = 1 then 1 else 0), s)) ∧ (∀ p, p < 300 → mX12_isHead 66 (Int32.ofNat p) s = some (.inl (if M.2 1 (13 + 8 * p) = 1 then 1 else 0), s)) := by
  refine ⟨fun p h => ?_, fun p h => ?_, fun p h => ?_⟩
  · unfold mX12_isSpare
    simp only [(MD.refs C).1, mbnd_app, (MD.cols C).2.2.2.2.2.2.1 p h, kx_in, mite_app, mret_app, ite_some]
  · unfold mX12_isNailed
    simp only [(MD.refs C).1, mbnd_app, (MD.cols C).2.2.2.2.1 p h, kx_in, mite_app, mret_app, ite_some]
  · unfold mX12_isHead
    simp only [(MD.refs C).1, mbnd_app, (MD.cols C).1 p h, kx_in, mite_app, mret_app, ite_some]
theorem MD.no {s : aS} {M : MK} (C : Mdl s 66 M) : (∀ x, mX12_noPart 66 x s = some (.inl (if x < 0 ∨ M.2 1 0 - 1 < x then 1 else 0), s)) ∧ (∀ x, mX12_noTool 66 x s = some (.inl (if x < 0 ∨ M.2 1 1 - 1 < x then 1 else 0), s)) ∧ (∀ x, mX12_noMaster 66 x s = some (.inl (if x < 0 ∨ M.2 1 2 - 1 < x then 1 else 0), s)) := by
  refine ⟨fun x => ?_, fun x => ?_, fun x => ?_⟩
  · unfold mX12_noPart
    simp only [(MD.refs C).1, mbnd_app, MD.cnt C, kx_in, mite_app, mret_app, in_app, ite01_0, ite_some]
  · unfold mX12_noTool
    simp only [(MD.refs C).1, mbnd_app, MD.cnt C, kx_in, mite_app, mret_app, in_app, ite01_0, ite_some]
  · unfold mX12_noMaster
    simp only [(MD.refs C).1, mbnd_app, MD.cnt C, kx_in, mite_app, mret_app, in_app, ite01_0, ite_some]
def MD.all {s : aS} {M : MK} (C : Mdl s 66 M) := And.intro (MD.refs C) (And.intro (MD.wl C) (And.intro (MD.cols C) (And.intro (MD.cnt C) (And.intro (MD.is C) (MD.no C)))))
/-! THE SAME ON BOTH SIDES, by columns -/
section SA
variable {K : CK} {W : Nat → Int32}
theorem Sm.master (S : Sm K W) (hk : kOk K) {m : Nat} (hm : m < K.1 2) : kget K 2 (Int32.ofNat m) 0 = W (165 + m) := by
  have := hk 2 (by decide)
  have h16 : tM 2 = 6 := rfl
  unfold kget
  rw [show tW 2 = 1 from rfl, show (0 : Int32) = Int32.ofNat 0 from rfl, tget_in hm (by decide) (by omega) (by decide), Nat.mul_one]
  exact S.2.2.2.2.1 m hm
theorem Sm.counts (S : Sm K W) : W 0 = Int32.ofNat (K.1 0) ∧ W 1 = Int32.ofNat (K.1 1) ∧ W 2 = Int32.ofNat (K.1 2) ∧ W 6 = Int32.ofNat (K.1 3) ∧ W 10 = Int32.ofNat (K.1 4) ∧ W 11 = Int32.ofNat (K.1 5) := S.1
theorem Sm.ints (S : Sm K W) : K.2.2.1 7 = W 3 ∧ K.2.2.1 8 = W 5 ∧ K.2.2.1 9 = W 8 ∧ K.2.2.1 10 = W 7 ∧ K.2.2.1 11 = W 12 ∧ K.2.2.1 12 = W 9 := ⟨S.2.1.1.symm, S.2.1.2.1.symm, S.2.1.2.2.1.symm, S.2.1.2.2.2.1.symm, S.2.1.2.2.2.2.1.symm, S.2.1.2.2.2.2.2.symm⟩
theorem Sm.cols (S : Sm K W) (hk : kOk K) : (∀ p, p < K.1 0 → kget K 0 (Int32.ofNat p) 0 = W (13 + 8 * p)) ∧ (∀ p, p < K.1 0 → kget K 0 (Int32.ofNat p) 1 = W (13 + 8 * p + 1)) ∧ (∀ p, p < K.1 0 → kget K 0 (Int32.ofNat p) 2 = W (13 + 8 * p + 2)) ∧ (∀ p, p < K.1 0 → kget K 0 (Int32.ofNat p) 3 = W (13 + 8 * p + 3)) ∧ (∀ p, p < K.1 0 → kget K 0 (Int32.ofNat p) 4 = W (13 + 8 * p + 4)) ∧ (∀ p, p < K.1 0 → kget K 0 (Int32.ofNat p) 5 = W (13 + 8 * p + 5)) ∧ (∀ p, p < K.1 0 → kget K 0 (Int32.ofNat p) 6 = W (13 + 8 * p + 6)) ∧ (∀ p, p < K.1 0 → kget K 0 (Int32.ofNat p) 7 = W (13 + 8 * p + 7)) ∧ (∀ p, p < K.1 0 → kguilt K (Int32.ofNat p) = W (13 + 8 * p + 3)) ∧
    (∀ t, t < K.1 1 → kget K 1 (Int32.ofNat t) 0 = W (141 + 4 * t)) ∧ (∀ t, t < K.1 1 → kget K 1 (Int32.ofNat t) 1 = W (141 + 4 * t + 1)) ∧ (∀ t, t < K.1 1 → kget K 1 (Int32.ofNat t) 2 = W (141 + 4 * t + 2)) ∧ (∀ t, t < K.1 1 → kget K 1 (Int32.ofNat t) 3 = W (141 + 4 * t + 3)) ∧ (∀ t k, t < K.1 1 → k < 4 → kget K 1 (Int32.ofNat t) (Int32.ofNat k) = W (141 + 4 * t + k)) ∧ (∀ m, m < K.1 2 → kget K 2 (Int32.ofNat m) 0 = W (165 + m)) ∧
    (∀ d, d < K.1 3 → kget K 3 (Int32.ofNat d) 0 = W (171 + 7 * d)) ∧ (∀ d, d < K.1 3 → kget K 3 (Int32.ofNat d) 1 = W (171 + 7 * d + 1)) ∧ (∀ d, d < K.1 3 → kget K 3 (Int32.ofNat d) 2 = W (171 + 7 * d + 2)) ∧ (∀ d, d < K.1 3 → kget K 3 (Int32.ofNat d) 3 = W (171 + 7 * d + 3)) ∧ (∀ d, d < K.1 3 → kget K 3 (Int32.ofNat d) 4 = W (171 + 7 * d + 4)) ∧ (∀ d, d < K.1 3 → kget K 3 (Int32.ofNat d) 5 = W (171 + 7 * d + 5)) ∧ (∀ d, d < K.1 3 → kget K 3 (Int32.ofNat d) 6 = W (171 + 7 * d + 6)) ∧ (∀ d c, d < K.1 3 → c < 7 → kget K 3 (Int32.ofNat d) (Int32.ofNat c) = W (171 + 7 * d + c)) :=
  ⟨fun _ h => S.part hk h (c := 0) (by decide), fun _ h => S.part hk h (c := 1) (by decide), fun _ h => S.part hk h (c := 2) (by decide), fun _ h => S.part hk h (c := 3) (by decide), fun _ h => S.part hk h (c := 4) (by decide), fun _ h => S.part hk h (c := 5) (by decide), fun _ h => S.part hk h (c := 6) (by decide), fun _ h => S.part hk h (c := 7) (by decide), fun _ h => kguilt_in S hk h,
   fun _ h => S.tool hk h (c := 0) (by decide), fun _ h => S.tool hk h (c := 1) (by decide), fun _ h => S.tool hk h (c := 2) (by decide), fun _ h => S.tool hk h (c := 3) (by decide), fun _ _ h h2 => S.tool hk h h2, fun _ h => S.master hk h,
   fun _ h => S.truth hk h (c := 0) (by decide), fun _ h => S.truth hk h (c := 1) (by decide), fun _ h => S.truth hk h (c := 2) (by decide), fun _ h => S.truth hk h (c := 3) (by decide), fun _ h => S.truth hk h (c := 4) (by decide), fun _ h => S.truth hk h (c := 5) (by decide), fun _ h => S.truth hk h (c := 6) (by decide), fun _ _ h h2 => S.truth hk h h2⟩
end SA
