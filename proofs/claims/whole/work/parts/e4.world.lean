/-! ALL THAT HOLDS BETWEEN CALLS -/
def sb (b : Nat) : Int32 := if b < 128 then Int32.ofNat b else Int32.ofNat b - 256
/-- the tape on both sides -/
def Tp (s : aS) (M : MK) : Prop := ∃ n f, n ≤ 400 ∧ hasO s 1 9 [.ref 2, .int (Int32.ofNat n)] ∧ hasI s 2 0 400 f ∧ M.1 9 = Int32.ofNat n ∧ ∀ k, k < n → ∃ b, b < 256 ∧ f k = Int32.ofNat b ∧ M.2 6 k = sb b
/-- the readers' objects have their shapes -/
def RdS (s : aS) (x : Nat → Int32) (F : Nat → Nat → Int32) : Prop := hasO s 54 7 [.ref 1, .ref 55, .ref 56, .ref 57, .ref 58, .int (x 5), .int (x 6), .int (x 7), .int (x 8), .int (x 9), .int (x 10), .int (x 11), .ref 28, .ref 41] ∧ ∀ k, k < 4 → hasI s (55 + k) 0 400 (F k)
def RdL (s : aS) (x : Nat → Int32) (F : Nat → Nat → Int32) : Prop := hasO s 59 5 [.ref 1, .ref 60, .ref 61, .ref 62, .ref 63, .int (x 5), .int (x 6), .int (x 7), .int (x 8), .int (x 9), .int (x 10), .int (x 11), .ref 64, .ref 65, .int (x 14), .int (x 15), .int (x 16), .int (x 17)] ∧ (∀ k, k < 5 → hasI s (60 + k) 0 400 (F k)) ∧ hasI s 65 0 40 (F 5)
def Rdr (s : aS) : Prop := (∃ Kd, Crt s 41 Kd) ∧ (∃ x F, RdS s x F) ∧ ∃ x F, RdL s x F
/-- the law's place for its answer -/
def Ot (s : aS) : Prop := (∃ g, s.1 79 = .inr (.inr (.inr (1, g)))) ∧ 79 < s.2.1
def Hld (K : CK) (W : Nat → Int32) (c : Nat) : Prop := Sm K W ∧ kOk K ∧ wOk K W c
def apt (l l' : Nat) : Prop := l = l' ∨ l + 2 < l' ∨ l' + 2 < l
/-- what the kept Courts are of the reference's acts and image -/
def MemR (M : MK) (l li o h c : Nat) (A : Nat → Option (Nat × CK)) : Prop :=
  (∀ j, j < h → ∃ a K, A ((o + j) % 10) = some (a, K) ∧ K.2.2.2 = l ∧ Hld K (fun i => M.2 5 (1071 * j + i)) c ∧ M.2 5 (1071 * j + 4) = M.2 1 4) ∧ M.1 7 = Int32.ofNat h ∧
  ((A 10 = none ∧ M.1 6 = 0) ∨ ∃ a K, A 10 = some (a, K) ∧ M.1 6 = 1 ∧ Hld K (M.2 2) c ∧ K.2.2.2 = li)
/-- the image's law -/
def MemL (s : aS) (M : MK) (l li : Nat) : Prop := lOk li ∧ apt l li ∧ (∃ LW, LawC s li LW ∧ LWok LW ∧ (M.1 6 = 1 → LawR (M.2 2) LW)) ∧ ∃ g, hasI s (li + 2) 0 40 g
def Memo (s : aS) (M : MK) (l c : Nat) : Prop := ∃ li o h A, MemC s l li o h A ∧ MemR M l li o h c A ∧ MemL s M l li
def World (s : aS) (f : Int32) (K : CK) (M : MK) (LW : Option (List Ln)) (c : Nat) : Prop := EnvL s f K M LW c ∧ f = M.1 14 ∧ Tp s M ∧ Rdr s ∧ Ot s ∧ Memo s M K.2.2.2 c
theorem LawAt.lt {s : aS} {l n : Nat} {x : Int32} {code : Nat → Int32} (L : LawAt s l x n code) : l + 1 < s.2.1 := L.2.2
theorem LawC.at {s : aS} {l : Nat} {LW : Option (List Ln)} (L : LawC s l LW) : ∃ x n code, LawAt s l x n code := by
  cases LW with
  | none =>
    obtain ⟨code, h⟩ := L
    exact ⟨_, _, code, h⟩
  | some LL =>
    obtain ⟨code, h, -⟩ := L
    exact ⟨_, _, code, h⟩
theorem LawC.fr {P : Nat → Prop} {s s' : aS} {l : Nat} {LW : Option (List Ln)} (L : LawC s l LW) (r : Fr P s s') (h0 : ¬ P l) (h1 : ¬ P (l + 1)) : LawC s' l LW := by
  cases LW with
  | none =>
    obtain ⟨code, a, b⟩ := L
    exact ⟨code, hasO_fr a r h0, hasI_fr b r h1⟩
  | some LL =>
    obtain ⟨code, ⟨a, b⟩, d⟩ := L
    exact ⟨code, ⟨hasO_fr a r h0, hasI_fr b r h1⟩, d⟩
theorem scN_stack {l : Nat} (hl : lOk l) : scN l (l + 2) = some 40 := by
  unfold lOk at hl
  unfold scN
  rw [if_neg (by omega), if_neg (by omega), if_neg (by omega), if_neg (by omega), if_neg (by omega), if_pos rfl]
theorem ScOk.stack {s : aS} {l : Nat} (S : ScOk l s) (hl : lOk l) : ∃ g, hasI s (l + 2) 0 40 g := S.2.2.2.2 _ _ (scN_stack hl)
theorem ScOk.fr {P : Nat → Prop} {s s' : aS} {l : Nat} (S : ScOk l s) (r : Fr P s s') (h : ∀ k, scr l k → ¬ P k) : ScOk l s' := by
  obtain ⟨h1, ⟨x, y, h2⟩, ⟨h3, h4, h5⟩, ⟨x2, y2, h6⟩, h7⟩ := S
  have n : ∀ k, 3 ≤ k → k ≤ 22 → ¬ P k := fun k a b => h k (Or.inl ⟨a, b⟩)
  refine ⟨hasO_fr h1 r (n 3 (by decide) (by decide)), ⟨x, y, hasO_fr h2 r (n 8 (by decide) (by decide))⟩, ⟨(r.2 9 (by omega) (n 9 (by decide) (by decide))).trans h3, (r.2 13 (by omega) (n 13 (by decide) (by decide))).trans h4, Nat.lt_of_lt_of_le h5 r.1⟩, ⟨x2, y2, hasO_fr h6 r (n 18 (by decide) (by decide))⟩, fun b m hb => ?_⟩
  obtain ⟨f, hf⟩ := h7 b m hb
  exact ⟨f, hasI_fr hf r (h b (scN_scr hb))⟩
theorem Tp.fr {P : Nat → Prop} {s s' : aS} {M M' : MK} (T : Tp s M) (r : Fr P s s') (h1 : ¬ P 1) (h2 : ¬ P 2) (e9 : M'.1 9 = M.1 9) (e6 : M'.2 6 = M.2 6) : Tp s' M' := by
  obtain ⟨n, f, a, b, d, e, g⟩ := T
  exact ⟨n, f, a, hasO_fr b r h1, hasI_fr d r h2, e9.trans e, fun k hk => by rw [e6]; exact g k hk⟩
theorem Rdr.fr {P : Nat → Prop} {s s' : aS} (R : Rdr s) (r : Fr P s s') (h : ∀ k, 41 ≤ k → k ≤ 65 → ¬ P k) : Rdr s' := by
  obtain ⟨⟨Kd, D⟩, ⟨x, F, a1, a2⟩, y, G, b1, b2, b3⟩ := R
  exact ⟨⟨Kd, D.fr r fun k h1 h2 => h k h1 (by omega)⟩, ⟨x, F, hasO_fr a1 r (h 54 (by decide) (by decide)), fun k hk => hasI_fr (a2 k hk) r (h _ (by omega) (by omega))⟩, y, G, hasO_fr b1 r (h 59 (by decide) (by decide)), fun k hk => hasI_fr (b2 k hk) r (h _ (by omega) (by omega)), hasI_fr b3 r (h 65 (by decide) (by decide))⟩
theorem Ot.fr {P : Nat → Prop} {s s' : aS} (O : Ot s) (r : Fr P s s') (h : ¬ P 79) : Ot s' := by
  obtain ⟨⟨g, a⟩, b⟩ := O
  exact ⟨⟨g, (r.2 79 b h).trans a⟩, Nat.lt_of_lt_of_le b r.1⟩
theorem MemC.fr {P : Nat → Prop} {s s' : aS} {l li o h : Nat} {A : Nat → Option (Nat × CK)} (H : MemC s l li o h A) (r : Fr P s s') (h23 : ¬ P 23) (h24 : ¬ P 24) (h80 : ∀ k, 80 ≤ k → ¬ (l ≤ k ∧ k ≤ l + 2) → ¬ P k) : MemC s' l li o h A := by
  obtain ⟨h0, h1, ⟨g, h2, h3, h4⟩, hC, hA⟩ := H
  refine ⟨h0, hasO_fr h1 r h23, ⟨g, (r.2 24 h3 h24).trans h2, Nat.lt_of_lt_of_le h3 r.1, h4⟩, fun i a K hi e => ?_, hA⟩
  have z := hC i a K hi e
  exact ⟨z.1, z.2.1.fr r fun k a1 a2 => h80 k (by have := z.1; omega) (by have := z.2.2.1; omega), z.2.2⟩
/-- the image's law stays, whatever happens to the stack of the law that holds now -/
theorem MemL.fr {P : Nat → Prop} {s s' : aS} {M M' : MK} {l li : Nat} (H : MemL s M l li) (r : Fr P s s') (hl : lOk l) (hp : ¬ P l ∧ ¬ P (l + 1)) (hs : ∃ g, hasI s' (l + 2) 0 40 g) (h25 : ¬ P 25 ∧ ¬ P 26) (h27 : l ≠ 25 → ¬ P 27) (h80 : ∀ k, 80 ≤ k → ¬ (l ≤ k ∧ k ≤ l + 2) → ¬ P k) (e6 : M'.1 6 = M.1 6) (e2 : M'.2 2 = M.2 2) : MemL s' M' l li := by
  obtain ⟨a, b, ⟨LW, d, d2, d3⟩, g, e⟩ := H
  unfold lOk at a hl
  rcases b with rfl | b
  · exact ⟨a, Or.inl rfl, ⟨LW, d.fr r hp.1 hp.2, d2, by rw [e6, e2]; exact d3⟩, hs⟩
  · have np : ∀ k, li ≤ k → k ≤ li + 2 → ¬ P k := fun k k1 k2 => by
      rcases a with rfl | a
      · have : k = 25 ∨ k = 26 ∨ k = 27 := by omega
        rcases this with rfl | rfl | rfl
        · exact h25.1
        · exact h25.2
        · exact h27 (by omega)
      · exact h80 k (by omega) (by omega)
    exact ⟨a, Or.inr b, ⟨LW, d.fr r (np _ (Nat.le_refl _) (by omega)) (np _ (by omega) (by omega)), d2, by rw [e6, e2]; exact d3⟩, g, hasI_fr e r (np _ (by omega) (Nat.le_refl _))⟩
theorem Memo.lt {s : aS} {M : MK} {l li : Nat} (H : MemL s M l li) : li + 2 < s.2.1 := by
  obtain ⟨-, -, -, g, e⟩ := H
  exact e.2
/-- the reference's acts and image stay -/
theorem MemR.keep {M M' : MK} {l li o h c c' : Nat} {A : Nat → Option (Nat × CK)} (R : MemR M l li o h c A) (hc : c ≤ c') (e7 : M'.1 7 = M.1 7) (e6 : M'.1 6 = M.1 6) (e5 : M'.2 5 = M.2 5) (e2 : M'.2 2 = M.2 2) (e4 : M'.2 1 4 = M.2 1 4) : MemR M' l li o h c' A := by
  obtain ⟨a, b, d⟩ := R
  refine ⟨fun j hj => ?_, e7.trans b, ?_⟩
  · obtain ⟨x, K, z1, z2, ⟨z3, z4, z5⟩, z6⟩ := a j hj
    rw [e5, e4]
    exact ⟨x, K, z1, z2, ⟨z3, z4, z5.more hc⟩, z6⟩
  · rw [e6, e2]
    exact d.imp id fun ⟨x, K, z1, z2, ⟨z3, z4, z5⟩, z6⟩ => ⟨x, K, z1, z2, ⟨z3, z4, z5.more hc⟩, z6⟩
/-- what a call may change that asks only -/
def pAsk (l k : Nat) : Prop := scr l k ∨ k = 79 ∨ (66 ≤ k ∧ k ≤ 78)
section WO
variable {s s' : aS} {f : Int32} {K : CK} {M M' : MK} {LW : Option (List Ln)} {c : Nat}
theorem World.lt (H : World s f K M LW c) : K.2.2.2 + 2 < s.2.1 ∧ lOk K.2.2.2 := by
  obtain ⟨⟨E, ⟨-, S, L, hl, -⟩, -⟩, -⟩ := H
  obtain ⟨g, e⟩ := S.stack hl
  exact ⟨e.2, hl⟩
theorem World.keep (H : World s f K M LW c) (r : Fr (pAsk K.2.2.2) s s') (hs : ScOk K.2.2.2 s') (D : Mdl s' 66 M') (kp : Keep M M') (ho : Ot s') : World s' f K M' LW c := by
  obtain ⟨-, hl⟩ := H.lt
  obtain ⟨⟨⟨C, -, S, hk, hw, hc⟩, ⟨-, -, L, -, Lok⟩, LR⟩, ef, T, R, -, li, o, h, A, mc, mr, ml⟩ := H
  have hl' := hl
  unfold lOk at hl'
  have np : ∀ k, ¬ scr K.2.2.2 k → k ≠ 79 → ¬ (66 ≤ k ∧ k ≤ 78) → ¬ pAsk K.2.2.2 k := fun k h1 h2 h3 q => q.elim h1 fun q => q.elim h2 h3
  have n80 : ∀ k, 80 ≤ k → ¬ (K.2.2.2 ≤ k ∧ k ≤ K.2.2.2 + 2) → ¬ pAsk K.2.2.2 k := fun k h1 h2 => np k (by unfold scr; omega) (by omega) (by omega)
  have C' : CC s' f K := C.fr r (np 0 (by unfold scr; omega) (by decide) (by decide)) fun k h1 h2 => np k (by unfold scr; omega) (by omega) (by omega)
  have nl : ¬ pAsk K.2.2.2 K.2.2.2 ∧ ¬ pAsk K.2.2.2 (K.2.2.2 + 1) := ⟨np _ (by unfold scr; omega) (by omega) (by omega), np _ (by unfold scr; omega) (by omega) (by omega)⟩
  obtain ⟨k1, k2, k5, k6, i6, i7, i9, i14⟩ := kp
  refine ⟨⟨⟨C', D, by rw [k1]; exact S, hk, by rw [k1]; exact hw, hc⟩, ⟨C', hs, L.fr r nl.1 nl.2, hl, Lok⟩, by rw [k1]; exact LR⟩, ef.trans i14.symm, T.fr r (np 1 (by unfold scr; omega) (by decide) (by decide)) (np 2 (by unfold scr; omega) (by decide) (by decide)) i9 k6, R.fr r fun k h1 h2 => np k (by unfold scr; omega) (by omega) (by omega), ho, li, o, h, A, mc.fr r (np 23 (by unfold scr; omega) (by decide) (by decide)) (np 24 (by unfold scr; omega) (by decide) (by decide)) n80, mr.keep (Nat.le_refl c) i7 i6 k5 k2 (by rw [k1]), ml.fr r hl nl (hs.stack hl) ⟨np 25 (by unfold scr; omega) (by decide) (by decide), np 26 (by unfold scr; omega) (by decide) (by decide)⟩ (fun e => np 27 (by unfold scr; omega) (by decide) (by decide)) n80 i6 k2⟩
end WO
