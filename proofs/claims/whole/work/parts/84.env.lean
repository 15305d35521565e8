/-! WHAT HOLDS BETWEEN CALLS: scratch, bounds; two answers that agree -/
def scr (l k : Nat) : Prop := (3 ≤ k ∧ k ≤ 22) ∨ k = l + 2
/-- where a law's object may stand -/
def lOk (l : Nat) : Prop := l = 25 ∨ 80 ≤ l
/-- how long a scratch row is: hearing, laundry, cell, the law's stack -/
def scN (l b : Nat) : Option Nat := if b = 4 then some 10 else if 5 ≤ b ∧ b ≤ 7 then some 3 else if (10 ≤ b ∧ b ≤ 12) ∨ (14 ≤ b ∧ b ≤ 16) then some 17 else if b = 17 then some 3 else if 19 ≤ b ∧ b ≤ 22 then some 6 else if b = l + 2 then some 40 else none
/-- the scratch objects have their shapes -/
def ScOk (l : Nat) (s : aS) : Prop :=
  hasO s 3 2 [.ref 4, .ref 5, .ref 6, .ref 7] ∧ (∃ x y, hasO s 8 3 [.ref 9, .ref 13, .ref 17, .int x, .int y]) ∧ (s.1 9 = .inr (.inr (.inl (2, 3, fun i => if i < 3 then some (10 + i) else none))) ∧ s.1 13 = .inr (.inr (.inl (2, 3, fun i => if i < 3 then some (14 + i) else none))) ∧ 22 < s.2.1) ∧ (∃ x y, hasO s 18 0 [.ref 19, .ref 20, .ref 21, .ref 22, .int x, .int y]) ∧ ∀ b n, scN l b = some n → ∃ f, hasI s b 0 n f
/-- nothing but scratch has changed -/
def ScR (l : Nat) (s s1 : aS) : Prop := s1.2 = s.2 ∧ (∀ k, ¬ scr l k → s1.1 k = s.1 k) ∧ (ScOk l s → ScOk l s1)
theorem ScR.rf {l : Nat} {s : aS} : ScR l s s := ⟨rfl, fun _ _ => rfl, id⟩
theorem ScR.tr {l : Nat} {s s1 s2 : aS} (h : ScR l s s1) (g : ScR l s1 s2) : ScR l s s2 := ⟨g.1.trans h.1, fun k hk => (g.2.1 k hk).trans (h.2.1 k hk), fun q => g.2.2 (h.2.2 q)⟩
theorem sup_at {s : aS} {b k : Nat} {e : AE} (h : k ≠ b) : (sup s b e).1 k = s.1 k := if_neg h
theorem scN_scr {l b n : Nat} (h : scN l b = some n) : scr l b := by
  unfold scN at h
  unfold scr
  split at h
  · omega
  · split at h
    · omega
    · split at h
      · omega
      · split at h
        · omega
        · split at h
          · omega
          · split at h
            · omega
            · cases h
theorem scN_ne {l b n : Nat} (hl : lOk l) (h : scN l b = some n) : b ≠ 3 ∧ b ≠ 8 ∧ b ≠ 9 ∧ b ≠ 13 ∧ b ≠ 18 := by
  unfold scN at h
  unfold lOk at hl
  split at h
  · omega
  · split at h
    · omega
    · split at h
      · omega
      · split at h
        · omega
        · split at h
          · omega
          · split at h
            · omega
            · cases h
theorem ScOk.put {l b n : Nat} {s : aS} {g : Nat → Int32} (S : ScOk l s) (hl : lOk l) (h : scN l b = some n) : ScOk l (sup s b (.inr (.inl (0, n, g)))) := by
  obtain ⟨h1, ⟨x, y, h2⟩, ⟨h3, h4, h5⟩, ⟨x2, y2, h6⟩, h7⟩ := S
  obtain ⟨n1, n2, n3, n4, n5⟩ := scN_ne hl h
  refine ⟨hasO_sup h1 (Ne.symm n1), ⟨x, y, hasO_sup h2 (Ne.symm n2)⟩, ⟨(sup_at (Ne.symm n3)).trans h3, (sup_at (Ne.symm n4)).trans h4, h5⟩, ⟨x2, y2, hasO_sup h6 (Ne.symm n5)⟩, fun b' n' h' => ?_⟩
  obtain ⟨f, hf⟩ := h7 b' n' h'
  by_cases e : b' = b
  · subst e
    rw [h] at h'
    cases h'
    exact ⟨g, hasI_put hf.2⟩
  · exact ⟨f, hasI_sup hf e⟩
theorem ScR.put {l b n : Nat} {s : aS} {g : Nat → Int32} (hl : lOk l) (h : scN l b = some n) : ScR l s (sup s b (.inr (.inl (0, n, g)))) := ⟨rfl, fun k hk => sup_at (fun e => hk (by rw [e]; exact scN_scr h)), fun S => S.put hl h⟩
theorem ScR.o8 {l : Nat} {s : aS} {x y : Int32} (hl : lOk l) : ScR l s (sup s 8 (.inl (3, [.ref 9, .ref 13, .ref 17, .int x, .int y]))) := by
  refine ⟨rfl, fun k hk => sup_at (fun e => hk (Or.inl (by omega))), fun S => ?_⟩
  obtain ⟨h1, ⟨x1, y1, h2⟩, ⟨h3, h4, h5⟩, ⟨x2, y2, h6⟩, h7⟩ := S
  refine ⟨hasO_sup h1 (by decide), ⟨x, y, hasO_put h2.2⟩, ⟨(sup_at (by decide)).trans h3, (sup_at (by decide)).trans h4, h5⟩, ⟨x2, y2, hasO_sup h6 (by decide)⟩, fun b' n' h' => ?_⟩
  obtain ⟨f, hf⟩ := h7 b' n' h'
  exact ⟨f, hasI_sup hf (scN_ne hl h').2.1⟩
theorem ScR.o18 {l : Nat} {s : aS} {x y : Int32} (hl : lOk l) : ScR l s (sup s 18 (.inl (0, [.ref 19, .ref 20, .ref 21, .ref 22, .int x, .int y]))) := by
  refine ⟨rfl, fun k hk => sup_at (fun e => hk (Or.inl (by omega))), fun S => ?_⟩
  obtain ⟨h1, ⟨x1, y1, h2⟩, ⟨h3, h4, h5⟩, ⟨x2, y2, h6⟩, h7⟩ := S
  refine ⟨hasO_sup h1 (by decide), ⟨x1, y1, hasO_sup h2 (by decide)⟩, ⟨(sup_at (by decide)).trans h3, (sup_at (by decide)).trans h4, h5⟩, ⟨x, y, hasO_put h6.2⟩, fun b' n' h' => ?_⟩
  obtain ⟨f, hf⟩ := h7 b' n' h'
  exact ⟨f, hasI_sup hf (scN_ne hl h').2.2.2.2⟩
theorem hasO_scr {l a ci : Nat} {s s1 : aS} {fs : List Value} (h : hasO s a ci fs) (r : ScR l s s1) (hn : ¬ scr l a) : hasO s1 a ci fs := ⟨(r.2.1 a hn).trans h.1, by rw [r.1]; exact h.2⟩
theorem hasI_scr {l a t n : Nat} {s s1 : aS} {f : Nat → Int32} (h : hasI s a t n f) (r : ScR l s s1) (hn : ¬ scr l a) : hasI s1 a t n f := ⟨(r.2.1 a hn).trans h.1, by rw [r.1]; exact h.2⟩
theorem Crt.scR {l a : Nat} {s s1 : aS} {K : CK} (C : Crt s a K) (r : ScR l s s1) (ha : ∀ k, a ≤ k → k ≤ a + 12 → ¬ scr l k) : Crt s1 a K := ⟨hasO_scr C.1 r (ha a (Nat.le_refl a) (by omega)), fun k hk => ⟨hasO_scr (C.2 k hk).1 r (ha _ (by omega) (by omega)), hasI_scr (C.2 k hk).2.1 r (ha _ (by omega) (by omega)), (C.2 k hk).2.2⟩⟩
theorem CC.scR {l : Nat} {s s1 : aS} {f : Int32} {K : CK} (C : CC s f K) (hl : lOk l) (r : ScR l s s1) : CC s1 f K := by
  unfold lOk at hl
  refine ⟨hasO_scr C.1 r ?_, C.2.scR r fun k h1 h2 => ?_⟩
  · unfold scr
    omega
  · unfold scr
    omega
theorem Mdl.scR {l : Nat} {s s1 : aS} {M : MK} (C : Mdl s 66 M) (hl : lOk l) (r : ScR l s s1) : Mdl s1 66 M := by
  unfold lOk at hl
  refine ⟨hasO_scr C.1 r ?_, fun q h1 h2 => hasI_scr (C.2 q h1 h2) r ?_⟩
  · unfold scr
    omega
  · unfold scr
    omega
/-- both answer the same, or both refuse alike; the reference's world stays -/
def Ag (l : Nat) (mc mr : MM Int32) (s : aS) (M : MK) (hs : List (Nat × Int32)) : Prop :=
  (∃ v s1, mc s = some (.inl v, s1) ∧ ScR l s s1 ∧ ∀ s', Mdl s' 66 M → RQ mr s' M v 0) ∨ (∃ e t r, mc s = some (.inr e, thS s) ∧ hsel hs e = mret t ∧ ¬ t = 0 ∧ ∀ s', Mdl s' 66 M → RQ mr s' M r t)
def pOk (K : CK) (W : Nat → Int32) (p : Nat) : Prop := isN (W (13 + 8 * p)) 2 ∧ isN (W (13 + 8 * p + 1)) 9 ∧ isN (W (13 + 8 * p + 2)) 99 ∧ isN (W (13 + 8 * p + 3)) 179820 ∧ isN (W (13 + 8 * p + 4)) 1 ∧ isN (W (13 + 8 * p + 5)) 1 ∧ (W (13 + 8 * p + 6) = -1 ∨ ∃ t, t < K.1 1 ∧ W (13 + 8 * p + 6) = Int32.ofNat t ∧ W (141 + 4 * t + (W (13 + 8 * p)).toNatClampNeg) = Int32.ofNat p)
def tOk (K : CK) (W : Nat → Int32) (t : Nat) : Prop := ∀ k, k < 3 → W (141 + 4 * t + k) = -1 ∨ ∃ p, p < K.1 0 ∧ W (141 + 4 * t + k) = Int32.ofNat p ∧ W (13 + 8 * p) = Int32.ofNat k ∧ W (13 + 8 * p + 6) = Int32.ofNat t
def dOk (K : CK) (W : Nat → Int32) (d : Nat) : Prop := isN (W (171 + 7 * d)) (W 5).toNatClampNeg ∧ (∃ t, t < K.1 1 ∧ W (171 + 7 * d + 1) = Int32.ofNat t) ∧ (∃ m, m < K.1 2 ∧ W (171 + 7 * d + 2) = Int32.ofNat m) ∧ isN (W (171 + 7 * d + 3)) 999 ∧ isN (W (171 + 7 * d + 4)) 9 ∧ isN (W (171 + 7 * d + 5)) 9
/-- all GUILT together -/
def gsum (W : Nat → Int32) : Nat → Nat
  | 0 => 0
  | p + 1 => gsum W p + (W (13 + 8 * p + 3)).toNatClampNeg
/-- what holds of a world; c bounds the DAY -/
def wOk (K : CK) (W : Nat → Int32) (c : Nat) : Prop :=
  (∀ p, p < K.1 0 → pOk K W p) ∧ (∀ t, t < K.1 1 → tOk K W t) ∧ (∀ m, m < K.1 2 → isN (W (165 + m)) 9) ∧ (∀ d, d < K.1 3 → dOk K W d) ∧ (∀ d, d + 1 < K.1 3 → W (171 + 7 * d) ≤ W (171 + 7 * (d + 1))) ∧ (∀ g, g < K.1 5 → ∀ t, K.1 1 ≤ t → t < 6 → W (591 + 6 * g + t) = -1) ∧ gsum W (K.1 0) ≤ 2997 * K.1 3 ∧ isN (W 3) 12 ∧ isN (W 5) c ∧ isN (W 7) 9999 ∧ isN (W 8) 100
def Env (s : aS) (f : Int32) (K : CK) (M : MK) (c : Nat) : Prop := CC s f K ∧ Mdl s 66 M ∧ Sm K (M.2 1) ∧ kOk K ∧ wOk K (M.2 1) c ∧ c < 100000
theorem mint_2 (M : MK) (k : Nat) (v : Int32) : (mint M k v).2 = M.2 := rfl
section EN
variable {s : aS} {f : Int32} {K : CK} {M : MK} {W : Nat → Int32} {c : Nat}
theorem tOk.toolIn {t : Nat} (h : tOk K W t) : toolIn K W t := fun k hk => (h k hk).imp id fun ⟨p, hp, e, _⟩ => ⟨p, hp, e⟩
theorem tOk.ok (hk : kOk K) {t : Nat} (h : tOk K W t) : toolOk W t := h.toolIn.ok hk
theorem isN_add {x y : Int32} {A B : Nat} (h : isN x A) (g : isN y B) : isN (x + y) (A + B) := by
  obtain ⟨n, h1, rfl⟩ := h
  obtain ⟨m, g1, rfl⟩ := g
  exact ⟨n + m, by omega, ofN_add n m⟩
theorem isN_0 : isN 0 0 := ⟨0, Nat.le_refl 0, rfl⟩
theorem wans_part (hw : wOk K W c) {t : Nat} (ht : t < K.1 1) {k : Nat} (h3 : k < 3) : isN (if 0 ≤ W (141 + 4 * t + k) then W (13 + 8 * (W (141 + 4 * t + k)).toNatClampNeg + 3) else 0) 179820 := by
  rcases hw.2.1 t ht k h3 with h | ⟨p, hp, h, -, -⟩
  · rw [h, if_neg (by decide)]
    exact isN_0.mono (by omega)
  · split
    · next q =>
      have hp31 : p < 2 ^ 31 ∨ ¬ p < 2 ^ 31 := Nat.lt_or_ge p (2 ^ 31) |>.imp id Nat.not_lt.mpr
      have key : (W (141 + 4 * t + k)).toNatClampNeg < K.1 0 := by
        rw [h] at q ⊢
        rcases hp31 with hh | hh
        · rw [ofN_cl hh]
          exact hp
        · have := Int32.toInt_lt (Int32.ofNat p)
          have h9 : (Int32.ofNat p).toNatClampNeg < 2 ^ 31 := by
            show (Int32.ofNat p).toInt.toNat < _
            omega
          omega
      exact (hw.1 _ key).2.2.2.1
    · exact isN_0.mono (by omega)
theorem wans_nn (hw : wOk K W c) {t : Nat} (ht : t < K.1 1) : isN (wans W t) 539460 := by
  have h0 := wans_part hw ht (k := 0) (by decide)
  have h1 := wans_part hw ht (k := 1) (by decide)
  have h2 := wans_part hw ht (k := 2) (by decide)
  have := isN_add (isN_add (isN_add isN_0 h0) h1) h2
  exact this.mono (by omega)
theorem day_nn (hw : wOk K W c) (hc : c < 100000) {d : Nat} (hd : d < K.1 3) : ¬ W (171 + 7 * d) < 0 := by
  obtain ⟨n, h1, h2⟩ := (hw.2.2.2.1 d hd).1
  obtain ⟨m, g1, g2⟩ := hw.2.2.2.2.2.2.2.2.1
  rw [g2, ofN_cl (by omega)] at h1
  rw [h2]
  exact ofN_nn (by omega)
theorem hsel_1 : hsel [(2, 1)] 2 = mret 1 := rfl
end EN
