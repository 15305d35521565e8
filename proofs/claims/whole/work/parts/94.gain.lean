/-! THE SAME LAW ON BOTH SIDES; the reference's answers that use its scratch -/
theorem hGain_0 (h : Int32) : hGain h 0 0 = 0 := by
  unfold hGain
  rw [Int32.mul_zero]
  decide
theorem sumT_nn (F : Nat → Int32) (w : Nat) : ∀ (L : List Ln) (x : Int32) (B : Nat), isN x B → (∀ y, y ∈ L → lnOk y) → isN (sumT F w L x) (B + 999 * L.length)
  | [], x, B, h, _ => h.mono (by omega)
  | y :: r, x, B, h, hok => by
    have hy := (hok y List.mem_cons_self).2.1
    have h1 : isN (if y.1 = w then (if hoP F y.2.2 = 0 then x else x + Int32.ofNat y.2.1) else x) (B + 999) := by
      split
      · split
        · exact h.mono (by omega)
        · exact isN_add h ⟨y.2.1, hy, rfl⟩
      · exact h.mono (by omega)
    have := sumT_nn F w r _ (B + 999) h1 (fun z hz => hok z (List.mem_cons_of_mem _ hz))
    refine this.mono ?_
    show B + 999 + 999 * r.length ≤ B + 999 * (r.length + 1)
    omega
theorem isN_imin {x y : Int32} {A B : Nat} (h : isN x A) (g : isN y B) (hA : A < 2 ^ 31) (hB : B < 2 ^ 31) : isN (imin x y) B := by
  obtain ⟨n, h1, rfl⟩ := h
  obtain ⟨m, g1, rfl⟩ := g
  rw [imin_of (by omega) (by omega)]
  exact ⟨min n m, by omega, rfl⟩
theorem lawTot_nn {LW : Option (List Ln)} (ok : LWok LW) (F : Nat → Int32) (w : Nat) : isN (lawTot LW F w) 100 := by
  unfold lawTot
  cases LW with
  | none =>
    show isN (if F 8 = 1 then (if w = 0 then 100 else if w = 3 then 1 else 0) else 0) 100
    split
    · split
      · exact ⟨100, Nat.le_refl _, rfl⟩
      · split
        · exact ⟨1, by omega, rfl⟩
        · exact ⟨0, by omega, rfl⟩
    · exact ⟨0, by omega, rfl⟩
  | some L =>
    have h := sumT_nn F w L 0 0 isN_0 ok.2.2.1
    have hl := ok.1
    show isN (imin _ _) 100
    split
    · exact (isN_imin (B := 99) h ⟨99, Nat.le_refl _, rfl⟩ (by omega) (by decide)).mono (by omega)
    · exact isN_imin (B := 100) h ⟨100, Nat.le_refl _, rfl⟩ (by omega) (by decide)
theorem row_same {K : CK} {W : Nat → Int32} (S : Sm K W) (hk : kOk K) {p : Nat} (hp : p < K.1 0) (harm hard master : Int32) : ∀ k, k < 10 → cRow K (Int32.ofNat p) harm hard master k = fRow W p harm hard master k := by
  intro k hk10
  have cs := Sm.cols S hk
  have : k = 0 ∨ k = 1 ∨ k = 2 ∨ k = 3 ∨ k = 4 ∨ k = 5 ∨ k = 6 ∨ k = 7 ∨ k = 8 ∨ k = 9 := by omega
  rcases this with rfl | rfl | rfl | rfl | rfl | rfl | rfl | rfl | rfl | rfl
  · exact cs.2.1 p hp
  · exact cs.2.2.1 p hp
  · exact kguilt_in S hk hp
  · rfl
  · rfl
  · rfl
  · exact (Sm.ints S).2.1
  · show imax 0 (kget K 0 (Int32.ofNat p) 6) = imax 0 (W (13 + 8 * p + 6))
    rw [cs.2.2.2.2.2.2.1 p hp]
  · exact cs.1 p hp
  · exact cs.2.2.2.2.1 p hp
/-- GUILT that goes over, told by the reference's world -/
def wOver (W : Nat → Int32) (LW : Option (List Ln)) (p : Nat) : Int32 := W (13 + 8 * p + 3) * lawTot LW (fRow W p 0 0 0) 2 / 100
def wGain (W : Nat → Int32) (LW : Option (List Ln)) (p : Nat) (harm hard master : Int32) : Int32 := hGain harm (lawTot LW (fRow W p harm hard master) 0) (lawTot LW (fRow W p harm hard master) 1)
theorem long_over {a b : Int32} (ha : isN a 179820) (hb : isN b 100) : ((a.toInt64 * b.toInt64) / 100).toInt32 = a * b / 100 := by
  obtain ⟨n, h1, rfl⟩ := ha
  obtain ⟨m, h2, rfl⟩ := hb
  have hnm : n * m ≤ 179820 * 100 := Nat.mul_le_mul h1 h2
  have e1 : (Int32.ofNat n).toInt = n := ofN_toInt (by omega)
  have e2 : (Int32.ofNat m).toInt = m := ofN_toInt (by omega)
  have e100 : (100 : Int64).toInt = 100 := rfl
  apply Int32.toInt_inj.mp
  have p1 : ((Int32.ofNat n).toInt64 * (Int32.ofNat m).toInt64).toInt = ((n * m : Nat) : Int) := by
    rw [Int64.toInt_mul, Int32.toInt_toInt64, Int32.toInt_toInt64, e1, e2, ← Int.natCast_mul]
    exact Int.bmod_eq_of_le_mul_two (by omega) (by omega)
  rw [Int64.toInt_toInt32, Int64.toInt_div_of_ne_right _ _ (by decide), p1, e100, Int.tdiv_eq_ediv_of_nonneg (by omega), ofN_mul, show (100 : Int32) = Int32.ofNat 100 from rfl, ofN_div (by omega) (by decide), ofN_toInt (by omega)]
  rw [show ((n * m : Nat) : Int) / 100 = ((n * m / 100 : Nat) : Int) from rfl]
  exact Int.bmod_eq_of_le_mul_two (by omega) (by omega)
/-- an answer of the reference that may use its scratch; I tells which of its numbers stay -/
def QX {α : Type} (I : Nat → Prop) (m : MM α) (s : aS) (M : MK) (v : α) : Prop := ∃ s' M', m s = some (.inl v, s') ∧ Mdl s' 66 M' ∧ Off s s' 66 78 ∧ Keep M M' ∧ ∀ k, I k → M'.1 k = M.1 k
def I5 (k : Nat) : Prop := k = 0 ∨ k = 18 ∨ k = 19 ∨ k = 20 ∨ k = 23 ∨ k = 24
def I3 (k : Nat) : Prop := k = 0 ∨ k = 23 ∨ k = 24
section QXS
variable {α β σ ε : Type} {I : Nat → Prop} {s : aS} {M : MK}
theorem QX.bnd {m : MM α} {g : α → MM β} {x : α} {y : β} (h : QX I m s M x) (k : ∀ s' M', Mdl s' 66 M' → Keep M M' → (∀ k, I k → M'.1 k = M.1 k) → QX I (g x) s' M' y) : QX I (mbnd m g) s M y := by
  obtain ⟨s1, M1, a1, a2, a3, a4, a5⟩ := h
  obtain ⟨s2, M2, b1, b2, b3, b4, b5⟩ := k s1 M1 a2 a4 a5
  exact ⟨s2, M2, (bnd_ok a1).trans b1, b2, a3.trans b3, a4.tr b4, fun k hk => (b5 k hk).trans (a5 k hk)⟩
theorem QX.get {m : MM α} {g : α → MM β} {x : α} {y : β} (h : m s = some (.inl x, s)) (k : QX I (g x) s M y) : QX I (mbnd m g) s M y := by
  obtain ⟨s2, M2, b1, b2⟩ := k
  exact ⟨s2, M2, (bnd_ok h).trans b1, b2⟩
theorem QX.ret {x : α} (C : Mdl s 66 M) : QX I (mret x) s M x := ⟨s, M, rfl, C, Off.rf, Keep.rf, fun _ _ => rfl⟩
theorem QX.val {m : MM α} {x : α} (C : Mdl s 66 M) (h : m s = some (.inl x, s)) : QX I m s M x := ⟨s, M, h, C, Off.rf, Keep.rf, fun _ _ => rfl⟩
theorem QX.o11 {m : MM α} {x : α} (C : Mdl s 66 M) (h : QX I m s M x) : QX I (onC 11 66 m) s M x := by
  obtain ⟨s2, M2, b1, b2⟩ := h
  exact ⟨s2, M2, (onC_ok C.1).trans b1, b2⟩
theorem QX.weak {J : Nat → Prop} {m : MM α} {x : α} (h : QX I m s M x) (hj : ∀ k, J k → I k) : QX J m s M x := by
  obtain ⟨s1, M1, a1, a2, a3, a4, a5⟩ := h
  exact ⟨s1, M1, a1, a2, a3, a4, fun k hk => a5 k (hj k hk)⟩
theorem QX.rq {m : MM α} {x : α} {t : Int32} (h : QX I m s M x) (h0 : I 0) (ht : M.1 0 = t) : RQ m s M x t := by
  obtain ⟨s1, M1, a1, a2, a3, a4, a5⟩ := h
  exact ⟨s1, M1, a1, a2, a3, (a5 0 h0).trans ht, a4⟩
theorem QX.loop {b : σ → MM (σ ⊕ ε)} {e : ε} (N : Nat) (X : Nat → σ) (hs : ∀ j, j < N → ∀ s' M', Mdl s' 66 M' → Keep M M' → (∀ k, I k → M'.1 k = M.1 k) → QX I (b (X j)) s' M' (.inl (X (j + 1)))) (he : ∀ s' M', Mdl s' 66 M' → Keep M M' → (∀ k, I k → M'.1 k = M.1 k) → QX I (b (X N)) s' M' (.inr e)) (C : Mdl s 66 M) : QX I (loopM b (X 0)) s M e := by
  have key : ∀ m, m ≤ N → ∀ s' M', Mdl s' 66 M' → Keep M M' → (∀ k, I k → M'.1 k = M.1 k) → QX I (loopM b (X (N - m))) s' M' e := by
    intro m
    induction m with
    | zero =>
      intro _ s' M' C' k' i'
      rw [loopM_eq, Nat.sub_zero]
      exact (he s' M' C' k' i').bnd fun s2 M2 C2 _ _ => QX.ret C2
    | succ m ih =>
      intro hm s' M' C' k' i'
      rw [loopM_eq]
      have h := hs (N - (m + 1)) (by omega) s' M' C' k' i'
      rw [show N - (m + 1) + 1 = N - m by omega] at h
      exact h.bnd fun s2 M2 C2 k2 i2 => ih (by omega) s2 M2 C2 (k'.tr k2) (fun k hk => (i2 k hk).trans (i' k hk))
  have h := key N (Nat.le_refl N) s M C Keep.rf (fun _ _ => rfl)
  rwa [Nat.sub_self] at h
theorem QX.says (C : Mdl s 66 M) {LW : Option (List Ln)} (L : LawR (M.2 1) LW) (ok : LWok LW) {p w : Nat} (hp : p < 300) (h9 : M.2 1 (13 + 8 * p + 4) = 0 ∨ M.2 1 (13 + 8 * p + 4) = 1) (hw : w ≤ 3) : QX I5 (mX12_says 66 (Int32.ofNat w) (Int32.ofNat p)) s M (lawTot LW (mF9 M p) w) := by
  obtain ⟨s', g', a1, a2, a3⟩ := says_run C L ok hp (show mF9 M p 9 = 0 ∨ mF9 M p 9 = 1 from h9) hw
  exact ⟨s', mval M g', a1, a2, a3, ⟨rfl, rfl, rfl, rfl, rfl, rfl, rfl, rfl⟩, fun _ _ => rfl⟩
theorem QX.gain (C : Mdl s 66 M) {LW : Option (List Ln)} (L : LawR (M.2 1) LW) (ok : LWok LW) {p : Nat} (hp : p < 300) (h9 : M.2 1 (13 + 8 * p + 4) = 0 ∨ M.2 1 (13 + 8 * p + 4) = 1) {harm hard master : Int32} (e1 : M.1 18 = harm) (e2 : M.1 19 = hard) (e3 : M.1 20 = master) : QX I5 (mX12_gain 66 (Int32.ofNat p)) s M (wGain (M.2 1) LW p harm hard master) := by
  have r0 : mF9 M p = fRow (M.2 1) p harm hard master := by
    show fRow (M.2 1) p (M.1 18) (M.1 19) (M.1 20) = _
    rw [e1, e2, e3]
  unfold mX12_gain wGain
  refine QX.o11 C (QX.get (show gI 11 18 66 s = some (.inl harm, s) by rw [← e1]; exact gI_ok C.1 rfl) ?_)
  have h0 := QX.says C L ok hp h9 (w := 0) (by decide)
  rw [r0] at h0
  refine QX.bnd h0 fun s1 M1 C1 k1 i1 => ?_
  have L1 : LawR (M1.2 1) LW := by rw [k1.1]; exact L
  have h1 := QX.says C1 L1 ok hp (by rw [k1.1]; exact h9) (w := 1) (by decide)
  have r1 : mF9 M1 p = fRow (M.2 1) p harm hard master := by
    show fRow (M1.2 1) p (M1.1 18) (M1.1 19) (M1.1 20) = _
    rw [k1.1, i1 18 (Or.inr (Or.inl rfl)), i1 19 (Or.inr (Or.inr (Or.inl rfl))), i1 20 (Or.inr (Or.inr (Or.inr (Or.inl rfl)))), e1, e2, e3]
  rw [r1] at h1
  exact QX.bnd h1 fun s2 M2 C2 _ _ => QX.ret C2
/-- a deed is told -/
theorem deed_told (C : Mdl s 66 M) (a b c : Int32) : ∃ s' M', mX12_ofDeed 66 a b c s = some (.inl (), s') ∧ Mdl s' 66 M' ∧ Off s s' 66 78 ∧ Keep M M' ∧ (∀ k, I3 k → M'.1 k = M.1 k) ∧ M'.1 18 = b ∧ M'.1 19 = c ∧ M'.1 20 = a := by
  obtain ⟨s1, h1, C1, o1⟩ := mint_run (k := 20) (v := a) C rfl
  obtain ⟨s2, h2, C2, o2⟩ := mint_run (k := 18) (v := b) C1 rfl
  obtain ⟨s3, h3, C3, o3⟩ := mint_run (k := 19) (v := c) C2 rfl
  refine ⟨s3, _, ?_, C3, o1.trans (o2.trans o3), ⟨rfl, rfl, rfl, rfl, rfl, rfl, rfl, rfl⟩, fun k hk => ?_, rfl, rfl, rfl⟩
  · unfold mX12_ofDeed
    rw [onC_ok C.1, bnd_ok h1, bnd_ok h2, bnd_ok h3]
    rfl
  · rcases hk with rfl | rfl | rfl <;> rfl
theorem QX.heirs (C : Mdl s 66 M) {LW : Option (List Ln)} (L : LawR (M.2 1) LW) (ok : LWok LW) {p : Nat} (hp : p < 300) (h9 : M.2 1 (13 + 8 * p + 4) = 0 ∨ M.2 1 (13 + 8 * p + 4) = 1) : QX I3 (mX12_heirs 66 (Int32.ofNat p)) s M (lawTot LW (fRow (M.2 1) p 0 0 0) 2) := by
  unfold mX12_heirs mX12_ofNoDeed
  obtain ⟨s1, M1, a1, a2, a3, a4, a5, a6, a7, a8⟩ := deed_told C 0 0 0
  have L1 : LawR (M1.2 1) LW := by rw [a4.1]; exact L
  have h1 := QX.says a2 L1 ok hp (by rw [a4.1]; exact h9) (w := 2) (by decide)
  have r1 : mF9 M1 p = fRow (M.2 1) p 0 0 0 := by
    show fRow (M1.2 1) p (M1.1 18) (M1.1 19) (M1.1 20) = _
    rw [a4.1, a6, a7, a8]
  rw [r1] at h1
  obtain ⟨s2, M2, b1, b2, b3, b4, b5⟩ := h1
  refine ⟨s2, M2, ?_, b2, a3.trans b3, a4.tr b4, fun k hk => (b5 k (by rcases hk with rfl | rfl | rfl <;> unfold I5 <;> omega)).trans (a5 k hk)⟩
  rw [onC_ok C.1, bnd_ok (show onC 11 66 (mbnd (mX12_ofDeed 66 0 0 0) fun _ => mret ()) s = some (.inl (), s1) from (onC_ok C.1).trans ((bnd_ok a1).trans rfl))]
  exact (bnd_ok (show mX12_says 66 2 (Int32.ofNat p) s1 = _ from b1)).trans rfl
end QXS
