/-! THE CLASS'S LAW: a condition as a whole, the sum of LINES -/
abbrev Ln : Type := Nat × Nat × List It
def codeAt (code : Nat → Int32) : Nat → List It → Prop
  | _, [] => True
  | a, i :: r => code a = Int32.ofNat (encI i) ∧ codeAt code (a + 1) r
def codeLs (code : Nat → Int32) : Nat → List Ln → Prop
  | _, [] => True
  | a, x :: r => code a = Int32.ofNat x.1 ∧ code (a + 1) = Int32.ofNat x.2.1 ∧ code (a + 2) = Int32.ofNat x.2.2.length ∧ codeAt code (a + 3) x.2.2 ∧ codeLs code (a + 3 + x.2.2.length) r
def lsize : List Ln → Nat
  | [] => 0
  | x :: r => 3 + x.2.2.length + lsize r
/-- how many items all conditions have -/
def psize : List Ln → Nat
  | [] => 0
  | x :: r => x.2.2.length + psize r
def progOk (P : List It) : Prop := (∀ i, i ∈ P → itOk i) ∧ (P = [] ∨ tyP P [] = some [true])
def lnOk (x : Ln) : Prop := x.1 ≤ 3 ∧ x.2.1 ≤ 999 ∧ progOk x.2.2
def hoP (F : Nat → Int32) (P : List It) : Int32 := match evL F P [] with
  | [] => 1
  | v :: _ => if v = 0 then 0 else 1
def sumT (F : Nat → Int32) (w : Nat) : List Ln → Int32 → Int32
  | [], x => x
  | y :: r, x => sumT F w r (if y.1 = w then (if hoP F y.2.2 = 0 then x else x + Int32.ofNat y.2.1) else x)
def lawTot (LW : Option (List Ln)) (F : Nat → Int32) (w : Nat) : Int32 := match LW with
  | none => if F 8 = 1 then (if w = 0 then 100 else if w = 3 then 1 else 0) else 0
  | some L => imin (sumT F w L 0) (if w = 3 then 99 else 100)
/-- the class's law is that -/
def LawC (s : aS) (l : Nat) (LW : Option (List Ln)) : Prop := match LW with
  | none => ∃ code, LawAt s l (-1) 0 code
  | some L => ∃ code, LawAt s l (Int32.ofNat L.length) (lsize L) code ∧ codeLs code 0 L
def LWok (LW : Option (List Ln)) : Prop := match LW with
  | none => True
  | some L => L.length ≤ 12 ∧ lsize L ≤ 450 ∧ (∀ x, x ∈ L → lnOk x) ∧ psize L ≤ 400
section HT
variable {s : aS} {l fa n : Nat} {F code g : Nat → Int32} {lines : Int32}
abbrev rwE (n : Nat) (g : Nat → Int32) : AE := .inr (.inl (0, n, g))
theorem holds_loop (hn : n ≤ 500) (hfa : fa ≠ l + 2) {to : Nat} (hto : to < 1000) (h9 : F 9 = 0 ∨ F 9 = 1) : ∀ (P : List It) (a : Nat) (T T' : List Bool) (k : List Int32) (g : Nat → Int32) (s : aS), LawAt s l lines n code → hasI s fa 0 10 F → hasI s (l + 2) 0 40 g → (∀ i, i ∈ P → itOk i) → tyP P T = some T' → T.length ≤ 30 → TyS T k → Stk g k → codeAt code a P → to = a + P.length → to ≤ n → ∃ g', loopM (mX4_holds_L6 l (Int32.ofNat to) fa) (Int32.ofNat T.length, Int32.ofNat a) s = some (.inl (.inr (Int32.ofNat T'.length)), sup s (l + 2) (rwE 40 g')) ∧ Stk g' (evL F P k) ∧ T'.length ≤ 30
  | [], a, T, T', k, g, s, L, HF, HS, hok, ht, hT, hk, hg, hc, e, hle => by
    have : some T = some T' := ht
    cases this
    have e2 : to = a := e
    refine ⟨g, ?_, hg, hT⟩
    rw [loopM_eq]
    refine (bnd_ok (v := .inr (.inr (Int32.ofNat T.length))) (s' := s) ?_).trans ?_
    · unfold mX4_holds_L6
      rw [e2, if_pos (Int32.le_refl _)]
      rfl
    · rw [sup_same HS]
      rfl
  | i :: r, a, T, T', k, g, s, L, HF, HS, hok, ht, hT, hk, hg, hc, e, hle => by
    have h2 : (match ty1 i T with
      | some T2 => tyP r T2
      | none => none) = some T' := ht
    cases e1 : ty1 i T with
    | none => rw [e1] at h2; cases h2
    | some T2 =>
      rw [e1] at h2
      have e3 : to = a + (r.length + 1) := e
      obtain ⟨g1, a1, a2, a3⟩ := holds_step L HF HS hn (hok i (List.mem_cons_self)) e1 hT hk hg (a := a) (to := to) (by omega) hto (by omega) hc.1
      obtain ⟨g2, b1, b2, b3⟩ := holds_loop hn hfa hto h9 r (a + 1) T2 T' (stp F i k) g1 (sup s (l + 2) (rwE 40 g1)) (L.sup ⟨by omega, by omega⟩) (hasI_sup HF hfa) (hasI_put HS.2) (fun j hj => hok j (List.mem_cons_of_mem _ hj)) h2 a3 (ty_step e1 hk h9) a2 hc.2 (by omega) hle
      refine ⟨g2, ?_, b2, b3⟩
      rw [loopM_eq]
      refine (bnd_ok a1).trans ?_
      rw [sup_sup] at b1
      exact b1
theorem holds_run (L : LawAt s l lines n code) (HF : hasI s fa 0 10 F) (HS : hasI s (l + 2) 0 40 g) (hn : n ≤ 500) (hfa : fa ≠ l + 2) (h9 : F 9 = 0 ∨ F 9 = 1) {P : List It} (ok : progOk P) {a : Nat} (hc : codeAt code a P) (hle : a + P.length ≤ n) : ∃ g', mX4_holds l (Int32.ofNat a) (Int32.ofNat (a + P.length)) fa s = some (.inl (hoP F P), sup s (l + 2) (rwE 40 g')) := by
  have hto : a + P.length < 1000 := by omega
  unfold mX4_holds
  rw [onC_ok L.1]
  rcases ok.2 with hP | hP
  · subst hP
    obtain ⟨g', h1, h2, h3⟩ := holds_loop hn hfa hto h9 [] a [] [] [] g s L HF HS ok.1 rfl (by decide) trivial trivial hc rfl hle
    refine ⟨g', (bnd_ok h1).trans ?_⟩
    rfl
  · obtain ⟨g', h1, h2, h3⟩ := holds_loop hn hfa hto h9 P a [] [true] [] g s L HF HS ok.1 hP (by decide) trivial trivial hc rfl hle
    refine ⟨g', (bnd_ok h1).trans ?_⟩
    have ht := ty_run (k := []) h9 hP trivial
    unfold hoP
    match evL F P [], ht, h2 with
    | [], ht, _ => exact ht.elim
    | v :: r, ht, h2 =>
      have hr : r = [] := by
        match r, ht with
        | [], _ => rfl
        | _ :: _, ht => exact ht.2.elim
      subst hr
      have hg0 : g' 0 = v := h2.1
      show (if Int32.ofNat 1 = 0 then _ else _ : MM Int32) _ = some (.inl (if v = 0 then 0 else 1), _)
      rw [if_neg (by decide)]
      have HS' : hasI (sup s (l + 2) (rwE 40 g')) (l + 2) 0 40 g' := hasI_put HS.2
      have L' : LawAt (sup s (l + 2) (rwE 40 g')) l lines n code := L.sup ⟨by omega, by omega⟩
      rw [bnd_ok (gR_ok L'.1 rfl), bnd_ok (show ldI 0 (l + 2) 0 _ = some (.inl (g' 0), _) from ldI_ok (i := 0) HS' (by decide) (by decide)), hg0]
      split <;> rfl
theorem total_loop (hn : n ≤ 500) (hfa : fa ≠ l + 2) (h9 : F 9 = 0 ∨ F 9 = 1) {w m : Nat} (hw : w ≤ 3) (hm : m ≤ 12) : ∀ (LL : List Ln) (a j : Nat) (x : Int32) (g : Nat → Int32) (s : aS), LawAt s l (Int32.ofNat m) n code → hasI s fa 0 10 F → hasI s (l + 2) 0 40 g → (∀ y, y ∈ LL → lnOk y) → codeLs code a LL → a + lsize LL ≤ n → j + LL.length = m → ∃ g', loopM (mX4_total_L34 l (Int32.ofNat w) fa) (x, Int32.ofNat a, Int32.ofNat j) s = some (.inl (sumT F w LL x), sup s (l + 2) (rwE 40 g'))
  | [], a, j, x, g, s, L, HF, HS, hok, hc, hle, hj => by
    have hj2 : j = m := hj
    refine ⟨g, ?_⟩
    rw [loopM_eq]
    refine (bnd_ok (v := .inr x) (s' := s) ?_).trans ?_
    · unfold mX4_total_L34
      rw [bnd_ok (gI_ok L.1 rfl), hj2, if_pos (Int32.le_refl _)]
      rfl
    · rw [sup_same HS]
      rfl
  | y :: r, a, j, x, g, s, L, HF, HS, hok, hc, hle, hj => by
    obtain ⟨c1, c2, c3, c4, c5⟩ := hc
    have hy := hok y List.mem_cons_self
    have hj2 : j + (r.length + 1) = m := hj
    have hsz : lsize (y :: r) = 3 + y.2.2.length + lsize r := rfl
    rw [hsz] at hle
    have n1 : ¬ Int32.ofNat m ≤ Int32.ofNat j := nle (by omega) (by omega)
    have n2 : ¬ Int32.ofNat n < Int32.ofNat (a + 3) := fun q => absurd ((ofN_lt (by omega) (by omega)).mp q) (by omega)
    have e3 : Int32.ofNat a + 3 = Int32.ofNat (a + 3) := ofN_add a 3
    have e2 : Int32.ofNat a + 2 = Int32.ofNat (a + 2) := ofN_add a 2
    have e1 : Int32.ofNat a + 1 = Int32.ofNat (a + 1) := ofN_add a 1
    have ld : ∀ (s' : aS), LawAt s' l (Int32.ofNat m) n code → ∀ q, q < n → ldI 0 (l + 1) (Int32.ofNat q) s' = some (.inl (code q), s') := fun s' L' q hq => by
      rw [ldI_ok L'.2 (ofN_nn (by omega)) (by rw [ofN_cl (by omega)]; exact hq), ofN_cl (by omega)]
    have r1 : ∀ (s' : aS), LawAt s' l (Int32.ofNat m) n code → gR 4 1 l s' = some (.inl (l + 1), s') := fun s' L' => gR_ok L'.1 rfl
    have gi : gI 4 0 l s = some (.inl (Int32.ofNat m), s) := gI_ok L.1 rfl
    have e4 : Int32.ofNat (a + 3) + Int32.ofNat y.2.2.length = Int32.ofNat (a + 3 + y.2.2.length) := ofN_add _ _
    have emax : imax (Int32.ofNat (a + 3 + y.2.2.length)) (Int32.ofNat (a + 3)) = Int32.ofNat (a + 3 + y.2.2.length) := by
      rw [imax_of (by omega) (by omega), Nat.max_eq_left (by omega)]
    by_cases hk : y.1 = w
    · obtain ⟨g1, h1⟩ := holds_run L HF HS hn hfa h9 hy.2.2 (a := a + 3) c4 (by omega)
      have L1 : LawAt (sup s (l + 2) (rwE 40 g1)) l (Int32.ofNat m) n code := L.sup ⟨by omega, by omega⟩
      obtain ⟨g2, h2⟩ := total_loop hn hfa h9 hw hm r (a + 3 + y.2.2.length) (j + 1) (if hoP F y.2.2 = 0 then x else x + Int32.ofNat y.2.1) g1 (sup s (l + 2) (rwE 40 g1)) L1 (hasI_sup HF hfa) (hasI_put HS.2) (fun z hz => hok z (List.mem_cons_of_mem _ hz)) c5 (by omega) (by omega)
      refine ⟨g2, ?_⟩
      rw [loopM_eq]
      refine (bnd_ok (v := .inl (if hoP F y.2.2 = 0 then x else x + Int32.ofNat y.2.1, Int32.ofNat (a + 3 + y.2.2.length), Int32.ofNat (j + 1))) (s' := sup s (l + 2) (rwE 40 g1)) ?_).trans ?_
      · unfold mX4_total_L34
        simp only [mbnd_app, gi, kx_in, if_neg n1, r1 s L, lenI_ok L.2, e3, if_neg n2, mret_app, e2, ld s L (a + 2) (by omega), c3, e4, ld s L a (by omega), c1, hk, if_true, mite_app, h1, r1 _ L1, e1, ld _ L1 (a + 1) (by omega), c2, ite_some, emax, ofN_succ]
      · rw [sup_sup] at h2
        show loopM _ _ _ = some (.inl (sumT F w r (if y.1 = w then _ else _)), _)
        rw [if_pos hk]
        exact h2
    · have hkw : ¬ Int32.ofNat y.1 = Int32.ofNat w := by
        intro q
        have := (ofN_inj (n := y.1) (m := w) (by have := hy.1; omega) (by omega)).mp q
        exact hk this
      obtain ⟨g2, h2⟩ := total_loop hn hfa h9 hw hm r (a + 3 + y.2.2.length) (j + 1) x g s L HF HS (fun z hz => hok z (List.mem_cons_of_mem _ hz)) c5 (by omega) (by omega)
      refine ⟨g2, ?_⟩
      rw [loopM_eq]
      refine (bnd_ok (v := .inl (x, Int32.ofNat (a + 3 + y.2.2.length), Int32.ofNat (j + 1))) (s' := s) ?_).trans ?_
      · unfold mX4_total_L34
        simp only [mbnd_app, gi, kx_in, if_neg n1, r1 s L, lenI_ok L.2, e3, if_neg n2, mret_app, e2, ld s L (a + 2) (by omega), c3, e4, ld s L a (by omega), c1, if_neg hkw, mite_app, emax, ofN_succ]
      · show loopM _ _ _ = some (.inl (sumT F w r (if y.1 = w then _ else _)), _)
        rw [if_neg hk]
        exact h2
theorem total_run {LW : Option (List Ln)} (L : LawC s l LW) (ok : LWok LW) (HF : hasI s fa 0 10 F) (HS : hasI s (l + 2) 0 40 g) (hfa : fa ≠ l + 2) (h9 : F 9 = 0 ∨ F 9 = 1) {w : Nat} (hw : w ≤ 3) : ∃ g', mX4_total l (Int32.ofNat w) fa s = some (.inl (lawTot LW F w), sup s (l + 2) (rwE 40 g')) := by
  have e10 : (10 : Int32) ≤ Int32.ofNat 10 := Int32.le_refl _
  unfold mX4_total
  cases LW with
  | none =>
    obtain ⟨code, L⟩ := L
    refine ⟨g, ?_⟩
    rw [onC_ok L.1, bnd_ok (lenI_ok HF), if_pos e10, bnd_ok (gI_ok L.1 rfl), if_pos rfl, bnd_ok (ldI_ok (i := 8) HF (by decide) (by decide)), sup_same HS]
    unfold mX4_unwritten lawTot
    show mbnd (if F 8 = 1 then _ else _ : MM Int32) _ s = some (.inl (if F 8 = 1 then (if w = 0 then 100 else if w = 3 then 1 else 0) else 0), s)
    have : w = 0 ∨ w = 1 ∨ w = 2 ∨ w = 3 := by omega
    by_cases q : F 8 = 1
    · rw [if_pos q, if_pos q]
      rcases this with rfl | rfl | rfl | rfl <;> rfl
    · rw [if_neg q, if_neg q]
      rfl
  | some LL =>
    obtain ⟨code, L, hc⟩ := L
    obtain ⟨o1, o2, o3, -⟩ := ok
    obtain ⟨g', h1⟩ := total_loop (by omega) hfa h9 hw o1 LL 0 0 0 g s L HF HS o3 hc (by omega) (by omega)
    refine ⟨g', ?_⟩
    have nm : ¬ Int32.ofNat LL.length = -1 := fun q => ofN_nn (n := LL.length) (by omega) (by rw [q]; decide)
    rw [onC_ok L.1, bnd_ok (lenI_ok HF), if_pos e10, bnd_ok (gI_ok L.1 rfl), if_neg nm]
    refine (bnd_ok h1).trans ?_
    unfold lawTot
    have : w = 0 ∨ w = 1 ∨ w = 2 ∨ w = 3 := by omega
    rcases this with rfl | rfl | rfl | rfl <;> rfl
end HT
