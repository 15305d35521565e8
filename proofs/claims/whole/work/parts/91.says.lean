/-! THE REFERENCE: a condition as a whole, what THE LAW says -/
def lnsAt (W : Nat → Int32) : Nat → Nat → List Ln → Prop
  | _, _, [] => True
  | j, a, x :: r => W (1072 + 4 * j) = Int32.ofNat x.1 ∧ W (1072 + 4 * j + 1) = Int32.ofNat x.2.1 ∧ W (1072 + 4 * j + 2) = Int32.ofNat a ∧ W (1072 + 4 * j + 3) = Int32.ofNat (a + x.2.2.length) ∧ stepsAt W a x.2.2 ∧ lnsAt W (j + 1) (a + x.2.2.length) r
/-- the reference's law is that -/
def LawR (W : Nat → Int32) (LW : Option (List Ln)) : Prop := match LW with
  | none => W 4 = 0
  | some L => W 4 = 1 ∧ W 1071 = Int32.ofNat L.length ∧ lnsAt W 0 0 L
theorem imin_comm (a b : Int32) : imin a b = imin b a := by
  unfold imin
  by_cases h : b < a
  · rw [if_pos h, if_neg (fun q => absurd (Int32.lt_trans h q) Int32.lt_irrefl)]
  · rw [if_neg h]
    by_cases q : a < b
    · rw [if_pos q]
    · rw [if_neg q]
      exact Int32.le_antisymm (Int32.not_lt.mp h) (Int32.not_lt.mp q)
abbrev mF9 (M : MK) (p : Nat) : Nat → Int32 := fRow (M.2 1) p (M.1 18) (M.1 19) (M.1 20)
section RH
variable {s : aS} {M : MK}
theorem r_one (C : Mdl s 66 M) {p : Nat} (hp : p < 300) {i : It} (ok : itOk i) {line a n : Nat} (hto : M.2 1 (1072 + 4 * line + 3) = Int32.ofNat n) (hl : line < 12) (hn : n < 410) (ha : a < n) (hst : M.2 1 (1120 + 2 * a) = Int32.ofNat i.1) (h8 : i.1 = 8 → M.2 1 (1120 + 2 * a + 1) = Int32.ofNat i.2) (h10 : i.1 = 10 → M.2 1 (1120 + 2 * a + 1) = Int32.ofNat i.2) {T T' : List Bool} {k : List Int32} (ht : ty1 i T = some T') (hT : T.length ≤ 30) (hk : TyS T k) (hg : Stk (M.2 8) k) : ∃ s' g', mX12_holdsLine_L22 66 (Int32.ofNat p) (Int32.ofNat (1072 + 4 * line)) (Int32.ofNat T.length, Int32.ofNat a) s = some (.inl (.inl (Int32.ofNat T'.length, Int32.ofNat (a + 1))), s') ∧ Mdl s' 66 (mval M g') ∧ Off s s' 66 78 ∧ Stk g' (stp (mF9 M p) i k) ∧ T'.length ≤ 30 := by
  have hlen := tyS_len hk
  unfold ty1 at ht
  by_cases hq : i.1 ≤ 10
  · have hT' : T'.length = T.length + 1 ∧ T.length < 30 := by
      by_cases c1 : i.1 ≤ 7 ∨ i.1 = 10
      · rw [if_pos c1] at ht
        split at ht
        · next q => cases ht; exact ⟨rfl, q⟩
        · cases ht
      · rw [if_neg c1, if_pos (by omega)] at ht
        split at ht
        · next q => cases ht; exact ⟨rfl, q⟩
        · cases ht
    obtain ⟨s', a1, a2, a3⟩ := r_push C hp hq (k1 := 0) (to := 0) hto hl hn ha hst h8 h10 (t := T.length) (by omega)
    refine ⟨s', _, by rw [hT'.1]; exact a1, a2, a3, ?_, by omega⟩
    unfold stp
    rw [if_pos hq]
    have := stk_push (x := fI (mF9 M p) i) hg
    rwa [hlen] at this
  · have hi16 := ok.1
    rw [if_neg (by omega), if_neg (by omega)] at ht
    match T, k, hk, ht, hT, hlen, hg with
    | [], _, _, ht, _, _, _ => cases ht
    | _ :: _, [], hk, _, _, _, _ => exact hk.elim
    | t :: R, b :: r, hk, ht, hT, hlen, hg =>
      have hT30 : R.length + 1 ≤ 30 := hT
      have hl2 : r.length = R.length := by
        have : r.length + 1 = R.length + 1 := hlen
        omega
      have hgb : M.2 8 R.length = b := by rw [← hl2]; exact hg.1
      by_cases c4 : i.1 = 14
      · have ht2 := ht
        dsimp only at ht2
        rw [if_pos c4] at ht2
        have hT' : T' = true :: R ∧ t = true := by
          split at ht2
          · next q => cases ht2; exact ⟨rfl, q⟩
          · cases ht2
        have hb01 : b = 0 ∨ b = 1 := hk.1 hT'.2
        obtain ⟨s', a1, a2, a3⟩ := r_not C (x := Int32.ofNat p) hto hl hn ha (by rw [hst, c4]) (t := R.length) (by omega)
        rw [hgb, not_ref hb01] at a2
        refine ⟨s', _, ?_, a2, a3, ?_, by rw [hT'.1]; exact hT⟩
        · rw [hT'.1]
          exact a1
        · unfold stp
          rw [if_neg hq]
          show Stk _ (if i.1 = 14 then _ else _)
          rw [if_pos c4]
          have := stk_push (x := if b = 0 then 1 else 0) hg.2
          rwa [hl2] at this
      · match R, r, hk, ht, hT30, hl2, hg, hgb with
        | [], _, _, ht, _, _, _, _ =>
          have ht2 : (if i.1 = 14 then (if t = true then some (true :: []) else none) else none) = some T' := ht
          rw [if_neg c4] at ht2
          cases ht2
        | _ :: _, [], hk, _, _, _, _, _ => exact hk.2.elim
        | u :: Q, a9 :: q, hk, ht, hT30, hl2, hg, hgb =>
          have ht2 : (if i.1 = 14 then (if t = true then some (true :: u :: Q) else none) else (if i.1 = 11 then (if t = false ∧ u = false then some (false :: Q) else none) else if i.1 ≤ 13 then (if t = false ∧ u = false then some (true :: Q) else none) else (if t = true ∧ u = true then some (true :: Q) else none))) = some T' := ht
          rw [if_neg c4] at ht2
          have hT' : T'.length = Q.length + 1 ∧ (15 ≤ i.1 → t = true ∧ u = true) := by
            split at ht2
            · split at ht2
              · cases ht2; exact ⟨rfl, fun q => by omega⟩
              · cases ht2
            · split at ht2
              · split at ht2
                · cases ht2; exact ⟨rfl, fun q => by omega⟩
                · cases ht2
              · split at ht2
                · next q9 => cases ht2; exact ⟨rfl, fun _ => q9⟩
                · cases ht2
          have hQ : Q.length + 1 + 1 ≤ 30 := hT30
          have hl3 : q.length = Q.length := by
            have : q.length + 1 = Q.length + 1 := hl2
            omega
          have hga : M.2 8 Q.length = a9 := by rw [← hl3]; exact hg.2.1
          have hgb2 : M.2 8 (Q.length + 1) = b := hgb
          obtain ⟨s', a1, a2, a3⟩ := r_bin C (x := Int32.ofNat p) hto hl hn ha (k := i.1) (by omega) hi16 c4 hst (t := Q.length) (by omega) (fun q9 => by
            rw [hga, hgb2]
            exact ⟨hk.2.1 (hT'.2 q9).2, hk.1 (hT'.2 q9).1⟩)
          rw [hga, hgb2] at a2
          refine ⟨s', _, ?_, a2, a3, ?_, by omega⟩
          · rw [hT'.1]
            exact a1
          · unfold stp
            rw [if_neg hq]
            show Stk _ (if i.1 = 14 then _ else opL i.1 a9 b :: q)
            rw [if_neg c4]
            have := stk_push (x := opL i.1 a9 b) hg.2.2
            rwa [hl3] at this
theorem rh_loop {p line n : Nat} (hp : p < 300) (hl : line < 12) (hn : n < 410) : ∀ (P : List It) (a : Nat) (T T' : List Bool) (k : List Int32) (s : aS) (M : MK), Mdl s 66 M → (mF9 M p 9 = 0 ∨ mF9 M p 9 = 1) → M.2 1 (1072 + 4 * line + 3) = Int32.ofNat n → (∀ i, i ∈ P → itOk i) → tyP P T = some T' → T.length ≤ 30 → TyS T k → Stk (M.2 8) k → stepsAt (M.2 1) a P → n = a + P.length → ∃ s' g', loopM (mX12_holdsLine_L22 66 (Int32.ofNat p) (Int32.ofNat (1072 + 4 * line))) (Int32.ofNat T.length, Int32.ofNat a) s = some (.inl (Int32.ofNat T'.length), s') ∧ Mdl s' 66 (mval M g') ∧ Off s s' 66 78 ∧ Stk g' (evL (mF9 M p) P k) ∧ T'.length ≤ 30
  | [], a, T, T', k, s, M, C, h9, hto, hok, ht, hT, hk, hg, hc, e => by
    have : some T = some T' := ht
    cases this
    have e2 : n = a := e
    refine ⟨s, M.2 8, ?_, by rw [mval_self]; exact C, Off.rf, hg, hT⟩
    have e3 : Int32.ofNat (1072 + 4 * line) + 3 = Int32.ofNat (1072 + 4 * line + 3) := ofN_add _ 3
    have l3 : 1072 + 4 * line + 3 < 2769 := by omega
    rw [loopM_eq]
    refine (bnd_ok (v := .inr (Int32.ofNat T.length)) (s' := s) ?_).trans rfl
    unfold mX12_holdsLine_L22
    simp only [mbnd_app, kx_in, (MD.refs C).2.1, e3, (MD.wl C).1 _ l3, hto, e2, Int32.le_refl, if_true, mret_app]
  | i :: r, a, T, T', k, s, M, C, h9, hto, hok, ht, hT, hk, hg, hc, e => by
    have h2 : (match ty1 i T with
      | some T2 => tyP r T2
      | none => none) = some T' := ht
    cases e1 : ty1 i T with
    | none => rw [e1] at h2; cases h2
    | some T2 =>
      rw [e1] at h2
      have e3 : n = a + (r.length + 1) := e
      obtain ⟨s1, g1, a1, a2, a3, a4, a5⟩ := r_one C hp (hok i List.mem_cons_self) hto hl hn (a := a) (by omega) hc.1 hc.2.1 hc.2.2.1 e1 hT hk hg
      obtain ⟨s2, g2, b1, b2, b3, b4, b5⟩ := rh_loop hp hl hn r (a + 1) T2 T' (stp (mF9 M p) i k) s1 (mval M g1) a2 h9 hto (fun j hj => hok j (List.mem_cons_of_mem _ hj)) h2 a5 (ty_step e1 hk h9) a4 hc.2.2.2 (by omega)
      refine ⟨s2, g2, ?_, by rw [mval_mval] at b2; exact b2, a3.trans b3, b4, b5⟩
      rw [loopM_eq]
      exact (bnd_ok a1).trans b1
theorem rholds_run (C : Mdl s 66 M) {p line a : Nat} (hp : p < 300) (hl : line < 12) (h9 : mF9 M p 9 = 0 ∨ mF9 M p 9 = 1) {P : List It} (ok : progOk P) (hfr : M.2 1 (1072 + 4 * line + 2) = Int32.ofNat a) (hto : M.2 1 (1072 + 4 * line + 3) = Int32.ofNat (a + P.length)) (hc : stepsAt (M.2 1) a P) (hn : a + P.length < 410) : ∃ s' g', mX12_holdsLine 66 (Int32.ofNat line) (Int32.ofNat p) s = some (.inl (hoP (mF9 M p) P), s') ∧ Mdl s' 66 (mval M g') ∧ Off s s' 66 78 := by
  have e2 : (1072 : Int32) + 4 * Int32.ofNat line = Int32.ofNat (1072 + 4 * line) := by
    rw [← ofN_add, ← ofN_mul]
    rfl
  have e3 : Int32.ofNat (1072 + 4 * line) + 2 = Int32.ofNat (1072 + 4 * line + 2) := ofN_add _ 2
  have l3 : 1072 + 4 * line + 2 < 2769 := by omega
  have key : ∀ {T' : List Bool}, tyP P [] = some T' → T' = [] ∨ T' = [true] → ∃ s' g', mX12_holdsLine 66 (Int32.ofNat line) (Int32.ofNat p) s = some (.inl (hoP (mF9 M p) P), s') ∧ Mdl s' 66 (mval M g') ∧ Off s s' 66 78 := by
    intro T' hty hT'
    obtain ⟨s1, g1, b1, b2, b3, b4, b5⟩ := rh_loop hp hl hn P a [] T' [] s M C h9 hto ok.1 hty (by decide) trivial trivial hc rfl
    refine ⟨s1, g1, ?_, b2, b3⟩
    unfold mX12_holdsLine
    rw [onC_ok C.1, e2, mret_mbnd, bnd_ok (show gR 11 1 66 s = _ from (MD.refs C).2.1), e3, bnd_ok ((MD.wl C).1 _ l3), hfr]
    refine (bnd_ok b1).trans ?_
    have ht := ty_run (k := []) h9 hty trivial
    unfold hoP
    rcases hT' with rfl | rfl
    · match evL (mF9 M p) P [], ht with
      | [], _ => rfl
      | _ :: _, ht => exact ht.elim
    · match evL (mF9 M p) P [], ht, b4 with
      | [], ht, _ => exact ht.elim
      | v :: r, ht, b4 =>
        have hr : r = [] := by
          match r, ht with
          | [], _ => rfl
          | _ :: _, ht => exact ht.2.elim
        subst hr
        have hv : v = 0 ∨ v = 1 := ht.1 rfl
        have hg0 : g1 0 = v := b4.1
        show (if Int32.ofNat 1 = 0 then _ else _ : MM Int32) _ = some (.inl (if v = 0 then 0 else 1), _)
        have ld : ldI 0 74 0 s1 = some (.inl (g1 0), s1) := val_ld (i := 0) b2 (by decide)
        rw [if_neg (by decide), bnd_ok (show gR 11 17 66 s1 = _ from (MD.refs b2).2.2.2.2.2.2.2.2.1), bnd_ok ld, hg0]
        rcases hv with rfl | rfl <;> rfl
  rcases ok.2 with hP | hP
  · exact key (T' := []) (by rw [hP]; rfl) (Or.inl rfl)
  · exact key hP (Or.inr rfl)
theorem says_loop {p w m : Nat} (hp : p < 300) (hw : w ≤ 3) (hm : m ≤ 12) : ∀ (LL : List Ln) (a j : Nat) (x : Int32) (s : aS) (M : MK), Mdl s 66 M → (mF9 M p 9 = 0 ∨ mF9 M p 9 = 1) → M.2 1 1071 = Int32.ofNat m → (∀ y, y ∈ LL → lnOk y) → lnsAt (M.2 1) j a LL → a + psize LL ≤ 400 → j + LL.length = m → ∃ s' g', loopM (mX12_says_L46 66 (Int32.ofNat w) (Int32.ofNat p)) (x, Int32.ofNat j) s = some (.inl (sumT (mF9 M p) w LL x), s') ∧ Mdl s' 66 (mval M g') ∧ Off s s' 66 78
  | [], a, j, x, s, M, C, h9, h71, hok, hc, hle, hj => by
    have hj2 : j = m := hj
    refine ⟨s, M.2 8, ?_, by rw [mval_self]; exact C, Off.rf⟩
    rw [loopM_eq]
    refine (bnd_ok (v := .inr x) (s' := s) ?_).trans rfl
    unfold mX12_says_L46
    simp only [mbnd_app, kx_in, MD.refs C, MD.wl C, h71, hj2, Int32.le_refl, if_true, mret_app]
  | y :: r, a, j, x, s, M, C, h9, h71, hok, hc, hle, hj => by
    obtain ⟨c1, c2, c3, c4, c5, c6⟩ := hc
    have hy := hok y List.mem_cons_self
    have hj2 : j + (r.length + 1) = m := hj
    have hsz : psize (y :: r) = y.2.2.length + psize r := rfl
    rw [hsz] at hle
    have n1 : ¬ Int32.ofNat m ≤ Int32.ofNat j := nle (by omega) (by omega)
    have e2 : (4 : Int32) * Int32.ofNat j = Int32.ofNat (4 * j) := ofN_mul 4 j
    have e4 : (1072 : Int32) + Int32.ofNat (4 * j) = Int32.ofNat (1072 + 4 * j) := ofN_add 1072 _
    have e5 : Int32.ofNat (1072 + 4 * j) + 1 = Int32.ofNat (1072 + 4 * j + 1) := ofN_add _ 1
    have l4 : 1072 + 4 * j < 2769 := by omega
    have l5 : 1072 + 4 * j + 1 < 2769 := by omega
    have ld0 : ldI 0 67 1071 s = some (.inl (Int32.ofNat m), s) := by rw [← h71]; exact wrd_ok (i := 1071) C (by decide)
    have r1 : ∀ {s' : aS} {M' : MK}, Mdl s' 66 M' → gR 11 1 66 s' = some (.inl 67, s') := fun C' => (MD.refs C').2.1
    by_cases hk : y.1 = w
    · obtain ⟨s1, g1, a1, a2, a3⟩ := rholds_run C hp (line := j) (by omega) h9 hy.2.2 c3 c4 c5 (by omega)
      obtain ⟨s2, g2, b1, b2, b3⟩ := says_loop hp hw hm r (a + y.2.2.length) (j + 1) (if hoP (mF9 M p) y.2.2 = 0 then x else x + Int32.ofNat y.2.1) s1 (mval M g1) a2 h9 h71 (fun z hz => hok z (List.mem_cons_of_mem _ hz)) c6 (by omega) (by omega)
      refine ⟨s2, g2, ?_, by rw [mval_mval] at b2; exact b2, a3.trans b3⟩
      rw [loopM_eq]
      refine (bnd_ok (v := .inl (if hoP (mF9 M p) y.2.2 = 0 then x else x + Int32.ofNat y.2.1, Int32.ofNat (j + 1))) (s' := s1) ?_).trans ?_
      · have ldn : ldI 0 67 (Int32.ofNat (1072 + 4 * j + 1)) s1 = some (.inl (Int32.ofNat y.2.1), s1) := by rw [← c2]; exact (MD.wl a2).1 _ l5
        unfold mX12_says_L46
        simp only [mbnd_app, kx_in, r1 C, ld0, if_neg n1, e2, e4, (MD.wl C).1 _ l4, c1, hk, if_true, mite_app, a1, r1 a2, e5, ldn, mret_app, ite_some, ofN_succ, add_ite0]
      · show loopM _ _ _ = some (.inl (sumT (mF9 M p) w r (if y.1 = w then _ else _)), _)
        rw [if_pos hk]
        exact b1
    · have hkw : ¬ Int32.ofNat y.1 = Int32.ofNat w := by
        intro q
        have := (ofN_inj (n := y.1) (m := w) (by have := hy.1; omega) (by omega)).mp q
        exact hk this
      obtain ⟨s2, g2, b1, b2, b3⟩ := says_loop hp hw hm r (a + y.2.2.length) (j + 1) x s M C h9 h71 (fun z hz => hok z (List.mem_cons_of_mem _ hz)) c6 (by omega) (by omega)
      refine ⟨s2, g2, ?_, b2, b3⟩
      rw [loopM_eq]
      refine (bnd_ok (v := .inl (x, Int32.ofNat (j + 1))) (s' := s) ?_).trans ?_
      · unfold mX12_says_L46
        simp only [mbnd_app, kx_in, r1 C, ld0, if_neg n1, e2, e4, (MD.wl C).1 _ l4, c1, if_neg hkw, mite_app, mret_app, ofN_succ, Int32.add_zero]
      · show loopM _ _ _ = some (.inl (sumT (mF9 M p) w r (if y.1 = w then _ else _)), _)
        rw [if_neg hk]
        exact b1
theorem says_run (C : Mdl s 66 M) {LW : Option (List Ln)} (L : LawR (M.2 1) LW) (ok : LWok LW) {p w : Nat} (hp : p < 300) (h9 : mF9 M p 9 = 0 ∨ mF9 M p 9 = 1) (hw : w ≤ 3) : ∃ s' g', mX12_says 66 (Int32.ofNat w) (Int32.ofNat p) s = some (.inl (lawTot LW (mF9 M p) w), s') ∧ Mdl s' 66 (mval M g') ∧ Off s s' 66 78 := by
  have r1 := (MD.refs C).2.1
  have ld4 : ldI 0 67 4 s = some (.inl (M.2 1 4), s) := wrd_ok (i := 4) C (by decide)
  unfold mX12_says
  have hw4 : w = 0 ∨ w = 1 ∨ w = 2 ∨ w = 3 := by omega
  cases LW with
  | none =>
    refine ⟨s, M.2 8, ?_, by rw [mval_self]; exact C, Off.rf⟩
    have h0 : M.2 1 4 = 0 := L
    rw [onC_ok C.1, bnd_ok r1, bnd_ok ld4, h0, if_pos rfl, bnd_ok ((MD.is C).2.2 p hp)]
    show (if (if M.2 1 (13 + 8 * p) = 1 then (1 : Int32) else 0) = 0 then _ else _ : MM Int32) s = some (.inl (if M.2 1 (13 + 8 * p) = 1 then (if w = 0 then 100 else if w = 3 then 1 else 0) else 0), s)
    by_cases q : M.2 1 (13 + 8 * p) = 1
    · rw [if_pos q, if_pos q, if_neg one_ne0]
      rcases hw4 with rfl | rfl | rfl | rfl <;> rfl
    · rw [if_neg q, if_neg q, if_pos rfl]
      rfl
  | some LL =>
    obtain ⟨l1, l2, l3⟩ := L
    obtain ⟨o1, o2, o3, o4⟩ := ok
    obtain ⟨s1, g1, b1, b2, b3⟩ := says_loop hp hw o1 LL 0 0 0 s M C h9 l2 o3 l3 (by omega) (by omega)
    refine ⟨s1, g1, ?_, b2, b3⟩
    rw [onC_ok C.1, bnd_ok r1, bnd_ok ld4, l1, if_neg (by decide)]
    refine (bnd_ok b1).trans ?_
    unfold lawTot
    show _ = some (Sum.inl (imin (sumT (mF9 M p) w LL 0) (if w = 3 then 99 else 100)), s1)
    rw [imin_comm]
    rcases hw4 with rfl | rfl | rfl | rfl <;> rfl
end RH
