/-! ROWS, the third part: new arrays of cells, of longs, of rows -/
section RO
variable {A : StA} {Y : DyA} {pc : Nat} {lv lv' : List (Nat × VV)} {st : List VV} {α β : Type} {k : MM α} {K : α → MM β} {res : β → Option Value} {s : aS}
theorem r_nwQ {f : Nat → MM α} {n : Int32} {idx : Nat} (hw : Cond.classLink (aOwn A) idx "ToolCourt$Court" ∈ tblG) (hd : decode (aC A) pc = .ok (.anewarray idx, 3)) (g : ∀ a s1, Rr A Y (pc + 3) lv (vr a :: st) (f a) K res s1) : Rr A Y pc lv (vi n :: st) (mbnd (nwQ 3 n) f) K res s := by
  intro o s' e
  rw [mbnd_assoc] at e
  rcases mbnd_some e with ⟨v, s1, h1, h2⟩ | ⟨_, h1, -⟩
  · unfold nwQ at h1
    split at h1
    · cases h1
    · next hn0 =>
      cases h1
      obtain ⟨g1, g2⟩ := g s.2.1 (push s (.inr (.inr (.inl (3, n.toNatClampNeg, fun _ => none)))) n.toNatClampNeg) o s' h2
      obtain ⟨m1, m2, m3⟩ := id g1
      have m1 : s.2.1 + 1 ≤ s'.2.1 := m1
      have m2 : s.2.2.1 + 1 ≤ s'.2.2.1 := m2
      have m3 : s.2.2.2 + n.toNatClampNeg ≤ s'.2.2.2 := m3
      refine ⟨⟨by omega, by omega, by omega⟩, fun ok rm hl hs H locs ls ρ hx hP hS hlv => ?_⟩
      obtain ⟨rm1, rm2, rm3, rm4, rm5⟩ := rm
      have gg := fun (q : Nat) (H1 : Heap) hP1 hS1 => g2 ok ⟨Nat.le_trans rm1 (Nat.le_succ _), Nat.le_trans rm2 (Nat.le_succ _), Nat.le_trans rm3 (Nat.le_add_right _ _), rm4, rm5⟩ (lvO_mono (Nat.le_succ _) hl) (stO_c (Nat.lt_succ_self s.2.1) (stO_mono (Nat.le_succ _) (stO_t hs))) H1 locs ls (va_up ρ s.2.1 q) (ext_trans rm1 hx (fun k hk => va_up_ne ρ q (Nat.ne_of_lt hk))) hP1 hS1 (by rw [cL_congr (n := s.2.1) (fun k hk => va_up_ne ρ q (Nat.ne_of_lt hk)) hl]; exact hlv)
      obtain ⟨p, l, e, R, s0, mm, args, below, meth, c, w, ρ0, n0, c0, z0⟩ := Y
      obtain ⟨hx9, hb, hr, hml, hown, hts, hlk, hst, hwf, htb, hd1, hd2, hnm, hnw⟩ := ok
      have rm2' : c0 ≤ s.2.2.1 := rm2
      have rm3' : z0 ≤ s.2.2.2 := rm3
      have rm4' : s'.2.2.1 - c0 ≤ R.cells := rm4
      have rm5' : s'.2.2.2 - z0 ≤ R.slots := rm5
      have hlen : n.toNatClampNeg ≤ 100000 := Nat.not_lt.mp fun q => hn0 (Or.inr q)
      refine va_newq (C := "ToolCourt$Court") (N' := n.toNatClampNeg) hx9 hb hown (hts _ hw) hwf.2.2.2.2.2.2.2.2.2.2.2.1 hwf.1 hP.1 hP.2.1 hS (fun q hq => Nat.le_trans hwf.2.2.2.2.2.2.1 hq) (fun q => hn0 (Or.inl q)) rfl (by omega) ?_ ?_ hd (fun q cA H1 hK1 q1 q2 q3 => ?_)
      · show s.2.2.1 - c0 + 1 ≤ R.cells; omega
      · show s.2.2.2 - z0 + n.toNatClampNeg ≤ R.slots; omega
      · have hcA : cA = wT w 3 := by
          obtain ⟨k1, c1, a1, a2, a3, a4⟩ := (hK1.2 5 (cA, .object "ToolCourt$Court") rfl).2
          obtain ⟨k2, c2, b1, b2, b3, b4⟩ := (hwf.1.2 3 (wT w 3, .object "ToolCourt$Court") rfl).2
          exact Option.some.inj (a4.symm.trans b4)
        subst hcA
        have e1 : (push s (.inr (.inr (.inl (3, n.toNatClampNeg, fun _ => none)))) n.toNatClampNeg).2.2.1 - c0 = s.2.2.1 - c0 + 1 := by show s.2.2.1 + 1 - c0 = _; omega
        have e2 : (push s (.inr (.inr (.inl (3, n.toNatClampNeg, fun _ => none)))) n.toNatClampNeg).2.2.2 - z0 = s.2.2.2 - z0 + n.toNatClampNeg := by show s.2.2.2 + n.toNatClampNeg - z0 = _; omega
        have hq := gg q H1 (PH_push (e := .inr (.inr (.inl (3, n.toNatClampNeg, fun _ => none)))) q1 q2 hP.2.2 (fun i r h => by cases h)) q3
        have hq2 : W p l e R s0 mm args below meth c H1 locs ((push s (.inr (.inr (.inl (3, n.toNatClampNeg, fun _ => none)))) n.toNatClampNeg).2.2.1 - c0) ((push s (.inr (.inr (.inl (3, n.toNatClampNeg, fun _ => none)))) n.toNatClampNeg).2.2.2 - z0) _ (F0 mm (pc + 3) ls (cv (va_up ρ s.2.1 q) (.ref s.2.1) :: cS w (va_up ρ s.2.1 q) st)) := hq
        rw [e1, e2, cS_congr (n := s.2.1) (fun k hk => va_up_ne ρ q (Nat.ne_of_lt hk)) (stO_t hs), show cv (va_up ρ s.2.1 q) (.ref s.2.1) = .ref q from by show Value.ref _ = _; rw [va_up_self]] at hq2
        exact hq2
  · unfold nwQ at h1
    split at h1 <;> cases h1
theorem r_nwL {f : Nat → MM α} {n : Int32} (hd : decode (aC A) pc = .ok (.newarray .long, 2)) (g : ∀ a s1, Rr A Y (pc + 2) lv (vr a :: st) (f a) K res s1) : Rr A Y pc lv (vi n :: st) (mbnd (nwL n) f) K res s := by
  intro o s' e
  rw [mbnd_assoc] at e
  rcases mbnd_some e with ⟨v, s1, h1, h2⟩ | ⟨_, h1, -⟩
  · unfold nwL at h1
    split at h1
    · cases h1
    · next hn0 =>
      cases h1
      obtain ⟨g1, g2⟩ := g s.2.1 (push s (.inr (.inr (.inr (n.toNatClampNeg, fun _ => 0)))) n.toNatClampNeg) o s' h2
      obtain ⟨m1, m2, m3⟩ := id g1
      have m1 : s.2.1 + 1 ≤ s'.2.1 := m1
      have m2 : s.2.2.1 + 1 ≤ s'.2.2.1 := m2
      have m3 : s.2.2.2 + n.toNatClampNeg ≤ s'.2.2.2 := m3
      refine ⟨⟨by omega, by omega, by omega⟩, fun ok rm hl hs H locs ls ρ hx hP hS hlv => ?_⟩
      obtain ⟨rm1, rm2, rm3, rm4, rm5⟩ := rm
      have gg := fun (q : Nat) (H1 : Heap) hP1 hS1 => g2 ok ⟨Nat.le_trans rm1 (Nat.le_succ _), Nat.le_trans rm2 (Nat.le_succ _), Nat.le_trans rm3 (Nat.le_add_right _ _), rm4, rm5⟩ (lvO_mono (Nat.le_succ _) hl) (stO_c (Nat.lt_succ_self s.2.1) (stO_mono (Nat.le_succ _) (stO_t hs))) H1 locs ls (va_up ρ s.2.1 q) (ext_trans rm1 hx (fun k hk => va_up_ne ρ q (Nat.ne_of_lt hk))) hP1 hS1 (by rw [cL_congr (n := s.2.1) (fun k hk => va_up_ne ρ q (Nat.ne_of_lt hk)) hl]; exact hlv)
      obtain ⟨p, l, e, R, s0, mm, args, below, meth, c, w, ρ0, n0, c0, z0⟩ := Y
      obtain ⟨hx9, hb, hr, hml, hown, hts, hlk, hst, hwf, htb, hd1, hd2, hnm, hnw⟩ := ok
      have rm2' : c0 ≤ s.2.2.1 := rm2
      have rm3' : z0 ≤ s.2.2.2 := rm3
      have rm4' : s'.2.2.1 - c0 ≤ R.cells := rm4
      have rm5' : s'.2.2.2 - z0 ≤ R.slots := rm5
      have hlen : n.toNatClampNeg ≤ 100000 := Nat.not_lt.mp fun q => hn0 (Or.inr q)
      refine va_newa (atype := .long) (ty := .long) (a0 := (n.toNatClampNeg, .inr (.inl fun _ => 0))) (N' := n.toNatClampNeg) hx9 hb (hts _ wAr.2.2) rfl hwf.1 hP.1 hP.2.1 hS (fun q hq => Nat.le_trans hwf.2.2.2.2.2.2.1 hq) (fun cA => rfl) (fun q => hn0 (Or.inl q)) rfl ?_ ?_ ?_ hd (fun q cA H1 hK1 q1 q2 q3 => ?_)
      · show n.toNatClampNeg * 8 ≤ _; omega
      · show s.2.2.1 - c0 + 1 ≤ R.cells; omega
      · show s.2.2.2 - z0 + n.toNatClampNeg ≤ R.slots; omega
      · have hcA : cA = wT w 4 := by
          have a1 := (hK1.2 5 (cA, .long) rfl).2
          have a2 := (hwf.1.2 4 (wT w 4, .long) rfl).2
          exact Option.some.inj (a1.symm.trans a2)
        subst hcA
        have e1 : (push s (.inr (.inr (.inr (n.toNatClampNeg, fun _ => 0)))) n.toNatClampNeg).2.2.1 - c0 = s.2.2.1 - c0 + 1 := by show s.2.2.1 + 1 - c0 = _; omega
        have e2 : (push s (.inr (.inr (.inr (n.toNatClampNeg, fun _ => 0)))) n.toNatClampNeg).2.2.2 - z0 = s.2.2.2 - z0 + n.toNatClampNeg := by show s.2.2.2 + n.toNatClampNeg - z0 = _; omega
        have hq := gg q H1 (PH_push (e := .inr (.inr (.inr (n.toNatClampNeg, fun _ => 0)))) q1 q2 hP.2.2 trivial) q3
        have hq2 : W p l e R s0 mm args below meth c H1 locs ((push s (.inr (.inr (.inr (n.toNatClampNeg, fun _ => 0)))) n.toNatClampNeg).2.2.1 - c0) ((push s (.inr (.inr (.inr (n.toNatClampNeg, fun _ => 0)))) n.toNatClampNeg).2.2.2 - z0) _ (F0 mm (pc + 2) ls (cv (va_up ρ s.2.1 q) (.ref s.2.1) :: cS w (va_up ρ s.2.1 q) st)) := hq
        rw [e1, e2, cS_congr (n := s.2.1) (fun k hk => va_up_ne ρ q (Nat.ne_of_lt hk)) (stO_t hs), show cv (va_up ρ s.2.1 q) (.ref s.2.1) = .ref q from by show Value.ref _ = _; rw [va_up_self]] at hq2
        exact hq2
  · unfold nwL at h1
    split at h1 <;> cases h1
end RO
/-- new int[n][k]: the outer array first, its rows behind it -/
def nwAh (h : Nat → AE) (n0 N M : Nat) : Nat → AE := fun a => if a = n0 then .inr (.inr (.inl (2, N, fun i => if i < N then some (n0 + 1 + i) else none))) else if n0 < a ∧ a < n0 + 1 + N then .inr (.inl (0, M, fun _ => 0)) else h a
def nwA (n k : Int32) : MM Nat := fun s => if n < 0 ∨ k < 0 ∨ 1000 < n.toNatClampNeg ∨ 1000 < k.toNatClampNeg then none else
  some (.inl s.2.1, (nwAh s.1 s.2.1 n.toNatClampNeg k.toNatClampNeg, s.2.1 + 1 + n.toNatClampNeg, s.2.2.1 + 1 + n.toNatClampNeg, s.2.2.2 + n.toNatClampNeg + n.toNatClampNeg * k.toNatClampNeg))
theorem outer_is (c : ClassId) (N h0 : Nat) : ∀ i : Nat, Jvm.Free.Multi.outerC c N h0 i = arrV c N (fun j => va_rf (if j < i then some (h0 + 1 + j) else none))
  | 0 => by
    show ({ cls := c, slots := Array.replicate N .null, vm := .none } : Cell) = _
    rw [arrV_new]
    refine congrArg (arrV c N) (funext fun j => ?_)
    simp [va_rf]
  | i + 1 => by
    show (Jvm.Free.Multi.outerC c N h0 i).setSlot i (.ref (h0 + 1 + i)) = _
    rw [outer_is c N h0 i, arrV_store]
    refine congrArg (arrV c N) (funext fun j => ?_)
    by_cases e : j = i
    · subst e
      simp [updV, va_rf]
    · by_cases h : j < i
      · simp [updV, e, h, Nat.lt_succ_of_lt h]
      · simp [updV, e, h, show ¬ j < i + 1 by omega]
section RQ
variable {A : StA} {Y : DyA} {pc : Nat} {lv lv' : List (Nat × VV)} {st : List VV} {α β : Type} {K : α → MM β} {res : β → Option Value} {s : aS}
theorem r_nwA {f : Nat → MM α} {n k : Int32} {idx : Nat} (hw : Cond.classLink (aOwn A) idx "[[I" ∈ tblG) (hd : decode (aC A) pc = .ok (.multianewarray idx 2, 4)) (g : ∀ a s1, Rr A Y (pc + 4) lv (vr a :: st) (f a) K res s1) : Rr A Y pc lv (vi k :: vi n :: st) (mbnd (nwA n k) f) K res s := by
  intro o s' e
  rw [mbnd_assoc] at e
  rcases mbnd_some e with ⟨v, s1, h1, h2⟩ | ⟨_, h1, -⟩
  · unfold nwA at h1
    split at h1
    · cases h1
    · next hn0 =>
      cases h1
      generalize hN : n.toNatClampNeg = N at h2 hn0
      generalize hM : k.toNatClampNeg = M at h2 hn0
      obtain ⟨g1, g2⟩ := g s.2.1 (nwAh s.1 s.2.1 N M, s.2.1 + 1 + N, s.2.2.1 + 1 + N, s.2.2.2 + N + N * M) o s' h2
      obtain ⟨m1, m2, m3⟩ := id g1
      have m1 : s.2.1 + 1 + N ≤ s'.2.1 := m1
      have m2 : s.2.2.1 + 1 + N ≤ s'.2.2.1 := m2
      have m3 : s.2.2.2 + N + N * M ≤ s'.2.2.2 := m3
      refine ⟨⟨by omega, by omega, by omega⟩, fun ok rm hl hs H locs ls ρ hx hP hS hlv => ?_⟩
      obtain ⟨rm1, rm2, rm3, rm4, rm5⟩ := rm
      generalize hρ : (fun a : Nat => if s.2.1 ≤ a then H.size + (a - s.2.1) else ρ a) = ρ'
      have hxt : ext s.2.1 ρ ρ' := fun a ha => by rw [← hρ]; exact if_neg (Nat.not_le.mpr ha)
      have hnew : ∀ j, ρ' (s.2.1 + j) = H.size + j := fun j => by
        rw [← hρ]
        show (if s.2.1 ≤ s.2.1 + j then H.size + (s.2.1 + j - s.2.1) else _) = _
        rw [if_pos (by omega)]
        omega
      have gg := fun (H1 : Heap) hP1 hS1 => g2 ok ⟨Nat.le_trans rm1 (by show s.2.1 ≤ s.2.1 + 1 + N; omega), Nat.le_trans rm2 (by show s.2.2.1 ≤ s.2.2.1 + 1 + N; omega), Nat.le_trans rm3 (by show s.2.2.2 ≤ s.2.2.2 + N + N * M; omega), rm4, rm5⟩ (lvO_mono (by show s.2.1 ≤ s.2.1 + 1 + N; omega) hl) (stO_c (by show s.2.1 < s.2.1 + 1 + N; omega) (stO_mono (by show s.2.1 ≤ s.2.1 + 1 + N; omega) (stO_t (stO_t hs)))) H1 locs ls ρ' (ext_trans rm1 hx hxt) hP1 hS1 (by rw [cL_congr hxt hl]; exact hlv)
      obtain ⟨p, l, e, R, s0, mm, args, below, meth, c, w, ρ0, n0, c0, z0⟩ := Y
      obtain ⟨hx9, hb, hr, hml, hown, hts, hlk, hst, hwf, htb, hd1, hd2, hnm, hnw⟩ := ok
      have rm2' : c0 ≤ s.2.2.1 := rm2
      have rm3' : z0 ≤ s.2.2.2 := rm3
      have rm4' : s'.2.2.1 - c0 ≤ R.cells := rm4
      have rm5' : s'.2.2.2 - z0 ≤ R.slots := rm5
      have hnn : ¬ n < 0 := fun q => hn0 (Or.inl q)
      have hkn : ¬ k < 0 := fun q => hn0 (Or.inr (Or.inl q))
      have hNl : N ≤ 1000 := Nat.not_lt.mp fun q => hn0 (Or.inr (Or.inr (Or.inl q)))
      have hMl : M ≤ 1000 := Nat.not_lt.mp fun q => hn0 (Or.inr (Or.inr (Or.inr q)))
      intro T hT X
      obtain ⟨vm₁, cA, comp, hWm, fA, fC, hO, -, X', step⟩ := X.multianewarray2F (ty := .int) hx9 hown (hts _ hw) hwf.2.2.2.2.2.2.2.2.2.2.2.2.1 (hts _ wAr.1) (g := F0 mm pc ls (.int k :: .int n :: cS w ρ st)) rfl (by rw [hb]; exact hd) rfl hnn hkn (by rw [hN]; omega) (by rw [hM]; show M * 4 ≤ _; omega) (by rw [hM]; omega) rfl rfl (by rw [hN]; show s.2.2.1 - c0 + (1 + N) ≤ R.cells; omega) (by rw [hN, hM]; show s.2.2.2 - z0 + (N + N * M) ≤ R.slots; omega)
      rw [hN, hM] at X' step
      generalize hF : Jvm.Free.Multi.fill (T.setVm vm₁) cA comp N M (defaultValue .int) N = F at X' step
      have hTh : (T.setVm vm₁).heap = H := hT
      obtain ⟨f1, f2, -, -⟩ := Jvm.Free.Multi.fill_facts (T.setVm vm₁) cA comp N M (defaultValue .int) N
      rw [hF, hTh] at f1 f2
      have hold : ∀ x : Nat, x < H.size → F.heap[x]? = H[x]? := fun x hx => by
        have := Jvm.Free.Multi.fill_old (T.setVm vm₁) cA comp N M (defaultValue .int) (a := x) (by rw [hTh]; exact hx) N
        rw [hF, hTh] at this
        exact this
      have hrow : ∀ j : Nat, j < N → F.heap[H.size + 1 + j]? = some (Jvm.Free.Multi.innerC comp M (defaultValue .int)) := fun j hj => by
        have := Jvm.Free.Multi.fill_inner (T.setVm vm₁) cA comp N M (defaultValue .int) N j hj
        rw [hF, hTh] at this
        exact this
      have hcA : cA = wT w 2 := by
        have a2 := (hwf.1.2 2 (wT w 2, .array .int) rfl).2
        exact Option.some.inj (fA.symm.trans a2)
      have hcC : comp = wT w 0 := by
        have a2 := (hwf.1.2 0 (wT w 0, .int) rfl).2
        exact Option.some.inj (fC.symm.trans a2)
      subst hcA
      subst hcC
      have hPH : PH w ρ' (nwAh s.1 s.2.1 N M, s.2.1 + 1 + N, s.2.2.1 + 1 + N, s.2.2.2 + N + N * M) F.heap := by
        have hat : ∀ a, a < s.2.1 + 1 + N → va_at (wD w) vwCl (ρ' a, cE ρ' (wT w) (nwAh s.1 s.2.1 N M a)) F.heap := by
          intro a ha
          by_cases ha0 : a < s.2.1
          · rw [hxt a ha0, show nwAh s.1 s.2.1 N M a = s.1 a from by unfold nwAh; rw [if_neg (by omega), if_neg (by omega)], cE_congr hxt (hP.2.2 a ha0)]
            have h0 := hP.1 a _ (ws_get ha0)
            exact h0.kept (hold _ h0.lt)
          · by_cases ha1 : a = s.2.1
            · subst ha1
              rw [show ρ' s.2.1 = H.size from by have := hnew 0; simpa using this, show nwAh s.1 s.2.1 N M s.2.1 = .inr (.inr (.inl (2, N, fun i => if i < N then some (s.2.1 + 1 + i) else none))) from if_pos rfl]
              show F.heap[H.size]? = some (arrV (wT w 2) N (fun i => va_rf (Option.map ρ' (if i < N then some (s.2.1 + 1 + i) else none))))
              rw [f2, outer_is]
              congr 2
              funext i
              by_cases hi : i < N
              · rw [if_pos hi, if_pos hi]
                show va_rf (some (H.size + 1 + i)) = va_rf (some (ρ' (s.2.1 + 1 + i)))
                rw [show s.2.1 + 1 + i = s.2.1 + (1 + i) by omega, hnew, show H.size + (1 + i) = H.size + 1 + i by omega]
              · rw [if_neg hi, if_neg hi]
                rfl
            · obtain ⟨j, rfl⟩ : ∃ j, a = s.2.1 + 1 + j := ⟨a - s.2.1 - 1, by omega⟩
              have hj : j < N := by omega
              rw [show s.2.1 + 1 + j = s.2.1 + (1 + j) by omega, hnew, show nwAh s.1 s.2.1 N M (s.2.1 + (1 + j)) = .inr (.inl (0, M, fun _ => 0)) from by unfold nwAh; rw [if_neg (by omega), if_pos (by omega)]]
              show F.heap[H.size + (1 + j)]? = some (arrV (wT w 0) M (fun _ => .int 0))
              rw [show H.size + (1 + j) = H.size + 1 + j by omega, hrow j hj, ← arrV_new]
              rfl
        have hg : ∀ (k9 : Nat) (q : Nat × va_E), (wsOf w ρ' (nwAh s.1 s.2.1 N M, s.2.1 + 1 + N, s.2.2.1 + 1 + N, s.2.2.2 + N + N * M))[k9]? = some q → k9 < s.2.1 + 1 + N ∧ q = (ρ' k9, cE ρ' (wT w) (nwAh s.1 s.2.1 N M k9)) := fun k9 q hq => by
          have hk9 : k9 < s.2.1 + 1 + N := by
            have := (List.getElem?_eq_some_iff.mp hq).1
            unfold wsOf at this
            rw [List.length_map, List.length_range] at this
            exact this
          rw [ws_get (s := (nwAh s.1 s.2.1 N M, s.2.1 + 1 + N, s.2.2.1 + 1 + N, s.2.2.2 + N + N * M)) hk9] at hq
          cases hq
          exact ⟨hk9, rfl⟩
        have hlt : ∀ a, a < s.2.1 → ρ a < H.size := fun a ha => (hP.1 a _ (ws_get ha)).lt
        refine ⟨fun k9 q hq => ?_, ⟨fun i j x y hi hj hxy => ?_, fun k9 q hq => ?_⟩, fun a ha => ?_⟩
        · obtain ⟨h1, rfl⟩ := hg k9 q hq
          exact hat k9 h1
        · obtain ⟨h1, rfl⟩ := hg i x hi
          obtain ⟨h2, rfl⟩ := hg j y hj
          have hxy : ρ' i = ρ' j := hxy
          by_cases hi0 : i < s.2.1 <;> by_cases hj0 : j < s.2.1
          · rw [hxt i hi0, hxt j hj0] at hxy
            exact hP.2.1.1 i j _ _ (ws_get hi0) (ws_get hj0) hxy
          · obtain ⟨j2, rfl⟩ : ∃ j2, j = s.2.1 + j2 := ⟨j - s.2.1, by omega⟩
            rw [hxt i hi0, hnew] at hxy
            have := hlt i hi0
            omega
          · obtain ⟨i2, rfl⟩ : ∃ i2, i = s.2.1 + i2 := ⟨i - s.2.1, by omega⟩
            rw [hxt j hj0, hnew] at hxy
            have := hlt j hj0
            omega
          · obtain ⟨i2, rfl⟩ : ∃ i2, i = s.2.1 + i2 := ⟨i - s.2.1, by omega⟩
            obtain ⟨j2, rfl⟩ : ∃ j2, j = s.2.1 + j2 := ⟨j - s.2.1, by omega⟩
            rw [hnew, hnew] at hxy
            omega
        · obtain ⟨h1, rfl⟩ := hg k9 q hq
          show wA w (ρ' k9)
          by_cases hk0 : k9 < s.2.1
          · rw [hxt k9 hk0]
            exact hP.2.1.2 k9 _ (ws_get hk0)
          · obtain ⟨j2, rfl⟩ : ∃ j2, k9 = s.2.1 + j2 := ⟨k9 - s.2.1, by omega⟩
            rw [hnew]
            have h9 : wB w ≤ s0.heap.size := hwf.2.2.2.2.2.2.1
            have h8 : s0.heap.size ≤ H.size := hS.1
            show wB w ≤ H.size + j2
            omega
        · show rOk (s.2.1 + 1 + N) (nwAh s.1 s.2.1 N M a)
          have ha : a < s.2.1 + 1 + N := ha
          unfold nwAh
          split
          · intro i r hr
            have hr : (if i < N then some (s.2.1 + 1 + i) else none) = some r := hr
            split at hr
            · cases hr; omega
            · cases hr
          · split
            · exact trivial
            · exact rOk_mono (by omega) (hP.2.2 a (by omega))
      have hSF : va_S (wA w) s0.heap F.heap locs := ⟨Nat.le_trans hS.1 (by rw [f1]; omega), fun q h1 h2 => by rw [hold q (Nat.lt_of_lt_of_le h1 hS.1)]; exact hS.2.1 q h1 h2, hS.2.2⟩
      have hq := gg F.heap hPH hSF
      have e1 : (s.2.2.1 + 1 + N) - c0 = s.2.2.1 - c0 + 1 + N := by omega
      have e2 : (s.2.2.2 + N + N * M) - z0 = s.2.2.2 - z0 + N + N * M := by omega
      have hq2 : W p l e R s0 mm args below meth c F.heap locs (s.2.2.1 + 1 + N - c0) (s.2.2.2 + N + N * M - z0) _ (F0 mm (pc + 4) ls (cv ρ' (.ref s.2.1) :: cS w ρ' st)) := hq
      rw [e1, e2, cS_congr hxt (stO_t (stO_t hs)), show cv ρ' (.ref s.2.1) = .ref H.size from by have := hnew 0; show Value.ref (ρ' s.2.1) = _; rw [show ρ' s.2.1 = H.size by simpa using this]] at hq2
      obtain ⟨t, a1, b1⟩ := hq2 F rfl X'
      refine ⟨t, step t ?_, b1⟩
      have e : T.heap.size = H.size := by rw [hT]
      rw [e]
      exact a1
  · unfold nwA at h1
    split at h1 <;> cases h1
end RQ
