/-! ROWS, the rest: int[].clone, its cast -/
def cln (a : Nat) : MM Nat := fun s => match s.1 a with
  | .inr (.inl (0, n, f)) => if a < s.2.1 then some (.inl s.2.1, push s (.inr (.inl (0, n, f))) n) else none
  | _ => none
def isI0 (a : Nat) : MM Unit := fun s => match s.1 a with
  | .inr (.inl (0, _, _)) => if a < s.2.1 then some (.inl (), s) else none
  | _ => none
theorem isI0_some {a : Nat} {s : aS} {r : (Unit ⊕ Nat) × aS} (h : isI0 a s = some r) : (∃ n f, s.1 a = .inr (.inl (0, n, f))) ∧ a < s.2.1 ∧ r = (.inl (), s) := by
  unfold isI0 at h
  split at h
  · next n f hc =>
    split at h
    · next hl => exact ⟨⟨n, f, hc⟩, hl, (Option.some.inj h).symm⟩
    · cases h
  · cases h
theorem cln_some {a : Nat} {s : aS} {r : (Nat ⊕ Nat) × aS} (h : cln a s = some r) : ∃ n f, s.1 a = .inr (.inl (0, n, f)) ∧ a < s.2.1 ∧ r = (.inl s.2.1, push s (.inr (.inl (0, n, f))) n) := by
  unfold cln at h
  split at h
  · next n f hc =>
    split at h
    · next hl => exact ⟨n, f, hc, hl, (Option.some.inj h).symm⟩
    · cases h
  · cases h
section RQ
variable {A : StA} {Y : DyA} {pc : Nat} {lv : List (Nat × VV)} {st : List VV} {α β : Type} {k : MM α} {K : α → MM β} {res : β → Option Value} {s : aS}
theorem wCl : Cond.castable "[I" "java/lang/Cloneable" ∈ lw_tbl := by decide +kernel
theorem r_cln {f : Nat → MM α} {a idx : Nat} (hA : aOwn A = "java/util/Arrays") (hi : idx = 316) (hdp : 1 ≤ aD A) (hcat : (st.map vcat).sum ≤ 8) (hd : decode (aC A) pc = .ok (.invokevirtual idx, 3)) (g : ∀ b s1, Rr A Y (pc + 3) lv (vr b :: st) (f b) K res s1) : Rr A Y pc lv (vr a :: st) (mbnd (cln a) f) K res s := by
  subst hi
  intro o s' e
  rw [mbnd_assoc] at e
  rcases mbnd_some e with ⟨v, s1, h1, h2⟩ | ⟨_, h1, -⟩
  · obtain ⟨n, fa, hcell, ha, e1⟩ := cln_some h1
    cases e1
    obtain ⟨g1, g2⟩ := g s.2.1 (push s (.inr (.inl (0, n, fa))) n) o s' h2
    obtain ⟨m1, m2, m3⟩ := id g1
    have m1 : s.2.1 + 1 ≤ s'.2.1 := m1
    have m2 : s.2.2.1 + 1 ≤ s'.2.2.1 := m2
    have m3 : s.2.2.2 + n ≤ s'.2.2.2 := m3
    refine ⟨⟨by omega, by omega, by omega⟩, fun ok rm hl hs H locs ls ρ hx hP hS hlv => ?_⟩
    obtain ⟨rm1, rm2, rm3, rm4, rm5⟩ := rm
    have gg := fun (q : Nat) (H1 : Heap) hP1 hS1 => g2 ok ⟨Nat.le_trans rm1 (Nat.le_succ _), Nat.le_trans rm2 (Nat.le_succ _), Nat.le_trans rm3 (Nat.le_add_right _ _), rm4, rm5⟩ (lvO_mono (Nat.le_succ _) hl) (stO_c (Nat.lt_succ_self s.2.1) (stO_mono (Nat.le_succ _) (stO_t hs))) H1 locs ls (va_up ρ s.2.1 q) (ext_trans rm1 hx (fun k hk => va_up_ne ρ q (Nat.ne_of_lt hk))) hP1 hS1 (by rw [cL_congr (n := s.2.1) (fun k hk => va_up_ne ρ q (Nat.ne_of_lt hk)) hl]; exact hlv)
    obtain ⟨p, l, e, R, s0, mm, args, below, meth, c, w, ρ0, n0, c0, z0⟩ := Y
    obtain ⟨hx9, hb, hr, hml, hown, hts, hlk, hst, hwf, htb, hd1, hd2, hnm, hnw⟩ := ok
    have rm2' : c0 ≤ s.2.2.1 := rm2
    have rm3' : z0 ≤ s.2.2.2 := rm3
    have rm4' : s'.2.2.1 - c0 ≤ R.cells := rm4
    have rm5' : s'.2.2.2 - z0 ≤ R.slots := rm5
    have hc8 := cat_le (w := w) (ρ := ρ) hcat
    rw [hA] at hown
    refine va_clone (own := "java/util/Arrays") (ad := "[I") (index := 316) (ty := .int) (cA := wT w 0) (x := (n, .inl fa)) hx9 hb (hlv.1.trans hml.symm).symm hown (hts _ (tblG_of 1159 (by decide +kernel) (by decide +kernel))) (hts _ (tblG_of 1160 (by decide +kernel) (by decide +kernel))) (hts _ (tblG_of 1161 (by decide +kernel) (by decide +kernel))) (hts _ (tblG_of 1162 (by decide +kernel) (by decide +kernel))) (hts _ (tblG_of 1163 (by decide +kernel) (by decide +kernel))) (hwf.2.1 _ wCl rfl) hwf.1 hP.1 hP.2.1 hS (fun q hq => Nat.le_trans hwf.2.2.2.2.2.2.1 hq) a 0 (ws_arr hcell ha) rfl (hwf.1.2 0 (wT w 0, .int) rfl).2 (fun i v hv => ?_) ?_ ?_ ?_ ?_ hd (fun q H1 hK1 q1 q2 q3 => ?_)
    · have hn : i < n := by
        have := (Array.getElem?_eq_some_iff.mp hv).1
        rw [vp_cell_i, arrV_size] at this
        exact this
      rw [vp_cell_i, arrV_read _ _ hn] at hv
      cases hv
      rfl
    · show 1 ≤ R.frames; omega
    · refine Nat.le_trans (Nat.add_le_add_right hc8 _) ?_
      show 8 + 14 ≤ R.locals
      omega
    · show s.2.2.1 - c0 + 1 ≤ R.cells; omega
    · show s.2.2.2 - z0 + n ≤ R.slots; omega
    · have e1 : (push s (.inr (.inl (0, n, fa))) n).2.2.1 - c0 = s.2.2.1 - c0 + 1 := by show s.2.2.1 + 1 - c0 = _; omega
      have e2 : (push s (.inr (.inl (0, n, fa))) n).2.2.2 - z0 = s.2.2.2 - z0 + n := by show s.2.2.2 + n - z0 = _; omega
      have hq := gg q H1 (PH_push (e := .inr (.inl (0, n, fa))) q1 q2 hP.2.2 trivial) q3
      have hq2 : W p l e R s0 mm args below meth c H1 locs ((push s (.inr (.inl (0, n, fa))) n).2.2.1 - c0) ((push s (.inr (.inl (0, n, fa))) n).2.2.2 - z0) _ (F0 mm (pc + 3) ls (cv (va_up ρ s.2.1 q) (.ref s.2.1) :: cS w (va_up ρ s.2.1 q) st)) := hq
      rw [e1, e2, cS_congr (n := s.2.1) (fun k hk => va_up_ne ρ q (Nat.ne_of_lt hk)) (stO_t hs), show cv (va_up ρ s.2.1 q) (.ref s.2.1) = .ref q from by show Value.ref _ = _; rw [va_up_self]] at hq2
      exact hq2
  · obtain ⟨_, _, -, -, e1⟩ := cln_some h1
    cases e1
theorem r_castI {a idx : Nat} {f : Unit → MM α} (hw : Cond.classLink (aOwn A) idx "[I" ∈ tblG) (hd : decode (aC A) pc = .ok (.checkcast idx, 3)) (g : Rr A Y (pc + 3) lv (vr a :: st) (f ()) K res s) : Rr A Y pc lv (vr a :: st) (mbnd (isI0 a) f) K res s := by
  intro o s' e
  rw [mbnd_assoc] at e
  rcases mbnd_some e with ⟨v, s1, h1, h2⟩ | ⟨_, h1, -⟩
  · obtain ⟨⟨n, fa, hc⟩, hl, e1⟩ := isI0_some h1
    cases e1
    obtain ⟨g1, g2⟩ := g o s' h2
    refine ⟨g1, fun ok rm hl9 hs H locs ls ρ hx hP hS hlv => ?_⟩
    have gg := g2 ok rm hl9 hs H locs ls ρ hx hP hS hlv
    obtain ⟨p, l, e, R, s0, mm, args, below, meth, c, w, ρ0, n0, c0, z0⟩ := Y
    obtain ⟨hx9, hb, hr, hml, hown, hts, hlk, hst, hwf, htb, hd1, hd2, hnm, hnw⟩ := ok
    exact va_castA hx9 hb hown (hts _ hw) hP.1 a (ws_arr hc hl) (hwf.1.2 0 (wT w 0, .int) rfl).2 hd gg
  · obtain ⟨-, -, e1⟩ := isI0_some h1
    cases e1
end RQ
