/-! ROWS, the second half: null, divisors, arrays of cells, rows of rows, longs, texts -/
def nzI (y : Int32) : MM Unit := fun s => if y = 0 then none else some (.inl (), s)
def nzL (y : Int64) : MM Unit := fun s => if y = 0 then none else some (.inl (), s)
def unq (q : Option Nat) : MM Nat := fun s => match q with
  | some r => some (.inl r, s)
  | none => none
def onT {α : Type} (a : Nat) (k : MM α) : MM α := fun s => if a < 52 then k s else none
def slen (i : Nat) : Int32 := Int32.ofNat (strB.getD i []).length
def schar (i : Nat) (k : Int32) : MM Int32 := fun s => if k < 0 ∨ (strB.getD i []).length ≤ k.toNatClampNeg then none else some (.inl ((strB.getD i []).getD k.toNatClampNeg 0), s)
theorem ct_onT {β : Type} {A : StA} {a : Nat} {args : List VV} {k : MM β} {res : β → Option Value} (h : a < 52 → Ct A args k res) : Ct A args (onT a k) res := fun Y s s' o e => by
  by_cases ha : a < 52
  · exact h ha Y s s' o (by rw [← e]; unfold onT; rw [if_pos ha])
  · unfold onT at e
    rw [if_neg ha] at e
    cases e
section RN
variable {A : StA} {Y : DyA} {pc : Nat} {lv lv' : List (Nat × VV)} {st : List VV} {α β : Type} {k : MM α} {K : α → MM β} {res : β → Option Value} {s : aS}
theorem r_nzI {y : Int32} {f : Unit → MM α} (g : ¬ y = 0 → Rr A Y pc lv st (f ()) K res s) : Rr A Y pc lv st (mbnd (nzI y) f) K res s := by
  intro o s' e
  by_cases h : y = 0
  · unfold mbnd nzI at e
    rw [if_pos h] at e
    cases e
  · refine g h o s' ?_
    rw [← e]
    unfold mbnd nzI
    rw [if_neg h]
theorem r_nzL {y : Int64} {f : Unit → MM α} (g : ¬ y = 0 → Rr A Y pc lv st (f ()) K res s) : Rr A Y pc lv st (mbnd (nzL y) f) K res s := by
  intro o s' e
  by_cases h : y = 0
  · unfold mbnd nzL at e
    rw [if_pos h] at e
    cases e
  · refine g h o s' ?_
    rw [← e]
    unfold mbnd nzL
    rw [if_neg h]
theorem r_unq {q : Option Nat} {f : Nat → MM α} (g : ∀ y, q = some y → Rr A Y pc lv st (f y) K res s) : Rr A Y pc lv st (mbnd (unq q) f) K res s := by
  cases q with
  | none => exact fun o s' e => by cases e
  | some y => exact g y rfl
theorem r_ifnull0 {off : Int} {tgt : Nat} (hd : decode (aC A) pc = .ok (.ifnull off, 3)) (ht : (pc : Int) + off = (tgt : Int)) (g : Rr A Y tgt lv st k K res s) : Rr A Y pc lv (vq none :: st) k K res s := by
  refine r_p ⟨fun n h1 h2 => ⟨h1, stO_t h2⟩, fun ok H locs cells slots Q ls ρ a1 a2 hv kk => ?_⟩ g
  obtain ⟨p, l, e, R, s, m, args, below, meth, c, w, ρ0, n0, c0, z0⟩ := Y
  obtain ⟨hx, hb, hr, hml, hown, hts, hlk, hst, hwf, htb, hd1, hd2, hnm, hnw⟩ := ok
  exact lv_ifnullN hx hb hd ht (kk ls hv)
theorem r_ifnull1 {off : Int} {tgt a : Nat} (hd : decode (aC A) pc = .ok (.ifnull off, 3)) (_ht : (pc : Int) + off = (tgt : Int)) (g : Rr A Y (pc + 3) lv st k K res s) : Rr A Y pc lv (vq (some a) :: st) k K res s := by
  refine r_p ⟨fun n h1 h2 => ⟨h1, stO_t h2⟩, fun ok H locs cells slots Q ls ρ a1 a2 hv kk => ?_⟩ g
  obtain ⟨p, l, e, R, s, m, args, below, meth, c, w, ρ0, n0, c0, z0⟩ := Y
  obtain ⟨hx, hb, hr, hml, hown, hts, hlk, hst, hwf, htb, hd1, hd2, hnm, hnw⟩ := ok
  exact lv_ifnull hx hb hd (kk ls hv)
theorem r_ifnonnull0 {off : Int} {tgt : Nat} (hd : decode (aC A) pc = .ok (.ifnonnull off, 3)) (_ht : (pc : Int) + off = (tgt : Int)) (g : Rr A Y (pc + 3) lv st k K res s) : Rr A Y pc lv (vq none :: st) k K res s := by
  refine r_p ⟨fun n h1 h2 => ⟨h1, stO_t h2⟩, fun ok H locs cells slots Q ls ρ a1 a2 hv kk => ?_⟩ g
  obtain ⟨p, l, e, R, s, m, args, below, meth, c, w, ρ0, n0, c0, z0⟩ := Y
  obtain ⟨hx, hb, hr, hml, hown, hts, hlk, hst, hwf, htb, hd1, hd2, hnm, hnw⟩ := ok
  exact lv_ifnonnullN hx hb hd (kk ls hv)
theorem r_ifnonnull1 {off : Int} {tgt a : Nat} (hd : decode (aC A) pc = .ok (.ifnonnull off, 3)) (ht : (pc : Int) + off = (tgt : Int)) (g : Rr A Y tgt lv st k K res s) : Rr A Y pc lv (vq (some a) :: st) k K res s := by
  refine r_p ⟨fun n h1 h2 => ⟨h1, stO_t h2⟩, fun ok H locs cells slots Q ls ρ a1 a2 hv kk => ?_⟩ g
  obtain ⟨p, l, e, R, s, m, args, below, meth, c, w, ρ0, n0, c0, z0⟩ := Y
  obtain ⟨hx, hb, hr, hml, hown, hts, hlk, hst, hwf, htb, hd1, hd2, hnm, hnw⟩ := ok
  exact lv_ifnonnull hx hb hd ht (kk ls hv)
theorem r_stC {f : Unit → MM α} {a r : Nat} {i : Int32} (hd : decode (aC A) pc = .ok (.aastore, 1)) (g : ∀ s1, Rr A Y (pc + 1) lv st (f ()) K res s1) : Rr A Y pc lv (vr r :: vi i :: vr a :: st) (mbnd (onC 1 r (stQ 3 a i r)) f) K res s := by
  intro o s' e
  rw [mbnd_assoc] at e
  rcases mbnd_some e with ⟨v, s1, h1, h2⟩ | ⟨_, h1, -⟩
  · obtain ⟨⟨fs, hcr⟩, hr, h1⟩ := onC_some h1
    obtain ⟨n, fa, hcell, ha, hin, e1, rfl⟩ := stQ_some h1
    obtain ⟨g1, g2⟩ := g _ o s' h2
    refine ⟨g1, fun ok rm hl hs H locs ls ρ hx hP hS hlv => ?_⟩
    have gg := fun H1 locs1 hP1 hS1 => g2 ok rm hl (stO_t (stO_t (stO_t hs))) H1 locs1 ls ρ hx hP1 hS1 hlv
    have hro : rOk s.2.1 (.inr (.inr (.inl (3, n, va_up fa i.toNatClampNeg (some r))))) := fun j q hq => by
      have h0 := hP.2.2 a ha
      rw [hcell] at h0
      unfold va_up at hq
      split at hq
      · cases hq; exact hr
      · exact h0 j q hq
    obtain ⟨p, l, e, R, s0, m, args, below, meth, c, w, ρ0, n0, c0, z0⟩ := Y
    obtain ⟨hx, hb, hr9, hml, hown, hts, hlk, hst, hwf, htb, hd1, hd2, hnm, hnw⟩ := ok
    have hup9 : (fun j => ((va_up fa i.toNatClampNeg (some r)) j).map ρ) = va_up (fun j => (fa j).map ρ) i.toNatClampNeg (some (ρ r)) := funext fun j => by
      unfold va_up
      split <;> rfl
    refine va_astq (r := (RX1, TX1, 13)) hx hb hwf.1 hP.1 hP.2.1 hS a 3 r 1 (ws_arq hcell ha) rfl (ws_obj hcr hr) rfl hin hd fun H1 locs1 q1 q2 q3 => gg H1 locs1 (PH_set (e := .inr (.inr (.inl (3, n, va_up fa i.toNatClampNeg (some r))))) ha ?_ ?_ hP.2.2 hro) q3
    · show va_P _ _ ((wsOf w ρ s).set a (ρ a, .inl (wT w 3, n, .inr (.inr (.inr (.inr (fun j => ((va_up fa i.toNatClampNeg (some r)) j).map ρ))))))) H1
      rw [hup9]; exact q1
    · show va_D _ ((wsOf w ρ s).set a (ρ a, .inl (wT w 3, n, .inr (.inr (.inr (.inr (fun j => ((va_up fa i.toNatClampNeg (some r)) j).map ρ)))))))
      rw [hup9]; exact q2
  · obtain ⟨-, -, h1⟩ := onC_some h1
    obtain ⟨_, _, -, -, -, e1, -⟩ := stQ_some h1
    cases e1
theorem wAo : Cond.arrayOver (.object "ToolCourt$Court") ∈ lw_tbl := by decide +kernel
theorem p_ldcS {i j : Nat} {text : String} (hd : decode (aC A) pc = .ok (.ldc i, 2)) (hw : (aOwn A, i, text, j) ∈ strT ∧ j < 999) : Pst A Y pc lv st (pc + 2) lv (vt j :: st) := by
  refine ⟨fun n h1 h2 => ⟨h1, stO_c trivial h2⟩, fun ok H locs cells slots Q ls ρ a1 a2 hv kk => ?_⟩
  obtain ⟨p, l, e, R, s, m, args, below, meth, c, w, ρ0, n0, c0, z0⟩ := Y
  obtain ⟨hx, hb, hr, hml, hown, hts, hlk, hst, hwf, htb, hd1, hd2, hnm, hnw⟩ := ok
  have ec : cV w ρ (vt j) = .ref (wK w j) := by
    show (if j = 2000 then _ else Value.ref (if j = 999 then _ else if j < 999 then wK w j else _)) = _
    rw [if_neg (by omega), if_neg (by omega), if_pos hw.2]
  have kk2 := kk ls hv
  rw [show cS w ρ (vt j :: st) = cV w ρ (vt j) :: cS w ρ st from rfl, ec] at kk2
  exact va_ldcS hx hb hown (hwf.2.2.2.2.2.2.2.1 _ hw.1) hd kk2
end RN
