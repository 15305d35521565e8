/-! ROWS FOR THE JDK's: Math, arraycopy, Object(), new arrays, stores of fields, null -/
theorem wMx : Cond.static Lib.Math.max.name ∈ tblG ∧ Cond.initialized "java/lang/Math" ∈ tblG ∧ Cond.code Lib.Math.max.name Lib.Math.max.code 2 (some .int) ∈ tblG := by decide +kernel
theorem wMn : Cond.static Lib.Math.min.name ∈ tblG ∧ Cond.code Lib.Math.min.name Lib.Math.min.code 2 (some .int) ∈ tblG := by decide +kernel
theorem wMa : Cond.static Lib.Math.abs.name ∈ tblG ∧ Cond.code Lib.Math.abs.name Lib.Math.abs.code 1 (some .int) ∈ tblG := by decide +kernel
theorem wCp : Cond.native arraycopyName ∈ tblG ∧ Cond.static arraycopyName ∈ tblG ∧ Cond.initialized "java/lang/System" ∈ tblG := by decide +kernel
theorem wOb : Cond.instanceMethod Lib.objectInit ∈ tblG ∧ Cond.code Lib.objectInit ⟨#[0xb1]⟩ 1 none ∈ tblG := by decide +kernel
theorem wAr : Cond.arrayClass .int ∈ tblG ∧ Cond.arrayClass .byte ∈ tblG ∧ Cond.arrayClass .long ∈ tblG := by decide +kernel
def imax (x y : Int32) : Int32 := if x < y then y else x
def imin (x y : Int32) : Int32 := if y < x then y else x
def iabs (x : Int32) : Int32 := if 0 ≤ x then x else 0 - x
section RL
variable {A : StA} {Y : DyA} {pc : Nat} {lv : List (Nat × VV)} {st : List VV} {α β : Type} {K : α → MM β} {res : β → Option Value} {s : aS}
theorem p_max {idx : Nat} {x y : Int32} (hw : Cond.methodLink (aOwn A) idx Lib.Math.max.name ∈ tblG) (hdp : 1 ≤ aD A) (hcat : (st.map vcat).sum ≤ 8) (hd : decode (aC A) pc = .ok (.invokestatic idx, 3)) : Pst A Y pc lv (vi y :: vi x :: st) (pc + 3) lv (vi (imax x y) :: st) := by
  refine ⟨fun n h1 h2 => ⟨h1, stO_c trivial (stO_t (stO_t h2))⟩, fun ok H locs cells slots Q ls ρ a1 a2 hv kk => ?_⟩
  obtain ⟨p, l, e, R, s, m, args, below, meth, c, w, ρ0, n0, c0, z0⟩ := Y
  obtain ⟨hx, hb, hr, hml, hown, hts, hlk, hst, hwf, htb, hd1, hd2, hnm, hnw⟩ := ok
  have h8 := cat_le (w := w) (ρ := ρ) hcat
  exact va_mmax hx hb (hml.trans hv.1.symm) hown (hts _ hw) (hts _ wMx.1) (hts _ wMx.2.1) (hts _ wMx.2.2) (Nat.le_trans hdp hd1) (Nat.le_trans (Nat.add_le_add_right h8 _) (by show 8 + 13 ≤ R.locals; omega)) a1 a2 hd (kk ls hv)
theorem p_min {idx : Nat} {x y : Int32} (hw : Cond.methodLink (aOwn A) idx Lib.Math.min.name ∈ tblG) (hdp : 1 ≤ aD A) (hcat : (st.map vcat).sum ≤ 8) (hd : decode (aC A) pc = .ok (.invokestatic idx, 3)) : Pst A Y pc lv (vi y :: vi x :: st) (pc + 3) lv (vi (imin x y) :: st) := by
  refine ⟨fun n h1 h2 => ⟨h1, stO_c trivial (stO_t (stO_t h2))⟩, fun ok H locs cells slots Q ls ρ a1 a2 hv kk => ?_⟩
  obtain ⟨p, l, e, R, s, m, args, below, meth, c, w, ρ0, n0, c0, z0⟩ := Y
  obtain ⟨hx, hb, hr, hml, hown, hts, hlk, hst, hwf, htb, hd1, hd2, hnm, hnw⟩ := ok
  have h8 := cat_le (w := w) (ρ := ρ) hcat
  exact va_mmin hx hb (hml.trans hv.1.symm) hown (hts _ hw) (hts _ wMn.1) (hts _ wMx.2.1) (hts _ wMn.2) (Nat.le_trans hdp hd1) (Nat.le_trans (Nat.add_le_add_right h8 _) (by show 8 + 13 ≤ R.locals; omega)) a1 a2 hd (kk ls hv)
theorem p_abs {idx : Nat} {x : Int32} (hw : Cond.methodLink (aOwn A) idx Lib.Math.abs.name ∈ tblG) (hdp : 1 ≤ aD A) (hcat : (st.map vcat).sum ≤ 8) (hd : decode (aC A) pc = .ok (.invokestatic idx, 3)) : Pst A Y pc lv (vi x :: st) (pc + 3) lv (vi (iabs x) :: st) := by
  refine ⟨fun n h1 h2 => ⟨h1, stO_c trivial (stO_t h2)⟩, fun ok H locs cells slots Q ls ρ a1 a2 hv kk => ?_⟩
  obtain ⟨p, l, e, R, s, m, args, below, meth, c, w, ρ0, n0, c0, z0⟩ := Y
  obtain ⟨hx, hb, hr, hml, hown, hts, hlk, hst, hwf, htb, hd1, hd2, hnm, hnw⟩ := ok
  have h8 := cat_le (w := w) (ρ := ρ) hcat
  exact va_mabs hx hb (hml.trans hv.1.symm) hown (hts _ hw) (hts _ wMa.1) (hts _ wMx.2.1) (hts _ wMa.2) (Nat.le_trans hdp hd1) (Nat.le_trans (Nat.add_le_add_right h8 _) (by show 8 + 13 ≤ R.locals; omega)) a1 a2 hd (kk ls hv)
theorem p_obj {idx a : Nat} (hw : Cond.methodLink (aOwn A) idx Lib.objectInit ∈ tblG) (hdp : 1 ≤ aD A) (hcat : (st.map vcat).sum ≤ 8) (hd : decode (aC A) pc = .ok (.invokespecial idx, 3)) : Pst A Y pc lv (vr a :: st) (pc + 3) lv st := by
  refine ⟨fun n h1 h2 => ⟨h1, stO_t h2⟩, fun ok H locs cells slots Q ls ρ a1 a2 hv kk => ?_⟩
  obtain ⟨p, l, e, R, s, m, args, below, meth, c, w, ρ0, n0, c0, z0⟩ := Y
  obtain ⟨hx, hb, hr, hml, hown, hts, hlk, hst, hwf, htb, hd1, hd2, hnm, hnw⟩ := ok
  have h8 := cat_le (w := w) (ρ := ρ) hcat
  have h9 := lv_room (m := m) (pc := pc) (ls := ls) (rest := cS w ρ (vr a :: st)) h8
  exact W.objInit hx hb hown (hts _ hw) (hts _ wOb.1) (hts _ wOb.2) rfl (hv.1.trans hml.symm) rfl hd (Nat.le_trans hdp hd1) (Nat.le_trans (Nat.add_le_add_right h9 12) (show 8 + 12 ≤ R.locals by omega)) (kk ls hv)
theorem cpI_some {t a0 a : Nat} {sp dp n : Int32} {s s' : aS} {o : Unit ⊕ Nat} (h : cpI t a0 sp a dp n s = some (o, s')) : ∃ n0 f n1 g, s.1 a0 = .inr (.inl (t, n0, f)) ∧ s.1 a = .inr (.inl (t, n1, g)) ∧ a0 < s.2.1 ∧ a < s.2.1 ∧ ¬ sp < 0 ∧ ¬ dp < 0 ∧ ¬ n < 0 ∧ sp.toNatClampNeg + n.toNatClampNeg ≤ n0 ∧ dp.toNatClampNeg + n.toNatClampNeg ≤ n1 ∧ o = .inl () ∧ s' = (hup s.1 a (.inr (.inl (t, n1, va_cpy f g sp.toNatClampNeg dp.toNatClampNeg n.toNatClampNeg))), s.2) := by
  unfold cpI at h
  split at h
  · next t0 n0 f t1 n1 g hc0 hc1 =>
    split at h
    · next hh =>
      split at h
      · cases h
      · next hi =>
        cases h
        obtain ⟨h1, h2, h3, h4⟩ := hh
        subst h1; subst h2
        exact ⟨n0, f, n1, g, hc0, hc1, h3, h4, fun q => hi (Or.inl q), fun q => hi (Or.inr (Or.inl q)), fun q => hi (Or.inr (Or.inr (Or.inl q))), Nat.not_lt.mp fun q => hi (Or.inr (Or.inr (Or.inr (Or.inl q)))), Nat.not_lt.mp fun q => hi (Or.inr (Or.inr (Or.inr (Or.inr q)))), rfl, rfl⟩
    · cases h
  · cases h
theorem r_cp {f : Unit → MM α} {idx a0 a : Nat} {sp dp n : Int32} (hw : Cond.methodLink (aOwn A) idx arraycopyName ∈ tblG) (hdp : 2 ≤ aD A) (hcat : (st.map vcat).sum ≤ 8) (hd : decode (aC A) pc = .ok (.invokestatic idx, 3)) (g : ∀ s1, Rr A Y (pc + 3) lv st (f ()) K res s1) : Rr A Y pc lv (vi n :: vi dp :: vr a :: vi sp :: vr a0 :: st) (mbnd (cpI 0 a0 sp a dp n) f) K res s := by
  intro o s' e
  rw [mbnd_assoc] at e
  rcases mbnd_some e with ⟨v, s1, h1, h2⟩ | ⟨_, h1, -⟩
  · obtain ⟨m0, fa, m1, ga, hc0, hc1, ha0, ha, i1, i2, i3, i4, i5, e1, rfl⟩ := cpI_some h1
    obtain ⟨g1, g2⟩ := g _ o s' h2
    refine ⟨g1, fun ok rm hl hs H locs ls ρ hx hP hS hlv => ?_⟩
    have gg := fun H1 locs1 hP1 hS1 => g2 ok rm hl (stO_t (stO_t (stO_t (stO_t (stO_t hs))))) H1 locs1 ls ρ hx hP1 hS1 hlv
    obtain ⟨p, l, e, R, s0, mm, args, below, meth, c, w, ρ0, n0, c0, z0⟩ := Y
    obtain ⟨hx, hb, hr, hml, hown, hts, hlk, hst, hwf, htb, hd1, hd2, hnm, hnw⟩ := ok
    have h8 := cat_le (w := w) (ρ := ρ) hcat
    exact va_copyi hx hb (hml.trans hlv.1.symm) hown (hts _ hw) (hts _ wCp.1) (hts _ wCp.2.1) (hts _ wCp.2.2) hwf.1 hP.1 hP.2.1 hS a0 a 0 0 (ws_arr hc0 ha0) (ws_arr hc1 ha) rfl rfl rfl i1 i2 i3 i4 i5 (fun i _ => rfl) (show 1 ≤ R.frames by omega) (Nat.le_trans (Nat.add_le_add_right h8 _) (Nat.le_trans (show 8 + (nativeFrameWords "java/lang/System" "arraycopy" 5 + 11) ≤ 64 * 2 by decide +kernel) (show 64 * 2 ≤ R.locals by omega))) hd fun H1 locs1 q1 q2 q3 => gg H1 locs1 (PH_set (e := .inr (.inl (0, m1, va_cpy fa ga sp.toNatClampNeg dp.toNatClampNeg n.toNatClampNeg))) ha q1 q2 hP.2.2 trivial) q3
  · obtain ⟨_, _, _, _, -, -, -, -, -, -, -, -, -, e1, -⟩ := cpI_some h1
    cases e1
/-- a new array of numbers, by the kit's row: its class is ours -/
theorem r_nwI {f : Nat → MM α} {n : Int32} {t : Nat} {at9 : ArrayType} {ty : FieldType} (hty : newarray.typeOf at9 = ty) (htt : (t = 0 ∧ ty = .int ∧ at9 = .int) ∨ (t = 1 ∧ ty = .byte ∧ at9 = .byte)) (hd : decode (aC A) pc = .ok (.newarray at9, 2)) (g : ∀ a s1, Rr A Y (pc + 2) lv (vr a :: st) (f a) K res s1) : Rr A Y pc lv (vi n :: st) (mbnd (nwI t n) f) K res s := by
  intro o s' e
  rw [mbnd_assoc] at e
  rcases mbnd_some e with ⟨v, s1, h1, h2⟩ | ⟨_, h1, -⟩
  · unfold nwI at h1
    split at h1
    · cases h1
    · next hn0 =>
      cases h1
      obtain ⟨g1, g2⟩ := g s.2.1 (push s (.inr (.inl (t, n.toNatClampNeg, fun _ => 0))) n.toNatClampNeg) o s' h2
      obtain ⟨m1, m2, m3⟩ := id g1
      have m1 : s.2.1 + 1 ≤ s'.2.1 := m1
      have m2 : s.2.2.1 + 1 ≤ s'.2.2.1 := m2
      have m3 : s.2.2.2 + n.toNatClampNeg ≤ s'.2.2.2 := m3
      refine ⟨⟨by omega, by omega, by omega⟩, fun ok rm hl hs H locs ls ρ hx hP hS hlv => ?_⟩
      obtain ⟨rm1, rm2, rm3, rm4, rm5⟩ := rm
      have gg := fun (q : Nat) (H1 : Heap) hP1 hS1 => g2 ok ⟨Nat.le_trans rm1 (Nat.le_succ _), Nat.le_trans rm2 (Nat.le_succ _), Nat.le_trans rm3 (Nat.le_add_right _ _), rm4, rm5⟩ (lvO_mono (Nat.le_succ _) hl) (stO_c (Nat.lt_succ_self s.2.1) (stO_mono (Nat.le_succ _) (stO_t hs))) H1 locs ls (va_up ρ s.2.1 q) (ext_trans rm1 hx (fun k hk => va_up_ne ρ q (Nat.ne_of_lt hk))) hP1 hS1 (by rw [cL_congr (n := s.2.1) (fun k hk => va_up_ne ρ q (Nat.ne_of_lt hk)) hl]; exact hlv)
      obtain ⟨p, l, e, R, s0, mm, args, below, meth, c, w, ρ0, n0, c0, z0⟩ := Y
      obtain ⟨hx9, hb, hr, hml, hown, hts, hlk, hst, hwf, htb, hd1, hd2, hnm, hnw⟩ := ok
      have rm2' : c0 ≤ s.2.2.1 := rm2
      have rm3' : z0 ≤ s.2.2.2 := rm3
      have rm4' : s'.2.2.1 - c0 ≤ R.cells := rm4
      have rm5' : s'.2.2.2 - z0 ≤ R.slots := rm5
      have hlen : n.toNatClampNeg ≤ 100000 := Nat.not_lt.mp fun q => hn0 (Or.inr q)
      have harr : (Cond.arrayClass (newarray.typeOf at9)).before args s0 = true := by
        rcases htt with ⟨-, -, rfl⟩ | ⟨-, -, rfl⟩
        · exact hts _ wAr.1
        · exact hts _ wAr.2.1
      have htyp : (wtys w)[t]? = some (wT w t, ty) := by
        rcases htt with ⟨rfl, rfl, -⟩ | ⟨rfl, rfl, -⟩ <;> rfl
      refine va_newa (a0 := (n.toNatClampNeg, .inl fun _ => 0)) (N' := n.toNatClampNeg) hx9 hb harr hty hwf.1 hP.1 hP.2.1 hS (fun q hq => Nat.le_trans hwf.2.2.2.2.2.2.1 hq) (fun cA => ?_) (fun q => hn0 (Or.inl q)) rfl ?_ ?_ ?_ hd (fun q cA H1 hK1 q1 q2 q3 => ?_)
      · rcases htt with ⟨-, rfl, -⟩ | ⟨-, rfl, -⟩ <;> rfl
      · rcases htt with ⟨-, rfl, -⟩ | ⟨-, rfl, -⟩
        · show n.toNatClampNeg * 4 ≤ _; omega
        · show n.toNatClampNeg * 1 ≤ _; omega
      · show s.2.2.1 - c0 + 1 ≤ R.cells; omega
      · show s.2.2.2 - z0 + n.toNatClampNeg ≤ R.slots; omega
      · have hcA : cA = wT w t := by
          have a1 := (hK1.2 5 (cA, ty) rfl).2
          have a2 := (hwf.1.2 t _ htyp).2
          rcases htt with ⟨-, rfl, -⟩ | ⟨-, rfl, -⟩ <;> exact Option.some.inj (a1.symm.trans a2)
        subst hcA
        have e1 : (push s (.inr (.inl (t, n.toNatClampNeg, fun _ => 0))) n.toNatClampNeg).2.2.1 - c0 = s.2.2.1 - c0 + 1 := by show s.2.2.1 + 1 - c0 = _; omega
        have e2 : (push s (.inr (.inl (t, n.toNatClampNeg, fun _ => 0))) n.toNatClampNeg).2.2.2 - z0 = s.2.2.2 - z0 + n.toNatClampNeg := by show s.2.2.2 + n.toNatClampNeg - z0 = _; omega
        have hq := gg q H1 (PH_push (e := .inr (.inl (t, n.toNatClampNeg, fun _ => 0))) q1 q2 hP.2.2 trivial) q3
        have hq2 : W p l e R s0 mm args below meth c H1 locs ((push s (.inr (.inl (t, n.toNatClampNeg, fun _ => 0))) n.toNatClampNeg).2.2.1 - c0) ((push s (.inr (.inl (t, n.toNatClampNeg, fun _ => 0))) n.toNatClampNeg).2.2.2 - z0) _ (F0 mm (pc + 2) ls (cv (va_up ρ s.2.1 q) (.ref s.2.1) :: cS w (va_up ρ s.2.1 q) st)) := hq
        rw [e1, e2, cS_congr (n := s.2.1) (fun k hk => va_up_ne ρ q (Nat.ne_of_lt hk)) (stO_t hs), show cv (va_up ρ s.2.1 q) (.ref s.2.1) = .ref q from by show Value.ref _ = _; rw [va_up_self]] at hq2
        exact hq2
  · unfold nwI at h1
    split at h1 <;> cases h1
theorem r_pI {f : Unit → MM α} {idx ci k a : Nat} {x : Int32} {fin : Bool} (hF : FP (aOwn A) idx ci k .int fin) (hfi : fin = true → (aY A).name = "<init>") (hd : decode (aC A) pc = .ok (.putfield idx, 3)) (g : ∀ s1, Rr A Y (pc + 3) lv st (f ()) K res s1) : Rr A Y pc lv (vi x :: vr a :: st) (mbnd (pI ci k a x) f) K res s := r_pF hF hfi (fun _ => rfl) (fun _ => rfl) hd g
theorem r_pZ {f : Unit → MM α} {idx ci k a : Nat} {x : Int32} {fin : Bool} (hx : x = 0 ∨ x = 1) (hF : FP (aOwn A) idx ci k .boolean fin) (hfi : fin = true → (aY A).name = "<init>") (hd : decode (aC A) pc = .ok (.putfield idx, 3)) (g : ∀ s1, Rr A Y (pc + 3) lv st (f ()) K res s1) : Rr A Y pc lv (vi x :: vr a :: st) (mbnd (pI ci k a x) f) K res s := r_pF hF hfi (fun _ => by rcases hx with rfl | rfl <;> rfl) (fun _ => by rcases hx with rfl | rfl <;> rfl) hd g
theorem r_pR {f : Unit → MM α} {idx ci k a r : Nat} {fin : Bool} {ty : FieldType} (hF : FP (aOwn A) idx ci k ty fin) (hfi : fin = true → (aY A).name = "<init>") (hty : (∃ C, ty = .object C) ∨ ∃ t, ty = .array t) (hd : decode (aC A) pc = .ok (.putfield idx, 3)) (g : ∀ s1, Rr A Y (pc + 3) lv st (f ()) K res s1) : Rr A Y pc lv (vr r :: vr a :: st) (mbnd (pR ci k a r) f) K res s := r_pF hF hfi (fun _ => by rcases hty with ⟨C, rfl⟩ | ⟨t, rfl⟩ <;> rfl) (fun _ => by rcases hty with ⟨C, rfl⟩ | ⟨t, rfl⟩ <;> rfl) hd g
end RL
