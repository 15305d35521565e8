/-! THE JUDGEMENT: a frame carries out a computation; rows for what touches no cell -/
abbrev yR (Y : DyA) : Room := Y.2.2.2.1
abbrev yS (Y : DyA) : State := Y.2.2.2.2.1
abbrev yW (Y : DyA) : WT := Y.2.2.2.2.2.2.2.2.2.2.1
abbrev yρ (Y : DyA) : Nat → Nat := Y.2.2.2.2.2.2.2.2.2.2.2.1
abbrev yn (Y : DyA) : Nat := Y.2.2.2.2.2.2.2.2.2.2.2.2.1
abbrev yc (Y : DyA) : Nat := Y.2.2.2.2.2.2.2.2.2.2.2.2.2.1
abbrev yσ (Y : DyA) : Nat := Y.2.2.2.2.2.2.2.2.2.2.2.2.2.2
def WY (Y : DyA) (H : Heap) (locs : List Loc) (cells slots : Nat) (Q : State → Prop) (pc : Nat) (ls : Array Slot) (st : List Value) : Prop :=
  W Y.1 Y.2.1 Y.2.2.1 Y.2.2.2.1 Y.2.2.2.2.1 Y.2.2.2.2.2.1 Y.2.2.2.2.2.2.1 Y.2.2.2.2.2.2.2.1 Y.2.2.2.2.2.2.2.2.1 Y.2.2.2.2.2.2.2.2.2.1 H locs cells slots Q (F0 Y.2.2.2.2.2.1 pc ls st)
def OkY (A : StA) (Y : DyA) : Prop := match Y with
  | (p, l, _, R, s, m, args, _, meth, c, w, _, _, _, _) => p.tables.exec = Jvm.exec ∧ c.code = aC A ∧ meth.sig.returnType = aR A ∧ c.maxLocals = aN A ∧ s.vm.findClass (aOwn A) = some m.cls ∧ (∀ x ∈ tblG, x.before args s = true) ∧ meth.locks = false ∧ l.stackTraces = false ∧ WF w s ∧
    c.exceptionTable.toList = tableOf (aH A) ∧ aD A ≤ R.frames ∧ 64 * aD A ≤ R.locals ∧ meth.name = (aY A).name ∧ (∀ x ∈ lw_tbl, isNw x = true → x.before args s = true)
def QQ {β : Type} (Y : DyA) (res : β → Option Value) (o : β ⊕ Nat) (s' : aS) : State → Prop := match Y with
  | (_, _, _, _, s, _, args, below, _, _, w, ρ, n, c0, z0) => vx_MQ below (Qok w n ρ res o s') (Qex w n ρ o s') args s (s'.2.2.1 - c0) (s'.2.2.2 - z0) (wA w)
def cL (w : WT) (ρ : Nat → Nat) (lv : List (Nat × VV)) : List (Nat × Value) := lv.map fun q => (q.1, cV w ρ q.2)
def cS (w : WT) (ρ : Nat → Nat) (st : List VV) : List Value := st.map (cV w ρ)
def lvO (n : Nat) (lv : List (Nat × VV)) : Prop := ∀ q ∈ lv, vOk n q.2
def stO (n : Nat) (st : List VV) : Prop := ∀ v ∈ st, vOk n v
def roomY (Y : DyA) (s s' : aS) : Prop := yn Y ≤ s.2.1 ∧ yc Y ≤ s.2.2.1 ∧ yσ Y ≤ s.2.2.2 ∧ s'.2.2.1 - yc Y ≤ (yR Y).cells ∧ s'.2.2.2 - yσ Y ≤ (yR Y).slots
/-- the frame at pc, with these locals and this stack, carries out k and what follows it -/
def Rr {α β : Type} (A : StA) (Y : DyA) (pc : Nat) (lv : List (Nat × VV)) (st : List VV) (k : MM α) (K : α → MM β) (res : β → Option Value) (s : aS) : Prop :=
  ∀ (o : β ⊕ Nat) (s' : aS), mbnd k K s = some (o, s') → mono s s' ∧ (OkY A Y → roomY Y s s' → lvO s.2.1 lv → stO s.2.1 st → ∀ (H : Heap) (locs : List Loc) (ls : Array Slot) (ρ : Nat → Nat), ext (yn Y) (yρ Y) ρ → PH (yW Y) ρ s H → va_S (wA (yW Y)) (yS Y).heap H locs → lv_has ls (aN A) (cL (yW Y) ρ lv) →
    WY Y H locs (s.2.2.1 - yc Y) (s.2.2.2 - yσ Y) (QQ Y res o s') pc ls (cS (yW Y) ρ st))
/-- a step that touches no cell -/
def Pst (A : StA) (Y : DyA) (pc : Nat) (lv : List (Nat × VV)) (st : List VV) (pc' : Nat) (lv' : List (Nat × VV)) (st' : List VV) : Prop :=
  (∀ n, lvO n lv → stO n st → lvO n lv' ∧ stO n st') ∧ (OkY A Y → ∀ (H : Heap) (locs : List Loc) (cells slots : Nat) (Q : State → Prop) (ls : Array Slot) (ρ : Nat → Nat), cells ≤ (yR Y).cells → slots ≤ (yR Y).slots → lv_has ls (aN A) (cL (yW Y) ρ lv) →
    (∀ ls', lv_has ls' (aN A) (cL (yW Y) ρ lv') → WY Y H locs cells slots Q pc' ls' (cS (yW Y) ρ st')) → WY Y H locs cells slots Q pc ls (cS (yW Y) ρ st))
section RA
variable {A : StA} {Y : DyA} {pc pc' : Nat} {lv lv' : List (Nat × VV)} {st st' : List VV} {α β γ : Type} {k : MM α} {K : α → MM β} {res : β → Option Value} {s : aS}
theorem r_p (h : Pst A Y pc lv st pc' lv' st') (g : Rr A Y pc' lv' st' k K res s) : Rr A Y pc lv st k K res s := by
  intro o s' e
  obtain ⟨g1, g2⟩ := g o s' e
  refine ⟨g1, fun ok rm hl hs H locs ls ρ hx hP hS hv => ?_⟩
  have a1 : s.2.2.1 - yc Y ≤ (yR Y).cells := Nat.le_trans (Nat.sub_le_sub_right g1.2.1 _) rm.2.2.2.1
  have a2 : s.2.2.2 - yσ Y ≤ (yR Y).slots := Nat.le_trans (Nat.sub_le_sub_right g1.2.2 _) rm.2.2.2.2
  obtain ⟨h1, h2⟩ := h.1 _ hl hs
  exact h.2 ok H locs _ _ _ ls ρ a1 a2 hv fun ls' hv' => g2 ok rm h1 h2 H locs ls' ρ hx hP hS hv'
theorem r_ret {x : α} (g : Rr A Y pc lv st (K x) mret res s) : Rr A Y pc lv st (mret x) K res s := by
  intro o s' e
  exact g o s' (by rw [mbnd_mret]; exact e)
theorem r_bnd {m : MM γ} {f : γ → MM α} (g : Rr A Y pc lv st m (fun x => mbnd (f x) K) res s) : Rr A Y pc lv st (mbnd m f) K res s := by
  intro o s' e
  exact g o s' (by rw [← mbnd_assoc]; exact e)
/-- a computed number gets a name -/
theorem r_let {x : γ} {f : γ → MM α} {mk : γ → List VV} {mkl : γ → List (Nat × VV)} (g : ∀ y, Rr A Y pc (mkl y) (mk y) (f y) K res s) : Rr A Y pc (mkl x) (mk x) (mbnd (mret x) f) K res s := g x
theorem r_sub (ps : List Nat) (h : ps.filterMap (fun i => lv[i]?) = lv') (g : Rr A Y pc lv' st k K res s) : Rr A Y pc lv st k K res s := by
  have hm : ∀ q ∈ lv', q ∈ lv := fun q hq => by
    rw [← h] at hq
    obtain ⟨i, -, hi⟩ := List.mem_filterMap.mp hq
    exact List.mem_of_getElem? hi
  refine r_p ⟨fun n h1 h2 => ⟨fun q hq => h1 q (hm q hq), h2⟩, fun ok H locs cells slots Q ls ρ a1 a2 hv kk => kk ls ⟨hv.1, hv.2.1, fun q hq => ?_⟩⟩ g
  obtain ⟨z, hz, rfl⟩ := List.mem_map.mp hq
  exact hv.2.2 _ (List.mem_map.mpr ⟨z, hm z hz, rfl⟩)
end RA
theorem lv_g {w : WT} {ρ : Nat → Nat} {ls : Array Slot} {nL : Nat} {lv : List (Nat × VV)} (h : lv_has ls nL (cL w ρ lv)) {j i : Nat} {v : VV} (hj : lv[j]? = some (i, v)) : ls[i]? = some (.val (cV w ρ v)) := by
  exact h.2.2 (i, cV w ρ v) (List.mem_map.mpr ⟨(i, v), List.mem_of_getElem? hj, rfl⟩)
def vcat : VV → Nat
  | .inl v => v.category
  | .inr _ => 1
theorem cV_cat (w : WT) (ρ : Nat → Nat) (v : VV) : (cV w ρ v).category = vcat v := by
  rcases v with v | i
  · cases v <;> rfl
  · show (if i = 2000 then va_rf (wF w) else .ref _ : Value).category = 1
    split
    · cases wF w <;> rfl
    · rfl
def lvs (i : Nat) (v : VV) (lv : List (Nat × VV)) : List (Nat × VV) := (i, v) :: lv.filter (fun q => !(q.1 == i) && !(q.1 + 1 == i && vcat q.2 == 2))
theorem lvs_c {w : WT} {ρ : Nat → Nat} {i : Nat} {v : VV} {lv : List (Nat × VV)} : cL w ρ (lvs i v lv) = (i, cV w ρ v) :: (cL w ρ lv).filter (fun q => !(q.1 == i) && !(q.1 + 1 == i && q.2.category == 2)) := by
  show (i, cV w ρ v) :: List.map _ (lv.filter _) = _
  congr 1
  unfold cL
  rw [List.filter_map]
  congr 1
  apply List.filter_congr
  intro q _
  show _ = (!(q.1 == i) && !(q.1 + 1 == i && (cV w ρ q.2).category == 2))
  rw [cV_cat]
theorem lvs_O {n i : Nat} {v : VV} {lv : List (Nat × VV)} (h : lvO n lv) (hv : vOk n v) : lvO n (lvs i v lv) := fun q hq => by
  rcases List.mem_cons.mp hq with e | e
  · rw [e]; exact hv
  · exact h q (List.mem_filter.mp e).1
theorem stO_c {n : Nat} {v : VV} {st : List VV} (hv : vOk n v) (h : stO n st) : stO n (v :: st) := fun x hx => (List.mem_cons.mp hx).elim (fun e => by rw [e]; exact hv) (h x)
theorem stO_t {n : Nat} {v : VV} {st : List VV} (h : stO n (v :: st)) : stO n st := fun x hx => h x (List.mem_cons_of_mem _ hx)
theorem stO_h {n : Nat} {v : VV} {st : List VV} (h : stO n (v :: st)) : vOk n v := h v List.mem_cons_self
theorem lvO_g {n j i : Nat} {v : VV} {lv : List (Nat × VV)} (h : lvO n lv) (hj : lv[j]? = some (i, v)) : vOk n v := h _ (List.mem_of_getElem? hj)
def iushr (x y : Int32) : Int32 := (x.toUInt32 >>> (y.toUInt32 &&& Int32.toUInt32 31)).toInt32
section RP
variable {A : StA} {Y : DyA} {pc : Nat} {lv lv' : List (Nat × VV)} {st : List VV}
theorem p_iconst {n : Int} {v : Int32} (hd : decode (aC A) pc = .ok (.iconst n, 1)) (hv0 : Int32.ofInt n = v) : Pst A Y pc lv (st) (pc + 1) lv (vi v :: st) := by
  refine ⟨fun n h1 h2 => ⟨h1, stO_c trivial h2⟩, fun ok H locs cells slots Q ls ρ a1 a2 hv kk => ?_⟩
  obtain ⟨p, l, e, R, s, m, args, below, meth, c, w, ρ0, n0, c0, z0⟩ := Y
  obtain ⟨hx, hb, hr, hml, hown, hts, hlk, hst, hwf, htb, hd1, hd2, hnm, hnw⟩ := ok
  exact lv_iconst hx hb hd hv0 (kk ls hv)
theorem p_bipush {n : Int} {v : Int32} (hd : decode (aC A) pc = .ok (.bipush n, 2)) (hv0 : (Int8.ofInt n).toInt32 = v) : Pst A Y pc lv (st) (pc + 2) lv (vi v :: st) := by
  refine ⟨fun n h1 h2 => ⟨h1, stO_c trivial h2⟩, fun ok H locs cells slots Q ls ρ a1 a2 hv kk => ?_⟩
  obtain ⟨p, l, e, R, s, m, args, below, meth, c, w, ρ0, n0, c0, z0⟩ := Y
  obtain ⟨hx, hb, hr, hml, hown, hts, hlk, hst, hwf, htb, hd1, hd2, hnm, hnw⟩ := ok
  exact lv_bipush hx hb hd hv0 (kk ls hv)
theorem p_sipush {n : Int} {v : Int32} (hd : decode (aC A) pc = .ok (.sipush n, 3)) (hv0 : (Int16.ofInt n).toInt32 = v) : Pst A Y pc lv (st) (pc + 3) lv (vi v :: st) := by
  refine ⟨fun n h1 h2 => ⟨h1, stO_c trivial h2⟩, fun ok H locs cells slots Q ls ρ a1 a2 hv kk => ?_⟩
  obtain ⟨p, l, e, R, s, m, args, below, meth, c, w, ρ0, n0, c0, z0⟩ := Y
  obtain ⟨hx, hb, hr, hml, hown, hts, hlk, hst, hwf, htb, hd1, hd2, hnm, hnw⟩ := ok
  exact lv_sipush hx hb hd hv0 (kk ls hv)
theorem p_lconst {n : Fin 2} {v : Int64} (hd : decode (aC A) pc = .ok (.lconst n, 1)) (hv0 : Int64.ofNat (n : Nat) = v) : Pst A Y pc lv (st) (pc + 1) lv (vl v :: st) := by
  refine ⟨fun n h1 h2 => ⟨h1, stO_c trivial h2⟩, fun ok H locs cells slots Q ls ρ a1 a2 hv kk => ?_⟩
  obtain ⟨p, l, e, R, s, m, args, below, meth, c, w, ρ0, n0, c0, z0⟩ := Y
  obtain ⟨hx, hb, hr, hml, hown, hts, hlk, hst, hwf, htb, hd1, hd2, hnm, hnw⟩ := ok
  exact lv_lconst hx hb hd hv0 (kk ls hv)
theorem p_ldc {i : Nat} {v : Int32} (hd : decode (aC A) pc = .ok (.ldc i, 2)) (hw : Cond.constant (aOwn A) i v ∈ tblG) : Pst A Y pc lv (st) (pc + 2) lv (vi v :: st) := by
  refine ⟨fun n h1 h2 => ⟨h1, stO_c trivial h2⟩, fun ok H locs cells slots Q ls ρ a1 a2 hv kk => ?_⟩
  obtain ⟨p, l, e, R, s, m, args, below, meth, c, w, ρ0, n0, c0, z0⟩ := Y
  obtain ⟨hx, hb, hr, hml, hown, hts, hlk, hst, hwf, htb, hd1, hd2, hnm, hnw⟩ := ok
  exact lv_ldc hx hb hown (hts _ hw) hd (kk ls hv)
theorem p_ldcw {i : Nat} {v : Int32} (hd : decode (aC A) pc = .ok (.ldc_w i, 3)) (hw : Cond.constant (aOwn A) i v ∈ tblG) : Pst A Y pc lv (st) (pc + 3) lv (vi v :: st) := by
  refine ⟨fun n h1 h2 => ⟨h1, stO_c trivial h2⟩, fun ok H locs cells slots Q ls ρ a1 a2 hv kk => ?_⟩
  obtain ⟨p, l, e, R, s, m, args, below, meth, c, w, ρ0, n0, c0, z0⟩ := Y
  obtain ⟨hx, hb, hr, hml, hown, hts, hlk, hst, hwf, htb, hd1, hd2, hnm, hnw⟩ := ok
  exact lv_ldcw hx hb hown (hts _ hw) hd (kk ls hv)
theorem p_ldc2 {i : Nat} {v : Int64} (hd : decode (aC A) pc = .ok (.ldc2_w i, 3)) (hw : Cond.constantLong (aOwn A) i v ∈ tblG) : Pst A Y pc lv (st) (pc + 3) lv (vl v :: st) := by
  refine ⟨fun n h1 h2 => ⟨h1, stO_c trivial h2⟩, fun ok H locs cells slots Q ls ρ a1 a2 hv kk => ?_⟩
  obtain ⟨p, l, e, R, s, m, args, below, meth, c, w, ρ0, n0, c0, z0⟩ := Y
  obtain ⟨hx, hb, hr, hml, hown, hts, hlk, hst, hwf, htb, hd1, hd2, hnm, hnw⟩ := ok
  exact lv_ldc2 hx hb hown (hts _ hw) hd (kk ls hv)
theorem p_iload_n (j : Nat) {k : Fin 4} {x : Int32} (hd : decode (aC A) pc = .ok (.iload_n k, 1)) (hl : lv[j]? = some ((k : Nat), vi x)) : Pst A Y pc lv (st) (pc + 1) lv (vi x :: st) := by
  refine ⟨fun n h1 h2 => ⟨h1, stO_c trivial h2⟩, fun ok H locs cells slots Q ls ρ a1 a2 hv kk => ?_⟩
  obtain ⟨p, l, e, R, s, m, args, below, meth, c, w, ρ0, n0, c0, z0⟩ := Y
  obtain ⟨hx, hb, hr, hml, hown, hts, hlk, hst, hwf, htb, hd1, hd2, hnm, hnw⟩ := ok
  exact lv_iload_n hx hb hd rfl (lv_g hv hl) (kk ls hv)
theorem p_iload (j : Nat) {i : Nat} {x : Int32} (hd : decode (aC A) pc = .ok (.iload i, 2)) (hl : lv[j]? = some (i, vi x)) : Pst A Y pc lv (st) (pc + 2) lv (vi x :: st) := by
  refine ⟨fun n h1 h2 => ⟨h1, stO_c trivial h2⟩, fun ok H locs cells slots Q ls ρ a1 a2 hv kk => ?_⟩
  obtain ⟨p, l, e, R, s, m, args, below, meth, c, w, ρ0, n0, c0, z0⟩ := Y
  obtain ⟨hx, hb, hr, hml, hown, hts, hlk, hst, hwf, htb, hd1, hd2, hnm, hnw⟩ := ok
  exact lv_iload hx hb hd (lv_g hv hl) (kk ls hv)
theorem p_aload_n (j : Nat) {k : Fin 4} {a : Nat} (hd : decode (aC A) pc = .ok (.aload_n k, 1)) (hl : lv[j]? = some ((k : Nat), vr a)) : Pst A Y pc lv (st) (pc + 1) lv (vr a :: st) := by
  refine ⟨fun n h1 h2 => ⟨h1, stO_c (lvO_g h1 hl) h2⟩, fun ok H locs cells slots Q ls ρ a1 a2 hv kk => ?_⟩
  obtain ⟨p, l, e, R, s, m, args, below, meth, c, w, ρ0, n0, c0, z0⟩ := Y
  obtain ⟨hx, hb, hr, hml, hown, hts, hlk, hst, hwf, htb, hd1, hd2, hnm, hnw⟩ := ok
  exact lv_aload_n hx hb hd rfl (lv_g hv hl) (kk ls hv)
theorem p_aload (j : Nat) {i : Nat} {a : Nat} (hd : decode (aC A) pc = .ok (.aload i, 2)) (hl : lv[j]? = some (i, vr a)) : Pst A Y pc lv (st) (pc + 2) lv (vr a :: st) := by
  refine ⟨fun n h1 h2 => ⟨h1, stO_c (lvO_g h1 hl) h2⟩, fun ok H locs cells slots Q ls ρ a1 a2 hv kk => ?_⟩
  obtain ⟨p, l, e, R, s, m, args, below, meth, c, w, ρ0, n0, c0, z0⟩ := Y
  obtain ⟨hx, hb, hr, hml, hown, hts, hlk, hst, hwf, htb, hd1, hd2, hnm, hnw⟩ := ok
  exact lv_aload hx hb hd (lv_g hv hl) (kk ls hv)
theorem p_tload_n (j : Nat) {k : Fin 4} {a : Nat} (ha : a < 2000) (hd : decode (aC A) pc = .ok (.aload_n k, 1)) (hl : lv[j]? = some ((k : Nat), vt a)) : Pst A Y pc lv (st) (pc + 1) lv (vt a :: st) := by
  refine ⟨fun n h1 h2 => ⟨h1, stO_c trivial h2⟩, fun ok H locs cells slots Q ls ρ a1 a2 hv kk => ?_⟩
  obtain ⟨p, l, e, R, s, m, args, below, meth, c, w, ρ0, n0, c0, z0⟩ := Y
  obtain ⟨hx, hb, hr, hml, hown, hts, hlk, hst, hwf, htb, hd1, hd2, hnm, hnw⟩ := ok
  have hg := lv_g hv hl
  have ec : cV w ρ (vt a) = .ref (if a = 999 then wb w else if a < 999 then wK w a else wV w (a - 1000)) := if_neg (Nat.ne_of_lt ha)
  have kk2 := kk ls hv
  rw [show cS w ρ (vt a :: st) = cV w ρ (vt a) :: cS w ρ st from rfl, ec] at kk2
  rw [ec] at hg
  exact lv_aload_n hx hb hd rfl hg kk2
theorem p_qload_n (j : Nat) {k : Fin 4} {a : Option Nat} (hd : decode (aC A) pc = .ok (.aload_n k, 1)) (hl : lv[j]? = some ((k : Nat), vq a)) : Pst A Y pc lv st (pc + 1) lv (vq a :: st) := by
  cases a with
  | some r => exact p_aload_n j hd hl
  | none =>
    refine ⟨fun n h1 h2 => ⟨h1, stO_c trivial h2⟩, fun ok H locs cells slots Q ls ρ a1 a2 hv kk => ?_⟩
    obtain ⟨p, l, e, R, s, m, args, below, meth, c, w, ρ0, n0, c0, z0⟩ := Y
    obtain ⟨hx, hb, hr, hml, hown, hts, hlk, hst, hwf, htb, hd1, hd2, hnm, hnw⟩ := ok
    exact lv_aload_nN hx hb hd rfl (lv_g hv hl) (kk ls hv)
theorem p_istore_n {k : Fin 4} {x : Int32} (hd : decode (aC A) pc = .ok (.istore_n k, 1)) (hn : (k : Nat) < aN A) (hl : lvs (k : Nat) (vi x) lv = lv') : Pst A Y pc lv (vi x :: st) (pc + 1) lv' (st) := by
  refine ⟨fun n h1 h2 => by rw [← hl]; exact ⟨lvs_O h1 (stO_h h2), stO_t h2⟩, fun ok H locs cells slots Q ls ρ a1 a2 hv kk => ?_⟩
  obtain ⟨p, l, e, R, s, m, args, below, meth, c, w, ρ0, n0, c0, z0⟩ := Y
  obtain ⟨hx, hb, hr, hml, hown, hts, hlk, hst, hwf, htb, hd1, hd2, hnm, hnw⟩ := ok
  exact lv_istore_n hx hb hd rfl hv hn (lvs_c (w := w) (ρ := ρ) (v := vi x) (lv := lv)).symm (fun ls' h => kk ls' (hl ▸ h))
theorem p_istore {i : Nat} {x : Int32} (hd : decode (aC A) pc = .ok (.istore i, 2)) (hn : i < aN A) (hl : lvs i (vi x) lv = lv') : Pst A Y pc lv (vi x :: st) (pc + 2) lv' (st) := by
  refine ⟨fun n h1 h2 => by rw [← hl]; exact ⟨lvs_O h1 (stO_h h2), stO_t h2⟩, fun ok H locs cells slots Q ls ρ a1 a2 hv kk => ?_⟩
  obtain ⟨p, l, e, R, s, m, args, below, meth, c, w, ρ0, n0, c0, z0⟩ := Y
  obtain ⟨hx, hb, hr, hml, hown, hts, hlk, hst, hwf, htb, hd1, hd2, hnm, hnw⟩ := ok
  exact lv_istore hx hb hd hv hn (lvs_c (w := w) (ρ := ρ) (v := vi x) (lv := lv)).symm (fun ls' h => kk ls' (hl ▸ h))
theorem p_astore_n {k : Fin 4} {a : Nat} (hd : decode (aC A) pc = .ok (.astore_n k, 1)) (hn : (k : Nat) < aN A) (hl : lvs (k : Nat) (vr a) lv = lv') : Pst A Y pc lv (vr a :: st) (pc + 1) lv' (st) := by
  refine ⟨fun n h1 h2 => by rw [← hl]; exact ⟨lvs_O h1 (stO_h h2), stO_t h2⟩, fun ok H locs cells slots Q ls ρ a1 a2 hv kk => ?_⟩
  obtain ⟨p, l, e, R, s, m, args, below, meth, c, w, ρ0, n0, c0, z0⟩ := Y
  obtain ⟨hx, hb, hr, hml, hown, hts, hlk, hst, hwf, htb, hd1, hd2, hnm, hnw⟩ := ok
  exact lv_astore_n hx hb hd rfl hv hn (lvs_c (w := w) (ρ := ρ) (v := vr a) (lv := lv)).symm (fun ls' h => kk ls' (hl ▸ h))
theorem p_astore {i : Nat} {a : Nat} (hd : decode (aC A) pc = .ok (.astore i, 2)) (hn : i < aN A) (hl : lvs i (vr a) lv = lv') : Pst A Y pc lv (vr a :: st) (pc + 2) lv' (st) := by
  refine ⟨fun n h1 h2 => by rw [← hl]; exact ⟨lvs_O h1 (stO_h h2), stO_t h2⟩, fun ok H locs cells slots Q ls ρ a1 a2 hv kk => ?_⟩
  obtain ⟨p, l, e, R, s, m, args, below, meth, c, w, ρ0, n0, c0, z0⟩ := Y
  obtain ⟨hx, hb, hr, hml, hown, hts, hlk, hst, hwf, htb, hd1, hd2, hnm, hnw⟩ := ok
  exact lv_astore hx hb hd hv hn (lvs_c (w := w) (ρ := ρ) (v := vr a) (lv := lv)).symm (fun ls' h => kk ls' (hl ▸ h))
theorem p_iinc (j : Nat) {i : Nat} {n : Int} {x v : Int32} (hd : decode (aC A) pc = .ok (.iinc i n, 3)) (hj : lv[j]? = some (i, vi x)) (hv0 : x + Int32.ofInt n = v) (hn : i < aN A) (hl : lvs i (vi v) lv = lv') : Pst A Y pc lv st (pc + 3) lv' st := by
  refine ⟨fun n h1 h2 => by rw [← hl]; exact ⟨lvs_O h1 trivial, h2⟩, fun ok H locs cells slots Q ls ρ a1 a2 hv kk => ?_⟩
  obtain ⟨p, l, e, R, s, m, args, below, meth, c, w, ρ0, n0, c0, z0⟩ := Y
  obtain ⟨hx, hb, hr, hml, hown, hts, hlk, hst, hwf, htb, hd1, hd2, hnm, hnw⟩ := ok
  refine lv_iinc (k := j) hx hb hd hv ?_ hv0 hn (lvs_c (w := w) (ρ := ρ) (v := vi v) (lv := lv)).symm (fun ls' h => kk ls' (hl ▸ h))
  unfold cL
  rw [List.getElem?_map, hj]
  rfl
theorem p_dup {v : VV} (hc : vcat v = 1) (hd : decode (aC A) pc = .ok (.dup, 1)) : Pst A Y pc lv (v :: st) (pc + 1) lv (v :: v :: st) := by
  refine ⟨fun n h1 h2 => ⟨h1, stO_c (stO_h h2) h2⟩, fun ok H locs cells slots Q ls ρ a1 a2 hv kk => ?_⟩
  obtain ⟨p, l, e, R, s, m, args, below, meth, c, w, ρ0, n0, c0, z0⟩ := Y
  obtain ⟨hx, hb, hr, hml, hown, hts, hlk, hst, hwf, htb, hd1, hd2, hnm, hnw⟩ := ok
  exact lv_dup hx hb hd (by rw [cV_cat]; exact hc) (kk ls hv)
theorem p_pop {v : VV} (hc : vcat v = 1) (hd : decode (aC A) pc = .ok (.pop, 1)) : Pst A Y pc lv (v :: st) (pc + 1) lv (st) := by
  refine ⟨fun n h1 h2 => ⟨h1, stO_t h2⟩, fun ok H locs cells slots Q ls ρ a1 a2 hv kk => ?_⟩
  obtain ⟨p, l, e, R, s, m, args, below, meth, c, w, ρ0, n0, c0, z0⟩ := Y
  obtain ⟨hx, hb, hr, hml, hown, hts, hlk, hst, hwf, htb, hd1, hd2, hnm, hnw⟩ := ok
  exact lv_pop hx hb hd (by rw [cV_cat]; exact hc) (kk ls hv)
theorem p_dup2 {v u : VV} (hc : vcat v = 1) (hc2 : vcat u = 1) (hd : decode (aC A) pc = .ok (.dup2, 1)) : Pst A Y pc lv (v :: u :: st) (pc + 1) lv (v :: u :: v :: u :: st) := by
  refine ⟨fun n h1 h2 => ⟨h1, stO_c (stO_h h2) (stO_c (stO_h (stO_t h2)) h2)⟩, fun ok H locs cells slots Q ls ρ a1 a2 hv kk => ?_⟩
  obtain ⟨p, l, e, R, s, m, args, below, meth, c, w, ρ0, n0, c0, z0⟩ := Y
  obtain ⟨hx, hb, hr, hml, hown, hts, hlk, hst, hwf, htb, hd1, hd2, hnm, hnw⟩ := ok
  exact lv_dup2_11 hx hb hd (by rw [cV_cat]; exact hc) (by rw [cV_cat]; exact hc2) (kk ls hv)
theorem p_iadd {x y : Int32} (hd : decode (aC A) pc = .ok (.iadd, 1)) : Pst A Y pc lv (vi y :: vi x :: st) (pc + 1) lv (vi (x + y) :: st) := by
  refine ⟨fun n h1 h2 => ⟨h1, stO_c trivial (stO_t (stO_t h2))⟩, fun ok H locs cells slots Q ls ρ a1 a2 hv kk => ?_⟩
  obtain ⟨p, l, e, R, s, m, args, below, meth, c, w, ρ0, n0, c0, z0⟩ := Y
  obtain ⟨hx, hb, hr, hml, hown, hts, hlk, hst, hwf, htb, hd1, hd2, hnm, hnw⟩ := ok
  exact lv_iadd hx hb hd (kk ls hv)
theorem p_isub {x y : Int32} (hd : decode (aC A) pc = .ok (.isub, 1)) : Pst A Y pc lv (vi y :: vi x :: st) (pc + 1) lv (vi (x - y) :: st) := by
  refine ⟨fun n h1 h2 => ⟨h1, stO_c trivial (stO_t (stO_t h2))⟩, fun ok H locs cells slots Q ls ρ a1 a2 hv kk => ?_⟩
  obtain ⟨p, l, e, R, s, m, args, below, meth, c, w, ρ0, n0, c0, z0⟩ := Y
  obtain ⟨hx, hb, hr, hml, hown, hts, hlk, hst, hwf, htb, hd1, hd2, hnm, hnw⟩ := ok
  exact lv_isub hx hb hd (kk ls hv)
theorem p_imul {x y : Int32} (hd : decode (aC A) pc = .ok (.imul, 1)) : Pst A Y pc lv (vi y :: vi x :: st) (pc + 1) lv (vi (x * y) :: st) := by
  refine ⟨fun n h1 h2 => ⟨h1, stO_c trivial (stO_t (stO_t h2))⟩, fun ok H locs cells slots Q ls ρ a1 a2 hv kk => ?_⟩
  obtain ⟨p, l, e, R, s, m, args, below, meth, c, w, ρ0, n0, c0, z0⟩ := Y
  obtain ⟨hx, hb, hr, hml, hown, hts, hlk, hst, hwf, htb, hd1, hd2, hnm, hnw⟩ := ok
  exact lv_imul hx hb hd (kk ls hv)
theorem p_iand {x y : Int32} (hd : decode (aC A) pc = .ok (.iand, 1)) : Pst A Y pc lv (vi y :: vi x :: st) (pc + 1) lv (vi (x &&& y) :: st) := by
  refine ⟨fun n h1 h2 => ⟨h1, stO_c trivial (stO_t (stO_t h2))⟩, fun ok H locs cells slots Q ls ρ a1 a2 hv kk => ?_⟩
  obtain ⟨p, l, e, R, s, m, args, below, meth, c, w, ρ0, n0, c0, z0⟩ := Y
  obtain ⟨hx, hb, hr, hml, hown, hts, hlk, hst, hwf, htb, hd1, hd2, hnm, hnw⟩ := ok
  exact lv_iand hx hb hd (kk ls hv)
theorem p_ior {x y : Int32} (hd : decode (aC A) pc = .ok (.ior, 1)) : Pst A Y pc lv (vi y :: vi x :: st) (pc + 1) lv (vi (x ||| y) :: st) := by
  refine ⟨fun n h1 h2 => ⟨h1, stO_c trivial (stO_t (stO_t h2))⟩, fun ok H locs cells slots Q ls ρ a1 a2 hv kk => ?_⟩
  obtain ⟨p, l, e, R, s, m, args, below, meth, c, w, ρ0, n0, c0, z0⟩ := Y
  obtain ⟨hx, hb, hr, hml, hown, hts, hlk, hst, hwf, htb, hd1, hd2, hnm, hnw⟩ := ok
  exact lv_ior hx hb hd (kk ls hv)
theorem p_ixor {x y : Int32} (hd : decode (aC A) pc = .ok (.ixor, 1)) : Pst A Y pc lv (vi y :: vi x :: st) (pc + 1) lv (vi (x ^^^ y) :: st) := by
  refine ⟨fun n h1 h2 => ⟨h1, stO_c trivial (stO_t (stO_t h2))⟩, fun ok H locs cells slots Q ls ρ a1 a2 hv kk => ?_⟩
  obtain ⟨p, l, e, R, s, m, args, below, meth, c, w, ρ0, n0, c0, z0⟩ := Y
  obtain ⟨hx, hb, hr, hml, hown, hts, hlk, hst, hwf, htb, hd1, hd2, hnm, hnw⟩ := ok
  exact lv_ixor hx hb hd (kk ls hv)
theorem p_ishl {x y : Int32} (hd : decode (aC A) pc = .ok (.ishl, 1)) : Pst A Y pc lv (vi y :: vi x :: st) (pc + 1) lv (vi (x <<< (y &&& 31)) :: st) := by
  refine ⟨fun n h1 h2 => ⟨h1, stO_c trivial (stO_t (stO_t h2))⟩, fun ok H locs cells slots Q ls ρ a1 a2 hv kk => ?_⟩
  obtain ⟨p, l, e, R, s, m, args, below, meth, c, w, ρ0, n0, c0, z0⟩ := Y
  obtain ⟨hx, hb, hr, hml, hown, hts, hlk, hst, hwf, htb, hd1, hd2, hnm, hnw⟩ := ok
  exact lv_ishl hx hb hd (kk ls hv)
theorem p_ishr {x y : Int32} (hd : decode (aC A) pc = .ok (.ishr, 1)) : Pst A Y pc lv (vi y :: vi x :: st) (pc + 1) lv (vi (x >>> (y &&& 31)) :: st) := by
  refine ⟨fun n h1 h2 => ⟨h1, stO_c trivial (stO_t (stO_t h2))⟩, fun ok H locs cells slots Q ls ρ a1 a2 hv kk => ?_⟩
  obtain ⟨p, l, e, R, s, m, args, below, meth, c, w, ρ0, n0, c0, z0⟩ := Y
  obtain ⟨hx, hb, hr, hml, hown, hts, hlk, hst, hwf, htb, hd1, hd2, hnm, hnw⟩ := ok
  exact lv_ishr hx hb hd (kk ls hv)
theorem p_iushr {x y : Int32} (hd : decode (aC A) pc = .ok (.iushr, 1)) : Pst A Y pc lv (vi y :: vi x :: st) (pc + 1) lv (vi (iushr x y) :: st) := by
  refine ⟨fun n h1 h2 => ⟨h1, stO_c trivial (stO_t (stO_t h2))⟩, fun ok H locs cells slots Q ls ρ a1 a2 hv kk => ?_⟩
  obtain ⟨p, l, e, R, s, m, args, below, meth, c, w, ρ0, n0, c0, z0⟩ := Y
  obtain ⟨hx, hb, hr, hml, hown, hts, hlk, hst, hwf, htb, hd1, hd2, hnm, hnw⟩ := ok
  exact lv_iushr hx hb hd rfl (kk ls hv)
theorem p_idiv {x y : Int32} (hd : decode (aC A) pc = .ok (.idiv, 1)) (hne : ¬ y = 0) : Pst A Y pc lv (vi y :: vi x :: st) (pc + 1) lv (vi (x / y) :: st) := by
  refine ⟨fun n h1 h2 => ⟨h1, stO_c trivial (stO_t (stO_t h2))⟩, fun ok H locs cells slots Q ls ρ a1 a2 hv kk => ?_⟩
  obtain ⟨p, l, e, R, s, m, args, below, meth, c, w, ρ0, n0, c0, z0⟩ := Y
  obtain ⟨hx, hb, hr, hml, hown, hts, hlk, hst, hwf, htb, hd1, hd2, hnm, hnw⟩ := ok
  exact lv_idiv hx hb hd hne (kk ls hv)
theorem p_irem {x y : Int32} (hd : decode (aC A) pc = .ok (.irem, 1)) (hne : ¬ y = 0) : Pst A Y pc lv (vi y :: vi x :: st) (pc + 1) lv (vi (x - x / y * y) :: st) := by
  refine ⟨fun n h1 h2 => ⟨h1, stO_c trivial (stO_t (stO_t h2))⟩, fun ok H locs cells slots Q ls ρ a1 a2 hv kk => ?_⟩
  obtain ⟨p, l, e, R, s, m, args, below, meth, c, w, ρ0, n0, c0, z0⟩ := Y
  obtain ⟨hx, hb, hr, hml, hown, hts, hlk, hst, hwf, htb, hd1, hd2, hnm, hnw⟩ := ok
  exact lv_irem hx hb hd hne (kk ls hv)
theorem p_ineg {x : Int32} (hd : decode (aC A) pc = .ok (.ineg, 1)) : Pst A Y pc lv (vi x :: st) (pc + 1) lv (vi (-x) :: st) := by
  refine ⟨fun n h1 h2 => ⟨h1, stO_c trivial (stO_t h2)⟩, fun ok H locs cells slots Q ls ρ a1 a2 hv kk => ?_⟩
  obtain ⟨p, l, e, R, s, m, args, below, meth, c, w, ρ0, n0, c0, z0⟩ := Y
  obtain ⟨hx, hb, hr, hml, hown, hts, hlk, hst, hwf, htb, hd1, hd2, hnm, hnw⟩ := ok
  exact lv_ineg hx hb hd (kk ls hv)
theorem p_i2l {x : Int32} (hd : decode (aC A) pc = .ok (.i2l, 1)) : Pst A Y pc lv (vi x :: st) (pc + 1) lv (vl x.toInt64 :: st) := by
  refine ⟨fun n h1 h2 => ⟨h1, stO_c trivial (stO_t h2)⟩, fun ok H locs cells slots Q ls ρ a1 a2 hv kk => ?_⟩
  obtain ⟨p, l, e, R, s, m, args, below, meth, c, w, ρ0, n0, c0, z0⟩ := Y
  obtain ⟨hx, hb, hr, hml, hown, hts, hlk, hst, hwf, htb, hd1, hd2, hnm, hnw⟩ := ok
  exact lv_i2l hx hb hd rfl (kk ls hv)
theorem p_l2i {x : Int64} (hd : decode (aC A) pc = .ok (.l2i, 1)) : Pst A Y pc lv (vl x :: st) (pc + 1) lv (vi x.toInt32 :: st) := by
  refine ⟨fun n h1 h2 => ⟨h1, stO_c trivial (stO_t h2)⟩, fun ok H locs cells slots Q ls ρ a1 a2 hv kk => ?_⟩
  obtain ⟨p, l, e, R, s, m, args, below, meth, c, w, ρ0, n0, c0, z0⟩ := Y
  obtain ⟨hx, hb, hr, hml, hown, hts, hlk, hst, hwf, htb, hd1, hd2, hnm, hnw⟩ := ok
  exact lv_l2i hx hb hd rfl (kk ls hv)
theorem p_i2b {x : Int32} (hd : decode (aC A) pc = .ok (.i2b, 1)) : Pst A Y pc lv (vi x :: st) (pc + 1) lv (vi x.toInt8.toInt32 :: st) := by
  refine ⟨fun n h1 h2 => ⟨h1, stO_c trivial (stO_t h2)⟩, fun ok H locs cells slots Q ls ρ a1 a2 hv kk => ?_⟩
  obtain ⟨p, l, e, R, s, m, args, below, meth, c, w, ρ0, n0, c0, z0⟩ := Y
  obtain ⟨hx, hb, hr, hml, hown, hts, hlk, hst, hwf, htb, hd1, hd2, hnm, hnw⟩ := ok
  exact lv_i2b hx hb hd rfl (kk ls hv)
theorem p_lmul {x y : Int64} (hd : decode (aC A) pc = .ok (.lmul, 1)) : Pst A Y pc lv (vl y :: vl x :: st) (pc + 1) lv (vl (x * y) :: st) := by
  refine ⟨fun n h1 h2 => ⟨h1, stO_c trivial (stO_t (stO_t h2))⟩, fun ok H locs cells slots Q ls ρ a1 a2 hv kk => ?_⟩
  obtain ⟨p, l, e, R, s, m, args, below, meth, c, w, ρ0, n0, c0, z0⟩ := Y
  obtain ⟨hx, hb, hr, hml, hown, hts, hlk, hst, hwf, htb, hd1, hd2, hnm, hnw⟩ := ok
  exact lv_lmul hx hb hd (kk ls hv)
theorem p_ldiv {x y : Int64} (hd : decode (aC A) pc = .ok (.ldiv, 1)) (hne : ¬ y = 0) : Pst A Y pc lv (vl y :: vl x :: st) (pc + 1) lv (vl (x / y) :: st) := by
  refine ⟨fun n h1 h2 => ⟨h1, stO_c trivial (stO_t (stO_t h2))⟩, fun ok H locs cells slots Q ls ρ a1 a2 hv kk => ?_⟩
  obtain ⟨p, l, e, R, s, m, args, below, meth, c, w, ρ0, n0, c0, z0⟩ := Y
  obtain ⟨hx, hb, hr, hml, hown, hts, hlk, hst, hwf, htb, hd1, hd2, hnm, hnw⟩ := ok
  exact lv_ldiv hx hb hd hne (kk ls hv)
theorem p_lcmp {x y : Int64} (hd : decode (aC A) pc = .ok (.lcmp, 1)) : Pst A Y pc lv (vl y :: vl x :: st) (pc + 1) lv (vi (lg_cmp x y) :: st) := by
  refine ⟨fun n h1 h2 => ⟨h1, stO_c trivial (stO_t (stO_t h2))⟩, fun ok H locs cells slots Q ls ρ a1 a2 hv kk => ?_⟩
  obtain ⟨p, l, e, R, s, m, args, below, meth, c, w, ρ0, n0, c0, z0⟩ := Y
  obtain ⟨hx, hb, hr, hml, hown, hts, hlk, hst, hwf, htb, hd1, hd2, hnm, hnw⟩ := ok
  exact W.lcmp hx hb hd (kk ls hv)
theorem p_goto {off : Int} {tgt : Nat} (hd : decode (aC A) pc = .ok (.goto off, 3)) (ht : (pc : Int) + off = (tgt : Int)) : Pst A Y pc lv (st) (tgt) lv (st) := by
  refine ⟨fun n h1 h2 => ⟨h1, h2⟩, fun ok H locs cells slots Q ls ρ a1 a2 hv kk => ?_⟩
  obtain ⟨p, l, e, R, s, m, args, below, meth, c, w, ρ0, n0, c0, z0⟩ := Y
  obtain ⟨hx, hb, hr, hml, hown, hts, hlk, hst, hwf, htb, hd1, hd2, hnm, hnw⟩ := ok
  exact lv_goto hx hb hd ht (kk ls hv)
end RP
section RB
variable {A : StA} {Y : DyA} {pc : Nat} {lv : List (Nat × VV)} {st : List VV} {α β : Type} {k1 k2 : MM α} {K : α → MM β} {res : β → Option Value} {s : aS}
/-- a branch, by a row of the kit: both ways owe their own -/
theorem r_two {c : Prop} [d : Decidable c] {st0 : List VV} {t1 t2 : Nat} (hs0 : ∀ n, stO n st0 → stO n st) (hW : OkY A Y → ∀ (H : Heap) (locs : List Loc) (cells slots : Nat) (Q : State → Prop) (ls : Array Slot) (ρ : Nat → Nat), (c → WY Y H locs cells slots Q t1 ls (cS (yW Y) ρ st)) → (¬ c → WY Y H locs cells slots Q t2 ls (cS (yW Y) ρ st)) → WY Y H locs cells slots Q pc ls (cS (yW Y) ρ st0))
    (h1 : c → Rr A Y t1 lv st k1 K res s) (h2 : ¬ c → Rr A Y t2 lv st k2 K res s) : Rr A Y pc lv st0 (if c then k1 else k2) K res s := by
  intro o s' e
  by_cases hc : c
  · rw [if_pos hc] at e
    obtain ⟨g1, g2⟩ := h1 hc o s' e
    exact ⟨g1, fun ok rm hl hs H locs ls ρ hx hP hS hv => hW ok H locs _ _ _ ls ρ (fun _ => g2 ok rm hl (hs0 _ hs) H locs ls ρ hx hP hS hv) (fun q => absurd hc q)⟩
  · rw [if_neg hc] at e
    obtain ⟨g1, g2⟩ := h2 hc o s' e
    exact ⟨g1, fun ok rm hl hs H locs ls ρ hx hP hS hv => hW ok H locs _ _ _ ls ρ (fun q => absurd q hc) (fun _ => g2 ok rm hl (hs0 _ hs) H locs ls ρ hx hP hS hv)⟩
theorem r_ifeq {x : Int32} {off : Int} {tgt : Nat} (hd : decode (aC A) pc = .ok (.ifCond .eq off, 3)) (ht : (pc : Int) + off = (tgt : Int)) (h1 : x = 0 → Rr A Y tgt lv st k1 K res s) (h2 : ¬ (x = 0) → Rr A Y (pc + 3) lv st k2 K res s) : Rr A Y pc lv (vi x :: st) (if x = 0 then k1 else k2) K res s := by
  refine r_two (fun n h => stO_t h) (fun ok H locs cells slots Q ls ρ w1 w2 => ?_) h1 h2
  obtain ⟨p, l, e, R, s, m, args, below, meth, c, w, ρ0, n0, c0, z0⟩ := Y
  obtain ⟨hx, hb, hr, hml, hown, hts, hlk, hst, hwf, htb, hd1, hd2, hnm, hnw⟩ := ok
  exact lv_if_eq hx hb hd ht w1 w2
theorem r_icmpeq {x y : Int32} {off : Int} {tgt : Nat} (hd : decode (aC A) pc = .ok (.if_icmp .eq off, 3)) (ht : (pc : Int) + off = (tgt : Int)) (h1 : x = y → Rr A Y tgt lv st k1 K res s) (h2 : ¬ (x = y) → Rr A Y (pc + 3) lv st k2 K res s) : Rr A Y pc lv (vi y :: vi x :: st) (if x = y then k1 else k2) K res s := by
  refine r_two (fun n h => stO_t (stO_t h)) (fun ok H locs cells slots Q ls ρ w1 w2 => ?_) h1 h2
  obtain ⟨p, l, e, R, s, m, args, below, meth, c, w, ρ0, n0, c0, z0⟩ := Y
  obtain ⟨hx, hb, hr, hml, hown, hts, hlk, hst, hwf, htb, hd1, hd2, hnm, hnw⟩ := ok
  exact lv_icmp_eq hx hb hd ht w1 w2
theorem r_ifne {x : Int32} {off : Int} {tgt : Nat} (hd : decode (aC A) pc = .ok (.ifCond .ne off, 3)) (ht : (pc : Int) + off = (tgt : Int)) (h1 : x = 0 → Rr A Y (pc + 3) lv st k1 K res s) (h2 : ¬ x = 0 → Rr A Y tgt lv st k2 K res s) : Rr A Y pc lv (vi x :: st) (if x = 0 then k1 else k2) K res s := by
  refine r_two (fun n h => stO_t h) (fun ok H locs cells slots Q ls ρ w1 w2 => ?_) h1 h2
  obtain ⟨p, l, e, R, s, m, args, below, meth, c, w, ρ0, n0, c0, z0⟩ := Y
  obtain ⟨hx, hb, hr, hml, hown, hts, hlk, hst, hwf, htb, hd1, hd2, hnm, hnw⟩ := ok
  exact lv_if_ne hx hb hd ht w2 w1
theorem r_icmpne {x y : Int32} {off : Int} {tgt : Nat} (hd : decode (aC A) pc = .ok (.if_icmp .ne off, 3)) (ht : (pc : Int) + off = (tgt : Int)) (h1 : x = y → Rr A Y (pc + 3) lv st k1 K res s) (h2 : ¬ x = y → Rr A Y tgt lv st k2 K res s) : Rr A Y pc lv (vi y :: vi x :: st) (if x = y then k1 else k2) K res s := by
  refine r_two (fun n h => stO_t (stO_t h)) (fun ok H locs cells slots Q ls ρ w1 w2 => ?_) h1 h2
  obtain ⟨p, l, e, R, s, m, args, below, meth, c, w, ρ0, n0, c0, z0⟩ := Y
  obtain ⟨hx, hb, hr, hml, hown, hts, hlk, hst, hwf, htb, hd1, hd2, hnm, hnw⟩ := ok
  exact lv_icmp_ne hx hb hd ht w2 w1
theorem r_iflt {x : Int32} {off : Int} {tgt : Nat} (hd : decode (aC A) pc = .ok (.ifCond .lt off, 3)) (ht : (pc : Int) + off = (tgt : Int)) (h1 : x < 0 → Rr A Y tgt lv st k1 K res s) (h2 : ¬ (x < 0) → Rr A Y (pc + 3) lv st k2 K res s) : Rr A Y pc lv (vi x :: st) (if x < 0 then k1 else k2) K res s := by
  refine r_two (fun n h => stO_t h) (fun ok H locs cells slots Q ls ρ w1 w2 => ?_) h1 h2
  obtain ⟨p, l, e, R, s, m, args, below, meth, c, w, ρ0, n0, c0, z0⟩ := Y
  obtain ⟨hx, hb, hr, hml, hown, hts, hlk, hst, hwf, htb, hd1, hd2, hnm, hnw⟩ := ok
  exact lv_if_lt hx hb hd ht w1 w2
theorem r_icmplt {x y : Int32} {off : Int} {tgt : Nat} (hd : decode (aC A) pc = .ok (.if_icmp .lt off, 3)) (ht : (pc : Int) + off = (tgt : Int)) (h1 : x < y → Rr A Y tgt lv st k1 K res s) (h2 : ¬ (x < y) → Rr A Y (pc + 3) lv st k2 K res s) : Rr A Y pc lv (vi y :: vi x :: st) (if x < y then k1 else k2) K res s := by
  refine r_two (fun n h => stO_t (stO_t h)) (fun ok H locs cells slots Q ls ρ w1 w2 => ?_) h1 h2
  obtain ⟨p, l, e, R, s, m, args, below, meth, c, w, ρ0, n0, c0, z0⟩ := Y
  obtain ⟨hx, hb, hr, hml, hown, hts, hlk, hst, hwf, htb, hd1, hd2, hnm, hnw⟩ := ok
  exact lv_icmp_lt hx hb hd ht w1 w2
theorem r_ifge {x : Int32} {off : Int} {tgt : Nat} (hd : decode (aC A) pc = .ok (.ifCond .ge off, 3)) (ht : (pc : Int) + off = (tgt : Int)) (h1 : 0 ≤ x → Rr A Y tgt lv st k1 K res s) (h2 : ¬ (0 ≤ x) → Rr A Y (pc + 3) lv st k2 K res s) : Rr A Y pc lv (vi x :: st) (if 0 ≤ x then k1 else k2) K res s := by
  refine r_two (fun n h => stO_t h) (fun ok H locs cells slots Q ls ρ w1 w2 => ?_) h1 h2
  obtain ⟨p, l, e, R, s, m, args, below, meth, c, w, ρ0, n0, c0, z0⟩ := Y
  obtain ⟨hx, hb, hr, hml, hown, hts, hlk, hst, hwf, htb, hd1, hd2, hnm, hnw⟩ := ok
  exact lv_if_ge hx hb hd ht w1 w2
theorem r_icmpge {x y : Int32} {off : Int} {tgt : Nat} (hd : decode (aC A) pc = .ok (.if_icmp .ge off, 3)) (ht : (pc : Int) + off = (tgt : Int)) (h1 : y ≤ x → Rr A Y tgt lv st k1 K res s) (h2 : ¬ (y ≤ x) → Rr A Y (pc + 3) lv st k2 K res s) : Rr A Y pc lv (vi y :: vi x :: st) (if y ≤ x then k1 else k2) K res s := by
  refine r_two (fun n h => stO_t (stO_t h)) (fun ok H locs cells slots Q ls ρ w1 w2 => ?_) h1 h2
  obtain ⟨p, l, e, R, s, m, args, below, meth, c, w, ρ0, n0, c0, z0⟩ := Y
  obtain ⟨hx, hb, hr, hml, hown, hts, hlk, hst, hwf, htb, hd1, hd2, hnm, hnw⟩ := ok
  exact lv_icmp_ge hx hb hd ht w1 w2
theorem r_ifgt {x : Int32} {off : Int} {tgt : Nat} (hd : decode (aC A) pc = .ok (.ifCond .gt off, 3)) (ht : (pc : Int) + off = (tgt : Int)) (h1 : 0 < x → Rr A Y tgt lv st k1 K res s) (h2 : ¬ (0 < x) → Rr A Y (pc + 3) lv st k2 K res s) : Rr A Y pc lv (vi x :: st) (if 0 < x then k1 else k2) K res s := by
  refine r_two (fun n h => stO_t h) (fun ok H locs cells slots Q ls ρ w1 w2 => ?_) h1 h2
  obtain ⟨p, l, e, R, s, m, args, below, meth, c, w, ρ0, n0, c0, z0⟩ := Y
  obtain ⟨hx, hb, hr, hml, hown, hts, hlk, hst, hwf, htb, hd1, hd2, hnm, hnw⟩ := ok
  exact lv_if_gt hx hb hd ht w1 w2
theorem r_icmpgt {x y : Int32} {off : Int} {tgt : Nat} (hd : decode (aC A) pc = .ok (.if_icmp .gt off, 3)) (ht : (pc : Int) + off = (tgt : Int)) (h1 : y < x → Rr A Y tgt lv st k1 K res s) (h2 : ¬ (y < x) → Rr A Y (pc + 3) lv st k2 K res s) : Rr A Y pc lv (vi y :: vi x :: st) (if y < x then k1 else k2) K res s := by
  refine r_two (fun n h => stO_t (stO_t h)) (fun ok H locs cells slots Q ls ρ w1 w2 => ?_) h1 h2
  obtain ⟨p, l, e, R, s, m, args, below, meth, c, w, ρ0, n0, c0, z0⟩ := Y
  obtain ⟨hx, hb, hr, hml, hown, hts, hlk, hst, hwf, htb, hd1, hd2, hnm, hnw⟩ := ok
  exact lv_icmp_gt hx hb hd ht w1 w2
theorem r_ifle {x : Int32} {off : Int} {tgt : Nat} (hd : decode (aC A) pc = .ok (.ifCond .le off, 3)) (ht : (pc : Int) + off = (tgt : Int)) (h1 : x ≤ 0 → Rr A Y tgt lv st k1 K res s) (h2 : ¬ (x ≤ 0) → Rr A Y (pc + 3) lv st k2 K res s) : Rr A Y pc lv (vi x :: st) (if x ≤ 0 then k1 else k2) K res s := by
  refine r_two (fun n h => stO_t h) (fun ok H locs cells slots Q ls ρ w1 w2 => ?_) h1 h2
  obtain ⟨p, l, e, R, s, m, args, below, meth, c, w, ρ0, n0, c0, z0⟩ := Y
  obtain ⟨hx, hb, hr, hml, hown, hts, hlk, hst, hwf, htb, hd1, hd2, hnm, hnw⟩ := ok
  exact lv_if_le hx hb hd ht w1 w2
theorem r_icmple {x y : Int32} {off : Int} {tgt : Nat} (hd : decode (aC A) pc = .ok (.if_icmp .le off, 3)) (ht : (pc : Int) + off = (tgt : Int)) (h1 : x ≤ y → Rr A Y tgt lv st k1 K res s) (h2 : ¬ (x ≤ y) → Rr A Y (pc + 3) lv st k2 K res s) : Rr A Y pc lv (vi y :: vi x :: st) (if x ≤ y then k1 else k2) K res s := by
  refine r_two (fun n h => stO_t (stO_t h)) (fun ok H locs cells slots Q ls ρ w1 w2 => ?_) h1 h2
  obtain ⟨p, l, e, R, s, m, args, below, meth, c, w, ρ0, n0, c0, z0⟩ := Y
  obtain ⟨hx, hb, hr, hml, hown, hts, hlk, hst, hwf, htb, hd1, hd2, hnm, hnw⟩ := ok
  exact lv_icmp_le hx hb hd ht w1 w2
end RB
