/-! NEW CELLS, ENDS, THROWS, LOOPS, SWITCHES, A CONTRACT'S START -/
def NW (own : String) (idx ci N : Nat) (fs : List Value) : Prop := ∃ (C : String) (T : u_T) (ty : Nat → FieldType), vwCl[ci]? = some (C, T, N) ∧ (∀ k, k < N → parseFieldDescriptor (T k).2.2.1 = some (ty k)) ∧ Cond.classLink own idx C ∈ tblG ∧ Cond.instantiable C N ∈ tblG ∧ Cond.initialized C ∈ tblG ∧ (∀ j, j < N → defaultValue (ty j) = vp_V fs j) ∧ fs.all (fun v => match v with
  | .ref _ => false
  | _ => true) = true
theorem noref_map {ρ : Nat → Nat} {fs : List Value} (h : fs.all (fun v => match v with
  | .ref _ => false
  | _ => true) = true) : fs.map (cv ρ) = fs := by
  conv => rhs; rw [← List.map_id fs]
  apply List.map_congr_left
  intro v hv
  have := List.all_eq_true.mp h v hv
  cases v <;> first | rfl | cases this
theorem noref_ok {n ci : Nat} {fs : List Value} (h : fs.all (fun v => match v with
  | .ref _ => false
  | _ => true) = true) : rOk n (.inl (ci, fs)) := by
  intro v hv
  have := List.all_eq_true.mp h v hv
  cases v <;> first | exact trivial | cases this
def TH (own : String) (ik is ic : Nat) (e : Nat) (text : String) (i : Nat) : Prop := Bundle.fit (exN e) = true ∧ Cond.classLink own ik (exN e) ∈ tblG ∧ Cond.initialized (exN e) ∈ tblG ∧ (own, is, text, i) ∈ strT ∧ (∀ w ∈ vx_atS own ic (exN e) ["java/lang/RuntimeException", "java/lang/Exception"], w ∈ lw_tbl ∧ (goodWord w = true ∨ isNw w = true)) ∧ (∀ w ∈ Cond.classLink own ik (exN e) :: Cond.initialized (exN e) :: vx_atS own ic (exN e) ["java/lang/RuntimeException", "java/lang/Exception"], vx_ot w = true)
def lvA : Nat → List VV → List (Nat × VV)
  | _, [] => []
  | i, v :: vs => (i, v) :: lvA (if vcat v = 2 then i + 2 else i + 1) vs
theorem lvA_c {w : WT} {ρ : Nat → Nat} : ∀ (vs : List VV) (i : Nat), lv_args i (vs.map (cV w ρ)) = cL w ρ (lvA i vs)
  | [], _ => rfl
  | v :: vs, i => by
    show (i, cV w ρ v) :: lv_args (if (cV w ρ v).category = 2 then i + 2 else i + 1) (vs.map (cV w ρ)) = (i, cV w ρ v) :: cL w ρ (lvA (if vcat v = 2 then i + 2 else i + 1) vs)
    rw [cV_cat, lvA_c vs]
theorem lvA_O {n : Nat} : ∀ (vs : List VV) (i : Nat), (∀ v ∈ vs, vOk n v) → lvO n (lvA i vs)
  | [], _, _ => fun q hq => by cases hq
  | v :: vs, i, h => fun q hq => by
    rcases List.mem_cons.mp hq with e | e
    · rw [e]; exact h v List.mem_cons_self
    · exact lvA_O vs _ (fun z hz => h z (List.mem_cons_of_mem _ hz)) q e
theorem sl_le {w : WT} {ρ : Nat → Nat} {nL : Nat} {vs : List VV} (h : (vs.map vcat).sum ≤ nL) : (lg_sl (vs.map (cV w ρ))).length ≤ nL := by
  refine Nat.le_trans (Nat.le_of_eq ?_) h
  unfold lg_sl
  clear h
  induction vs with
  | nil => rfl
  | cons v vs ih =>
    rw [List.map_cons, List.flatMap_cons, List.length_append, ih, List.map_cons, List.sum_cons]
    congr 1
    rw [cV_cat]
    rcases lv_cat (cV w ρ v) with q | q <;> rw [cV_cat] at q <;> rw [q] <;> rfl
theorem ct_intro {β : Type} {A : StA} {args : List VV} {k : MM β} {res : β → Option Value} (hy : plainName (aY A).cls = true ∧ (aY A).cls = aOwn A) (hA0 : aH A = []) (hsz : (args.map vcat).sum ≤ aN A) (h : ∀ (Y : DyA) (s : aS), Rr A Y 0 (lvA 0 args) [] k mret res s) : Ct A args k res := by
  intro Y0 s s' o e
  have e' : mbnd k mret s = some (o, s') := by rw [mbnd_mret]; exact e
  refine ⟨(h Y0 s o s' e').1, fun l w ρ hl hargs => ?_⟩
  refine vx_ofW (cc := aC A) (maxL := aN A) (ret := aR A) (ws' := tblG) hy.1 (aW_of hA0) ?_
  intro p e9 s0 m as below meth c s₁ B hml htb hv
  obtain ⟨rfl, hPH, hWF⟩ := hv
  have hts : ∀ x ∈ aW A, x.before (args.map (cV w ρ)).toArray s0 = true := atoms_spec (ws := aW A) B.pre
  have hown : s0.vm.findClass (aOwn A) = some m.cls := by rw [← hy.2]; exact findClass_of_methodNamed B.named
  have hG := (h (p, l, e9, (headSpec (aW A) (rmOf (aD A) s s')).room, s0, m, (args.map (cV w ρ)).toArray, below, meth, c, w, ρ, s.2.1, s.2.2.1, s.2.2.2) s o s' e').2
    ⟨B.exec, B.bytes, B.returns, hml, hown, fun x hx => hts x (by rw [aW_of hA0]; exact List.mem_cons_of_mem _ hx), B.notSynchronized, hl, hWF, by rw [hA0]; exact List.eq_nil_iff_forall_not_mem.mpr (fun x hx => htb x hx), Nat.le_refl _, Nat.le_refl _, (name_of_methodNamed B.named B.method).1, fun x hx hn => va_Nw.use (nw_tab hn) (hWF.2.1 x hx hn)⟩
    ⟨Nat.le_refl _, Nat.le_refl _, Nat.le_refl _, Nat.le_refl _, Nat.le_refl _⟩ (lvA_O args 0 hargs) (fun v hv => by cases hv) s0.heap []
  rw [lg_entry_eq]
  have hl := lv_entry (args.map (cV w ρ)) (n := aN A) (sl_le hsz)
  rw [lvA_c] at hl
  have hG2 := hG _ ρ (fun k _ => rfl) hPH va_S.rf hl
  have z1 : s.2.2.1 - s.2.2.1 = 0 := Nat.sub_self _
  have z2 : s.2.2.2 - s.2.2.2 = 0 := Nat.sub_self _
  have hG3 : W p l e9 (headSpec (aW A) (rmOf (aD A) s s')).room s0 m (args.map (cV w ρ)).toArray below meth c s0.heap [] (s.2.2.1 - s.2.2.1) (s.2.2.2 - s.2.2.2) _ _ := hG2
  rw [z1, z2] at hG3
  exact hG3
theorem ct_onC {β : Type} {A : StA} {ci a : Nat} {args : List VV} {k : MM β} {res : β → Option Value} (h : Ct A args k res) : Ct A args (onC ci a k) res := fun Y s s' o e => h Y s s' o (onC_some e).2.2
section RE
variable {A : StA} {Y : DyA} {pc : Nat} {lv : List (Nat × VV)} {st : List VV} {α β σ ε : Type} {K : α → MM β} {res : β → Option Value} {s : aS} {f : Nat → MM α}
theorem r_nw {idx ci N : Nat} {fs : List Value} (hn : NW (aOwn A) idx ci N fs) (hd : decode (aC A) pc = .ok (.new idx, 3)) (g : ∀ a s1, Rr A Y (pc + 3) lv (vr a :: st) (f a) K res s1) : Rr A Y pc lv st (mbnd (nw ci N fs) f) K res s := by
  intro o s' e
  rw [mbnd_assoc] at e
  obtain ⟨g1, g2⟩ := g s.2.1 (push s (.inl (ci, fs)) N) o s' e
  obtain ⟨m1, m2, m3⟩ := id g1
  have m1 : s.2.1 + 1 ≤ s'.2.1 := m1
  have m2 : s.2.2.1 + 1 ≤ s'.2.2.1 := m2
  have m3 : s.2.2.2 + N ≤ s'.2.2.2 := m3
  refine ⟨⟨by omega, by omega, by omega⟩, fun ok rm hl hs H locs ls ρ hx hP hS hlv => ?_⟩
  obtain ⟨C, T, ty, hc, hty, hw1, hw2, hw3, hdf, hnr⟩ := hn
  obtain ⟨rm1, rm2, rm3, rm4, rm5⟩ := rm
  have gg := fun (q : Nat) (H1 : Heap) hP1 hS1 => g2 ok ⟨Nat.le_trans rm1 (Nat.le_succ _), Nat.le_trans rm2 (Nat.le_succ _), Nat.le_trans rm3 (Nat.le_add_right _ _), rm4, rm5⟩ (lvO_mono (Nat.le_succ _) hl) (stO_c (Nat.lt_succ_self s.2.1) (stO_mono (Nat.le_succ _) hs)) H1 locs ls (va_up ρ s.2.1 q) (ext_trans rm1 hx (fun k hk => va_up_ne ρ q (Nat.ne_of_lt hk))) hP1 hS1 (by rw [cL_congr (n := s.2.1) (fun k hk => va_up_ne ρ q (Nat.ne_of_lt hk)) hl]; exact hlv)
  obtain ⟨p, l, e, R, s0, m, args, below, meth, c, w, ρ0, n0, c0, z0⟩ := Y
  obtain ⟨hx9, hb, hr, hml, hown, hts, hlk, hst, hwf, htb, hd1, hd2, hnm, hnw⟩ := ok
  have rm2' : c0 ≤ s.2.2.1 := rm2
  have rm3' : z0 ≤ s.2.2.2 := rm3
  have rm4' : s'.2.2.1 - c0 ≤ R.cells := rm4
  have rm5' : s'.2.2.2 - z0 ≤ R.slots := rm5
  refine va_new hx9 hb hts (cl_in hc) ty hty hown (hts _ hw1) (hts _ hw2) (hts _ hw3) hwf.1 hP.1 hP.2.1 hS (fun q hq => ?_) hc hdf ?_ ?_ hd (fun q H1 q1 q2 q3 => ?_)
  · exact Nat.le_trans hwf.2.2.2.2.2.2.1 hq
  · show s.2.2.1 - c0 + 1 ≤ R.cells; omega
  · show s.2.2.2 - z0 + N ≤ R.slots; omega
  · have e1 : (push s (.inl (ci, fs)) N).2.2.1 - c0 = s.2.2.1 - c0 + 1 := by show s.2.2.1 + 1 - c0 = _; omega
    have e2 : (push s (.inl (ci, fs)) N).2.2.2 - z0 = s.2.2.2 - z0 + N := by show s.2.2.2 + N - z0 = _; omega
    have hq := gg q H1 (PH_push (e := .inl (ci, fs)) (by show va_P _ _ (_ ++ [(q, .inr (ci, fs.map (cv ρ)))]) _; rw [noref_map hnr]; exact q1) (by show va_D _ (_ ++ [(q, .inr (ci, fs.map (cv ρ)))]); rw [noref_map hnr]; exact q2) hP.2.2 (noref_ok hnr)) q3
    have hq2 : W p l e R s0 m args below meth c H1 locs ((push s (.inl (ci, fs)) N).2.2.1 - c0) ((push s (.inl (ci, fs)) N).2.2.2 - z0) _ (F0 m (pc + 3) ls (cv (va_up ρ s.2.1 q) (.ref s.2.1) :: cS w (va_up ρ s.2.1 q) st)) := hq
    rw [e1, e2, cS_congr (n := s.2.1) (fun k hk => va_up_ne ρ q (Nat.ne_of_lt hk)) hs, show cv (va_up ρ s.2.1 q) (.ref s.2.1) = .ref q from by show Value.ref _ = _; rw [va_up_self]] at hq2
    exact hq2
theorem r_vret {x : α} {y9 : β} (hK : K x = mret y9) (hr : res y9 = none) (hR : aR A = none) (hd : decode (aC A) pc = .ok (.return_, 1)) : Rr A Y pc lv [] (mret x) K res s := by
  intro o s' e
  have e : K x s = some (o, s') := e
  rw [hK] at e
  cases e
  refine ⟨mono_rf s, fun ok rm hl hs H locs ls ρ hx hP hS hlv => ?_⟩
  obtain ⟨p, l, e, R, s0, m, args, below, meth, c, w, ρ0, n0, c0, z0⟩ := Y
  obtain ⟨hx9, hb, hr9, hml, hown, hts, hlk, hst, hwf, htb, hd1, hd2, hnm, hnw⟩ := ok
  refine vx_ret (W.vret hx9 hb (hr9.trans hR) (fun t ht hW => ⟨⟨_, ρ, rfl, hx, fun z hz => (by rw [hr] at hz; cases hz), by rw [hr]; rfl, by rw [ht]; exact hP⟩, hS.F ht⟩) (fun q hq => hS.2.2 q hq) hd hlk)
theorem r_iret {x : α} {y9 : β} {v : Int32} (hK : K x = mret y9) (hr : res y9 = some (.int v)) (ty : FieldType) (hR : aR A = some ty) (hnar : narrow ty (.int v) = .int v) (hd : decode (aC A) pc = .ok (.ireturn, 1)) : Rr A Y pc lv [vi v] (mret x) K res s := by
  intro o s' e
  have e : K x s = some (o, s') := e
  rw [hK] at e
  cases e
  refine ⟨mono_rf s, fun ok rm hl hs H locs ls ρ hx hP hS hlv => ?_⟩
  obtain ⟨p, l, e, R, s0, m, args, below, meth, c, w, ρ0, n0, c0, z0⟩ := Y
  obtain ⟨hx9, hb, hr9, hml, hown, hts, hlk, hst, hwf, htb, hd1, hd2, hnm, hnw⟩ := ok
  refine vx_ret (W.zret hx9 hb (hr9.trans hR) hnar (fun t ht hW => ⟨⟨_, ρ, rfl, hx, fun z hz => by rw [hr] at hz; cases hz; exact trivial, by rw [hr]; rfl, by rw [ht]; exact hP⟩, hS.F ht⟩) (fun q hq => hS.2.2 q hq) hd hlk)
theorem r_aret {x : α} {y9 : β} {a : Nat} (hK : K x = mret y9) (hr : res y9 = some (.ref a)) (rt : FieldType) (hR : aR A = some rt) (hrt : (∃ n, rt = .object n) ∨ ∃ t, rt = .array t) (hd : decode (aC A) pc = .ok (.areturn, 1)) : Rr A Y pc lv [vr a] (mret x) K res s := by
  intro o s' e
  have e : K x s = some (o, s') := e
  rw [hK] at e
  cases e
  refine ⟨mono_rf s, fun ok rm hl hs H locs ls ρ hx hP hS hlv => ?_⟩
  have ha : vOk s.2.1 (vr a) := stO_h hs
  obtain ⟨p, l, e, R, s0, m, args, below, meth, c, w, ρ0, n0, c0, z0⟩ := Y
  obtain ⟨hx9, hb, hr9, hml, hown, hts, hlk, hst, hwf, htb, hd1, hd2, hnm, hnw⟩ := ok
  refine vx_ret (W.aret hx9 hb (hr9.trans hR) hrt (Or.inr ⟨ρ a, rfl⟩) (fun t ht hW => ⟨⟨_, ρ, rfl, hx, fun z hz => by rw [hr] at hz; cases hz; exact ha, by rw [hr]; rfl, by rw [ht]; exact hP⟩, hS.F ht⟩) (fun q hq => hS.2.2 q hq) hd hlk)
theorem r_thr {ik is ic ex i : Nat} {text : String} (ht : TH (aOwn A) ik is ic ex text i) (hA0 : aH A = []) (hdp : 6 ≤ aD A) (hcat : (st.map vcat).sum ≤ 8) (d0 : decode (aC A) pc = .ok (.new ik, 3)) (d3 : decode (aC A) (pc + 3) = .ok (.dup, 1)) (d4 : decode (aC A) (pc + 4) = .ok (.ldc is, 2)) (d6 : decode (aC A) (pc + 6) = .ok (.invokespecial ic, 3)) (d9 : decode (aC A) (pc + 9) = .ok (.athrow, 1)) : Rr A Y pc lv st (mthr ex) K res s := by
  intro o s' e
  cases e
  refine ⟨⟨Nat.le_refl _, Nat.le_succ _, Nat.le_add_right _ _⟩, fun ok rm hl hs H locs ls ρ hx hP hS hlv => ?_⟩
  obtain ⟨t1, t2, t3, t4, t5, t6⟩ := ht
  obtain ⟨rm1, rm2, rm3, rm4, rm5⟩ := rm
  obtain ⟨p, l, e, R, s0, m, args, below, meth, c, w, ρ0, n0, c0, z0⟩ := Y
  obtain ⟨hx9, hb, hr9, hml, hown, hts, hlk, hst, hwf, htb, hd1, hd2, hnm, hnw⟩ := ok
  have rm2' : c0 ≤ s.2.2.1 := rm2
  have rm3' : z0 ≤ s.2.2.2 := rm3
  have rm4' : s.2.2.1 + 1 - c0 ≤ R.cells := rm4
  have rm5' : s.2.2.2 + 6 - z0 ≤ R.slots := rm5
  have hc8 := cat_le (w := w) (ρ := ρ) hcat
  refine vx_throwS (text := text) (names := ["java/lang/RuntimeException", "java/lang/Exception"]) (cls := exN ex) (sa := wK w i) (A := wA w) (is := is) (ik := ik) (ic := ic) hx9 hb hst hown t1 (by decide) (hts _ t2) (hts _ t3) (hwf.2.2.2.2.2.2.2.1 _ t4) (fun x hx => ?_) t6 hwf.2.2.1 hwf.2.2.2.1 hS (hlv.1.trans hml.symm) d0 d3 d4 d6 d9 (fun x hx => ?_) ?_ ?_ ?_ ?_ hlk (fun t hal hz hk => ⟨⟨ex, ρ, rfl, rfl, hx, ?_⟩, ?_⟩) (fun z hz => hS.2.2 z hz) ?_ ?_
  · obtain ⟨h1, h2 | h2⟩ := t5 x hx
    · exact hts _ (List.mem_filter.mpr ⟨List.mem_append_left _ h1, h2⟩)
    · exact hnw _ h1 h2
  · rw [htb, hA0] at hx
    cases hx
  · show 2 + 3 < R.frames; omega
  · refine Nat.le_trans (Nat.add_le_add_right hc8 _) ?_
    show 8 + (13 * (2 + 1) + 43) ≤ R.locals
    omega
  · show s.2.2.1 - c0 + 1 ≤ R.cells; omega
  · show s.2.2.2 - z0 + 6 ≤ R.slots; omega
  · exact ⟨hP.1.kept (fun k q hq => hk _ ((hP.1 k q hq).lt)), hP.2.1, hP.2.2⟩
  · exact ⟨Nat.le_trans hS.1 hz, fun q h1 h2 => by rw [hk q (Nat.lt_of_lt_of_le h1 hS.1)]; exact hS.2.1 q h1 h2⟩
  · show s.2.2.1 - c0 + 1 ≤ s.2.2.1 + 1 - c0; omega
  · show s.2.2.2 - z0 + 6 ≤ s.2.2.2 + 6 - z0; omega
theorem r_thrw {ik is ic ex i : Nat} {text : String} (ht : TH (aOwn A) ik is ic ex text i) (hA0 : aH A = []) (hdp : 6 ≤ aD A) (hcat : (st.map vcat).sum ≤ 8) (d0 : decode (aC A) pc = .ok (.new ik, 3)) (d3 : decode (aC A) (pc + 3) = .ok (.dup, 1)) (d4 : decode (aC A) (pc + 4) = .ok (.ldc_w is, 3)) (d6 : decode (aC A) (pc + 7) = .ok (.invokespecial ic, 3)) (d9 : decode (aC A) (pc + 10) = .ok (.athrow, 1)) : Rr A Y pc lv st (mthr ex) K res s := by
  intro o s' e
  cases e
  refine ⟨⟨Nat.le_refl _, Nat.le_succ _, Nat.le_add_right _ _⟩, fun ok rm hl hs H locs ls ρ hx hP hS hlv => ?_⟩
  obtain ⟨t1, t2, t3, t4, t5, t6⟩ := ht
  obtain ⟨rm1, rm2, rm3, rm4, rm5⟩ := rm
  obtain ⟨p, l, e, R, s0, m, args, below, meth, c, w, ρ0, n0, c0, z0⟩ := Y
  obtain ⟨hx9, hb, hr9, hml, hown, hts, hlk, hst, hwf, htb, hd1, hd2, hnm, hnw⟩ := ok
  have rm2' : c0 ≤ s.2.2.1 := rm2
  have rm3' : z0 ≤ s.2.2.2 := rm3
  have rm4' : s.2.2.1 + 1 - c0 ≤ R.cells := rm4
  have rm5' : s.2.2.2 + 6 - z0 ≤ R.slots := rm5
  have hc8 := cat_le (w := w) (ρ := ρ) hcat
  refine vx_throwSW (text := text) (names := ["java/lang/RuntimeException", "java/lang/Exception"]) (cls := exN ex) (sa := wK w i) (A := wA w) (is := is) (ik := ik) (ic := ic) hx9 hb hst hown t1 (by decide) (hts _ t2) (hts _ t3) (hwf.2.2.2.2.2.2.2.1 _ t4) (fun x hx => ?_) t6 hwf.2.2.1 hwf.2.2.2.1 hS (hlv.1.trans hml.symm) d0 d3 d4 d6 d9 (fun x hx => ?_) ?_ ?_ ?_ ?_ hlk (fun t hal hz hk => ⟨⟨ex, ρ, rfl, rfl, hx, ?_⟩, ?_⟩) (fun z hz => hS.2.2 z hz) ?_ ?_
  · obtain ⟨h1, h2 | h2⟩ := t5 x hx
    · exact hts _ (List.mem_filter.mpr ⟨List.mem_append_left _ h1, h2⟩)
    · exact hnw _ h1 h2
  · rw [htb, hA0] at hx
    cases hx
  · show 2 + 3 < R.frames; omega
  · refine Nat.le_trans (Nat.add_le_add_right hc8 _) ?_
    show 8 + (13 * (2 + 1) + 43) ≤ R.locals
    omega
  · show s.2.2.1 - c0 + 1 ≤ R.cells; omega
  · show s.2.2.2 - z0 + 6 ≤ R.slots; omega
  · exact ⟨hP.1.kept (fun k q hq => hk _ ((hP.1 k q hq).lt)), hP.2.1, hP.2.2⟩
  · exact ⟨Nat.le_trans hS.1 hz, fun q h1 h2 => by rw [hk q (Nat.lt_of_lt_of_le h1 hS.1)]; exact hS.2.1 q h1 h2⟩
  · show s.2.2.1 - c0 + 1 ≤ s.2.2.1 + 1 - c0; omega
  · show s.2.2.2 - z0 + 6 ≤ s.2.2.2 + 6 - z0; omega
/-- a loop: whatever stands for it on the way back, the body goes on to it, or ends -/
theorem r_loop {b : σ → MM (σ ⊕ ε)} {k : ε → MM α} {mkl : σ → List (Nat × VV)} {mks : σ → List VV} (h : ∀ (L : σ → MM ε), (∀ x s, Rr A Y pc (mkl x) (mks x) (mbnd (L x) k) K res s) → ∀ x s, Rr A Y pc (mkl x) (mks x) (b x) (fun r => match r with
    | .inl y => mbnd (mbnd (L y) k) K
    | .inr e => mbnd (k e) K) res s) (x : σ) (s : aS) : Rr A Y pc (mkl x) (mks x) (mbnd (loopM b x) k) K res s := by
  have key : ∀ n x s, Rr A Y pc (mkl x) (mks x) (mbnd (loopN b n x) k) K res s := by
    intro n
    induction n with
    | zero => intro x s o s' e; cases e
    | succ n ih =>
      intro x s o s' e
      refine h (loopN b n) ih x s o s' ?_
      rw [← e]
      show _ = mbnd (mbnd (mbnd (b x) _) k) K s
      rw [mbnd_assoc, mbnd_assoc]
      congr 1
      congr 1
      funext r
      cases r with
      | inl y => exact mbnd_assoc _ _ _
      | inr e => rfl
  intro o s' e
  rw [mbnd_assoc] at e
  rcases mbnd_some e with ⟨v, s1, h1, h2⟩ | ⟨ex, h1, h2⟩
  · obtain ⟨n, hn⟩ := loopM_some h1
    refine key n x s o s' ?_
    rw [mbnd_assoc]
    unfold mbnd
    rw [hn]
    exact h2
  · obtain ⟨n, hn⟩ := loopM_some h1
    refine key n x s o s' ?_
    rw [mbnd_assoc]
    unfold mbnd
    rw [hn, h2]
/-- what stands for a loop, met again -/
theorem r_again {L : MM α} {k : α → MM β} (g : Rr A Y pc lv st L k res s) : Rr A Y pc lv st (mbnd L k) mret res s := r_bnd (by
  have : (fun x => mbnd (k x) mret) = k := funext fun x => mbnd_mret (k x)
  rw [this]
  exact g)
theorem r_tsin {lo hi : Int} {offs : Array Int} {dflt off : Int} {len : Nat} {x : Int32} {tgt : Nat} {k : MM α} (hd : decode (aC A) pc = .ok (.tableswitch dflt lo hi offs, len)) (h1 : ¬ x.toInt < lo) (h2 : ¬ hi < x.toInt) (ho : offs[(x.toInt - lo).toNat]? = some off) (ht : (pc : Int) + off = (tgt : Int)) (g : Rr A Y tgt lv st k K res s) : Rr A Y pc lv (vi x :: st) k K res s := by
  refine r_p ⟨fun n h1 h2 => ⟨h1, stO_t h2⟩, fun ok H locs cells slots Q ls ρ a1 a2 hv kk => ?_⟩ g
  obtain ⟨p, l, e, R, s, m, args, below, meth, c, w, ρ0, n0, c0, z0⟩ := Y
  obtain ⟨hx, hb, hr, hml, hown, hts, hlk, hst, hwf, htb, hd1, hd2, hnm, hnw⟩ := ok
  exact lv_tableIn hx hb hd h1 h2 ho ht (kk ls hv)
theorem r_tsout {lo hi : Int} {offs : Array Int} {dflt : Int} {len : Nat} {x : Int32} {tgt : Nat} {k : MM α} (hd : decode (aC A) pc = .ok (.tableswitch dflt lo hi offs, len)) (h : x.toInt < lo ∨ hi < x.toInt) (ht : (pc : Int) + dflt = (tgt : Int)) (g : Rr A Y tgt lv st k K res s) : Rr A Y pc lv (vi x :: st) k K res s := by
  refine r_p ⟨fun n h1 h2 => ⟨h1, stO_t h2⟩, fun ok H locs cells slots Q ls ρ a1 a2 hv kk => ?_⟩ g
  obtain ⟨p, l, e, R, s, m, args, below, meth, c, w, ρ0, n0, c0, z0⟩ := Y
  obtain ⟨hx, hb, hr, hml, hown, hts, hlk, hst, hwf, htb, hd1, hd2, hnm, hnw⟩ := ok
  exact lv_tableOut hx hb hd h ht (kk ls hv)
end RE
