/-! MORE ROWS: the other calls, new cells, ends, throws, loops, and a contract's start -/
theorem ct_nox {β : Type} {A : StA} {args : List VV} {k : MM β} {res : β → Option Value} (h : Ct A args k res) : Ct A args (nox k) res := fun Y s s' o e => h Y s s' o (nox_some e).1
def MI (own : String) (idx : Nat) (B : StA) (np : Nat) : Prop := Cond.methodLink own idx (aY B) ∈ tblG ∧ Cond.instanceMethod (aY B) ∈ tblG ∧ Cond.initialized (aY B).cls ∈ tblG ∧ Cond.code (aY B) (aC B) (aN B) (aR B) ∈ tblG ∧ aH B = [] ∧ ((aY B).cls ≠ "java/lang/invoke/MethodHandle" ∧ (aY B).cls ≠ "java/lang/invoke/VarHandle") ∧ (parseMethodDescriptor (aY B).desc).map (fun d => d.parameters.length) = some np ∧ aN B ≤ 45 ∧ aR B = none ∧ (aY B).name = "<init>"
def MIN (own : String) (idx : Nat) (host : String) (B : StA) (np : Nat) : Prop := Cond.methodLinkNest own idx (aY B) host ∈ lw_tbl ∧ Cond.instanceMethod (aY B) ∈ tblG ∧ Cond.initialized (aY B).cls ∈ tblG ∧ Cond.code (aY B) (aC B) (aN B) (aR B) ∈ tblG ∧ aH B = [] ∧ ((aY B).cls ≠ "java/lang/invoke/MethodHandle" ∧ (aY B).cls ≠ "java/lang/invoke/VarHandle") ∧ (parseMethodDescriptor (aY B).desc).map (fun d => d.parameters.length) = some np ∧ aN B ≤ 45 ∧ aR B = none ∧ (aY B).name = "<init>"
def MSN (own : String) (idx : Nat) (host : String) (B : StA) (np : Nat) : Prop := Cond.methodLinkNest own idx (aY B) host ∈ lw_tbl ∧ Cond.static (aY B) ∈ tblG ∧ Cond.initialized (aY B).cls ∈ tblG ∧ Cond.code (aY B) (aC B) (aN B) (aR B) ∈ tblG ∧ aH B = [] ∧ ((aY B).cls ≠ "java/lang/invoke/MethodHandle" ∧ (aY B).cls ≠ "java/lang/invoke/VarHandle") ∧ (parseMethodDescriptor (aY B).desc).map (fun d => d.parameters.length) = some np ∧ aN B ≤ 45
/-- a virtual call of x that is y's (of the class named owner) for a receiver of class C -/
def MU (own : String) (idx : Nat) (C owner : String) (x : MethodName) (B : StA) (np : Nat) : Prop := Cond.methodLink own idx x ∈ tblG ∧ Cond.instanceMethod (aY B) ∈ tblG ∧ Cond.selects C x (aY B) ∈ tblG ∧ Cond.sameMethod x.cls owner x.name x.desc ∈ tblG ∧ Cond.initialized (aY B).cls ∈ tblG ∧ Cond.code (aY B) (aC B) (aN B) (aR B) ∈ tblG ∧ aH B = [] ∧ (owner ≠ "java/lang/invoke/MethodHandle" ∧ owner ≠ "java/lang/invoke/VarHandle") ∧ (parseMethodDescriptor x.desc).map (fun d => d.parameters.length) = some np ∧ aN B ≤ 45 ∧ (aY B = ⟨owner, x.name, x.desc⟩ ∨ Cond.declares ⟨owner, x.name, x.desc⟩ ∈ lw_tbl)
section RD
variable {A B : StA} {Y : DyA} {pc : Nat} {lv : List (Nat × VV)} {st st0 : List VV} {α β γ : Type} {K : α → MM β} {res : β → Option Value} {s : aS} {f : γ → MM α}
theorem r_callS {np : Nat} {as : List VV} {kB : MM γ} {resB : γ → Option Value} {idx : Nat} (hw : MS (aOwn A) idx B np) (hct : Ct B as kB resB) (hn : as.length = np) (hst : st0 = as.reverse ++ st) (hd : decode (aC A) pc = .ok (.invokestatic idx, 3)) (hA0 : aH A = []) (hdp : aD B + 1 ≤ aD A) (hcat : (st.map vcat).sum ≤ 8)
    (g : ∀ v s1, Rr A Y (pc + 3) lv ((resB v).toList.map Sum.inl ++ st) (f v) K res s1) : Rr A Y pc lv st0 (mbnd kB f) K res s := by
  subst hst
  have hso : ∀ n, stO n (as.reverse ++ st) → stO n st ∧ ∀ v ∈ as, vOk n v := fun n h => ⟨fun v hv => h v (List.mem_append_right _ hv), fun v q => h v (List.mem_append_left _ (List.mem_reverse.mpr q))⟩
  refine r_call0 hA0 hct hso (fun oB s1 s' h1 m1 m2 ok rm H locs ls ρ hP hS hlv hM => ?_) g
  obtain ⟨w1, w3, w4, w5, w6, w7, w8, w9⟩ := hw
  have hct2 := fun (U : State) hU hW => cut_ok (U := U) (args := as) ok hP hS hU hW
  obtain ⟨p, l, e, R, s0, m, args, below, meth, c, w, ρ0, n0, c0, z0⟩ := Y
  obtain ⟨hx, hb, hr, hml, hown, hts, hlk, hst, hwf, htb, hd1, hd2, hnm, hnw⟩ := ok
  obtain ⟨rm1, rm2, rm3, rm4, rm5⟩ := rm
  obtain ⟨m11, m12, m13⟩ := m1
  obtain ⟨m21, m22, m23⟩ := m2
  refine vx_runS (As := as.map (cV w ρ)) (n := np) ⟨hx, hb, hml, hown, hts⟩ hM ⟨⟨rfl, rfl, ?_, ?_, pay_in hts (aW_good w6 w5), ?_, hts _ w5, hts _ w4, w7, fun sig h => ?_, hts _ w1⟩, hts _ w3⟩ ⟨Pct_blind, hct2⟩ rfl (by rw [List.length_map]; exact hn) hlv.1 ?_ ?_ hd ⟨?_, ?_⟩
  · show aD B + 1 ≤ R.frames; omega
  · show 8 + (aN B + 11) + 64 * aD B ≤ R.locals; omega
  · rw [aW_of w6]; exact List.mem_cons_self
  · rw [h] at w8; exact (Option.some.inj w8).symm
  · show cS w ρ (as.reverse ++ st) = _
    unfold cS
    rw [List.map_append, List.map_reverse]
  · exact lv_room (cat_le hcat)
  · show s.2.2.1 - c0 + (s1.2.2.1 - s.2.2.1) ≤ R.cells
    have : s'.2.2.1 - c0 ≤ R.cells := rm4
    have : c0 ≤ s.2.2.1 := rm2
    omega
  · show s.2.2.2 - z0 + (s1.2.2.2 - s.2.2.2) ≤ R.slots
    have : s'.2.2.2 - z0 ≤ R.slots := rm5
    have : z0 ≤ s.2.2.2 := rm3
    omega
theorem nox_ex {k : MM γ} {w : WT} {n : Nat} {ρ : Nat → Nat} {o : γ ⊕ Nat} {s s1 : aS} (h : nox k s = some (o, s1)) : ∀ E st t, ¬ Qex w n ρ o s1 E st t := by
  obtain ⟨-, v, rfl⟩ := nox_some h
  intro E st t q
  obtain ⟨⟨e, ρ', he, -⟩, -⟩ := q
  cases he
theorem r_callSN {np : Nat} {as : List VV} {kB : MM γ} {resB : γ → Option Value} {idx : Nat} {host : String} (hw : MSN (aOwn A) idx host B np) (hct : Ct B as kB resB) (hn : as.length = np) (hst : st0 = as.reverse ++ st) (hd : decode (aC A) pc = .ok (.invokestatic idx, 3)) (hA0 : aH A = []) (hdp : aD B + 1 ≤ aD A) (hcat : (st.map vcat).sum ≤ 8)
    (g : ∀ v s1, Rr A Y (pc + 3) lv ((resB v).toList.map Sum.inl ++ st) (f v) K res s1) : Rr A Y pc lv st0 (mbnd (nox kB) f) K res s := by
  subst hst
  have hso : ∀ n, stO n (as.reverse ++ st) → stO n st ∧ ∀ v ∈ as, vOk n v := fun n h => ⟨fun v hv => h v (List.mem_append_right _ hv), fun v q => h v (List.mem_append_left _ (List.mem_reverse.mpr q))⟩
  refine r_call0 hA0 (ct_nox hct) hso (fun oB s1 s' h1 m1 m2 ok rm H locs ls ρ hP hS hlv hM => ?_) g
  obtain ⟨w1, w3, w4, w5, w6, w7, w8, w9⟩ := hw
  have hct2 := fun (U : State) hU hW => cut_ok (U := U) (args := as) ok hP hS hU hW
  obtain ⟨p, l, e, R, s0, m, args, below, meth, c, w, ρ0, n0, c0, z0⟩ := Y
  obtain ⟨hx, hb, hr, hml, hown, hts, hlk, hst, hwf, htb, hd1, hd2, hnm, hnw⟩ := ok
  obtain ⟨rm1, rm2, rm3, rm4, rm5⟩ := rm
  obtain ⟨m11, m12, m13⟩ := m1
  obtain ⟨m21, m22, m23⟩ := m2
  refine run_of (va_runSN (As := as.map (cV w ρ)) (n := np) ⟨hx, hb, hml, hown, hts⟩ (met_of hM (nox_ex h1)) ⟨⟨⟨rfl, rfl, ?_, ?_, pay_in hts (aW_good w6 w5), ?_⟩, hts _ w5, hts _ w4, w7, fun sig h => ?_, hnw _ w1 rfl⟩, hts _ w3, trivial⟩ ⟨Pct_blind, hct2⟩ rfl (by rw [List.length_map]; exact hn) hlv.1 ?_ ?_ hd ⟨?_, ?_⟩)
  · show aD B + 1 ≤ R.frames; omega
  · show 8 + (aN B + 11) + 64 * aD B ≤ R.locals; omega
  · rw [aW_of w6]; exact List.mem_cons_self
  · rw [h] at w8; exact (Option.some.inj w8).symm
  · show cS w ρ (as.reverse ++ st) = _
    unfold cS
    rw [List.map_append, List.map_reverse]
  · exact lv_room (cat_le hcat)
  · show s.2.2.1 - c0 + (s1.2.2.1 - s.2.2.1) ≤ R.cells
    have : s'.2.2.1 - c0 ≤ R.cells := rm4
    have : c0 ≤ s.2.2.1 := rm2
    omega
  · show s.2.2.2 - z0 + (s1.2.2.2 - s.2.2.2) ≤ R.slots
    have : s'.2.2.2 - z0 ≤ R.slots := rm5
    have : z0 ≤ s.2.2.2 := rm3
    omega
theorem r_callI {b np : Nat} {as : List VV} {kB : MM γ} {resB : γ → Option Value} {idx : Nat} (hw : MI (aOwn A) idx B np) (hct : Ct B (vr b :: as) kB resB) (hn : as.length = np) (hst : st0 = as.reverse ++ vr b :: st) (hd : decode (aC A) pc = .ok (.invokespecial idx, 3)) (hA0 : aH A = []) (hdp : aD B + 1 ≤ aD A) (hcat : (st.map vcat).sum ≤ 8)
    (g : ∀ v s1, Rr A Y (pc + 3) lv ((resB v).toList.map Sum.inl ++ st) (f v) K res s1) : Rr A Y pc lv st0 (mbnd (nox kB) f) K res s := by
  subst hst
  have hso : ∀ n, stO n (as.reverse ++ vr b :: st) → stO n st ∧ ∀ v ∈ vr b :: as, vOk n v := fun n h => ⟨fun v hv => h v (List.mem_append_right _ (List.mem_cons_of_mem _ hv)), fun v hv => (List.mem_cons.mp hv).elim (fun e => h v (by rw [e]; exact List.mem_append_right _ List.mem_cons_self)) (fun q => h v (List.mem_append_left _ (List.mem_reverse.mpr q)))⟩
  refine r_call0 hA0 (ct_nox hct) hso (fun oB s1 s' h1 m1 m2 ok rm H locs ls ρ hP hS hlv hM => ?_) g
  obtain ⟨w1, w2, w4, w5, w6, w7, w8, w9, w10, w11⟩ := hw
  have hct2 := fun (U : State) hU hW => cut_ok (U := U) (args := vr b :: as) ok hP hS hU hW
  obtain ⟨p, l, e, R, s0, m, args, below, meth, c, w, ρ0, n0, c0, z0⟩ := Y
  obtain ⟨hx, hb, hr, hml, hown, hts, hlk, hst, hwf, htb, hd1, hd2, hnm, hnw⟩ := ok
  obtain ⟨rm1, rm2, rm3, rm4, rm5⟩ := rm
  obtain ⟨m11, m12, m13⟩ := m1
  obtain ⟨m21, m22, m23⟩ := m2
  have hg0 := aW_good w6 w5
  have hm0 : Cond.code (aY B) (aC B) (aN B) (aR B) ∈ aW B := by rw [aW_of w6]; exact List.mem_cons_self
  rw [w10] at w5 hm0
  refine run_of (va_runI (b := ρ b) (As := as.map (cV w ρ)) (n := np) ⟨hx, hb, hml, hown, hts⟩ (met_of hM (nox_ex h1)) ⟨⟨rfl, rfl, ?_, ?_, pay_in hts hg0, hm0, hts _ w5, hts _ w4, w7, fun sig h => ?_, hts _ w1⟩, w11, hts _ w2⟩ ⟨Pct_blind, hct2⟩ rfl (by rw [List.length_map]; exact hn) hlv.1 ?_ ?_ hd ⟨?_, ?_⟩)
  · show aD B + 1 ≤ R.frames; omega
  · show 8 + (aN B + 11) + 64 * aD B ≤ R.locals; omega
  · rw [h] at w8; exact (Option.some.inj w8).symm
  · show cS w ρ (as.reverse ++ vr b :: st) = _
    unfold cS
    rw [List.map_append, List.map_reverse]
    rfl
  · exact lv_room (cat_le hcat)
  · show s.2.2.1 - c0 + (s1.2.2.1 - s.2.2.1) ≤ R.cells
    have : s'.2.2.1 - c0 ≤ R.cells := rm4
    have : c0 ≤ s.2.2.1 := rm2
    omega
  · show s.2.2.2 - z0 + (s1.2.2.2 - s.2.2.2) ≤ R.slots
    have : s'.2.2.2 - z0 ≤ R.slots := rm5
    have : z0 ≤ s.2.2.2 := rm3
    omega
theorem r_callIN {b np : Nat} {as : List VV} {kB : MM γ} {resB : γ → Option Value} {idx : Nat} {host : String} (hw : MIN (aOwn A) idx host B np) (hct : Ct B (vr b :: as) kB resB) (hn : as.length = np) (hst : st0 = as.reverse ++ vr b :: st) (hd : decode (aC A) pc = .ok (.invokespecial idx, 3)) (hA0 : aH A = []) (hdp : aD B + 1 ≤ aD A) (hcat : (st.map vcat).sum ≤ 8)
    (g : ∀ v s1, Rr A Y (pc + 3) lv ((resB v).toList.map Sum.inl ++ st) (f v) K res s1) : Rr A Y pc lv st0 (mbnd (nox kB) f) K res s := by
  subst hst
  have hso : ∀ n, stO n (as.reverse ++ vr b :: st) → stO n st ∧ ∀ v ∈ vr b :: as, vOk n v := fun n h => ⟨fun v hv => h v (List.mem_append_right _ (List.mem_cons_of_mem _ hv)), fun v hv => (List.mem_cons.mp hv).elim (fun e => h v (by rw [e]; exact List.mem_append_right _ List.mem_cons_self)) (fun q => h v (List.mem_append_left _ (List.mem_reverse.mpr q)))⟩
  refine r_call0 hA0 (ct_nox hct) hso (fun oB s1 s' h1 m1 m2 ok rm H locs ls ρ hP hS hlv hM => ?_) g
  obtain ⟨w1, w2, w4, w5, w6, w7, w8, w9, w10, w11⟩ := hw
  have hct2 := fun (U : State) hU hW => cut_ok (U := U) (args := vr b :: as) ok hP hS hU hW
  obtain ⟨p, l, e, R, s0, m, args, below, meth, c, w, ρ0, n0, c0, z0⟩ := Y
  obtain ⟨hx, hb, hr, hml, hown, hts, hlk, hst, hwf, htb, hd1, hd2, hnm, hnw⟩ := ok
  obtain ⟨rm1, rm2, rm3, rm4, rm5⟩ := rm
  obtain ⟨m11, m12, m13⟩ := m1
  obtain ⟨m21, m22, m23⟩ := m2
  have hg0 := aW_good w6 w5
  have hm0 : Cond.code (aY B) (aC B) (aN B) (aR B) ∈ aW B := by rw [aW_of w6]; exact List.mem_cons_self
  rw [w10] at w5 hm0
  refine run_of (va_runIN (b := ρ b) (As := as.map (cV w ρ)) (n := np) ⟨hx, hb, hml, hown, hts⟩ (met_of hM (nox_ex h1)) ⟨⟨⟨rfl, rfl, ?_, ?_, pay_in hts hg0, hm0⟩, hts _ w5, hts _ w4, w7, fun sig h => ?_, hnw _ w1 rfl⟩, w11, hts _ w2⟩ ⟨Pct_blind, hct2⟩ rfl (by rw [List.length_map]; exact hn) hlv.1 ?_ ?_ hd ⟨?_, ?_⟩)
  · show aD B + 1 ≤ R.frames; omega
  · show 8 + (aN B + 11) + 64 * aD B ≤ R.locals; omega
  · rw [h] at w8; exact (Option.some.inj w8).symm
  · show cS w ρ (as.reverse ++ vr b :: st) = _
    unfold cS
    rw [List.map_append, List.map_reverse]
    rfl
  · exact lv_room (cat_le hcat)
  · show s.2.2.1 - c0 + (s1.2.2.1 - s.2.2.1) ≤ R.cells
    have : s'.2.2.1 - c0 ≤ R.cells := rm4
    have : c0 ≤ s.2.2.1 := rm2
    omega
  · show s.2.2.2 - z0 + (s1.2.2.2 - s.2.2.2) ≤ R.slots
    have : s'.2.2.2 - z0 ≤ R.slots := rm5
    have : z0 ≤ s.2.2.2 := rm3
    omega
theorem r_callU {ci b np : Nat} {as : List VV} {kB : MM γ} {resB : γ → Option Value} {idx : Nat} {C owner : String} {x : MethodName} (hw : MU (aOwn A) idx C owner x B np) (hct : Ct B (vr b :: as) kB resB) (hrc : Rcv ci b kB) (hci : ∃ T N, vwCl[ci]? = some (C, T, N)) (hn : as.length = np) (hst : st0 = as.reverse ++ vr b :: st) (hd : decode (aC A) pc = .ok (.invokevirtual idx, 3)) (hA0 : aH A = []) (hdp : aD B + 1 ≤ aD A) (hcat : (st.map vcat).sum ≤ 8)
    (g : ∀ v s1, Rr A Y (pc + 3) lv ((resB v).toList.map Sum.inl ++ st) (f v) K res s1) : Rr A Y pc lv st0 (mbnd (nox kB) f) K res s := by
  subst hst
  have hso : ∀ n, stO n (as.reverse ++ vr b :: st) → stO n st ∧ ∀ v ∈ vr b :: as, vOk n v := fun n h => ⟨fun v hv => h v (List.mem_append_right _ (List.mem_cons_of_mem _ hv)), fun v hv => (List.mem_cons.mp hv).elim (fun e => h v (by rw [e]; exact List.mem_append_right _ List.mem_cons_self)) (fun q => h v (List.mem_append_left _ (List.mem_reverse.mpr q)))⟩
  refine r_call0 hA0 (ct_nox hct) hso (fun oB s1 s' h1 m1 m2 ok rm H locs ls ρ hP hS hlv hM => ?_) g
  obtain ⟨⟨fs, hcell⟩, hbl⟩ := hrc _ _ (nox_some h1).1
  obtain ⟨T, N, hc⟩ := hci
  obtain ⟨w1, w2, w3, w3b, w4, w5, w6, w7, w8, w9, w10⟩ := hw
  have hct2 := fun (U : State) hU hW => cut_ok (U := U) (args := vr b :: as) ok hP hS hU hW
  obtain ⟨p, l, e, R, s0, m, args, below, meth, c, w, ρ0, n0, c0, z0⟩ := Y
  obtain ⟨hx, hb, hr, hml, hown, hts, hlk, hst, hwf, htb, hd1, hd2, hnm, hnw⟩ := ok
  obtain ⟨rm1, rm2, rm3, rm4, rm5⟩ := rm
  obtain ⟨m11, m12, m13⟩ := m1
  obtain ⟨m21, m22, m23⟩ := m2
  have hdec : va_Decl s0 ⟨owner, x.name, x.desc⟩ := by
    rcases w10 with q | q
    · rw [← q]; exact va_Decl.of (hts _ w2) (hts _ w5)
    · exact va_Decl.abs (hwf.2.1 _ q rfl)
  refine run_of (va_runU (C := C) (owner := owner) (x := x) (b := ρ b) (As := as.map (cV w ρ)) (n := np) ⟨hx, hb, hml, hown, hts⟩ (met_of hM (nox_ex h1)) ⟨⟨rfl, rfl, ?_, ?_, pay_in hts (aW_good w6 w5), ?_⟩, hts _ w5, hts _ w4, w7, fun sig h => ?_, hts _ w1, hts _ w3b, hdec, hts _ w3, hts _ w2⟩ ⟨Pct_blind, va_recv hwf.1 hP.1 hc (ws_obj hcell hbl), hct2⟩ rfl (by rw [List.length_map]; exact hn) hlv.1 ?_ ?_ hd ⟨?_, ?_⟩)
  · show aD B + 1 ≤ R.frames; omega
  · show 8 + (aN B + 11) + 64 * aD B ≤ R.locals; omega
  · rw [aW_of w6]; exact List.mem_cons_self
  · rw [h] at w8; exact (Option.some.inj w8).symm
  · show cS w ρ (as.reverse ++ vr b :: st) = _
    unfold cS
    rw [List.map_append, List.map_reverse]
    rfl
  · exact lv_room (cat_le hcat)
  · show s.2.2.1 - c0 + (s1.2.2.1 - s.2.2.1) ≤ R.cells
    have : s'.2.2.1 - c0 ≤ R.cells := rm4
    have : c0 ≤ s.2.2.1 := rm2
    omega
  · show s.2.2.2 - z0 + (s1.2.2.2 - s.2.2.2) ≤ R.slots
    have : s'.2.2.2 - z0 ≤ R.slots := rm5
    have : z0 ≤ s.2.2.2 := rm3
    omega
end RD
