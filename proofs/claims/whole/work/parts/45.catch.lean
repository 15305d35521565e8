/-! CATCHING: a call inside a method with a table of handlers -/
def mcat {α γ : Type} (k : MM γ) (f : γ → MM α) (h : Nat → MM α) : MM α := fun s => match k s with
  | some (.inl v, s') => f v s'
  | some (.inr e, s') => h e s'
  | none => none
theorem mcat_some {α β γ : Type} {k : MM γ} {f : γ → MM α} {h : Nat → MM α} {K : α → MM β} {s s' : aS} {o : β ⊕ Nat} (e : mbnd (mcat k f h) K s = some (o, s')) : (∃ v s1, k s = some (.inl v, s1) ∧ mbnd (f v) K s1 = some (o, s')) ∨ ∃ x s1, k s = some (.inr x, s1) ∧ mbnd (h x) K s1 = some (o, s') := by
  unfold mbnd mcat at e
  cases hk : k s with
  | none => rw [hk] at e; cases e
  | some r =>
    obtain ⟨r, s1⟩ := r
    rw [hk] at e
    cases r with
    | inl v => exact Or.inl ⟨v, s1, rfl, e⟩
    | inr x => exact Or.inr ⟨x, s1, rfl, e⟩
/-- the first row of the table that covers pc and names e's class: where its handler stands -/
def CA (A : StA) (pc e hp : Nat) : Prop := ∃ (pre suf : List ExceptionTableEntry) (x : ExceptionTableEntry), tableOf (aH A) = pre ++ x :: suf ∧ (∀ z ∈ pre, z.catchType ≠ 0 ∧ ∃ j, j < 5 ∧ e ≠ j ∧ Cond.classLink (aOwn A) z.catchType (exN j) ∈ tblG) ∧ covers x pc = true ∧ x.catchType ≠ 0 ∧ e < 5 ∧ Cond.classLink (aOwn A) x.catchType (exN e) ∈ tblG ∧ Cond.castable (exN e) (exN e) ∈ lw_tbl ∧ x.handlerPc = hp
def HA (A : StA) (hp hq : Nat) : Prop := (∃ k : Fin 4, decode (aC A) hp = .ok (.astore_n k, 1) ∧ (k : Nat) < aN A ∧ hq = hp + 1) ∨ ∃ i, decode (aC A) hp = .ok (.astore i, 2) ∧ i < aN A ∧ hq = hp + 2
section RCC
variable {A B : StA} {Y : DyA} {pc : Nat} {lv : List (Nat × VV)} {st st0 : List VV} {α β γ : Type} {K : α → MM β} {res : β → Option Value} {s : aS} {f : γ → MM α} {h : Nat → MM α}
theorem r_callC {argsB : List VV} {kB : MM γ} {resB : γ → Option Value} (hct : Ct B argsB kB resB) (hso : ∀ n, stO n st0 → stO n st ∧ ∀ v ∈ argsB, vOk n v)
    (hrun : ∀ (oB : γ ⊕ Nat) (s1 s' : aS), kB s = some (oB, s1) → mono s s1 → mono s1 s' → OkY A Y → roomY Y s s' → ∀ (H : Heap) (locs : List Loc) (ls : Array Slot) (ρ : Nat → Nat), PH (yW Y) ρ s H → va_S (wA (yW Y)) (yS Y).heap H locs → lv_has ls (aN A) (cL (yW Y) ρ lv) →
      vx_Met Y.2.1 (aY B) (aW B) (rmOf (aD B) s s1) (Pct (yW Y) ρ s argsB) (Qok (yW Y) s.2.1 ρ resB oB s1) (Qex (yW Y) s.2.1 ρ oB s1) (s1.2.2.1 - s.2.2.1) (s1.2.2.2 - s.2.2.2) (wA (yW Y)) →
      vx_Run Y.1 Y.2.1 Y.2.2.1 Y.2.2.2.1 Y.2.2.2.2.1 Y.2.2.2.2.2.1 Y.2.2.2.2.2.2.1 Y.2.2.2.2.2.2.2.1 Y.2.2.2.2.2.2.2.2.1 Y.2.2.2.2.2.2.2.2.2.1 H locs (s.2.2.1 - yc Y) (s.2.2.2 - yσ Y) (s1.2.2.1 - s.2.2.1) (s1.2.2.2 - s.2.2.2) (F0 Y.2.2.2.2.2.1 pc ls (cS (yW Y) ρ st0)) (cS (yW Y) ρ st) (Qok (yW Y) s.2.1 ρ resB oB s1 (argsB.map (cV (yW Y) ρ)).toArray) (Qex (yW Y) s.2.1 ρ oB s1) (wA (yW Y)))
    (g : ∀ v s1, Rr A Y (pc + 3) lv ((resB v).toList.map Sum.inl ++ st) (f v) K res s1)
    (gx : ∀ e s1, h e = mfail ∨ ∃ hp hq, CA A pc e hp ∧ HA A hp hq ∧ Rr A Y hq [] [] (h e) K res s1) : Rr A Y pc lv st0 (mcat kB f h) K res s := by
  intro o s' e
  rcases mcat_some e with ⟨v, s1, h1, h2⟩ | ⟨ex, s1, h1, h2⟩
  · have m1 := (hct Y _ _ _ h1).1
    obtain ⟨g1, g2⟩ := g v s1 o s' h2
    refine ⟨mono_trans m1 g1, fun ok rm hl hs H locs ls ρ hx hP hS hlv => ?_⟩
    have hst : Y.2.1.stackTraces = false := by obtain ⟨p, l, e, R, s0, m, args, below, meth, c, w, ρ0, n0, c0, z0⟩ := Y; exact ok.2.2.2.2.2.2.2.1
    have hM := (hct Y _ _ _ h1).2 Y.2.1 (yW Y) ρ hst (hso _ hs).2
    have hR := hrun _ s1 s' h1 m1 g1 ok rm H locs ls ρ hP hS hlv hM
    obtain ⟨rm1, rm2, rm3, rm4, rm5⟩ := rm
    obtain ⟨m11, m12, m13⟩ := m1
    refine callGo hR hS (fun q h => h) (fun st v t h => Qok_F h) (fun E st t h => Qex_F h) (fun E ce q9 st9 t H1 locs1 _ _ _ hq _ _ _ _ => ?_) (fun v9 st9 t H1 locs1 hh0 hh1 hal hq hS1 => ?_)
    · obtain ⟨⟨e9, ρ', he, -⟩, -⟩ := hq
      cases he
    · obtain ⟨⟨v', ρ', hv, hxt, hro, hoc, hPH⟩, -⟩ := hq
      cases hv
      cases hoc
      rw [hh1] at hPH
      have hst1 : stO s1.2.1 ((resB v).toList.map Sum.inl ++ st) := fun z hz => by
        rcases List.mem_append.mp hz with q | q
        · obtain ⟨z2, hz2, rfl⟩ := List.mem_map.mp q
          exact hro z2 (Option.mem_toList.mp hz2)
        · exact vOk_mono m11 ((hso _ hs).1 z q)
      have gg := g2 ok ⟨Nat.le_trans rm1 m11, Nat.le_trans rm2 m12, Nat.le_trans rm3 m13, rm4, rm5⟩ (lvO_mono m11 hl) hst1 H1 locs1 ls ρ' (ext_trans rm1 hx hxt) hPH hS1 (by rw [cL_congr hxt hl]; exact hlv)
      have e3 : s.2.2.1 - yc Y + (s1.2.2.1 - s.2.2.1) = s1.2.2.1 - yc Y := by omega
      have e4 : s.2.2.2 - yσ Y + (s1.2.2.2 - s.2.2.2) = s1.2.2.2 - yσ Y := by omega
      have e5 : ((resB v).map (cv ρ')).toList ++ cS (yW Y) ρ st = cS (yW Y) ρ' ((resB v).toList.map Sum.inl ++ st) := by
        rw [← cS_congr hxt (hso _ hs).1]
        unfold cS
        rw [List.map_append]
        cases resB v <;> rfl
      rw [e3, e4, e5]
      exact gg
  · have m1 := (hct Y _ _ _ h1).1
    rcases gx ex s1 with h9 | ⟨hp, hq, hCA, hHA, hg⟩
    · rw [h9] at h2
      cases h2
    obtain ⟨g1, g2⟩ := hg o s' h2
    refine ⟨mono_trans m1 g1, fun ok rm hl hs H locs ls ρ hx hP hS hlv => ?_⟩
    have hst : Y.2.1.stackTraces = false := by obtain ⟨p, l, e, R, s0, m, args, below, meth, c, w, ρ0, n0, c0, z0⟩ := Y; exact ok.2.2.2.2.2.2.2.1
    have hM := (hct Y _ _ _ h1).2 Y.2.1 (yW Y) ρ hst (hso _ hs).2
    have hR := hrun _ s1 s' h1 m1 g1 ok rm H locs ls ρ hP hS hlv hM
    obtain ⟨rm1, rm2, rm3, rm4, rm5⟩ := rm
    obtain ⟨m11, m12, m13⟩ := m1
    have e3 : s.2.2.1 - yc Y + (s1.2.2.1 - s.2.2.1) = s1.2.2.1 - yc Y := by omega
    have e4 : s.2.2.2 - yσ Y + (s1.2.2.2 - s.2.2.2) = s1.2.2.2 - yσ Y := by omega
    refine callGo hR hS (fun q h => h) (fun st v t h => Qok_F h) (fun E st t h => Qex_F h) (fun E ce q9 st9 t H1 locs1 hh0 hh1 hal hqx hS1 hce hcv hcl => ?_) (fun v9 st9 t H1 locs1 _ _ _ hq _ => ?_)
    · rw [e3, e4]
      obtain ⟨⟨e9, ρ', he, hE, hxt, hPH⟩, -⟩ := hqx
      cases he
      rw [hh1] at hPH
      have gg := fun ls' hv => g2 ok ⟨Nat.le_trans rm1 m11, Nat.le_trans rm2 m12, Nat.le_trans rm3 m13, rm4, rm5⟩ (fun q hq => nomatch hq) (fun q hq => nomatch hq) H1 locs1 ls' ρ' (ext_trans rm1 hx hxt) hPH hS1 hv
      obtain ⟨p, l, e, R, s0, m, args, below, meth, c, w, ρ0, n0, c0, z0⟩ := Y
      obtain ⟨hx9, hb, hr, hml, hown, hts, hlk, hst, hwf, htb, hd1, hd2, hnm, hnw⟩ := ok
      obtain ⟨pre, suf, x, c1, c2, c3, c4, c5, c6, c7, c8⟩ := hCA
      refine vx_catch (own := aOwn A) (name := exN ex) (E := E) (ce := ce) hown pre x suf (htb.trans c1) (fun z hz => Or.inr ?_) c3 c4 (hts _ c6) (by rw [hE]; exact hnw _ c7 rfl) hce hcv hcl ?_
      · obtain ⟨z1, j, z2, z3, z4⟩ := c2 z hz
        exact ⟨z1, exN j, hts _ z4, by rw [hE]; exact hwf.2.2.2.2.2.2.2.2.2.2.2.2.2 ex j c5 z2 z3⟩
      · rw [c8]
        rcases hHA with ⟨k, d1, d2, rfl⟩ | ⟨i, d1, d2, rfl⟩
        · exact lv_astore_n hx9 hb d1 rfl hlv d2 rfl (fun ls' h => gg ls' ⟨h.1, h.2.1, fun q hq => nomatch hq⟩)
        · exact lv_astore hx9 hb d1 hlv d2 rfl (fun ls' h => gg ls' ⟨h.1, h.2.1, fun q hq => nomatch hq⟩)
    · obtain ⟨⟨v', ρ', hv, -⟩, -⟩ := hq
      cases hv
end RCC
section RCV
variable {A B : StA} {Y : DyA} {pc : Nat} {lv : List (Nat × VV)} {st st0 : List VV} {α β γ : Type} {K : α → MM β} {res : β → Option Value} {s : aS} {f : γ → MM α} {h : Nat → MM α}
theorem r_callVC {ci b np : Nat} {as : List VV} {kB : MM γ} {resB : γ → Option Value} {idx : Nat} (hw : MV (aOwn A) idx B np) (hct : Ct B (vr b :: as) kB resB) (hrc : Rcv ci b kB) (hci : ∃ T N, vwCl[ci]? = some ((aY B).cls, T, N)) (hn : as.length = np) (hst : st0 = as.reverse ++ vr b :: st) (hd : decode (aC A) pc = .ok (.invokevirtual idx, 3)) (hdp : aD B + 1 ≤ aD A) (hcat : (st.map vcat).sum ≤ 8)
    (g : ∀ v s1, Rr A Y (pc + 3) lv ((resB v).toList.map Sum.inl ++ st) (f v) K res s1) (gx : ∀ e s1, h e = mfail ∨ ∃ hp hq, CA A pc e hp ∧ HA A hp hq ∧ Rr A Y hq [] [] (h e) K res s1) : Rr A Y pc lv st0 (mcat kB f h) K res s := by
  subst hst
  have hso : ∀ n, stO n (as.reverse ++ vr b :: st) → stO n st ∧ ∀ v ∈ vr b :: as, vOk n v := fun n h => ⟨fun v hv => h v (List.mem_append_right _ (List.mem_cons_of_mem _ hv)), fun v hv => (List.mem_cons.mp hv).elim (fun e => h v (by rw [e]; exact List.mem_append_right _ List.mem_cons_self)) (fun q => h v (List.mem_append_left _ (List.mem_reverse.mpr q)))⟩
  refine r_callC hct hso (fun oB s1 s' h1 m1 m2 ok rm H locs ls ρ hP hS hlv hM => ?_) g gx
  obtain ⟨⟨fs, hcell⟩, hbl⟩ := hrc _ _ h1
  obtain ⟨T, N, hc⟩ := hci
  obtain ⟨w1, w2, w3, w4, w5, w6, w7, w8, w9⟩ := hw
  have hct2 := fun (U : State) hU hW => cut_ok (U := U) (args := vr b :: as) ok hP hS hU hW
  obtain ⟨p, l, e, R, s0, m, args, below, meth, c, w, ρ0, n0, c0, z0⟩ := Y
  obtain ⟨hx, hb, hr, hml, hown, hts, hlk, hst, hwf, htb, hd1, hd2, hnm, hnw⟩ := ok
  obtain ⟨rm1, rm2, rm3, rm4, rm5⟩ := rm
  obtain ⟨m11, m12, m13⟩ := m1
  obtain ⟨m21, m22, m23⟩ := m2
  refine vx_runV (C := (aY B).cls) (b := ρ b) (As := as.map (cV w ρ)) (n := np) ⟨hx, hb, hml, hown, hts⟩ hM ⟨⟨rfl, rfl, ?_, ?_, pay_in hts (aW_good w6 w5), ?_, hts _ w5, hts _ w4, w7, fun sig h => ?_, hts _ w1⟩, hts _ w2, hts _ w3⟩ ⟨Pct_blind, va_recv hwf.1 hP.1 hc (ws_obj hcell hbl), hct2⟩ rfl (by rw [List.length_map]; exact hn) hlv.1 ?_ ?_ hd ⟨?_, ?_⟩
  · show aD B + 1 ≤ R.frames; omega
  · show 8 + (aN B + 11) + 64 * aD B ≤ R.locals; omega
  · rw [aW_of w6]; exact List.mem_cons_self
  · rw [h] at w8; exact (Option.some.inj w8).symm
  · show cS w ρ (as.reverse ++ vr b :: st) = _
    unfold cS
    rw [List.map_append, List.map_reverse]
    rfl
  · exact lv_room (cat_le hcat)
  · show s.2.2.1 - c0 + (s1.2.2.1 - s.2.2.1) ≤ R.cells
    have : s'.2.2.1 - c0 ≤ R.cells := rm4
    have : c0 ≤ s.2.2.1 := rm2
    omega
  · show s.2.2.2 - z0 + (s1.2.2.2 - s.2.2.2) ≤ R.slots
    have : s'.2.2.2 - z0 ≤ R.slots := rm5
    have : z0 ≤ s.2.2.2 := rm3
    omega
theorem r_callVCI {f : Int32 → MM α} {h : Nat → MM α} {ci b np : Nat} {as : List VV} {kB : MM Int32} {idx : Nat} (hw : MV (aOwn A) idx B np) (hct : Ct B (vr b :: as) kB rI) (hrc : Rcv ci b kB) (hci : ∃ T N, vwCl[ci]? = some ((aY B).cls, T, N)) (hn : as.length = np) (hst : st0 = as.reverse ++ vr b :: st) (hd : decode (aC A) pc = .ok (.invokevirtual idx, 3)) (hdp : aD B + 1 ≤ aD A) (hcat : (st.map vcat).sum ≤ 8)
    (g : ∀ v s1, Rr A Y (pc + 3) lv (vi v :: st) (f v) K res s1) (gx : ∀ e s1, h e = mfail ∨ ∃ hp hq, CA A pc e hp ∧ HA A hp hq ∧ Rr A Y hq [] [] (h e) K res s1) : Rr A Y pc lv st0 (mcat kB f h) K res s := r_callVC hw hct hrc hci hn hst hd hdp hcat (fun v s1 => g v s1) gx
end RCV
theorem aW_ofH {B : StA} {q : Nat × Nat × Nat × Nat} {r : List (Nat × Nat × Nat × Nat)} (h : aH B = q :: r) : aW B = Cond.codeWith (aY B) (aC B) (aN B) (aR B) (aH B) :: tblG := by
  unfold aW
  rw [h]
theorem ct_introH {β : Type} {A : StA} {args : List VV} {k : MM β} {res : β → Option Value} (hy : plainName (aY A).cls = true ∧ (aY A).cls = aOwn A) (hA1 : ∃ q r, aH A = q :: r) (hsz : (args.map vcat).sum ≤ aN A) (h : ∀ (Y : DyA) (s : aS), Rr A Y 0 (lvA 0 args) [] k mret res s) : Ct A args k res := by
  intro Y0 s s' o e
  have e' : mbnd k mret s = some (o, s') := by rw [mbnd_mret]; exact e
  obtain ⟨q0, r0, hA0⟩ := hA1
  refine ⟨(h Y0 s o s' e').1, fun l w ρ hl hargs => ?_⟩
  refine vx_ofWH (cc := aC A) (maxL := aN A) (ret := aR A) (hh := aH A) (ws' := tblG) hy.1 (aW_ofH hA0) ?_
  intro p e9 s0 m as below meth c s₁ B hml hv
  obtain ⟨rfl, hPH, hWF⟩ := hv
  have hts : ∀ x ∈ aW A, x.before (args.map (cV w ρ)).toArray s0 = true := atoms_spec (ws := aW A) B.pre
  have hown : s0.vm.findClass (aOwn A) = some m.cls := by rw [← hy.2]; exact findClass_of_methodNamed B.named
  have htb : c.exceptionTable.toList = tableOf (aH A) := vx_table (x := aY A) B (hts _ (by rw [aW_ofH hA0]; exact List.mem_cons_self))
  have hG := (h (p, l, e9, (headSpec (aW A) (rmOf (aD A) s s')).room, s0, m, (args.map (cV w ρ)).toArray, below, meth, c, w, ρ, s.2.1, s.2.2.1, s.2.2.2) s o s' e').2
    ⟨B.exec, B.bytes, B.returns, hml, hown, fun x hx => hts x (by rw [aW_ofH hA0]; exact List.mem_cons_of_mem _ hx), B.notSynchronized, hl, hWF, htb, Nat.le_refl _, Nat.le_refl _, (name_of_methodNamed B.named B.method).1, fun x hx hn => va_Nw.use (nw_tab hn) (hWF.2.1 x hx hn)⟩
    ⟨Nat.le_refl _, Nat.le_refl _, Nat.le_refl _, Nat.le_refl _, Nat.le_refl _⟩ (lvA_O args 0 hargs) (fun v hv => by cases hv) s0.heap []
  rw [lg_entry_eq]
  have hl := lv_entry (args.map (cV w ρ)) (n := aN A) (sl_le hsz)
  rw [lvA_c] at hl
  have hG2 := hG _ ρ (fun k _ => rfl) hPH va_S.rf hl
  have z1 : s.2.2.1 - s.2.2.1 = 0 := Nat.sub_self _
  have z2 : s.2.2.2 - s.2.2.2 = 0 := Nat.sub_self _
  have hG3 : W p l e9 (headSpec (aW A) (rmOf (aD A) s s')).room s0 m (args.map (cV w ρ)).toArray below meth c s0.heap [] (s.2.2.1 - s.2.2.1) (s.2.2.2 - s.2.2.2) _ _ := hG2
  rw [z1, z2] at hG3
  exact hG3
/-- a list of handlers that answer numbers -/
def hsel : List (Nat × Int32) → Nat → MM Int32
  | [], _ => mfail
  | (x, n) :: r, e => if e = x then mret n else hsel r e
theorem hsel_or : ∀ (l : List (Nat × Int32)) (e : Nat), hsel l e = mfail ∨ ∃ n, (e, n) ∈ l ∧ hsel l e = mret n
  | [], _ => Or.inl rfl
  | (x, n) :: r, e => by
    by_cases h : e = x
    · subst h
      exact Or.inr ⟨n, List.mem_cons_self, if_pos rfl⟩
    · rcases hsel_or r e with q | ⟨m, q1, q2⟩
      · exact Or.inl (by show (if e = x then mret n else hsel r e) = _; rw [if_neg h]; exact q)
      · exact Or.inr ⟨m, List.mem_cons_of_mem _ q1, by show (if e = x then mret n else hsel r e) = _; rw [if_neg h]; exact q2⟩
def MSH (own : String) (idx : Nat) (B : StA) (np : Nat) : Prop := Cond.methodLink own idx (aY B) ∈ tblG ∧ Cond.static (aY B) ∈ tblG ∧ Cond.initialized (aY B).cls ∈ tblG ∧ Cond.codeWith (aY B) (aC B) (aN B) (aR B) (aH B) ∈ tblG ∧ (∃ q r, aH B = q :: r) ∧ ((aY B).cls ≠ "java/lang/invoke/MethodHandle" ∧ (aY B).cls ≠ "java/lang/invoke/VarHandle") ∧ (parseMethodDescriptor (aY B).desc).map (fun d => d.parameters.length) = some np ∧ aN B ≤ 45
theorem aW_goodH {B : StA} (h : ∃ q r, aH B = q :: r) (hc : Cond.codeWith (aY B) (aC B) (aN B) (aR B) (aH B) ∈ tblG) : GoodIn tblG (aW B) := by
  obtain ⟨q, r, h⟩ := h
  rw [aW_ofH h]
  exact fun w hw => (List.mem_cons.mp hw).elim (fun e => by rw [e]; exact tblG_good _ hc) (fun h => tblG_good _ h)
section RSH
variable {A B : StA} {Y : DyA} {pc : Nat} {lv : List (Nat × VV)} {st st0 : List VV} {α β γ : Type} {K : α → MM β} {res : β → Option Value} {s : aS}
theorem r_callVL {f : Int32 → MM Int32} {K : Int32 → MM β} {hl : List (Nat × Int32)} {ci b np : Nat} {as : List VV} {kB : MM Int32} {idx : Nat} (hw : MV (aOwn A) idx B np) (hct : Ct B (vr b :: as) kB rI) (hrc : Rcv ci b kB) (hci : ∃ T N, vwCl[ci]? = some ((aY B).cls, T, N)) (hn : as.length = np) (hst : st0 = as.reverse ++ vr b :: st) (hd : decode (aC A) pc = .ok (.invokevirtual idx, 3)) (hdp : aD B + 1 ≤ aD A) (hcat : (st.map vcat).sum ≤ 8)
    (g : ∀ v s1, Rr A Y (pc + 3) lv (vi v :: st) (f v) K res s1) (gl : ∀ q ∈ hl, ∃ hp hq, CA A pc q.1 hp ∧ HA A hp hq ∧ ∀ s1, Rr A Y hq [] [] (mret q.2) K res s1) : Rr A Y pc lv st0 (mcat kB f (hsel hl)) K res s := r_callVCI hw hct hrc hci hn hst hd hdp hcat g (fun e s1 => by
  rcases hsel_or hl e with q | ⟨n, q1, q2⟩
  · exact Or.inl q
  · obtain ⟨hp, hq, a1, a2, a3⟩ := gl _ q1
    exact Or.inr ⟨hp, hq, a1, a2, by rw [q2]; exact a3 s1⟩)
theorem r_callSH {f : Int32 → MM α} {np : Nat} {as : List VV} {kB : MM Int32} {idx : Nat} (hw : MSH (aOwn A) idx B np) (hct : Ct B as kB rI) (hn : as.length = np) (hst : st0 = as.reverse ++ st) (hd : decode (aC A) pc = .ok (.invokestatic idx, 3)) (hA0 : aH A = []) (hdp : aD B + 1 ≤ aD A) (hcat : (st.map vcat).sum ≤ 8)
    (g : ∀ v s1, Rr A Y (pc + 3) lv (vi v :: st) (f v) K res s1) : Rr A Y pc lv st0 (mbnd (nox kB) f) K res s := by
  subst hst
  have hso : ∀ n, stO n (as.reverse ++ st) → stO n st ∧ ∀ v ∈ as, vOk n v := fun n h => ⟨fun v hv => h v (List.mem_append_right _ hv), fun v q => h v (List.mem_append_left _ (List.mem_reverse.mpr q))⟩
  refine r_call0 hA0 (ct_nox hct) hso (fun oB s1 s' h1 m1 m2 ok rm H locs ls ρ hP hS hlv hM => ?_) (fun v s1 => g v s1)
  obtain ⟨w1, w3, w4, w5, w6, w7, w8, w9⟩ := hw
  have hct2 := fun (U : State) hU hW => cut_ok (U := U) (args := as) ok hP hS hU hW
  obtain ⟨p, l, e, R, s0, m, args, below, meth, c, w, ρ0, n0, c0, z0⟩ := Y
  obtain ⟨hx, hb, hr, hml, hown, hts, hlk, hst, hwf, htb, hd1, hd2, hnm, hnw⟩ := ok
  obtain ⟨rm1, rm2, rm3, rm4, rm5⟩ := rm
  obtain ⟨m11, m12, m13⟩ := m1
  obtain ⟨m21, m22, m23⟩ := m2
  refine vx_runSX (hh := aH B) (As := as.map (cV w ρ)) (n := np) ⟨hx, hb, hml, hown, hts⟩ hM ⟨⟨rfl, rfl, ?_, ?_, pay_in hts (aW_goodH w6 w5), ?_⟩, hts _ w5, hts _ w4, w7, fun sig h => ?_, hts _ w1, hts _ w3⟩ ⟨Pct_blind, hct2⟩ rfl (by rw [List.length_map]; exact hn) hlv.1 ?_ ?_ hd ⟨?_, ?_⟩
  · show aD B + 1 ≤ R.frames; omega
  · show 8 + (aN B + 11) + 64 * aD B ≤ R.locals; omega
  · obtain ⟨q, r, w6⟩ := w6
    rw [aW_ofH w6]; exact List.mem_cons_self
  · rw [h] at w8; exact (Option.some.inj w8).symm
  · show cS w ρ (as.reverse ++ st) = _
    unfold cS
    rw [List.map_append, List.map_reverse]
  · exact lv_room (cat_le hcat)
  · show s.2.2.1 - c0 + (s1.2.2.1 - s.2.2.1) ≤ R.cells
    have : s'.2.2.1 - c0 ≤ R.cells := rm4
    have : c0 ≤ s.2.2.1 := rm2
    omega
  · show s.2.2.2 - z0 + (s1.2.2.2 - s.2.2.2) ≤ R.slots
    have : s'.2.2.2 - z0 ≤ R.slots := rm5
    have : z0 ≤ s.2.2.2 := rm3
    omega
end RSH
/-- the script: read within it -/
def sld (n0 : Nat) (xs : Nat → Int32) (i : Int32) : MM Int32 := fun s => if i < 0 ∨ n0 ≤ i.toNatClampNeg then none else some (.inl (xs i.toNatClampNeg), s)
section RSC
variable {A : StA} {Y : DyA} {pc : Nat} {lv : List (Nat × VV)} {st : List VV} {α β : Type} {k : MM α} {K : α → MM β} {res : β → Option Value} {s : aS} {n0 : Nat} {xs : Nat → Int32}
theorem r_sldx {f : Int32 → MM α} {i : Int32} (hd : decode (aC A) pc = .ok (.iaload, 1)) (hx : wX (yW Y) = xs ∧ wL (yW Y) = n0) (g : ∀ v, Rr A Y (pc + 1) lv (vi v :: st) (f v) K res s) : Rr A Y pc lv (vi i :: vt 999 :: st) (mbnd (sld n0 xs i) f) K res s := by
  obtain ⟨rfl, rfl⟩ := hx
  by_cases hi : i < 0 ∨ wL (yW Y) ≤ i.toNatClampNeg
  · intro o s' e
    unfold mbnd sld at e
    rw [if_pos hi] at e
    cases e
  · intro o s' e
    refine r_sld hd hi (g _) o s' ?_
    rw [← e]
    unfold mbnd sld
    rw [if_neg hi]
    rfl
theorem r_slenx (hd : decode (aC A) pc = .ok (.arraylength, 1)) (hx : wX (yW Y) = xs ∧ wL (yW Y) = n0) (g : Rr A Y (pc + 1) lv (vi (Int32.ofNat n0) :: st) k K res s) : Rr A Y pc lv (vt 999 :: st) k K res s := by
  obtain ⟨-, rfl⟩ := hx
  exact p_slen hd g
end RSC
section RL3
variable {A : StA} {Y : DyA} {pc : Nat} {α β σ ε : Type} {K : α → MM β} {res : β → Option Value}
/-- a loop out of which the method also returns -/
theorem r_loop3 {b : σ → MM (σ ⊕ ε)} {k : ε → MM α} (mkl : σ → List (Nat × VV)) (h : ∀ (K' : σ ⊕ ε → MM β), (∀ x s, Rr A Y pc (mkl x) [] (mret (.inl x)) K' res s) → (∀ e, K' (.inr e) = mbnd (k e) K) → ∀ x s, Rr A Y pc (mkl x) [] (b x) K' res s) (x : σ) (s : aS) : Rr A Y pc (mkl x) [] (mbnd (loopM b x) k) K res s :=
  r_loop (mkl := mkl) (mks := fun _ => []) (fun L hL x s => h _ (fun x s => r_ret (r_again (hL x s))) (fun _ => rfl) x s) x s
end RL3
