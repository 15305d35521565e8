/-! ROWS FOR CALLS, ENDS, THROWS, LOOPS -/
section CG
variable {p : Program} {l : Launch} {e : Env} {R : Room} {s : State} {m : MethodId} {args : Array Value} {below : List Frame} {meth : Method} {c : Code} {H : Heap} {locs : List Loc} {cells slots : Nat} {Q : State → Prop}
theorem callGo {mc ms pc : Nat} {ls : Array Slot} {st0 rest : List Value} {Qa : State → Outcome → State → Prop} {XC : String → State → State → Prop} {free A0 : Nat → Prop} {H0 : Heap} (hr : vx_Run p l e R s m args below meth c H locs cells slots mc ms (F0 m pc ls st0) rest Qa XC free) (hS : va_S A0 H0 H locs) (hf : ∀ q, free q → A0 q)
    (hQF : ∀ st v t, Qa st (.returned v) t → va_F A0 st t) (hXF : ∀ E st t, XC E st t → va_F A0 st t)
    (kx : ∀ (E : String) (ce : Cell) (q9 : Addr) (st t : State) (H1 : Heap) (locs1 : List Loc), st.heap = H → t.heap = H1 → s.vm.Alike t.vm → XC E st t → va_S A0 H0 H1 locs1 → H1[q9]? = some ce → ce.vm = .none → s.vm.findClass E = some ce.cls → vx_W p l e R s m args below meth c H1 locs1 (cells + mc) (slots + ms) Q (F0 m pc ls rest) q9)
    (kk : ∀ (v : Option Value) (st t : State) (H1 : Heap) (locs1 : List Loc), st.heap = H → t.heap = H1 → s.vm.Alike t.vm → Qa st (.returned v) t → va_S A0 H0 H1 locs1 → W p l e R s m args below meth c H1 locs1 (cells + mc) (slots + ms) Q (F0 m (pc + 3) ls (v.toList ++ rest))) : W p l e R s m args below meth c H locs cells slots Q (F0 m pc ls st0) := by
  intro T hT X
  rcases hr T hT X with ⟨v, st₀, t, T', L, h0, X', hL, e1, e2, hq, st⟩ | ⟨q, st₀, t, T', L, E, ce, h0, X', hL, e1, e2, hq, hce, hcv, hcl, st⟩
  · obtain ⟨k1, k2, k3⟩ := vx_keep h0 e1 hS (fun q _ h => h) hf hL (hQF _ _ _ hq)
    obtain ⟨t2, a1, b1⟩ := kk v st₀ t T'.heap (locs ++ L) h0 e1.symm (by rw [← e2]; exact X'.warmed.alike) hq k3 T' rfl X'
    exact ⟨t2, st t2 a1, b1⟩
  · obtain ⟨k1, k2, k3⟩ := vx_keep h0 e1 hS (fun q _ h => h) hf hL (hXF _ _ _ hq)
    obtain ⟨t2, a1, b1⟩ := kx E ce q st₀ t T'.heap (locs ++ L) h0 e1.symm (by rw [← e2]; exact X'.warmed.alike) hq k3 (by rw [e1]; exact hce) hcv hcl T' rfl X'
    exact ⟨t2, st.trans a1, b1⟩
theorem run_of {mc ms : Nat} {g : JFrame} {rest : List Value} {Qa : State → Outcome → State → Prop} {XC : String → State → State → Prop} {free : Nat → Prop} (h : va_Run p l e R s m args below meth c H locs cells slots mc ms g rest Qa free) : vx_Run p l e R s m args below meth c H locs cells slots mc ms g rest Qa XC free := fun T hT X => Or.inl (h T hT X)
end CG
theorem met_of {l : Launch} {y : MethodName} {ws : List Cond} {rm : Room} {Pc : Array Value → State → Prop} {Qc : Array Value → State → Outcome → State → Prop} {XC : String → State → State → Prop} {mc ms : Nat} {free : Addr → Prop} (h : vx_Met l y ws rm Pc Qc XC mc ms free) (hx : ∀ E st t, ¬ XC E st t) : Met l y ws rm Pc Qc mc ms free := by
  intro p e ha hc hk s m args below hf happ hp hK
  obtain ⟨n, o, h1, h2, h3, h4⟩ := h p e ha hc hk s m args below hf happ hp hK
  refine ⟨n, o, h1, h2, h3, ?_⟩
  rcases h4 with q | ⟨q, -, E, ce, L, hq, -⟩
  · exact q
  · exact absurd hq (hx _ _ _)
theorem cL_congr {w : WT} {ρ ρ' : Nat → Nat} {n : Nat} {lv : List (Nat × VV)} (h : ext n ρ ρ') (hl : lvO n lv) : cL w ρ' lv = cL w ρ lv := List.map_congr_left fun q hq => by rw [cV_congr h (hl q hq)]
theorem cS_congr {w : WT} {ρ ρ' : Nat → Nat} {n : Nat} {st : List VV} (h : ext n ρ ρ') (hl : stO n st) : cS w ρ' st = cS w ρ st := List.map_congr_left fun q hq => cV_congr h (hl q hq)
theorem lvO_mono {n m : Nat} {lv : List (Nat × VV)} (h : n ≤ m) (hl : lvO n lv) : lvO m lv := fun q hq => vOk_mono h (hl q hq)
theorem stO_mono {n m : Nat} {st : List VV} (h : n ≤ m) (hl : stO n st) : stO m st := fun q hq => vOk_mono h (hl q hq)
theorem ext_trans {n m : Nat} {ρ ρ' ρ'' : Nat → Nat} (h : n ≤ m) (h1 : ext n ρ ρ') (h2 : ext m ρ' ρ'') : ext n ρ ρ'' := fun k hk => (h2 k (Nat.lt_of_lt_of_le hk h)).trans (h1 k hk)
theorem mono_trans {a b c : aS} (h : mono a b) (g : mono b c) : mono a c := ⟨Nat.le_trans h.1 g.1, Nat.le_trans h.2.1 g.2.1, Nat.le_trans h.2.2 g.2.2⟩
theorem Pct_blind {w : WT} {ρ : Nat → Nat} {s : aS} {args : List VV} : FrameBlind (Pct w ρ s args) := fun a U g mk h => ⟨h.1, h.2.1, WF_same h.2.2 rfl rfl⟩
def nox {α : Type} (k : MM α) : MM α := fun s => match k s with
  | some (.inr _, _) => none
  | r => r
theorem nox_some {α : Type} {k : MM α} {s s' : aS} {o : α ⊕ Nat} (h : nox k s = some (o, s')) : k s = some (o, s') ∧ ∃ v, o = .inl v := by
  unfold nox at h
  split at h
  · cases h
  · next hne =>
    refine ⟨h, ?_⟩
    cases o with
    | inl v => exact ⟨v, rfl⟩
    | inr e => exact absurd h (hne _ _)
theorem onC_some {α : Type} {ci a : Nat} {k : MM α} {s : aS} {r : (α ⊕ Nat) × aS} (h : onC ci a k s = some r) : (∃ fs, s.1 a = .inl (ci, fs)) ∧ a < s.2.1 ∧ k s = some r := by
  unfold onC at h
  split at h
  · next c fs hc =>
    split at h
    · next hh => obtain ⟨h1, h2⟩ := hh; subst h1; exact ⟨⟨fs, hc⟩, h2, h⟩
    · cases h
  · cases h
/-- what is computed tells that its receiver is of that class -/
def Rcv {α : Type} (ci b : Nat) (k : MM α) : Prop := ∀ (s : aS) (r : (α ⊕ Nat) × aS), k s = some r → (∃ fs, s.1 b = .inl (ci, fs)) ∧ b < s.2.1
abbrev rI : Int32 → Option Value := fun x => some (.int x)
abbrev rU : Unit → Option Value := fun _ => none
abbrev rR : Nat → Option Value := fun a => some (.ref a)
/-- what a call's instruction and the callee's words give -/
def MV (own : String) (idx : Nat) (B : StA) (np : Nat) : Prop := Cond.methodLink own idx (aY B) ∈ tblG ∧ Cond.instanceMethod (aY B) ∈ tblG ∧ Cond.selects (aY B).cls (aY B) (aY B) ∈ tblG ∧ Cond.initialized (aY B).cls ∈ tblG ∧ Cond.code (aY B) (aC B) (aN B) (aR B) ∈ tblG ∧ aH B = [] ∧ ((aY B).cls ≠ "java/lang/invoke/MethodHandle" ∧ (aY B).cls ≠ "java/lang/invoke/VarHandle") ∧ (parseMethodDescriptor (aY B).desc).map (fun d => d.parameters.length) = some np ∧ aN B ≤ 45
def MS (own : String) (idx : Nat) (B : StA) (np : Nat) : Prop := Cond.methodLink own idx (aY B) ∈ tblG ∧ Cond.static (aY B) ∈ tblG ∧ Cond.initialized (aY B).cls ∈ tblG ∧ Cond.code (aY B) (aC B) (aN B) (aR B) ∈ tblG ∧ aH B = [] ∧ ((aY B).cls ≠ "java/lang/invoke/MethodHandle" ∧ (aY B).cls ≠ "java/lang/invoke/VarHandle") ∧ (parseMethodDescriptor (aY B).desc).map (fun d => d.parameters.length) = some np ∧ aN B ≤ 45
theorem aW_of {B : StA} (h : aH B = []) : aW B = Cond.code (aY B) (aC B) (aN B) (aR B) :: tblG := by
  unfold aW
  rw [h]
theorem aW_good {B : StA} (h : aH B = []) (hc : Cond.code (aY B) (aC B) (aN B) (aR B) ∈ tblG) : GoodIn tblG (aW B) := by
  rw [aW_of h]
  exact fun w hw => (List.mem_cons.mp hw).elim (fun e => by rw [e]; exact tblG_good _ hc) (fun h => tblG_good _ h)
theorem cat_le {w : WT} {ρ : Nat → Nat} {st : List VV} {k : Nat} (h : (st.map vcat).sum ≤ k) : ((cS w ρ st).map fun v => v.category).sum ≤ k := by
  unfold cS
  rw [List.map_map, show (fun v => v.category) ∘ cV w ρ = vcat from funext fun v => cV_cat w ρ v]
  exact h
theorem Qok_F {β : Type} {w : WT} {n : Nat} {ρ : Nat → Nat} {res : β → Option Value} {o : β ⊕ Nat} {s' : aS} {a : Array Value} {st t : State} {oc : Outcome} (h : Qok w n ρ res o s' a st oc t) : va_F (wA w) st t := h.2
theorem Qex_F {β : Type} {w : WT} {n : Nat} {ρ : Nat → Nat} {o : β ⊕ Nat} {s' : aS} {E : String} {st t : State} (h : Qex w n ρ o s' E st t) : va_F (wA w) st t := h.2
theorem cut_ok {A : StA} {Y : DyA} {H : Heap} {locs : List Loc} {U : State} {ρ : Nat → Nat} {s : aS} {args : List VV} (ok : OkY A Y) (hP : PH (yW Y) ρ s H) (hS : va_S (wA (yW Y)) (yS Y).heap H locs) (hU : U.heap = H) (hW : (yS Y).WarmedH U.vm) : Pct (yW Y) ρ s args (args.map (cV (yW Y) ρ)).toArray U := by
  obtain ⟨p, l, e, R, s0, m, args, below, meth, c, w, ρ0, n0, c0, z0⟩ := Y
  obtain ⟨hx, hb, hr, hml, hown, hts, hlk, hst, hwf, htb, hd1, hd2, hnm, hnw⟩ := ok
  exact ⟨rfl, by rw [hU]; exact hP, WF_moved hwf hW (by rw [hU]; exact hS.1) (fun q h1 h2 => by rw [hU]; exact hS.2.1 q h1 h2)⟩
section RC
variable {A B : StA} {Y : DyA} {pc : Nat} {lv : List (Nat × VV)} {st st0 : List VV} {α β γ : Type} {K : α → MM β} {res : β → Option Value} {s : aS} {f : γ → MM α}
/-- a call, however it is made -/
theorem r_call0 {argsB : List VV} {kB : MM γ} {resB : γ → Option Value} (hA0 : aH A = []) (hct : Ct B argsB kB resB) (hso : ∀ n, stO n st0 → stO n st ∧ ∀ v ∈ argsB, vOk n v)
    (hrun : ∀ (oB : γ ⊕ Nat) (s1 s' : aS), kB s = some (oB, s1) → mono s s1 → mono s1 s' → OkY A Y → roomY Y s s' → ∀ (H : Heap) (locs : List Loc) (ls : Array Slot) (ρ : Nat → Nat), PH (yW Y) ρ s H → va_S (wA (yW Y)) (yS Y).heap H locs → lv_has ls (aN A) (cL (yW Y) ρ lv) →
      vx_Met Y.2.1 (aY B) (aW B) (rmOf (aD B) s s1) (Pct (yW Y) ρ s argsB) (Qok (yW Y) s.2.1 ρ resB oB s1) (Qex (yW Y) s.2.1 ρ oB s1) (s1.2.2.1 - s.2.2.1) (s1.2.2.2 - s.2.2.2) (wA (yW Y)) →
      vx_Run Y.1 Y.2.1 Y.2.2.1 Y.2.2.2.1 Y.2.2.2.2.1 Y.2.2.2.2.2.1 Y.2.2.2.2.2.2.1 Y.2.2.2.2.2.2.2.1 Y.2.2.2.2.2.2.2.2.1 Y.2.2.2.2.2.2.2.2.2.1 H locs (s.2.2.1 - yc Y) (s.2.2.2 - yσ Y) (s1.2.2.1 - s.2.2.1) (s1.2.2.2 - s.2.2.2) (F0 Y.2.2.2.2.2.1 pc ls (cS (yW Y) ρ st0)) (cS (yW Y) ρ st) (Qok (yW Y) s.2.1 ρ resB oB s1 (argsB.map (cV (yW Y) ρ)).toArray) (Qex (yW Y) s.2.1 ρ oB s1) (wA (yW Y)))
    (g : ∀ v s1, Rr A Y (pc + 3) lv ((resB v).toList.map Sum.inl ++ st) (f v) K res s1) : Rr A Y pc lv st0 (mbnd kB f) K res s := by
  intro o s' e
  rw [mbnd_assoc] at e
  rcases mbnd_some e with ⟨v, s1, h1, h2⟩ | ⟨ex, h1, e2⟩
  · have m1 := (hct Y _ _ _ h1).1
    obtain ⟨g1, g2⟩ := g v s1 o s' h2
    refine ⟨mono_trans m1 g1, fun ok rm hl hs H locs ls ρ hx hP hS hlv => ?_⟩
    have hst : Y.2.1.stackTraces = false := by obtain ⟨p, l, e, R, s0, m, args, below, meth, c, w, ρ0, n0, c0, z0⟩ := Y; exact ok.2.2.2.2.2.2.2.1
    have hM := (hct Y _ _ _ h1).2 Y.2.1 (yW Y) ρ hst (hso _ hs).2
    have hR := hrun _ s1 s' h1 m1 g1 ok rm H locs ls ρ hP hS hlv hM
    obtain ⟨rm1, rm2, rm3, rm4, rm5⟩ := rm
    obtain ⟨m11, m12, m13⟩ := m1
    refine callGo hR hS (fun q h => h) (fun st v t h => Qok_F h) (fun E st t h => Qex_F h) (fun E ce q9 st9 t H1 locs1 _ _ _ hq _ _ _ _ => ?_) (fun v9 st9 t H1 locs1 hh0 hh1 hal hq hS1 => ?_)
    · obtain ⟨⟨e9, ρ', he, -⟩, -⟩ := hq
      cases he
    · obtain ⟨⟨v', ρ', hv, hxt, hro, hoc, hPH⟩, -⟩ := hq
      cases hv
      cases hoc
      rw [hh1] at hPH
      have hst1 : stO s1.2.1 ((resB v).toList.map Sum.inl ++ st) := fun z hz => by
        rcases List.mem_append.mp hz with q | q
        · obtain ⟨z2, hz2, rfl⟩ := List.mem_map.mp q
          exact hro z2 (Option.mem_toList.mp hz2)
        · exact vOk_mono m11 ((hso _ hs).1 z q)
      have gg := g2 ok ⟨Nat.le_trans rm1 m11, Nat.le_trans rm2 m12, Nat.le_trans rm3 m13, rm4, rm5⟩ (lvO_mono m11 hl) hst1 H1 locs1 ls ρ' (ext_trans rm1 hx hxt) hPH hS1 (by rw [cL_congr hxt hl]; exact hlv)
      have e3 : s.2.2.1 - yc Y + (s1.2.2.1 - s.2.2.1) = s1.2.2.1 - yc Y := by omega
      have e4 : s.2.2.2 - yσ Y + (s1.2.2.2 - s.2.2.2) = s1.2.2.2 - yσ Y := by omega
      have e5 : ((resB v).map (cv ρ')).toList ++ cS (yW Y) ρ st = cS (yW Y) ρ' ((resB v).toList.map Sum.inl ++ st) := by
        rw [← cS_congr hxt (hso _ hs).1]
        unfold cS
        rw [List.map_append]
        cases resB v <;> rfl
      rw [e3, e4, e5]
      exact gg
  · subst e2
    have m1 := (hct Y _ _ _ h1).1
    refine ⟨m1, fun ok rm hl hs H locs ls ρ hx hP hS hlv => ?_⟩
    have hst : Y.2.1.stackTraces = false := by obtain ⟨p, l, e, R, s0, m, args, below, meth, c, w, ρ0, n0, c0, z0⟩ := Y; exact ok.2.2.2.2.2.2.2.1
    have hM := (hct Y _ _ _ h1).2 Y.2.1 (yW Y) ρ hst (hso _ hs).2
    have hR := hrun _ s' s' h1 m1 (mono_rf s') ok rm H locs ls ρ hP hS hlv hM
    obtain ⟨rm1, rm2, rm3, rm4, rm5⟩ := rm
    obtain ⟨m11, m12, m13⟩ := m1
    have e3 : s.2.2.1 - yc Y + (s'.2.2.1 - s.2.2.1) = s'.2.2.1 - yc Y := by omega
    have e4 : s.2.2.2 - yσ Y + (s'.2.2.2 - s.2.2.2) = s'.2.2.2 - yσ Y := by omega
    refine callGo hR hS (fun q h => h) (fun st v t h => Qok_F h) (fun E st t h => Qex_F h) (fun E ce q9 st9 t H1 locs1 hh0 hh1 hal hq hS1 hce hcv hcl => ?_) (fun v9 st9 t H1 locs1 _ _ _ hq _ => ?_)
    · rw [e3, e4]
      obtain ⟨⟨e9, ρ', he, hE, hxt, hPH⟩, -⟩ := hq
      cases he
      rw [hh1] at hPH
      obtain ⟨p, l, e, R, s0, m, args, below, meth, c, w, ρ0, n0, c0, z0⟩ := Y
      obtain ⟨hx9, hb, hr, hml, hown, hts, hlk, hst, hwf, htb, hd1, hd2, hnm, hnw⟩ := ok
      refine vx_out (fun x hx => ?_) hlk hce hcv hcl (fun t9 ht9 _ => ⟨⟨ex, ρ', rfl, hE, ext_trans rm1 hx hxt, by rw [ht9]; exact hPH⟩, ?_⟩) (fun z hz => hS1.2.2 z hz) (Nat.le_refl _) (Nat.le_refl _)
      · rw [htb, hA0] at hx
        cases hx
      · exact hS1.F ht9
    · obtain ⟨⟨v', ρ', hv, -⟩, -⟩ := hq
      cases hv
theorem r_callV {ci b np : Nat} {as : List VV} {kB : MM γ} {resB : γ → Option Value} {idx : Nat} (hw : MV (aOwn A) idx B np) (hct : Ct B (vr b :: as) kB resB) (hrc : Rcv ci b kB) (hci : ∃ T N, vwCl[ci]? = some ((aY B).cls, T, N)) (hn : as.length = np) (hst : st0 = as.reverse ++ vr b :: st) (hd : decode (aC A) pc = .ok (.invokevirtual idx, 3)) (hA0 : aH A = []) (hdp : aD B + 1 ≤ aD A) (hcat : (st.map vcat).sum ≤ 8)
    (g : ∀ v s1, Rr A Y (pc + 3) lv ((resB v).toList.map Sum.inl ++ st) (f v) K res s1) : Rr A Y pc lv st0 (mbnd kB f) K res s := by
  subst hst
  have hso : ∀ n, stO n (as.reverse ++ vr b :: st) → stO n st ∧ ∀ v ∈ vr b :: as, vOk n v := fun n h => ⟨fun v hv => h v (List.mem_append_right _ (List.mem_cons_of_mem _ hv)), fun v hv => (List.mem_cons.mp hv).elim (fun e => h v (by rw [e]; exact List.mem_append_right _ List.mem_cons_self)) (fun q => h v (List.mem_append_left _ (List.mem_reverse.mpr q)))⟩
  refine r_call0 hA0 hct hso (fun oB s1 s' h1 m1 m2 ok rm H locs ls ρ hP hS hlv hM => ?_) g
  obtain ⟨⟨fs, hcell⟩, hbl⟩ := hrc _ _ h1
  obtain ⟨T, N, hc⟩ := hci
  obtain ⟨w1, w2, w3, w4, w5, w6, w7, w8, w9⟩ := hw
  have hct2 := fun (U : State) hU hW => cut_ok (U := U) (args := vr b :: as) ok hP hS hU hW
  obtain ⟨p, l, e, R, s0, m, args, below, meth, c, w, ρ0, n0, c0, z0⟩ := Y
  obtain ⟨hx, hb, hr, hml, hown, hts, hlk, hst, hwf, htb, hd1, hd2, hnm, hnw⟩ := ok
  obtain ⟨rm1, rm2, rm3, rm4, rm5⟩ := rm
  obtain ⟨m11, m12, m13⟩ := m1
  obtain ⟨m21, m22, m23⟩ := m2
  refine vx_runV (C := (aY B).cls) (b := ρ b) (As := as.map (cV w ρ)) (n := np) ⟨hx, hb, hml, hown, hts⟩ hM ⟨⟨rfl, rfl, ?_, ?_, pay_in hts (aW_good w6 w5), ?_, hts _ w5, hts _ w4, w7, fun sig h => ?_, hts _ w1⟩, hts _ w2, hts _ w3⟩ ⟨Pct_blind, va_recv hwf.1 hP.1 hc (ws_obj hcell hbl), hct2⟩ rfl (by rw [List.length_map]; exact hn) hlv.1 ?_ ?_ hd ⟨?_, ?_⟩
  · show aD B + 1 ≤ R.frames; omega
  · show 8 + (aN B + 11) + 64 * aD B ≤ R.locals; omega
  · rw [aW_of w6]; exact List.mem_cons_self
  · rw [h] at w8; exact (Option.some.inj w8).symm
  · show cS w ρ (as.reverse ++ vr b :: st) = _
    unfold cS
    rw [List.map_append, List.map_reverse]
    rfl
  · exact lv_room (cat_le hcat)
  · show s.2.2.1 - c0 + (s1.2.2.1 - s.2.2.1) ≤ R.cells
    have : s'.2.2.1 - c0 ≤ R.cells := rm4
    have : c0 ≤ s.2.2.1 := rm2
    omega
  · show s.2.2.2 - z0 + (s1.2.2.2 - s.2.2.2) ≤ R.slots
    have : s'.2.2.2 - z0 ≤ R.slots := rm5
    have : z0 ≤ s.2.2.2 := rm3
    omega
end RC
