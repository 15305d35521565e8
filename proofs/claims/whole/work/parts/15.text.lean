/-! TEXTS: length and charAt, as String has them -/
theorem str_ok : strB.all (fun b => b.all fun x => decide (((x &&& 255).toUInt32 % 65536).toInt32 = x ∧ narrow .char (.int x) = .int x)) = true := by decide +kernel
theorem str_at {i j : Nat} (hj : j < (strB.getD i []).length) : ∀ x, x = (strB.getD i []).getD j 0 → ((x &&& 255).toUInt32 % 65536).toInt32 = x ∧ narrow .char (.int x) = .int x := by
  rintro x rfl
  have hm : strB.getD i [] ∈ strB := by
    have hi : i < strB.length := by
      rcases Nat.lt_or_ge i strB.length with h | h
      · exact h
      · rw [List.getD_eq_getElem?_getD, List.getElem?_eq_none h] at hj
        cases hj
    rw [List.getD_eq_getElem?_getD, List.getElem?_eq_getElem hi]
    exact List.getElem_mem hi
  have h1 := List.all_eq_true.mp str_ok _ hm
  have hx : (strB.getD i []).getD j 0 ∈ strB.getD i [] := by
    rw [List.getD_eq_getElem?_getD (l := strB.getD i []), List.getElem?_eq_getElem hj]
    exact List.getElem_mem hj
  exact of_decide_eq_true (List.all_eq_true.mp h1 _ hx)
section RT
variable {A B : StA} {Y : DyA} {pc : Nat} {lv : List (Nat × VV)} {st st0 : List VV} {α β γ : Type} {k : MM α} {K : α → MM β} {res : β → Option Value} {s : aS} {f : γ → MM α}
theorem r_ifeqK {x : Int32} {off : Int} {tgt : Nat} (hd : decode (aC A) pc = .ok (.ifCond .eq off, 3)) (ht : (pc : Int) + off = (tgt : Int)) (h1 : x = 0 → Rr A Y tgt lv st k K res s) (h2 : ¬ (x = 0) → Rr A Y (pc + 3) lv st k K res s) : Rr A Y pc lv (vi x :: st) k K res s := by
  have h := r_ifeq (k1 := k) (k2 := k) hd ht h1 h2
  rwa [ite_self] at h
theorem r_ifneK {x : Int32} {off : Int} {tgt : Nat} (hd : decode (aC A) pc = .ok (.ifCond .ne off, 3)) (ht : (pc : Int) + off = (tgt : Int)) (h1 : x = 0 → Rr A Y (pc + 3) lv st k K res s) (h2 : ¬ x = 0 → Rr A Y tgt lv st k K res s) : Rr A Y pc lv (vi x :: st) k K res s := by
  have h := r_ifne (k1 := k) (k2 := k) hd ht h1 h2
  rwa [ite_self] at h
theorem r_ifltK {x : Int32} {off : Int} {tgt : Nat} (hd : decode (aC A) pc = .ok (.ifCond .lt off, 3)) (ht : (pc : Int) + off = (tgt : Int)) (h1 : x < 0 → Rr A Y tgt lv st k K res s) (h2 : ¬ (x < 0) → Rr A Y (pc + 3) lv st k K res s) : Rr A Y pc lv (vi x :: st) k K res s := by
  have h := r_iflt (k1 := k) (k2 := k) hd ht h1 h2
  rwa [ite_self] at h
theorem r_icmpltK {x y : Int32} {off : Int} {tgt : Nat} (hd : decode (aC A) pc = .ok (.if_icmp .lt off, 3)) (ht : (pc : Int) + off = (tgt : Int)) (h1 : x < y → Rr A Y tgt lv st k K res s) (h2 : ¬ (x < y) → Rr A Y (pc + 3) lv st k K res s) : Rr A Y pc lv (vi y :: vi x :: st) k K res s := by
  have h := r_icmplt (k1 := k) (k2 := k) hd ht h1 h2
  rwa [ite_self] at h
theorem cV_t (w : WT) (ρ : Nat → Nat) {i : Nat} (hi : i < 52) : cV w ρ (vt i) = .ref (wK w i) := by
  show (if i = 2000 then _ else Value.ref (if i = 999 then _ else if i < 999 then wK w i else _)) = _
  rw [if_neg (by omega), if_neg (by omega), if_pos (by omega)]
theorem cV_b (w : WT) (ρ : Nat → Nat) {i : Nat} (hi : i < 52) : cV w ρ (vt (1000 + i)) = .ref (wV w i) := by
  show (if 1000 + i = 2000 then _ else Value.ref (if 1000 + i = 999 then _ else if 1000 + i < 999 then _ else wV w (1000 + i - 1000))) = _
  rw [if_neg (by omega), if_neg (by omega), if_neg (by omega), show 1000 + i - 1000 = i by omega]
/-- a step that changes no cell and looks only at what stood before -/
theorem r_ps {pc' : Nat} {st' : List VV} (h1 : ∀ n, stO n st → stO n st') (h2 : OkY A Y → ∀ (H : Heap) (locs : List Loc) (cells slots : Nat) (Q : State → Prop) (ls : Array Slot) (ρ : Nat → Nat), va_S (wA (yW Y)) (yS Y).heap H locs → WY Y H locs cells slots Q pc' ls (cS (yW Y) ρ st') → WY Y H locs cells slots Q pc ls (cS (yW Y) ρ st)) (g : Rr A Y pc' lv st' k K res s) : Rr A Y pc lv st k K res s := by
  intro o s' e
  obtain ⟨g1, g2⟩ := g o s' e
  exact ⟨g1, fun ok rm hl hs H locs ls ρ hx hP hS hv => h2 ok H locs _ _ _ ls ρ hS (g2 ok rm hl (h1 _ hs) H locs ls ρ hx hP hS hv)⟩
theorem r_tval {i idx : Nat} (hi : i < 52) (hw : Cond.fieldLink (aOwn A) idx "java/lang/String" "value" "[B" ∈ tblG) (hd : decode (aC A) pc = .ok (.getfield idx, 3)) (g : Rr A Y (pc + 3) lv (vt (1000 + i) :: st) k K res s) : Rr A Y pc lv (vt i :: st) k K res s := by
  refine r_ps (by intro n h; exact stO_c trivial (stO_t h)) (fun ok H locs cells slots Q ls ρ hS kk => ?_) g
  obtain ⟨p, l, e, R, s, m, args, below, meth, c, w, ρ0, n0, c0, z0⟩ := Y
  obtain ⟨hx, hb, hr, hml, hown, hts, hlk, hst, hwf, htb, hd1, hd2, hnm, hnw⟩ := ok
  rw [show cS w ρ (vt i :: st) = cV w ρ (vt i) :: cS w ρ st from rfl, cV_t w ρ hi]
  rw [show cS w ρ (vt (1000 + i) :: st) = cV w ρ (vt (1000 + i)) :: cS w ρ st from rfl, cV_b w ρ hi] at kk
  exact vk_getf hx hb (hwf.2.2.2.2.2.2.2.2.1 i hi).2.2.1 hS hown (hts _ hw) (fun _ h => h) hd kk
theorem r_tcod {i idx : Nat} (hi : i < 52) (hw : Cond.fieldLink (aOwn A) idx "java/lang/String" "coder" "B" ∈ tblG) (hd : decode (aC A) pc = .ok (.getfield idx, 3)) (g : Rr A Y (pc + 3) lv (vi 0 :: st) k K res s) : Rr A Y pc lv (vt i :: st) k K res s := by
  refine r_ps (by intro n h; exact stO_c trivial (stO_t h)) (fun ok H locs cells slots Q ls ρ hS kk => ?_) g
  obtain ⟨p, l, e, R, s, m, args, below, meth, c, w, ρ0, n0, c0, z0⟩ := Y
  obtain ⟨hx, hb, hr, hml, hown, hts, hlk, hst, hwf, htb, hd1, hd2, hnm, hnw⟩ := ok
  rw [show cS w ρ (vt i :: st) = cV w ρ (vt i) :: cS w ρ st from rfl, cV_t w ρ hi]
  exact vk_getf hx hb (hwf.2.2.2.2.2.2.2.2.1 i hi).2.1 hS hown (hts _ hw) (fun _ h => h) hd kk
theorem r_tcmp {idx : Nat} (hw : Cond.fieldLink (aOwn A) idx "java/lang/String" "COMPACT_STRINGS" "Z" ∈ tblG) (hd : decode (aC A) pc = .ok (.getstatic idx, 3)) (g : Rr A Y (pc + 3) lv (vi 1 :: st) k K res s) : Rr A Y pc lv st k K res s := by
  refine r_ps (by intro n h; exact stO_c trivial h) (fun ok H locs cells slots Q ls ρ hS kk => ?_) g
  obtain ⟨p, l, e, R, s, m, args, below, meth, c, w, ρ0, n0, c0, z0⟩ := Y
  obtain ⟨hx, hb, hr, hml, hown, hts, hlk, hst, hwf, htb, hd1, hd2, hnm, hnw⟩ := ok
  exact va_gets hx hb hwf.2.2.2.2.2.2.2.2.2.1 hS hown (hts _ hw) (fun _ h => h) hd kk
theorem r_tfmt {idx : Nat} (hw : Cond.fieldLink (aOwn A) idx "jdk/internal/util/Preconditions" "SIOOBE_FORMATTER" "Ljava/util/function/BiFunction;" ∈ tblG) (hd : decode (aC A) pc = .ok (.getstatic idx, 3)) (g : Rr A Y (pc + 3) lv (vt 2000 :: st) k K res s) : Rr A Y pc lv st k K res s := by
  refine r_ps (by intro n h; exact stO_c trivial h) (fun ok H locs cells slots Q ls ρ hS kk => ?_) g
  obtain ⟨p, l, e, R, s, m, args, below, meth, c, w, ρ0, n0, c0, z0⟩ := Y
  obtain ⟨hx, hb, hr, hml, hown, hts, hlk, hst, hwf, htb, hd1, hd2, hnm, hnw⟩ := ok
  exact va_gets hx hb hwf.2.2.2.2.2.2.2.2.2.2.1 hS hown (hts _ hw) (fun _ h => h) hd kk
theorem r_tlen {i : Nat} (hi : i < 52) (hd : decode (aC A) pc = .ok (.arraylength, 1)) (g : Rr A Y (pc + 1) lv (vi (slen i) :: st) k K res s) : Rr A Y pc lv (vt (1000 + i) :: st) k K res s := by
  refine r_ps (by intro n h; exact stO_c trivial (stO_t h)) (fun ok H locs cells slots Q ls ρ hS kk => ?_) g
  obtain ⟨p, l, e, R, s, m, args, below, meth, c, w, ρ0, n0, c0, z0⟩ := Y
  obtain ⟨hx, hb, hr, hml, hown, hts, hlk, hst, hwf, htb, hd1, hd2, hnm, hnw⟩ := ok
  rw [show cS w ρ (vt (1000 + i) :: st) = cV w ρ (vt (1000 + i)) :: cS w ρ st from rfl, cV_b w ρ hi]
  exact va_tlen hx hb (hwf.2.2.2.2.2.2.2.2.1 i hi).2.2.2 hS rfl hd kk
theorem r_tbl {i : Nat} {j : Int32} (hi : i < 52) (hj : vp_in j (strB.getD i []).length) (hd : decode (aC A) pc = .ok (.baload, 1)) (g : Rr A Y (pc + 1) lv (vi ((strB.getD i []).getD j.toNatClampNeg 0) :: st) k K res s) : Rr A Y pc lv (vi j :: vt (1000 + i) :: st) k K res s := by
  refine r_ps (by intro n h; exact stO_c trivial (stO_t (stO_t h))) (fun ok H locs cells slots Q ls ρ hS kk => ?_) g
  obtain ⟨p, l, e, R, s, m, args, below, meth, c, w, ρ0, n0, c0, z0⟩ := Y
  obtain ⟨hx, hb, hr, hml, hown, hts, hlk, hst, hwf, htb, hd1, hd2, hnm, hnw⟩ := ok
  rw [show cS w ρ (vi j :: vt (1000 + i) :: st) = .int j :: cV w ρ (vt (1000 + i)) :: cS w ρ st from rfl, cV_b w ρ hi]
  exact va_tb hx hb (hwf.2.2.2.2.2.2.2.2.1 i hi).2.2.2 hS hj rfl hd kk
theorem p_i2c {x v : Int32} (hv : (x.toUInt32 % 65536).toInt32 = v) (hd : decode (aC A) pc = .ok (.i2c, 1)) : Pst A Y pc lv (vi x :: st) (pc + 1) lv (vi v :: st) := by
  refine ⟨fun n h1 h2 => ⟨h1, stO_c trivial (stO_t h2)⟩, fun ok H locs cells slots Q ls ρ a1 a2 hv9 kk => ?_⟩
  obtain ⟨p, l, e, R, s, m, args, below, meth, c, w, ρ0, n0, c0, z0⟩ := Y
  obtain ⟨hx, hb, hr, hml, hown, hts, hlk, hst, hwf, htb, hd1, hd2, hnm, hnw⟩ := ok
  exact lv_i2c hx hb hd hv (kk ls hv9)
/-- a call of a method of a text -/
theorem r_callT {i np : Nat} {as : List VV} {kB : MM γ} {resB : γ → Option Value} {idx : Nat} (hi : i < 52) (hw : MV (aOwn A) idx B np) (hB : (aY B).cls = "java/lang/String") (hct : Ct B (vt i :: as) kB resB) (hn : as.length = np) (hst : st0 = as.reverse ++ vt i :: st) (hd : decode (aC A) pc = .ok (.invokevirtual idx, 3)) (hA0 : aH A = []) (hdp : aD B + 1 ≤ aD A) (hcat : (st.map vcat).sum ≤ 8)
    (g : ∀ v s1, Rr A Y (pc + 3) lv ((resB v).toList.map Sum.inl ++ st) (f v) K res s1) : Rr A Y pc lv st0 (mbnd kB f) K res s := by
  subst hst
  have hso : ∀ n, stO n (as.reverse ++ vt i :: st) → stO n st ∧ ∀ v ∈ vt i :: as, vOk n v := fun n h => ⟨fun v hv => h v (List.mem_append_right _ (List.mem_cons_of_mem _ hv)), fun v hv => (List.mem_cons.mp hv).elim (fun e => h v (by rw [e]; exact List.mem_append_right _ List.mem_cons_self)) (fun q => h v (List.mem_append_left _ (List.mem_reverse.mpr q)))⟩
  refine r_call0 hA0 hct hso (fun oB s1 s' h1 m1 m2 ok rm H locs ls ρ hP hS hlv hM => ?_) g
  obtain ⟨w1, w2, w3, w4, w5, w6, w7, w8, w9⟩ := hw
  have hct2 := fun (U : State) hU hW => cut_ok (U := U) (args := vt i :: as) ok hP hS hU hW
  obtain ⟨p, l, e, R, s0, m, args, below, meth, c, w, ρ0, n0, c0, z0⟩ := Y
  obtain ⟨hx, hb, hr, hml, hown, hts, hlk, hst, hwf, htb, hd1, hd2, hnm, hnw⟩ := ok
  obtain ⟨rm1, rm2, rm3, rm4, rm5⟩ := rm
  obtain ⟨m11, m12, m13⟩ := m1
  obtain ⟨m21, m22, m23⟩ := m2
  have ect := cV_t w ρ hi
  obtain ⟨cell, c1, c2, c3, -⟩ := (hwf.2.2.2.2.2.2.2.2.1 i hi).1.kept hS.2.1
  have hct3 : ∀ U : State, U.heap = H → s0.WarmedH U.vm → Pct w ρ s (vt i :: as) (Value.ref (wK w i) :: as.map (cV w ρ)).toArray U := fun U hU hW => by
    have h9 := hct2 U hU hW
    rw [List.map_cons, show cV (yW (p, l, e, R, s0, m, args, below, meth, c, w, ρ0, n0, c0, z0)) ρ (vt i) = _ from ect] at h9
    exact h9
  have key := vx_runV (C := (aY B).cls) (b := wK w i) (As := as.map (cV w ρ)) (n := np) (rest := cS w ρ st) (g := F0 m pc ls (cS w ρ (as.reverse ++ vt i :: st))) (index := idx) (H := H) (locs := locs) (cells := s.2.2.1 - c0) (slots := s.2.2.2 - z0) (below := below) (e := e) (R := R) (meth := meth) ⟨hx, hb, hml, hown, hts⟩ hM ⟨⟨rfl, rfl, (by show aD B + 1 ≤ R.frames; omega), (by show 8 + (aN B + 11) + 64 * aD B ≤ R.locals; omega), pay_in hts (aW_good w6 w5), (by rw [aW_of w6]; exact List.mem_cons_self), hts _ w5, hts _ w4, w7, fun sig h => (by rw [h] at w8; exact (Option.some.inj w8).symm), hts _ w1⟩, hts _ w2, hts _ w3⟩ ⟨Pct_blind, ⟨cell, c1, c2, by rw [hB]; exact c3⟩, hct3⟩ rfl (by rw [List.length_map]; exact hn) hlv.1 (by
      show cS w ρ (as.reverse ++ vt i :: st) = _
      unfold cS
      rw [List.map_append, List.map_reverse, List.map_cons, ect]) (lv_room (cat_le hcat)) hd ⟨by
      show s.2.2.1 - c0 + (s1.2.2.1 - s.2.2.1) ≤ R.cells
      have : s'.2.2.1 - c0 ≤ R.cells := rm4
      have : c0 ≤ s.2.2.1 := rm2
      omega, by
      show s.2.2.2 - z0 + (s1.2.2.2 - s.2.2.2) ≤ R.slots
      have : s'.2.2.2 - z0 ≤ R.slots := rm5
      have : z0 ≤ s.2.2.2 := rm3
      omega⟩
  rw [← ect] at key
  exact key
end RT
def aJ0_coder : StA := (RJ0, cJ0_coder_7d493, 1, some .byte, yJ0_coder_7d493, 1, [])
def aJ0_isLatin1 : StA := (RJ0, cJ0_isLatin1_aae02, 1, some .boolean, yJ0_isLatin1_aae02, 1, [])
def aJ0_length : StA := (RJ0, cJ0_length_8abf5, 1, some .int, yJ0_length_8abf5, 2, [])
def aJ3_checkIndex : StA := (RJ3, cJ3_checkIndex_8e157, 3, some .int, yJ3_checkIndex_8e157, 1, [])
def aJ0_checkIndex : StA := (RJ0, cJ0_checkIndex_df160, 2, none, yJ0_checkIndex_df160, 2, [])
def aJ1_charAt : StA := (RJ1, cJ1_charAt_3b067, 2, some .char, yJ1_charAt_3b067, 3, [])
def aJ0_charAt : StA := (RJ0, cJ0_charAt_5068e, 2, some .char, yJ0_charAt_5068e, 4, [])
theorem ctJ0_coder {i : Nat} (hi : i < 52) : Ct aJ0_coder [vt i] (mret (0 : Int32)) rI := by
  refine ct_intro (by decide +kernel) rfl (Nat.le_of_ble_eq_true rfl) fun Y s => ?_
  refine r_tcmp (idx := 38) (tblG_of 848 (by decide +kernel) (by decide +kernel)) (by decide +kernel) ?_
  refine r_ifeqK (tgt := 13) (off := 10) (by decide +kernel) (by decide) (fun h => absurd h (by decide)) fun _ => ?_
  refine r_p (pc' := 7) (p_tload_n 0 (k := 0) (by omega) (by decide +kernel) rfl) ?_
  refine r_tcod (idx := 15) hi (tblG_of 2388 (by decide +kernel) (by decide +kernel)) (by decide +kernel) ?_
  refine r_p (pc' := 14) (p_goto (off := 4) (by decide +kernel) (by decide)) ?_
  exact r_iret rfl rfl .byte rfl rfl (by decide +kernel)
theorem ctJ0_isLatin1 {i : Nat} (hi : i < 52) : Ct aJ0_isLatin1 [vt i] (mret (1 : Int32)) rI := by
  refine ct_intro (by decide +kernel) rfl (Nat.le_of_ble_eq_true rfl) fun Y s => ?_
  refine r_tcmp (idx := 38) (tblG_of 848 (by decide +kernel) (by decide +kernel)) (by decide +kernel) ?_
  refine r_ifeqK (tgt := 17) (off := 14) (by decide +kernel) (by decide) (fun h => absurd h (by decide)) fun _ => ?_
  refine r_p (pc' := 7) (p_tload_n 0 (k := 0) (by omega) (by decide +kernel) rfl) ?_
  refine r_tcod (idx := 15) hi (tblG_of 2388 (by decide +kernel) (by decide +kernel)) (by decide +kernel) ?_
  refine r_ifneK (tgt := 17) (off := 7) (by decide +kernel) (by decide) (fun _ => ?_) (fun h => absurd rfl h)
  refine r_p (pc' := 14) (p_iconst (n := 1) (v := 1) (by decide +kernel) rfl) ?_
  refine r_p (pc' := 18) (p_goto (off := 4) (by decide +kernel) (by decide)) ?_
  exact r_iret rfl rfl .boolean rfl rfl (by decide +kernel)
theorem ctJ0_length {i : Nat} (hi : i < 52) : Ct aJ0_length [vt i] (mret (slen i)) rI := by
  refine ct_intro (by decide +kernel) rfl (Nat.le_of_ble_eq_true rfl) fun Y s => ?_
  refine r_p (pc' := 1) (p_tload_n 0 (k := 0) (by omega) (by decide +kernel) rfl) ?_
  refine r_tval (idx := 9) hi (tblG_of 2387 (by decide +kernel) (by decide +kernel)) (by decide +kernel) ?_
  refine r_tlen hi (by decide +kernel) ?_
  refine r_p (pc' := 6) (p_tload_n 0 (k := 0) (by omega) (by decide +kernel) rfl) ?_
  have e9 : (mret (slen i) : MM Int32) = mbnd (mret (0 : Int32)) fun v => mret (slen i >>> (v &&& 31)) := by
    rw [mret_mbnd, show (0 : Int32) &&& 31 = 0 from rfl, Int32.shiftRight_zero]
  rw [e9]
  refine r_callT (np := 0) (as := []) (B := aJ0_coder) (idx := 335) hi ⟨tblG_of 844 (by decide +kernel) (by decide +kernel), tblG_of 845 (by decide +kernel) (by decide +kernel), tblG_of 846 (by decide +kernel) (by decide +kernel), tblG_of 159 (by decide +kernel) (by decide +kernel), tblG_of 847 (by decide +kernel) (by decide +kernel), rfl, by decide, by decide +kernel, by decide⟩ rfl (ctJ0_coder hi) rfl rfl (by decide +kernel) rfl (by decide) (Nat.le_of_ble_eq_true rfl) fun v s => ?_
  refine r_p (pc' := 10) (p_ishr (by decide +kernel)) ?_
  exact r_iret rfl rfl .int rfl rfl (by decide +kernel)
theorem ctJ3_checkIndex {x n : Int32} (h0 : ¬ x < 0) (h1 : x < n) : Ct aJ3_checkIndex [vi x, vi n, vt 2000] (mret x) rI := by
  refine ct_intro (by decide +kernel) rfl (Nat.le_of_ble_eq_true rfl) fun Y s => ?_
  refine r_p (pc' := 1) (p_iload_n 0 (k := 0) (by decide +kernel) rfl) ?_
  refine r_ifltK (tgt := 9) (off := 8) (by decide +kernel) (by decide) (fun h => absurd h h0) fun _ => ?_
  refine r_p (pc' := 5) (p_iload_n 0 (k := 0) (by decide +kernel) rfl) ?_
  refine r_p (pc' := 6) (p_iload_n 1 (k := 1) (by decide +kernel) rfl) ?_
  refine r_icmpltK (tgt := 16) (off := 10) (by decide +kernel) (by decide) (fun _ => ?_) (fun h => absurd h1 h)
  refine r_p (pc' := 17) (p_iload_n 0 (k := 0) (by decide +kernel) rfl) ?_
  exact r_iret rfl rfl .int rfl rfl (by decide +kernel)
theorem ctJ0_checkIndex {x n : Int32} (h0 : ¬ x < 0) (h1 : x < n) : Ct aJ0_checkIndex [vi x, vi n] (mret ()) rU := by
  refine ct_intro (by decide +kernel) rfl (Nat.le_of_ble_eq_true rfl) fun Y s => ?_
  refine r_p (pc' := 1) (p_iload_n 0 (k := 0) (by decide +kernel) rfl) ?_
  refine r_p (pc' := 2) (p_iload_n 1 (k := 1) (by decide +kernel) rfl) ?_
  refine r_tfmt (idx := 1053) (tblG_of 864 (by decide +kernel) (by decide +kernel)) (by decide +kernel) ?_
  show Rr _ _ _ _ _ (mbnd (mret x) fun _ => mret ()) _ _ _
  refine r_callSI (np := 3) (as := [vi x, vi n, vt 2000]) (B := aJ3_checkIndex) (idx := 1059) ⟨tblG_of 866 (by decide +kernel) (by decide +kernel), tblG_of 867 (by decide +kernel) (by decide +kernel), tblG_of 161 (by decide +kernel) (by decide +kernel), tblG_of 868 (by decide +kernel) (by decide +kernel), rfl, by decide, by decide +kernel, by decide⟩ (ctJ3_checkIndex h0 h1) rfl rfl (by decide +kernel) rfl (by decide) (by decide) fun v s => ?_
  refine r_p (pc' := 9) (p_pop rfl (by decide +kernel)) ?_
  exact r_vret (y9 := ()) rfl rfl rfl (by decide +kernel)
theorem vp_lt {k : Int32} {n : Nat} (h : vp_in k n) : ¬ k < 0 ∧ k.toNatClampNeg < n := ⟨fun q => h (Or.inl q), Nat.not_le.mp fun q => h (Or.inr q)⟩
theorem slen_lt {i : Nat} {k : Int32} (hi : i < 52) (h : vp_in k (strB.getD i []).length) : k < slen i := by
  obtain ⟨h0, h1⟩ := vp_lt h
  have hl : ∀ b ∈ strB, b.length < 1000 := by decide +kernel
  have hb : (strB.getD i []).length < 1000 := by
    have hi2 : i < strB.length := hi
    rw [List.getD_eq_getElem?_getD, List.getElem?_eq_getElem hi2]
    exact hl _ (List.getElem_mem hi2)
  have hn : (slen i).toInt = ((strB.getD i []).length : Int) := by
    unfold slen
    exact Int32.toInt_ofNat_of_lt (by omega)
  have h2 : (0 : Int) ≤ k.toInt := by
    have h3 := Int32.not_lt.mp h0
    have h4 := Int32.le_iff_toInt_le.mp h3
    exact h4
  have h5 : k.toInt = (k.toNatClampNeg : Int) := by
    show k.toInt = (k.toInt.toNat : Int)
    omega
  rw [Int32.lt_iff_toInt_lt, hn, h5]
  omega
theorem ctJ1_charAt {i : Nat} {x : Int32} (hi : i < 52) (h : vp_in x (strB.getD i []).length) : Ct aJ1_charAt [vt (1000 + i), vi x] (mret ((strB.getD i []).getD x.toNatClampNeg 0)) rI := by
  refine ct_intro (by decide +kernel) rfl (Nat.le_of_ble_eq_true rfl) fun Y s => ?_
  obtain ⟨h0, h1⟩ := vp_lt h
  obtain ⟨hc, hn⟩ := str_at h1 _ rfl
  refine r_p (pc' := 1) (p_iload_n 1 (k := 1) (by decide +kernel) rfl) ?_
  refine r_p (pc' := 2) (p_tload_n 0 (k := 0) (by omega) (by decide +kernel) rfl) ?_
  refine r_tlen hi (by decide +kernel) ?_
  show Rr _ _ _ _ _ (mbnd (mret ()) fun _ => mret ((strB.getD i []).getD x.toNatClampNeg 0)) _ _ _
  refine r_callSU (np := 2) (as := [vi x, vi (slen i)]) (B := aJ0_checkIndex) (idx := 9) ⟨tblG_of 861 (by decide +kernel) (by decide +kernel), tblG_of 862 (by decide +kernel) (by decide +kernel), tblG_of 159 (by decide +kernel) (by decide +kernel), tblG_of 863 (by decide +kernel) (by decide +kernel), rfl, by decide, by decide +kernel, by decide⟩ (ctJ0_checkIndex h0 (slen_lt hi h)) rfl rfl (by decide +kernel) rfl (by decide) (Nat.le_of_ble_eq_true rfl) fun s => ?_
  refine r_p (pc' := 7) (p_tload_n 0 (k := 0) (by omega) (by decide +kernel) rfl) ?_
  refine r_p (pc' := 8) (p_iload_n 1 (k := 1) (by decide +kernel) rfl) ?_
  refine r_tbl hi h (by decide +kernel) ?_
  refine r_p (pc' := 12) (p_sipush (n := 255) (v := 255) (by decide +kernel) (by decide +kernel)) ?_
  refine r_p (pc' := 13) (p_iand (by decide +kernel)) ?_
  refine r_p (pc' := 14) (p_i2c hc (by decide +kernel)) ?_
  exact r_iret rfl rfl .char rfl hn (by decide +kernel)
theorem ctJ0_charAt {i : Nat} {x : Int32} (hi : i < 52) (h : vp_in x (strB.getD i []).length) : Ct aJ0_charAt [vt i, vi x] (mret ((strB.getD i []).getD x.toNatClampNeg 0)) rI := by
  refine ct_intro (by decide +kernel) rfl (Nat.le_of_ble_eq_true rfl) fun Y s => ?_
  obtain ⟨h0, h1⟩ := vp_lt h
  have e9 : (mret ((strB.getD i []).getD x.toNatClampNeg 0) : MM Int32) = mbnd (mret (1 : Int32)) fun v => if v = 0 then mfail else mbnd (mret ((strB.getD i []).getD x.toNatClampNeg 0)) fun v => if narrow .char (.int v) = .int v then mret v else mfail := by
    rw [mret_mbnd, if_neg (by decide), mret_mbnd, if_pos (str_at h1 _ rfl).2]
  rw [e9]
  refine r_p (pc' := 1) (p_tload_n 0 (k := 0) (by omega) (by decide +kernel) rfl) ?_
  refine r_callT (np := 0) (as := []) (B := aJ0_isLatin1) (idx := 492) hi ⟨tblG_of 854 (by decide +kernel) (by decide +kernel), tblG_of 855 (by decide +kernel) (by decide +kernel), tblG_of 856 (by decide +kernel) (by decide +kernel), tblG_of 159 (by decide +kernel) (by decide +kernel), tblG_of 857 (by decide +kernel) (by decide +kernel), rfl, by decide, by decide +kernel, by decide⟩ rfl (ctJ0_isLatin1 hi) rfl rfl (by decide +kernel) rfl (by decide) (Nat.le_of_ble_eq_true rfl) fun v s => ?_
  refine r_ifeq (tgt := 16) (off := 12) (by decide +kernel) (by decide) (fun _ o s' e => by cases e) fun _ => ?_
  refine r_p (pc' := 8) (p_tload_n 0 (k := 0) (by omega) (by decide +kernel) rfl) ?_
  refine r_tval (idx := 9) hi (tblG_of 2387 (by decide +kernel) (by decide +kernel)) (by decide +kernel) ?_
  refine r_p (pc' := 12) (p_iload_n 1 (k := 1) (by decide +kernel) rfl) ?_
  refine r_callSI (np := 2) (as := [vt (1000 + i), vi x]) (B := aJ1_charAt) (idx := 495) ⟨tblG_of 858 (by decide +kernel) (by decide +kernel), tblG_of 859 (by decide +kernel) (by decide +kernel), tblG_of 160 (by decide +kernel) (by decide +kernel), tblG_of 860 (by decide +kernel) (by decide +kernel), rfl, by decide, by decide +kernel, by decide⟩ (ctJ1_charAt hi h) rfl rfl (by decide +kernel) rfl (by decide) (Nat.le_of_ble_eq_true rfl) fun v s => ?_
  by_cases hv : narrow .char (.int v) = .int v
  · rw [if_pos hv]
    exact r_iret rfl rfl .char rfl hv (by decide +kernel)
  · rw [if_neg hv]
    exact fun o s' e => by cases e
theorem ctJ0_charAt' {i : Nat} {x : Int32} (hi : i < 52) : Ct aJ0_charAt [vt i, vi x] (schar i x) rI := fun Y s s' o e => by
  by_cases h : x < 0 ∨ (strB.getD i []).length ≤ x.toNatClampNeg
  · unfold schar at e
    rw [if_pos h] at e
    cases e
  · refine ctJ0_charAt hi h Y s s' o ?_
    rw [← e]
    unfold schar
    rw [if_neg h]
    rfl
section RTC
variable {A : StA} {Y : DyA} {pc : Nat} {lv : List (Nat × VV)} {st : List VV} {α β γ : Type} {k : MM α} {K : α → MM β} {res : β → Option Value} {s : aS}
theorem r_slen2 {i idx : Nat} (hw : Cond.methodLink (aOwn A) idx yJ0_length_8abf5 ∈ tblG) (hdp : 3 ≤ aD A) (hcat : (st.map vcat).sum ≤ 8) (hd : decode (aC A) pc = .ok (.invokevirtual idx, 3)) (g : ∀ s, Rr A Y (pc + 3) lv (vi (slen i) :: st) k K res s) (hA0 : aH A = [] := by rfl) (hi : i < 52 := by first | assumption | decide) : Rr A Y pc lv (vt i :: st) k K res s := by
  have e9 : k = mbnd (mret (slen i)) fun v => if v = slen i then k else mfail := by
    rw [mret_mbnd, if_pos rfl]
  rw [e9]
  refine r_callT (np := 0) (as := []) (B := aJ0_length) (idx := idx) hi ⟨hw, tblG_of 841 (by decide +kernel) (by decide +kernel), tblG_of 842 (by decide +kernel) (by decide +kernel), tblG_of 159 (by decide +kernel) (by decide +kernel), tblG_of 843 (by decide +kernel) (by decide +kernel), rfl, by decide, by decide +kernel, by decide⟩ rfl (ctJ0_length hi) rfl rfl hd hA0 hdp hcat fun v s => ?_
  by_cases hv : v = slen i
  · subst hv
    rw [if_pos rfl]
    exact g s
  · rw [if_neg hv]
    exact fun o s' e => by cases e
theorem r_schar {i idx : Nat} {x : Int32} {f : Int32 → MM α} (hw : Cond.methodLink (aOwn A) idx yJ0_charAt_5068e ∈ tblG) (hdp : 5 ≤ aD A) (hcat : (st.map vcat).sum ≤ 8) (hd : decode (aC A) pc = .ok (.invokevirtual idx, 3)) (g : ∀ v s, Rr A Y (pc + 3) lv (vi v :: st) (f v) K res s) (hA0 : aH A = [] := by rfl) (hi : i < 52 := by first | assumption | decide) : Rr A Y pc lv (vi x :: vt i :: st) (mbnd (schar i x) f) K res s := by
  exact r_callT (np := 1) (as := [vi x]) (B := aJ0_charAt) (idx := idx) hi ⟨hw, tblG_of 851 (by decide +kernel) (by decide +kernel), tblG_of 852 (by decide +kernel) (by decide +kernel), tblG_of 159 (by decide +kernel) (by decide +kernel), tblG_of 853 (by decide +kernel) (by decide +kernel), rfl, by decide, by decide +kernel, by decide⟩ rfl (ctJ0_charAt' hi) rfl rfl hd hA0 hdp hcat fun v s => g v s
end RTC
