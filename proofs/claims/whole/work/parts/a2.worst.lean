/-! WORST: the least harm, found by counting up on both sides -/
def wE (bad : Nat → Bool) : Nat → Nat → Int32 ⊕ Unit
  | 0, _ => .inr ()
  | m + 1, h => if bad h = true then .inl (Int32.ofNat h) else wE bad m (h + 1)
def wEv (e : Int32 ⊕ Unit) : Int32 := match e with
  | .inl v => v
  | .inr _ => -1
def noH (LW : Option (List Ln)) : Prop := match LW with
  | none => True
  | some L => ∀ x, x ∈ L → ∀ i, i ∈ x.2.2 → ¬ i.1 = 3
theorem code_noH {code : Nat → Int32} {n : Nat} (h : ¬ ∃ j, j < n ∧ code j = 1003) : ∀ (P : List It) (a : Nat), codeAt code a P → a + P.length ≤ n → ∀ i, i ∈ P → ¬ i.1 = 3
  | [], _, _, _, i, hi => nomatch hi
  | y :: r, a, hc, hle, i, hi => by
    have hle2 : a + (r.length + 1) ≤ n := hle
    rcases List.mem_cons.mp hi with rfl | hi
    · intro q
      refine h ⟨a, by omega, ?_⟩
      rw [hc.1]
      unfold encI
      rw [if_pos (by omega), q]
      rfl
    · exact code_noH h r (a + 1) hc.2 (by omega) i hi
theorem codeLs_noH {code : Nat → Int32} {n : Nat} (h : ¬ ∃ j, j < n ∧ code j = 1003) : ∀ (L : List Ln) (a : Nat), codeLs code a L → a + lsize L ≤ n → ∀ x, x ∈ L → ∀ i, i ∈ x.2.2 → ¬ i.1 = 3
  | [], _, _, _, x, hx => nomatch hx
  | y :: r, a, hc, hle, x, hx => by
    have hsz : lsize (y :: r) = 3 + y.2.2.length + lsize r := rfl
    rw [hsz] at hle
    rcases List.mem_cons.mp hx with rfl | hx
    · exact code_noH h x.2.2 (a + 3) hc.2.2.2.1 (by omega)
    · exact codeLs_noH h r _ hc.2.2.2.2 (by omega) x hx
theorem evL_congr3 {F F' : Nat → Int32} (h : ∀ k, k < 10 → ¬ k = 3 → F k = F' k) : ∀ (P : List It) (k : List Int32), (∀ i, i ∈ P → ¬ i.1 = 3) → evL F P k = evL F' P k
  | [], _, _ => rfl
  | i :: r, k, hi => by
    show evL F r (stp F i k) = evL F' r (stp F' i k)
    have e : fI F i = fI F' i := by
      unfold fI
      rw [h 8 (by decide) (by decide), h 9 (by decide) (by decide)]
      by_cases c : i.1 ≤ 7
      · rw [if_pos c, if_pos c, h i.1 (by omega) (hi i List.mem_cons_self)]
      · rw [if_neg c, if_neg c]
    have e2 : stp F i k = stp F' i k := by
      unfold stp
      rw [e]
    rw [e2, evL_congr3 h r _ (fun j hj => hi j (List.mem_cons_of_mem _ hj))]
theorem sumT_congr3 {F F' : Nat → Int32} (h : ∀ k, k < 10 → ¬ k = 3 → F k = F' k) (w : Nat) : ∀ (L : List Ln) (x : Int32), (∀ y, y ∈ L → ∀ i, i ∈ y.2.2 → ¬ i.1 = 3) → sumT F w L x = sumT F' w L x
  | [], _, _ => rfl
  | y :: r, x, hi => by
    show sumT F w r _ = sumT F' w r _
    have e : hoP F y.2.2 = hoP F' y.2.2 := by
      unfold hoP
      rw [evL_congr3 h y.2.2 [] (hi y List.mem_cons_self)]
    rw [e, sumT_congr3 h w r _ (fun z hz => hi z (List.mem_cons_of_mem _ hz))]
theorem lawTot_congr3 {F F' : Nat → Int32} (h : ∀ k, k < 10 → ¬ k = 3 → F k = F' k) {LW : Option (List Ln)} (hn : noH LW) (w : Nat) : lawTot LW F w = lawTot LW F' w := by
  unfold lawTot
  cases LW with
  | none =>
    show (if F 8 = 1 then _ else _) = (if F' 8 = 1 then _ else _)
    rw [h 8 (by decide) (by decide)]
  | some L =>
    show imin _ _ = imin _ _
    rw [sumT_congr3 h w L 0 hn]
theorem hVal_noH {K : CK} {LW : Option (List Ln)} (hn : noH LW) (t h h' hard master : Int32) (w k : Nat) : hVal K LW t h hard master w k = hVal K LW t h' hard master w k := by
  unfold hVal
  split
  · rfl
  · refine lawTot_congr3 (fun j hj h3 => ?_) hn w
    unfold cRow
    have : j = 0 ∨ j = 1 ∨ j = 2 ∨ j = 4 ∨ j = 5 ∨ j = 6 ∨ j = 7 ∨ j = 8 ∨ j = 9 := by omega
    rcases this with rfl | rfl | rfl | rfl | rfl | rfl | rfl | rfl | rfl <;> rfl
section WO
variable {s : aS} {f : Int32} {K : CK} {M : MK} {W : Nat → Int32} {LW : Option (List Ln)} {c : Nat} {x m h hd : Int32}
theorem asksHarm_run (C : CL s f K LW) : ∃ v, mX4_asksHarm K.2.2.2 s = some (.inl v, s) ∧ (v = 0 ∨ v = 1) ∧ (v = 0 → noH LW) := by
  obtain ⟨lines, n, code, L, hn, hno⟩ : ∃ lines n code, LawAt s K.2.2.2 lines n code ∧ n ≤ 450 ∧ ((¬ ∃ j, j < n ∧ code j = 1003) → noH LW) := by
    obtain ⟨-, -, L, -, ok⟩ := C
    cases LW with
    | none =>
      obtain ⟨code, L⟩ := L
      exact ⟨_, _, code, L, by decide, fun _ => trivial⟩
    | some LL =>
      obtain ⟨code, L, hc⟩ := L
      exact ⟨_, _, code, L, ok.2.1, fun q => codeLs_noH q LL 0 hc (by omega)⟩
  have ld : ∀ j, j < n → ldI 0 (K.2.2.2 + 1) (Int32.ofNat j) s = some (.inl (code j), s) := fun j hj => by
    rw [ldI_ok L.2 (ofN_nn (by omega)) (by rw [ofN_cl (by omega)]; exact hj), ofN_cl (by omega)]
  have r1 : gR 4 1 K.2.2.2 s = some (.inl (K.2.2.2 + 1), s) := gR_ok L.1 rfl
  have hloop := for_exit (s := s) (b := mX4_asksHarm_L2 K.2.2.2) (e1 := .inl ()) (e2 := .inr ()) n (fun j => code j = 1003) (fun j hj hb => by
    unfold mX4_asksHarm_L2
    simp only [mbnd_app, r1, kx_in, lenI_ok L.2, if_neg (nle hj (show n < 2 ^ 31 by omega)), ld j hj, if_neg hb, mret_app]) (fun j hj hb => by
    unfold mX4_asksHarm_L2
    simp only [mbnd_app, r1, kx_in, lenI_ok L.2, if_neg (nle hj (show n < 2 ^ 31 by omega)), ld j hj, if_pos hb, mret_app]) (by
    unfold mX4_asksHarm_L2
    simp only [mbnd_app, r1, kx_in, lenI_ok L.2, Int32.le_refl, if_true, mret_app])
  unfold mX4_asksHarm
  rcases Classical.em (∃ j, j < n ∧ code j = 1003) with q | q
  · refine ⟨1, ?_, Or.inr rfl, fun e => absurd e one_ne0⟩
    rw [onC_ok L.1, bnd_ok (hloop.1 q)]
    rfl
  · refine ⟨0, ?_, Or.inl rfl, fun _ => hno q⟩
    rw [onC_ok L.1, bnd_ok (hloop.2 q)]
    rfl
def badW (W : Nat → Int32) (LW : Option (List Ln)) (t : Nat) (hd master : Int32) (h : Nat) : Bool := decide (¬ accG W LW t (Int32.ofNat h) hd master 3 ≤ W 7)
theorem c_worst (S : Sm K W) (hk : kOk K) (hw : wOk K W c) {t : Nat} (ht : t < K.1 1) {v8 : Int32} (hv : v8 = 0 → noH LW) : ∀ (q h : Nat) (s : aS), q + h = 1000 → 1 ≤ h → CL s f K LW → (h = 1 ∨ ∃ h0, HG s K LW (Int32.ofNat t) h0 hd m 3) → ∃ s1, loopM (mX11_worst_L47 0 (Int32.ofNat t) m hd (wans W t) v8) (Int32.ofNat h) s = some (.inl (wE (badW W LW t hd m) q h), s1) ∧ ScR K.2.2.2 s s1
  | 0, h, s, hq, _, C, _ => by
    refine ⟨s, ?_, ScR.rf⟩
    rw [loopM_eq]
    refine (bnd_ok (v := .inr (.inr ())) (s' := s) ?_).trans rfl
    unfold mX11_worst_L47
    rw [if_pos (show (999 : Int32) < Int32.ofNat h from (ofN_lt (n := 999) (m := h) (by decide) (by omega)).mpr (by omega))]
    rfl
  | q + 1, h, s, hq, h1, C, H => by
    have n9 : ¬ (999 : Int32) < Int32.ofNat h := fun z => absurd ((ofN_lt (n := 999) (m := h) (by decide) (by omega)).mp z) (by omega)
    obtain ⟨s1, a1, a2, a3⟩ := hearG_run (t := Int32.ofNat t) (master := m) (harm := Int32.ofNat h) (hard := hd) C (hOk_of S hk hw ht)
    have hear : ∃ s2, (if Int32.ofNat h = 1 then (mbnd (gR 10 3 0) fun (v18 : Nat) => mbnd (gR 10 7 0) fun (v19 : Nat) => mbnd (mX2_hearGuilt v18 v19 (Int32.ofNat t) m (Int32.ofNat h) hd) fun _ => mret ()) else (if v8 = 0 then mret () else (mbnd (gR 10 3 0) fun (v21 : Nat) => mbnd (gR 10 7 0) fun (v22 : Nat) => mbnd (mX2_hearGuilt v21 v22 (Int32.ofNat t) m (Int32.ofNat h) hd) fun _ => mret ())) : MM Unit) s = some (.inl (), s2) ∧ ScR K.2.2.2 s s2 ∧ ∃ h0, HG s2 K LW (Int32.ofNat t) h0 hd m 3 ∧ ∀ w k, hVal K LW (Int32.ofNat t) h0 hd m w k = hVal K LW (Int32.ofNat t) (Int32.ofNat h) hd m w k := by
      have g3 : gR 10 3 0 s = some (.inl 3, s) := gR_ok C.1.1 rfl
      have g7 : gR 10 7 0 s = some (.inl 28, s) := gR_ok C.1.1 rfl
      by_cases e1 : Int32.ofNat h = 1
      · refine ⟨s1, ?_, a2, Int32.ofNat h, a3, fun _ _ => rfl⟩
        rw [if_pos e1, bnd_ok g3, bnd_ok g7, bnd_ok a1]
        rfl
      · by_cases e2 : v8 = 0
        · rcases H with rfl | ⟨h0, H⟩
          · exact absurd rfl e1
          · refine ⟨s, ?_, ScR.rf, h0, H, fun w k => hVal_noH (hv e2) _ _ _ _ _ w k⟩
            rw [if_neg e1, if_pos e2]
            rfl
        · refine ⟨s1, ?_, a2, Int32.ofNat h, a3, fun _ _ => rfl⟩
          rw [if_neg e1, if_neg e2, bnd_ok g3, bnd_ok g7, bnd_ok a1]
          rfl
    obtain ⟨s2, b1, b2, h0, b3, b4⟩ := hear
    have C2 := C.scR b2
    have hg := gains_run C2 b3 (Int32.ofNat h)
    rw [b4, b4, b4, b4, b4, b4, hG_same S hk hw ht (by decide), hG_same S hk hw ht (by decide), hG_same S hk hw ht (by decide)] at hg
    have hl : gI 1 10 28 s2 = some (.inl (W 7), s2) := by
      rw [← (Sm.ints S).2.2.2.1]
      exact gI_ok C2.1.2.1 rfl
    have hbody : mX11_worst_L47 0 (Int32.ofNat t) m hd (wans W t) v8 (Int32.ofNat h) s = some (.inl (if accG W LW t (Int32.ofNat h) hd m 3 ≤ W 7 then .inl (Int32.ofNat (h + 1)) else .inr (.inl (Int32.ofNat h))), s2) := by
      unfold mX11_worst_L47
      rw [if_neg n9, bnd_ok b1, bnd_ok (show gR 10 3 0 s2 = some (.inl 3, s2) from gR_ok C2.1.1 rfl), bnd_ok hg, bnd_ok (show gR 10 7 0 s2 = some (.inl 28, s2) from gR_ok C2.1.1 rfl), bnd_ok hl, ← accG3, ← ofN_succ]
      split <;> rfl
    by_cases hb : accG W LW t (Int32.ofNat h) hd m 3 ≤ W 7
    · rw [if_pos hb] at hbody
      obtain ⟨s3, d1, d2⟩ := c_worst S hk hw ht hv q (h + 1) s2 (by omega) (by omega) C2 (Or.inr ⟨h0, b3⟩)
      refine ⟨s3, ?_, b2.tr d2⟩
      have e : wE (badW W LW t hd m) (q + 1) h = wE (badW W LW t hd m) q (h + 1) := if_neg (by unfold badW; simp [hb])
      rw [loopM_eq, e]
      exact (bnd_ok hbody).trans d1
    · rw [if_neg hb] at hbody
      refine ⟨s2, ?_, b2⟩
      have e : wE (badW W LW t hd m) (q + 1) h = .inl (Int32.ofNat h) := if_pos (by unfold badW; simp [hb])
      rw [loopM_eq, e]
      exact (bnd_ok hbody).trans rfl
theorem m_worst (L : LawR W LW) (ok : LWok LW) (hk : kOk K) (hw : wOk K W c) {t : Nat} (ht : t < K.1 1) : ∀ (q h : Nat) (s : aS) (M : MK), q + h = 1000 → Mdl s 66 M → M.2 1 = W → QX I3 (loopM (mX12_worst_L94 66 (Int32.ofNat t) m hd) (Int32.ofNat h)) s M (wE (badW W LW t hd m) q h)
  | 0, h, s, M, hq, C, e => by
    rw [loopM_eq]
    refine QX.bnd (x := .inr (.inr ())) (QX.val C ?_) fun s1 M1 C1 _ _ => QX.ret C1
    unfold mX12_worst_L94
    rw [if_pos (show (999 : Int32) < Int32.ofNat h from (ofN_lt (n := 999) (m := h) (by decide) (by omega)).mpr (by omega))]
    rfl
  | q + 1, h, s, M, hq, C, e => by
    have n9 : ¬ (999 : Int32) < Int32.ofNat h := fun z => absurd ((ofN_lt (n := 999) (m := h) (by decide) (by omega)).mp z) (by omega)
    have g := m_would (x := Int32.ofNat h) (y := hd) (z := m) (K := K) (c := c) C (by rw [e]; exact L) ok hk (by rw [e]; exact hw) ht
    rw [e] at g
    rw [loopM_eq]
    by_cases hb : accG W LW t (Int32.ofNat h) hd m 3 ≤ W 7
    · refine QX.bnd (x := .inl (Int32.ofNat (h + 1))) ?_ fun s1 M1 C1 k1 _ => ?_
      · unfold mX12_worst_L94
        rw [if_neg n9]
        refine QX.bnd g fun s1 M1 C1 k1 _ => QX.get (MD.refs C1).2.1 (QX.get (show ldI 0 67 7 s1 = some (.inl (M1.2 1 7), s1) from wrd_ok (i := 7) C1 (by decide)) ?_)
        rw [k1.1, e, if_pos hb, ← ofN_succ]
        exact QX.ret C1
      · have e2 : wE (badW W LW t hd m) (q + 1) h = wE (badW W LW t hd m) q (h + 1) := if_neg (by unfold badW; simp [hb])
        rw [e2]
        exact m_worst L ok hk hw ht q (h + 1) s1 M1 (by omega) C1 (k1.1.trans e)
    · refine QX.bnd (x := .inr (.inl (Int32.ofNat h))) ?_ fun s1 M1 C1 k1 _ => ?_
      · unfold mX12_worst_L94
        rw [if_neg n9]
        refine QX.bnd g fun s1 M1 C1 k1 _ => QX.get (MD.refs C1).2.1 (QX.get (show ldI 0 67 7 s1 = some (.inl (M1.2 1 7), s1) from wrd_ok (i := 7) C1 (by decide)) ?_)
        rw [k1.1, e, if_neg hb]
        exact QX.ret C1
      · have e2 : wE (badW W LW t hd m) (q + 1) h = .inl (Int32.ofNat h) := if_pos (by unfold badW; simp [hb])
        rw [e2]
        exact QX.ret C1
theorem ag_worst (E : EnvL s f K M LW c) : Ag K.2.2.2 (mX11_worst 0 x m hd) (mX12_worst 66 x m hd) s M [(2, 1), (0, 2), (4, 3)] := by
  obtain ⟨⟨C, -, S, hk, hw, hc⟩, CLs, LR⟩ := E
  have hb1 : K.1 1 ≤ 6 := hk 1 (by decide)
  have hpre : ∀ s', mX12_worst 66 x m hd s' = onC 11 66 (mbnd (pI 11 0 66 0) fun _ => preD x m (mbnd (mX12_in hd 0 9) fun (v10 : Int32) => if v10 = 0 then mret 1 else mret 0) (mbnd (mX12_isGuilty 66 x) fun (v24 : Int32) =>
        if v24 = 0 then (
          mbnd (loopM (mX12_worst_L94 66 x m hd) 1) fun (e35 : Int32 ⊕ Unit) => match e35 with
            | .inl e35 => (
              mret e35
              )
            | .inr e35 => (
              mret (-1)
              )
        ) else (
          mret (-1)
        ))) s' := fun s' => by
    unfold mX12_worst preD
    simp only [mbnd_assoc]
    rfl
  have nh1 : ∀ s1, badD 1 hd → (mbnd (mX12_in hd 0 9) fun (v10 : Int32) => if v10 = 0 then mret 1 else mret 0 : MM Int32) s1 = some (.inl 1, s1) := fun s1 hB => by
    have h9 : hd < 0 ∨ 9 < hd := hB.elim (fun q => absurd q (by decide)) fun q => q.elim (fun q => absurd q (by decide)) id
    rw [bnd_ok (in_app hd 0 9 s1), if_pos h9]
    rfl
  have nh0 : ∀ s1, ¬ badD 1 hd → (mbnd (mX12_in hd 0 9) fun (v10 : Int32) => if v10 = 0 then mret 1 else mret 0 : MM Int32) s1 = some (.inl 0, s1) := fun s1 hB => by
    have h9 : ¬ (hd < 0 ∨ 9 < hd) := fun q => hB (Or.inr (Or.inr q))
    rw [bnd_ok (in_app hd 0 9 s1), if_neg h9]
    rfl
  rcases need_deed C S hk hw x m 1 hd with ⟨hA, e⟩ | ⟨t, u, ht, hu, rfl, rfl, ⟨hB, e⟩ | ⟨nb, hh, e⟩ | ⟨nb, ⟨p, hp, hp16, hh⟩, e⟩⟩
  · refine Or.inr ⟨2, 1, 0, ?_, rfl, one_ne0, fun s' D' => RQ.eq (hpre s') (RQ.start D' fun s1 D1 => pre_A D1 S hk hA)⟩
    unfold mX11_worst
    rw [onC_ok C.1, bnd_ex e]
  · refine Or.inr ⟨0, 2, 0, ?_, rfl, by decide, fun s' D' => RQ.eq (hpre s') (RQ.start D' fun s1 D1 => pre_B D1 S hk ht hu (nh1 s1 hB))⟩
    unfold mX11_worst
    rw [onC_ok C.1, bnd_ex e]
  · refine Or.inr ⟨4, 3, 0, ?_, rfl, by decide, fun s' D' => RQ.eq (hpre s') (RQ.start D' fun s1 D1 => pre_C D1 S hk ht hu (nh0 s1 nb) hh)⟩
    unfold mX11_worst
    rw [onC_ok C.1, bnd_ex e]
  · have g7 : gR 10 7 0 s = some (.inl 28, s) := gR_ok C.1 rfl
    have gl : gI 1 10 28 s = some (.inl (M.2 1 7), s) := by
      rw [← (Sm.ints S).2.2.2.1]
      exact gI_ok C.2.1 rfl
    have an : mX1_answered 28 (Int32.ofNat t) s = some (.inl (wans (M.2 1) t), s) := by
      rw [← ans_same S hk ht (hw.2.1 t ht).toolIn]
      exact answered_run C.2
    by_cases hG : wans (M.2 1) t ≤ M.2 1 7
    · obtain ⟨v8, a1, a2, a3⟩ := asksHarm_run CLs
      obtain ⟨s1, b1, b2⟩ := c_worst (m := Int32.ofNat u) (hd := hd) S hk hw ht a3 999 1 s (by decide) (by decide) CLs (Or.inl rfl)
      refine Or.inl ⟨wEv (wE (badW (M.2 1) LW t hd (Int32.ofNat u)) 999 1), s1, ?_, b2, fun s' D' => RQ.eq (hpre s') (RQ.start D' fun s2 D1 => pre_D D1 S hk ht hu (nh0 s2 nb) hh hp16 ?_)⟩
      · unfold mX11_worst
        rw [onC_ok C.1, bnd_ok e, bnd_ok g7, bnd_ok an, bnd_ok g7, bnd_ok gl, if_pos hG, bnd_ok g7, bnd_ok (show gR 1 6 28 s = some (.inl K.2.2.2, s) from gR_ok C.2.1 rfl), bnd_ok a1]
        refine (bnd_ok b1).trans ?_
        cases wE (badW (M.2 1) LW t hd (Int32.ofNat u)) 999 1 <;> rfl
      · refine RQ.get (m_isGuilty_run D1 (t := t) (by omega) ((hw.2.1 t ht).ok hk)) ?_
        rw [if_pos (show wans ((mint M 0 0).2 1) t ≤ (mint M 0 0).2 1 7 from hG), if_pos rfl]
        have g := m_worst (m := Int32.ofNat u) (hd := hd) (c := c) LR CLs.2.2.2.2 hk hw ht 999 1 s2 (mint M 0 0) (by decide) D1 rfl
        refine QX.rq (I := I3) (QX.bnd g fun s3 M3 C3 _ _ => ?_) (Or.inl rfl) rfl
        cases wE (badW (M.2 1) LW t hd (Int32.ofNat u)) 999 1
        · exact QX.ret C3
        · exact QX.ret C3
    · refine Or.inl ⟨-1, s, ?_, ScR.rf, fun s' D' => RQ.eq (hpre s') (RQ.start D' fun s2 D1 => pre_D D1 S hk ht hu (nh0 s2 nb) hh hp16 ?_)⟩
      · unfold mX11_worst
        rw [onC_ok C.1, bnd_ok e, bnd_ok g7, bnd_ok an, bnd_ok g7, bnd_ok gl, if_neg hG]
        rfl
      · refine RQ.get (m_isGuilty_run D1 (t := t) (by omega) ((hw.2.1 t ht).ok hk)) ?_
        rw [if_neg (show ¬ wans ((mint M 0 0).2 1) t ≤ (mint M 0 0).2 1 7 from hG), if_neg one_ne0]
        exact RQ.val D1 rfl rfl
end WO
