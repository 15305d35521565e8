/-! CALLS: laundered, guard, clean -/
section LC
variable {s : aS} {f : Int32} {K : CK} {M : MK} {W : Nat → Int32} {LW : Option (List Ln)} {c t : Nat} {wd gd : Int32} {x y : Int32}
theorem QX.stp {α β : Type} {I : Nat → Prop} {m : MM α} {g : α → MM β} {w : α} {v : β} {s s1 : aS} {M M1 : MK} (h : m s = some (.inl w, s1)) (o : Off s s1 66 78) (kp : Keep M M1) (i : ∀ k, I k → M1.1 k = M.1 k) (k : QX I (g w) s1 M1 v) : QX I (mbnd m g) s M v := by
  obtain ⟨s2, M2, a, b, c, d, e⟩ := k
  exact ⟨s2, M2, (bnd_ok h).trans a, b, o.trans c, kp.tr d, fun k hk => (e k hk).trans (i k hk)⟩
theorem search_res (C : CL s f K LW) (S : Sm K W) (hk : kOk K) (hw : wOk K W c) (ht : t < K.1 1) (hh : wd = -1 ∨ 0 ≤ wd) : ∃ s1, mX3_search 8 28 3 (Int32.ofNat t) gd wd s = some (.inl (), s1) ∧ ScR K.2.2.2 s s1 ∧ gI 3 3 8 s1 = some (.inl (lkS K W LW wd gd t).1, s1) ∧ gI 3 4 8 s1 = some (.inl (lkS K W LW wd gd t).2, s1) := by
  obtain ⟨s1, a1, a2, a3, x0, y0, a4⟩ := search_run (sh := gd) C S hk hw ht hh
  have h8 : hasO (sup s1 8 (o8 (lkS K W LW wd gd t))) 8 3 [.ref 9, .ref 13, .ref 17, .int (lkS K W LW wd gd t).1, .int (lkS K W LW wd gd t).2] := hasO_put a4.2
  exact ⟨_, a1, a2.tr a3, gI_ok h8 rfl, gI_ok h8 rfl⟩
theorem asItIs_run (C : Mdl s 66 M) : ∃ s' M', mX12_asItIs 66 s = some (.inl (), s') ∧ Mdl s' 66 M' ∧ Off s s' 66 78 ∧ Keep M M' ∧ M'.1 0 = M.1 0 ∧ M'.1 23 = -1 ∧ M'.1 24 = 0 := by
  obtain ⟨s1, h1, C1, o1⟩ := mint_run (k := 23) (v := -1) C rfl
  obtain ⟨s2, h2, C2, o2⟩ := mint_run (k := 24) (v := 0) C1 rfl
  refine ⟨s2, _, ?_, C2, o1.trans o2, ⟨rfl, rfl, rfl, rfl, rfl, rfl, rfl, rfl⟩, rfl, rfl, rfl⟩
  unfold mX12_asItIs
  rw [onC_ok C.1, bnd_ok h1, bnd_ok h2]
  rfl
theorem EnvL.lh (E : EnvL s f K M LW c) (ht : t < K.1 1) (hwd : wdOk wd) : LHs K (M.2 1) LW c t wd := ⟨E.2.2, E.2.1.2.2.2.2, E.1.2.2.2.1, E.1.2.2.2.2.1, hwd, ht, E.1.2.2.1.1.1⟩
theorem ag_laundered (E : EnvL s f K M LW c) : Ag K.2.2.2 (mX11_laundered 0 x y) (mX12_laundered 66 x y) s M [(2, 1)] := by
  have E0 := E
  obtain ⟨⟨C, -, S, hk, hw, hc⟩, CLs, LR⟩ := E
  have hb1 : K.1 1 ≤ 6 := hk 1 (by decide)
  rcases rg_or (K.1 1) (by omega) x with h | ⟨t, ht, rfl⟩
  · refine Or.inr ⟨2, 1, 0, ?_, rfl, one_ne0, fun s' D' => ?_⟩
    · unfold mX11_laundered
      rw [onC_ok C.1, bnd_ex (need_tool_no C h)]
    · unfold mX12_laundered
      exact RQ.start D' fun s1 D1 => RQ.get (noTool_no D1 S.1.2.1 (by omega) h) (RQ.thr D1 1 fun _ => rfl)
  have H := E0.lh ht (wd := -1) (Or.inl rfl)
  obtain ⟨s1, a1, a2, a3, a4⟩ := search_res (wd := -1) (gd := 0) CLs S hk hw ht (Or.inl rfl)
  have C1 := CLs.scR a2
  refine Or.inl ⟨if y = 0 then (lkS K (M.2 1) LW (-1) 0 t).1 else (lkS K (M.2 1) LW (-1) 0 t).2, s1, ?_, a2, fun s' D' => ?_⟩
  · unfold mX11_laundered
    rw [onC_ok C.1, bnd_ok (need_tool_ok C hk ht), bnd_ok (show gR 10 4 0 s = some (.inl 8, s) from gR_ok C.1 rfl), bnd_ok (show gR 10 7 0 s = some (.inl 28, s) from gR_ok C.1 rfl), bnd_ok (show gR 10 3 0 s = some (.inl 3, s) from gR_ok C.1 rfl), bnd_ok a1]
    split
    · rw [bnd_ok (show gR 10 4 0 s1 = some (.inl 8, s1) from gR_ok C1.1.1 rfl), bnd_ok a3]
      rfl
    · rw [bnd_ok (show gR 10 4 0 s1 = some (.inl 8, s1) from gR_ok C1.1.1 rfl), bnd_ok a4]
      rfl
  · unfold mX12_laundered
    refine RQ.start D' fun s2 D1 => RQ.get (noTool_in D1 S.1.2.1 (by omega) ht) (RQ.get (thr_no D1 1) ?_)
    rw [if_pos rfl]
    obtain ⟨s3, M3, b1, b2, b3, b4, b5, b6, b7⟩ := asItIs_run D1
    refine RQ.step b1 b3 b4 ?_
    have h3 : LHm (M.2 1) (-1) 0 M3 := ⟨b4.1, b6, b7⟩
    have hfs := (few_same (gd := 0) H)
    have key : QX I3 (mbnd (mX12_fewest 66 (Int32.ofNat t)) fun (v4 : Int32) => if v4 = 1000000 then mret (-1) else if y = 0 then mret v4 else mbnd (mX12_waysBy 66 (Int32.ofNat t)) fun (v7 : Int32) => mret v7) s3 M3 (if y = 0 then (lkS K (M.2 1) LW (-1) 0 t).1 else (lkS K (M.2 1) LW (-1) 0 t).2) := by
      refine QX.bnd (m_fewest H b2 h3) fun s4 M4 C4 k4 i4 => ?_
      have h4 := h3.keep k4 i4
      by_cases hn : wFew K (M.2 1) LW (-1) 0 t = 1000000
      · rw [hn, if_pos (by rfl)]
        have e1 : lkS K (M.2 1) LW (-1) 0 t = (-1, -1) := by
          rcases lk_best (gd := 0) H with ⟨q1, q2⟩ | ⟨a, b, c', q1, q2, q3, q4⟩
          · exact q1
          · have hco := co_le a b c'
            have := (few_iff (gd := 0) H (m := (co a b c' : Int)) (by omega)).mpr ⟨a, b, c', q1, by rw [co_cs1]; exact Int.le_refl _⟩
            omega
        rw [e1]
        have : (if y = 0 then ((-1, -1) : St2).1 else ((-1, -1) : St2).2) = -1 := by split <;> rfl
        rw [this]
        exact QX.ret C4
      · have hle : wFew K (M.2 1) LW (-1) 0 t ≤ 3 := hfs.2.elim (fun q => absurd q hn) id
        rw [if_neg (show ¬ Int32.ofNat (wFew K (M.2 1) LW (-1) 0 t) = 1000000 from fun q => hn ((ofN_inj (m := 1000000) (by omega) (by decide)).mp q))]
        by_cases hy : y = 0
        · rw [if_pos hy, if_pos hy, hfs.1, if_neg hn]
          exact QX.ret C4
        · rw [if_neg hy, if_neg hy]
          exact QX.bnd (m_waysBy H C4 h4 hn) fun s5 M5 C5 _ _ => QX.ret C5
    exact key.rq (Or.inl rfl) (b5.trans rfl)
/-- what guard finds, sort by sort -/
def wgrd (K : CK) (W : Nat → Int32) (LW : Option (List Ln)) (t : Nat) : Nat → Int32
  | 0 => 0
  | k + 1 => wgrd K W LW t k ||| (if wFew K W LW (-1) (1 <<< (Int32.ofNat k &&& (31 : Int32))) t = 1000000 then 1 <<< (Int32.ofNat k &&& (31 : Int32)) else 0)
theorem few_neg1 (H : LHs K W LW c t wd) : ((lkS K W LW wd gd t).1 = -1) = (wFew K W LW wd gd t = 1000000) := by
  have h := few_same (gd := gd) H
  apply propext
  rw [h.1]
  by_cases q : wFew K W LW wd gd t = 1000000
  · rw [if_pos q]
    exact ⟨fun _ => q, fun _ => rfl⟩
  · have hle : wFew K W LW wd gd t ≤ 3 := h.2.elim (fun z => absurd z q) id
    rw [if_neg q]
    exact ⟨fun z => absurd z (ofN_ne1 (by omega)), fun z => absurd z q⟩
theorem ag_guard (E : EnvL s f K M LW c) : Ag K.2.2.2 (mX11_guard 0 x) (mX12_guard 66 x) s M [(2, 1)] := by
  have E0 := E
  obtain ⟨⟨C, -, S, hk, hw, hc⟩, CLs, LR⟩ := E
  have hb1 : K.1 1 ≤ 6 := hk 1 (by decide)
  rcases rg_or (K.1 1) (by omega) x with h | ⟨t, ht, rfl⟩
  · refine Or.inr ⟨2, 1, 0, ?_, rfl, one_ne0, fun s' D' => ?_⟩
    · unfold mX11_guard
      rw [onC_ok C.1, bnd_ex (need_tool_no C h)]
    · unfold mX12_guard
      exact RQ.start D' fun s1 D1 => RQ.get (noTool_no D1 S.1.2.1 (by omega) h) (RQ.thr D1 1 fun _ => rfl)
  have H := E0.lh ht (wd := -1) (Or.inl rfl)
  have hfs := (few_same (gd := 0) H)
  obtain ⟨s1, a1, a2, a3, a4⟩ := search_res (wd := -1) (gd := 0) CLs S hk hw ht (Or.inl rfl)
  have C1 := CLs.scR a2
  have r4 : ∀ {s : aS}, CL s f K LW → gR 10 4 0 s = some (.inl 8, s) := fun C => gR_ok C.1.1 rfl
  have r7 : ∀ {s : aS}, CL s f K LW → gR 10 7 0 s = some (.inl 28, s) := fun C => gR_ok C.1.1 rfl
  have r3 : ∀ {s : aS}, CL s f K LW → gR 10 3 0 s = some (.inl 3, s) := fun C => gR_ok C.1.1 rfl
  -- nothing to guard, or each sort is looked at
  by_cases hz : wFew K (M.2 1) LW (-1) 0 t = 1000000 ∨ wFew K (M.2 1) LW (-1) 0 t = 0
  · have hneg : ¬ 0 < (lkS K (M.2 1) LW (-1) 0 t).1 := by
      rw [hfs.1]
      rcases hz with q | q
      · rw [if_pos q]
        decide
      · rw [if_neg (by omega), q]
        decide
    refine Or.inl ⟨0, s1, ?_, a2, fun s' D' => ?_⟩
    · unfold mX11_guard
      rw [onC_ok C.1, bnd_ok (need_tool_ok C hk ht), bnd_ok (r4 CLs), bnd_ok (r7 CLs), bnd_ok (r3 CLs), bnd_ok a1, bnd_ok (r4 C1), bnd_ok a3, if_neg hneg]
      rfl
    · unfold mX12_guard
      refine RQ.start D' fun s2 D1 => RQ.get (noTool_in D1 S.1.2.1 (by omega) ht) (RQ.get (thr_no D1 1) ?_)
      rw [if_pos rfl]
      obtain ⟨s3, M3, b1, b2, b3, b4, b5, b6, b7⟩ := asItIs_run D1
      refine RQ.step b1 b3 b4 ?_
      have key : QX I3 (mbnd (mX12_fewest 66 (Int32.ofNat t)) fun (v4 : Int32) => mbnd (loopM (mX12_guard_L35 66 (Int32.ofNat t) v4) (0, 0)) fun (e18 : Int32) => mret e18) s3 M3 0 := by
        refine QX.bnd (m_fewest H b2 ⟨b4.1, b6, b7⟩) fun s4 M4 C4 k4 i4 => QX.bnd (x := 0) ?_ fun s5 M5 C5 _ _ => QX.ret C5
        rw [loopM_eq]
        refine QX.bnd (x := .inr 0) (QX.val C4 ?_) fun s5 M5 C5 _ _ => QX.ret C5
        unfold mX12_guard_L35
        rw [if_neg (show ¬ (3 : Int32) ≤ 0 by decide)]
        rcases hz with q | q
        · rw [q, if_pos (by rfl)]
          rfl
        · rw [q, if_neg (by decide), if_pos (by decide)]
          rfl
      exact key.rq (Or.inl rfl) (b5.trans rfl)
  · have hn : ¬ wFew K (M.2 1) LW (-1) 0 t = 1000000 := fun q => hz (Or.inl q)
    have hle : wFew K (M.2 1) LW (-1) 0 t ≤ 3 := hfs.2.elim (fun q => absurd q hn) id
    have hpos : 0 < (lkS K (M.2 1) LW (-1) 0 t).1 := by
      rw [hfs.1, if_neg hn]
      exact (ofN_lt (n := 0) (by decide) (by omega)).mpr (Nat.pos_of_ne_zero fun q => hz (Or.inr q))
    obtain ⟨s9, d1, d2⟩ : ∃ s9, loopM (mX11_guard_L39 0 (Int32.ofNat t)) (wgrd K (M.2 1) LW t 0, Int32.ofNat 0) s1 = some (.inl (wgrd K (M.2 1) LW t 3), s9) ∧ ScR K.2.2.2 s1 s9 := by
      have := SR.loop (f := f) (K := K) (LW := LW) (b := mX11_guard_L39 0 (Int32.ofNat t)) (e := wgrd K (M.2 1) LW t 3) 3 (fun j => (wgrd K (M.2 1) LW t j, Int32.ofNat j)) (fun j hj s C => by
        obtain ⟨s2, p1, p2, p3, -⟩ := search_res (wd := -1) (gd := 1 <<< (Int32.ofNat j &&& (31 : Int32))) C S hk hw ht (Or.inl rfl)
        have C2 := C.scR p2
        refine ⟨s2, ?_, p2⟩
        show mX11_guard_L39 0 (Int32.ofNat t) (wgrd K (M.2 1) LW t j, Int32.ofNat j) s = some (.inl (.inl (wgrd K (M.2 1) LW t j ||| (if wFew K (M.2 1) LW (-1) (1 <<< (Int32.ofNat j &&& (31 : Int32))) t = 1000000 then 1 <<< (Int32.ofNat j &&& (31 : Int32)) else 0), Int32.ofNat (j + 1))), s2)
        unfold mX11_guard_L39
        dsimp only
        rw [if_neg (show ¬ (3 : Int32) ≤ Int32.ofNat j from nle (n := 3) hj (by decide)), bnd_ok (r4 C), bnd_ok (r7 C), bnd_ok (r3 C), bnd_ok p1, bnd_ok (r4 C2), bnd_ok p3, ← ofN_succ]
        by_cases q : wFew K (M.2 1) LW (-1) (1 <<< (Int32.ofNat j &&& (31 : Int32))) t = 1000000
        · rw [if_pos (by rw [few_neg1 H]; exact q), if_pos q]
          rfl
        · rw [if_neg (by rw [few_neg1 H]; exact q), if_neg q, Int32.or_zero]
          rfl) (fun s C => ⟨s, rfl, ScR.rf⟩)
      exact this s1 C1
    refine Or.inl ⟨wgrd K (M.2 1) LW t 3, s9, ?_, a2.tr d2, fun s' D' => ?_⟩
    · unfold mX11_guard
      rw [onC_ok C.1, bnd_ok (need_tool_ok C hk ht), bnd_ok (r4 CLs), bnd_ok (r7 CLs), bnd_ok (r3 CLs), bnd_ok a1, bnd_ok (r4 C1), bnd_ok a3, if_pos hpos, bnd_ok (show loopM (mX11_guard_L39 0 (Int32.ofNat t)) (0, 0) s1 = _ from d1)]
      rfl
    · unfold mX12_guard
      refine RQ.start D' fun s2 D1 => RQ.get (noTool_in D1 S.1.2.1 (by omega) ht) (RQ.get (thr_no D1 1) ?_)
      rw [if_pos rfl]
      obtain ⟨s3, M3, b1, b2, b3, b4, b5, b6, b7⟩ := asItIs_run D1
      refine RQ.step b1 b3 b4 ?_
      have key : QX (fun k => k = 0 ∨ k = 23) (mbnd (mX12_fewest 66 (Int32.ofNat t)) fun (v4 : Int32) => mbnd (loopM (mX12_guard_L35 66 (Int32.ofNat t) v4) (0, 0)) fun (e18 : Int32) => mret e18) s3 M3 (wgrd K (M.2 1) LW t 3) := by
        refine QX.bnd ((m_fewest H b2 ⟨b4.1, b6, b7⟩).weak (fun k hk => by rcases hk with rfl | rfl <;> unfold I3 <;> omega)) fun s4 M4 C4 k4 i4 => QX.bnd (x := wgrd K (M.2 1) LW t 3) ?_ fun s5 M5 C5 _ _ => QX.ret C5
        refine QX.loop (b := mX12_guard_L35 66 (Int32.ofNat t) (Int32.ofNat (wFew K (M.2 1) LW (-1) 0 t))) 3 (fun j => (wgrd K (M.2 1) LW t j, Int32.ofNat j)) (fun j hj s5 M5 C5 k5 i5 => ?_) (fun s5 M5 C5 _ _ => QX.val C5 rfl) C4
        show QX _ (mX12_guard_L35 66 (Int32.ofNat t) (Int32.ofNat (wFew K (M.2 1) LW (-1) 0 t)) (wgrd K (M.2 1) LW t j, Int32.ofNat j)) s5 M5 (.inl (wgrd K (M.2 1) LW t j ||| (if wFew K (M.2 1) LW (-1) (1 <<< (Int32.ofNat j &&& (31 : Int32))) t = 1000000 then 1 <<< (Int32.ofNat j &&& (31 : Int32)) else 0), Int32.ofNat (j + 1)))
        have np : ¬ Int32.ofNat (wFew K (M.2 1) LW (-1) 0 t) ≤ 0 := fun q => by
          have := (ofN_le (m := 0) (by omega) (by decide)).mp q
          exact hz (Or.inr (by omega))
        obtain ⟨s6, p1, C6, o6⟩ := mint_run (k := 24) (v := 1 <<< (Int32.ofNat j &&& (31 : Int32))) C5 rfl
        have h6 : LHm (M.2 1) (-1) (1 <<< (Int32.ofNat j &&& (31 : Int32))) (mint M5 24 (1 <<< (Int32.ofNat j &&& (31 : Int32)))) := ⟨k5.1.trans (k4.1.trans b4.1), ((i5 23 (Or.inr rfl)).trans (i4 23 (Or.inr rfl))).trans b6, rfl⟩
        have kk : Keep M5 (mint M5 24 (1 <<< (Int32.ofNat j &&& (31 : Int32)))) := ⟨rfl, rfl, rfl, rfl, rfl, rfl, rfl, rfl⟩
        unfold mX12_guard_L35
        dsimp only
        rw [if_neg (show ¬ (3 : Int32) ≤ Int32.ofNat j from nle (n := 3) hj (by decide)), if_neg (show ¬ Int32.ofNat (wFew K (M.2 1) LW (-1) 0 t) = 1000000 from fun q => hn ((ofN_inj (m := 1000000) (by omega) (by decide)).mp q)), if_neg np, ← ofN_succ]
        refine QX.stp p1 o6 kk (fun k hk => by rcases hk with rfl | rfl <;> rfl) (QX.bnd ((m_fewest H C6 h6).weak (fun k hk => by rcases hk with rfl | rfl <;> unfold I3 <;> omega)) fun s7 M7 C7 k7 i7 => ?_)
        by_cases q : wFew K (M.2 1) LW (-1) (1 <<< (Int32.ofNat j &&& (31 : Int32))) t = 1000000
        · rw [q, if_pos (by rfl), if_pos rfl]
          exact QX.ret C7
        · have hle2 : wFew K (M.2 1) LW (-1) (1 <<< (Int32.ofNat j &&& (31 : Int32))) t ≤ 3 := (few_same (gd := 1 <<< (Int32.ofNat j &&& (31 : Int32))) H).2.elim (fun z => absurd z q) id
          rw [if_neg (show ¬ Int32.ofNat (wFew K (M.2 1) LW (-1) (1 <<< (Int32.ofNat j &&& (31 : Int32))) t) = 1000000 from fun z => q ((ofN_inj (m := 1000000) (by omega) (by decide)).mp z)), if_neg q]
          exact QX.ret C7
      exact key.rq (Or.inl rfl) (b5.trans rfl)
def wcln (K : CK) (W : Nat → Int32) (LW : Option (List Ln)) : Nat → Int32
  | 0 => 0
  | t + 1 => wcln K W LW t ||| (if wans W t ≤ W 7 then (0 : Int32) else if wFew K W LW (-1) 0 t = 1000000 then 0 else 1 <<< (Int32.ofNat t &&& (31 : Int32)))
theorem bt_guilty (W : Nat → Int32) {t : Nat} : ∀ n, t < n → n ≤ 6 → (bt (wguilty W n) t = true ↔ ¬ wans W t ≤ W 7) := by
  have key : ∀ n, n ≤ 6 → (bt (wguilty W n) t = true ↔ t < n ∧ ¬ wans W t ≤ W 7) := by
    intro n
    induction n with
    | zero =>
      intro _
      show bt 0 t = true ↔ _
      rw [bt_0]
      exact ⟨fun q => absurd q (by decide), fun q => absurd q.1 (Nat.not_lt_zero t)⟩
    | succ n ih =>
      intro hn
      show bt (wguilty W n ||| (if wans W n ≤ W 7 then (0 : Int32) else 1 <<< (Int32.ofNat n &&& (31 : Int32)))) t = true ↔ _
      rw [bt_or, Bool.or_eq_true, ih (by omega)]
      by_cases q : wans W n ≤ W 7
      · rw [if_pos q, bt_0]
        constructor
        · rintro (⟨h1, h2⟩ | h)
          · exact ⟨by omega, h2⟩
          · exact absurd h (by decide)
        · rintro ⟨h1, h2⟩
          rcases Nat.lt_or_ge t n with z | z
          · exact Or.inl ⟨z, h2⟩
          · have : t = n := by omega
            subst this
            exact absurd q h2
      · rw [if_neg q, bt_shl (by omega)]
        constructor
        · rintro (⟨h1, h2⟩ | h)
          · exact ⟨by omega, h2⟩
          · have : n = t := by simpa using h
            subst this
            exact ⟨by omega, q⟩
        · rintro ⟨h1, h2⟩
          rcases Nat.lt_or_ge t n with z | z
          · exact Or.inl ⟨z, h2⟩
          · have : n = t := by omega
            exact Or.inr (by simpa using this)
  intro n ht hn
  rw [key n hn]
  exact ⟨fun h => h.2, fun h => ⟨ht, h⟩⟩
theorem ag_clean (E : EnvL s f K M LW c) : Ag K.2.2.2 (mX11_clean 0) (mX12_clean 66) s M [] := by
  have E0 := E
  obtain ⟨⟨C, -, S, hk, hw, hc⟩, CLs, LR⟩ := E
  have hb1 : K.1 1 ≤ 6 := hk 1 (by decide)
  have r4 : ∀ {s : aS}, CL s f K LW → gR 10 4 0 s = some (.inl 8, s) := fun C => gR_ok C.1.1 rfl
  have r7 : ∀ {s : aS}, CL s f K LW → gR 10 7 0 s = some (.inl 28, s) := fun C => gR_ok C.1.1 rfl
  have r3 : ∀ {s : aS}, CL s f K LW → gR 10 3 0 s = some (.inl 3, s) := fun C => gR_ok C.1.1 rfl
  have r1 : ∀ {s : aS}, CL s f K LW → gR 1 1 28 s = some (.inl 31, s) := fun C => gR_ok C.1.2.1 rfl
  have rn : ∀ {s : aS}, CL s f K LW → gI 8 3 31 s = some (.inl (Int32.ofNat (K.1 1)), s) := fun C => gI_ok C.1.2.t1.1 rfl
  have H : ∀ t, t < K.1 1 → LHs K (M.2 1) LW c t (-1) := fun t ht => E0.lh ht (Or.inl rfl)
  have hg : mX1_guiltySet 28 s = some (.inl (wguilty (M.2 1) (K.1 1)), s) := by
    rw [← guilty_same S hk (fun t ht => (hw.2.1 t ht).toolIn)]
    exact guiltySet_run C.2
  obtain ⟨s9, d1, d2⟩ : ∃ s9, loopM (mX11_clean_L12 0 (wguilty (M.2 1) (K.1 1))) (wcln K (M.2 1) LW 0, Int32.ofNat 0) s = some (.inl (wcln K (M.2 1) LW (K.1 1)), s9) ∧ ScR K.2.2.2 s s9 := by
    have := SR.loop (f := f) (K := K) (LW := LW) (b := mX11_clean_L12 0 (wguilty (M.2 1) (K.1 1))) (e := wcln K (M.2 1) LW (K.1 1)) (K.1 1) (fun j => (wcln K (M.2 1) LW j, Int32.ofNat j)) (fun j hj s C => by
      show ∃ s1, mX11_clean_L12 0 (wguilty (M.2 1) (K.1 1)) (wcln K (M.2 1) LW j, Int32.ofNat j) s = some (.inl (.inl (wcln K (M.2 1) LW j ||| (if wans (M.2 1) j ≤ M.2 1 7 then (0 : Int32) else if wFew K (M.2 1) LW (-1) 0 j = 1000000 then 0 else 1 <<< (Int32.ofNat j &&& (31 : Int32))), Int32.ofNat (j + 1))), s1) ∧ _
      unfold mX11_clean_L12
      dsimp only
      rw [bnd_ok (r7 C), bnd_ok (r1 C), bnd_ok (rn C), if_neg (nle hj (by omega)), bnd_ok (inSet_app _ _ s), ← ofN_succ]
      have hbt := bt_guilty (M.2 1) (t := j) (K.1 1) hj hb1
      by_cases q : wans (M.2 1) j ≤ M.2 1 7
      · have h0 : inSet (wguilty (M.2 1) (K.1 1)) (Int32.ofNat j) = 0 := by
          rw [inSet_0 _ (by omega)]
          exact fun z => hbt.mp z q
        refine ⟨s, ?_, ScR.rf⟩
        rw [if_pos h0, if_pos q, Int32.or_zero]
        rfl
      · have h0 : ¬ inSet (wguilty (M.2 1) (K.1 1)) (Int32.ofNat j) = 0 := by
          rw [inSet_0 _ (by omega)]
          exact fun z => z (hbt.mpr q)
        obtain ⟨s2, p1, p2, p3, -⟩ := search_res (wd := -1) (gd := 0) C S hk hw hj (Or.inl rfl)
        have C2 := C.scR p2
        refine ⟨s2, ?_, p2⟩
        rw [if_neg h0, if_neg q, mbnd_assoc, bnd_ok (r4 C), mbnd_assoc, bnd_ok (r7 C), mbnd_assoc, bnd_ok (r3 C), mbnd_assoc, bnd_ok p1, mbnd_assoc, bnd_ok (r4 C2), mbnd_assoc, bnd_ok p3]
        by_cases q2 : wFew K (M.2 1) LW (-1) 0 j = 1000000
        · rw [if_pos (by rw [few_neg1 (H j hj)]; exact q2), if_pos q2]
          rfl
        · rw [if_neg (by rw [few_neg1 (H j hj)]; exact q2), if_neg q2]
          rfl) (fun s C => by
      refine ⟨s, ?_, ScR.rf⟩
      show mX11_clean_L12 0 _ (_, Int32.ofNat (K.1 1)) s = _
      unfold mX11_clean_L12
      dsimp only
      rw [bnd_ok (r7 C), bnd_ok (r1 C), bnd_ok (rn C), if_pos (Int32.le_refl _)]
      rfl)
    exact this s CLs
  refine Or.inl ⟨wcln K (M.2 1) LW (K.1 1), s9, ?_, d2, fun s' D' => ?_⟩
  · unfold mX11_clean
    rw [onC_ok C.1, bnd_ok (r7 CLs), bnd_ok hg, bnd_ok (show loopM (mX11_clean_L12 0 (wguilty (M.2 1) (K.1 1))) (0, 0) s = _ from d1)]
    rfl
  · unfold mX12_clean
    refine RQ.start D' fun s2 D1 => ?_
    obtain ⟨s3, M3, b1, b2, b3, b4, b5, b6, b7⟩ := asItIs_run D1
    refine RQ.step b1 b3 b4 ?_
    have key : QX I3 (mbnd (loopM (mX12_clean_L13 66) (0, 0)) fun (e15 : Int32) => mret e15) s3 M3 (wcln K (M.2 1) LW (K.1 1)) := by
      refine QX.bnd (x := wcln K (M.2 1) LW (K.1 1)) (QX.loop (b := mX12_clean_L13 66) (K.1 1) (fun j => (wcln K (M.2 1) LW j, Int32.ofNat j)) (fun j hj s5 M5 C5 k5 i5 => ?_) (fun s5 M5 C5 k5 i5 => ?_) b2) fun s5 M5 C5 _ _ => QX.ret C5
      · show QX _ (mX12_clean_L13 66 (wcln K (M.2 1) LW j, Int32.ofNat j)) s5 M5 (.inl (wcln K (M.2 1) LW j ||| (if wans (M.2 1) j ≤ M.2 1 7 then (0 : Int32) else if wFew K (M.2 1) LW (-1) 0 j = 1000000 then 0 else 1 <<< (Int32.ofNat j &&& (31 : Int32))), Int32.ofNat (j + 1)))
        have e5 : M5.2 1 = M.2 1 := k5.1.trans b4.1
        have h5 : LHm (M.2 1) (-1) 0 M5 := ⟨e5, (i5 23 (Or.inr (Or.inl rfl))).trans b6, (i5 24 (Or.inr (Or.inr rfl))).trans b7⟩
        have tn : mX12_tools 66 s5 = some (.inl (Int32.ofNat (K.1 1)), s5) := by
          rw [← S.1.2.1, ← e5]
          exact tools_run C5
        have ig := m_isGuilty_run C5 (t := j) (by omega) (by rw [e5]; exact (hw.2.1 j hj).ok hk)
        rw [e5] at ig
        unfold mX12_clean_L13
        refine QX.get tn ?_
        dsimp only
        rw [if_neg (nle hj (by omega)), ← ofN_succ]
        refine QX.get ig ?_
        by_cases q : wans (M.2 1) j ≤ M.2 1 7
        · rw [if_pos q, if_pos rfl, if_pos q]
          exact QX.get (x := 0) rfl (QX.get (x := _) rfl (QX.ret C5))
        · rw [if_neg q, if_neg one_ne0, if_neg q]
          refine QX.bnd (x := if wFew K (M.2 1) LW (-1) 0 j = 1000000 then (0 : Int32) else 1 <<< (Int32.ofNat j &&& (31 : Int32))) (QX.bnd (m_fewest (H j hj) C5 h5) fun s6 M6 C6 _ _ => ?_) fun s6 M6 C6 _ _ => QX.get (x := _) rfl (QX.ret C6)
          by_cases q2 : wFew K (M.2 1) LW (-1) 0 j = 1000000
          · rw [q2, if_pos (by rfl), if_pos rfl]
            exact QX.ret C6
          · have hle2 : wFew K (M.2 1) LW (-1) 0 j ≤ 3 := (few_same (gd := 0) (H j hj)).2.elim (fun z => absurd z q2) id
            rw [if_neg (show ¬ Int32.ofNat (wFew K (M.2 1) LW (-1) 0 j) = 1000000 from fun z => q2 ((ofN_inj (m := 1000000) (by omega) (by decide)).mp z)), if_neg q2]
            exact QX.ret C6
      · have tn : mX12_tools 66 s5 = some (.inl (Int32.ofNat (K.1 1)), s5) := by
          rw [← S.1.2.1, ← (k5.1.trans b4.1 : M5.2 1 = M.2 1)]
          exact tools_run C5
        show QX _ (mX12_clean_L13 66 (_, Int32.ofNat (K.1 1))) s5 M5 _
        unfold mX12_clean_L13
        refine QX.get tn ?_
        dsimp only
        rw [if_pos (Int32.le_refl _)]
        exact QX.ret C5
    exact key.rq (Or.inl rfl) (b5.trans rfl)
end LC
