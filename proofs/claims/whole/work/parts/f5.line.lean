/-! A LINE OF THE SHOP'S TEXT on both sides: what they have in common, the short lines -/
def SC {α : Type} (m : MM α) (s : aS) (v : α) (x' : Nat → Int32) (F' : Nat → Nat → Int32) (K' : CK) : Prop := ∃ s', m s = some (.inl v, s') ∧ RdS s' x' F' ∧ Crt s' 41 K' ∧ Off s s' 41 58
/-- the reference's object with another world -/
def mw (M : MK) (W : Nat → Int32) : MK := (M.1, mrow M.2 1 W)
theorem Off.wide {s s' : aS} {lo hi lo' hi' : Nat} (o : Off s s' lo hi) (h1 : lo' ≤ lo) (h2 : hi ≤ hi') : Off s s' lo' hi' := ⟨o.1, fun k hk => o.2 k (by omega)⟩
theorem RdS.off {s s' : aS} {x : Nat → Int32} {F : Nat → Nat → Int32} {lo hi : Nat} (R : RdS s x F) (o : Off s s' lo hi) (h : 58 < lo ∨ hi < 54) : RdS s' x F := ⟨hasO_off R.1 o (by omega), fun k hk => hasI_off (R.2 k hk) o (by omega)⟩
section SCS
variable {α β : Type} {s s' : aS} {x x' : Nat → Int32} {F F' : Nat → Nat → Int32} {K K' : CK} {n c k : Nat} {B : Nat → Nat}
theorem SC.bnd {m : MM α} {f : α → MM β} {v : α} {w : β} (h : SC m s v x F K) (g : ∀ s', RdS s' x F → Crt s' 41 K → Off s s' 41 58 → SC (f v) s' w x' F' K') : SC (mbnd m f) s w x' F' K' := by
  obtain ⟨s1, h1, h2, h3, h4⟩ := h
  obtain ⟨s2, g1, g2, g3, g4⟩ := g s1 h2 h3 h4
  exact ⟨s2, (bnd_ok h1).trans g1, g2, g3, h4.trans g4⟩
theorem SC.get {m : MM α} {f : α → MM β} {v : α} {w : β} (h : m s = some (.inl v, s)) (g : SC (f v) s w x' F' K') : SC (mbnd m f) s w x' F' K' := by
  obtain ⟨s2, g1, g2⟩ := g
  exact ⟨s2, (bnd_ok h).trans g1, g2⟩
theorem SC.ret {v : α} (R : RdS s x F) (C : Crt s 41 K) : SC (mret v) s v x F K := ⟨s, rfl, R, C, Off.rf⟩
theorem SC.bool {v : Int32} (R : RdS s x F) (C : Crt s 41 K) (h : v = 0 ∨ v = 1) : SC (mbool v) s v x F K := ⟨s, if_pos h, R, C, Off.rf⟩
theorem SC.o {m : MM α} {v : α} (R : RdS s x F) (h : SC m s v x' F' K') : SC (onC 7 54 m) s v x' F' K' := by
  obtain ⟨s2, g1, g2⟩ := h
  exact ⟨s2, (onC_ok R.1).trans g1, g2⟩
theorem SC.nox {m : MM α} {v : α} (h : SC m s v x' F' K') : SC (nox m) s v x' F' K' := by
  obtain ⟨s2, g1, g2⟩ := h
  exact ⟨s2, nox_ok g1, g2⟩
theorem SC.rd {m : MM α} {v : α} (C : Crt s 41 K) (h : RRs m s v x' F') : SC m s v x' F' K := by
  obtain ⟨s2, g1, g2, g3⟩ := h
  exact ⟨s2, g1, g2, C.off g3 (Or.inl (by decide)), g3.wide (by decide) (by decide)⟩
theorem SC.crt {m : MM α} {v : α} (R : RdS s x F) (h : CRun m s 41 v K') : SC m s v x F K' := by
  obtain ⟨s2, g1, g2, g3⟩ := h
  exact ⟨s2, g1, R.off g3 (Or.inr (by decide)), g2, g3.wide (by decide) (by decide)⟩
theorem dr (R : RdS s x F) : gR 7 13 54 s = some (.inl 41, s) := gR_ok R.1 rfl
end SCS
section MWS
variable {s : aS} {M : MK} {W W' : Nat → Int32} {n i b : Nat} {B : Nat → Nat}
theorem Byt.mw (T : Byt M n B) : Byt (mw M W) n B := ⟨T.1, T.2.1, fun k hk => ⟨(T.2.2 k hk).1, (congrFun (mrow_ne M.2 W (show (6 : Nat) ≠ 1 by decide)) k).trans (T.2.2 k hk).2⟩⟩
theorem mw_row (M : MK) (W : Nat → Int32) (i b : Nat) : (mcur (mw M W) i b).2 1 = W := mrow_at M.2 1 W
theorem mw_put (M : MK) (W : Nat → Int32) (i b j : Nat) (v : Int32) : mput (mcur (mw M W) i b) 1 j v = mcur (mw M (upd W j v)) i b := by
  unfold mput
  refine Prod.ext rfl ?_
  show mrow (mrow M.2 1 W) 1 (upd (mrow M.2 1 W 1) j v) = mrow M.2 1 (upd W j v)
  rw [mrow_mrow, mrow_at]
theorem mw_mw (M : MK) (W W' : Nat → Int32) : mw (mw M W) W' = mw M W' := Prod.ext rfl (mrow_mrow M.2 1 W W')
theorem w_put (D : Mdl s 66 (mcur (mw M W) i b)) {j : Nat} (hj : j < 2769) (v : Int32) : MRun (stI 0 67 (Int32.ofNat j) v) s 66 () (mcur (mw M (upd W j v)) i b) := by
  have h := wput (v := v) D hj
  rwa [mw_put] at h
theorem w_ld (D : Mdl s 66 (mcur (mw M W) i b)) {j : Nat} (hj : j < 2769) : ldI 0 67 (Int32.ofNat j) s = some (.inl (W j), s) := by
  have h := (MD.wl D).1 j hj
  rwa [mw_row] at h
theorem w_ref (D : Mdl s 66 (mcur (mw M W) i b)) : gR 11 1 66 s = some (.inl 67, s) := (MD.refs D).2.1
/-- what no line of the shop's text touches -/
def wkp (W W' : Nat → Int32) : Prop := W' 3 = W 3 ∧ W' 4 = W 4 ∧ ∀ j, 1071 ≤ j → W' j = W j
theorem wkp.rf (W : Nat → Int32) : wkp W W := ⟨rfl, rfl, fun _ _ => rfl⟩
theorem wkp.tr {W1 : Nat → Int32} (h : wkp W W1) (g : wkp W1 W') : wkp W W' := ⟨g.1.trans h.1, g.2.1.trans h.2.1, fun j hj => (g.2.2 j hj).trans (h.2.2 j hj)⟩
theorem wkp.upd {j : Nat} (v : Int32) (h : wkp W W') (h3 : j ≠ 3) (h4 : j ≠ 4) (hj : j < 1071) : wkp W (upd W' j v) := ⟨(if_neg (Ne.symm h3)).trans h.1, (if_neg (Ne.symm h4)).trans h.2.1, fun q hq => (if_neg (by omega)).trans (h.2.2 q hq)⟩
end MWS
/-- both sides read a line alike: wrong at the same place, or the same line -/
def LineR (mc : MM Int32) (sc : aS) (x : Nat → Int32) (F : Nat → Nat → Int32) (K : CK) (mr : MM Int32) (sm : aS) (M : MK) (W : Nat → Int32) (n : Nat) (B : Nat → Nat) (c0 c : Nat) : Prop :=
  (∃ z x' K' W' i', SC mc sc 0 x' F K' ∧ x' 11 = Int32.ofNat z ∧ z ≤ n ∧ MRun mr sm 66 0 (mcur (mw M W') i' z) ∧ wkp W W') ∨
  (∃ x' K' W' k' i' b', SC mc sc 1 x' F K' ∧ Ats x' F n B c0 k' ∧ k' ≤ c0 ∧ x' 10 = x 10 ∧ x' 11 = x 11 ∧ MRun mr sm 66 1 (mcur (mw M W') i' b') ∧ i' ≤ n ∧ nxt B n i' = tb B n k' ∧ Hld K' W' c ∧ K'.2.2.2 = K.2.2.2 ∧ wkp W W')
section LINE
variable {sc sm : aS} {x : Nat → Int32} {F : Nat → Nat → Int32} {K : CK} {M : MK} {W : Nat → Int32} {n k c0 c i b : Nat} {B : Nat → Nat}
theorem tend_num {p : Nat} (h : p < n) (hd : pD B p = true) (hL : ¬ pL B p = true) : tend B n p = dend B n p := by
  unfold tend
  rw [if_neg hL, if_pos hd]
/-- a number, read by both sides -/
theorem num2 (T : Tc sc n B) (R : RdS sc x F) (A : Ats x F n B c0 k) (hi : i ≤ n) (hk : nxt B n i = tb B n k) (h : Int32) :
    (RRs (nox (mX10_takeNumbers 54 4 h)) sc 0 (xsets x 11 (Int32.ofNat (tb B n k))) F ∧ ∀ sm M b, Byt M n B → Mdl sm 66 (mcur M i b) → MRun (mX12_number 66 0 h) sm 66 (-1) (mcur M (dend B n (tb B n k)) (tb B n k))) ∨
    ∃ u, u < 100000 ∧ Int32.ofNat u ≤ h ∧ RRs (nox (mX10_takeNumbers 54 4 h)) sc 1 (xgos (xsets x 9 (Int32.ofNat u)) B n (k + 1)) F ∧ (∀ sm M b, Byt M n B → Mdl sm 66 (mcur M i b) → MRun (mX12_number 66 0 h) sm 66 (Int32.ofNat u) (mcur M (dend B n (tb B n k)) (tb B n k))) ∧ nxt B n (dend B n (tb B n k)) = tb B n (k + 1) ∧ dend B n (tb B n k) ≤ n ∧ k < c0 := by
  have tn := takeNumbers T R A (m := 4) (by decide) h
  rcases tn with ⟨f1, f2⟩ | ⟨u, hu, f1, f2, f3, f4⟩
  · refine Or.inl ⟨?_, fun sm M b TB D => ?_⟩
    · rw [← A.2.2.2.2]
      exact f2
    · have := m_number TB D hi h
      rw [hk, f1] at this
      exact this
  · obtain ⟨-, hlt, hd, hL⟩ : thing B n (tb B n k) = 256 ∧ tb B n k < n ∧ pD B (tb B n k) = true ∧ ¬ pL B (tb B n k) = true := by
      rcases thing_num B n (tb B n k) (tb_le B n k) (fun p hp => (T.choose_spec.2.2 p hp).1) with ⟨-, q⟩ | q
      · unfold figv at f1
        rw [if_pos q] at f1
        have := congrArg Int32.toInt f1
        rw [ofN_toInt (by omega)] at this
        have e : (-1 : Int32).toInt = -1 := rfl
        omega
      · exact q
    refine Or.inr ⟨u, hu, f2, f4, fun sm M b TB D => ?_, ?_, (run_spec (pD B) (Nat.le_of_lt hlt)).2.1, A.more hlt⟩
    · have := m_number TB D hi h
      rw [hk, f1] at this
      exact this
    · show _ = (if tb B n k < n then nxt B n (tend B n (tb B n k)) else n)
      rw [if_pos hlt, tend_num hlt hd hL]
theorem wOk.ints {W' : Nat → Int32} (hw : wOk K W c) (hk : kOk K) (e : ∀ i, i < 1071 → i ≠ 7 → i ≠ 8 → W' i = W i) (h7 : isN (W' 7) 9999) (h8 : isN (W' 8) 100) : wOk K W' c := by
  have b0 : K.1 0 ≤ 16 := hk 0 (by decide)
  have b1 : K.1 1 ≤ 6 := hk 1 (by decide)
  have b2 : K.1 2 ≤ 6 := hk 2 (by decide)
  have b3 : K.1 3 ≤ 60 := hk 3 (by decide)
  have b5 : K.1 5 ≤ 30 := hk 5 (by decide)
  have key : wOk K (fun i => if i = 7 then W 7 else if i = 8 then W 8 else W' i) c := hw.congr hk fun i hi => by
    show (if i = 7 then W 7 else if i = 8 then W 8 else W' i) = W i
    by_cases q7 : i = 7
    · rw [if_pos q7, q7]
    by_cases q8 : i = 8
    · rw [if_neg q7, if_pos q8, q8]
    rw [if_neg q7, if_neg q8]
    exact e i hi q7 q8
  have z : ∀ j, 9 ≤ j → (fun i => if i = 7 then W 7 else if i = 8 then W 8 else W' i) j = W' j := fun j hj => by
    show (if j = 7 then W 7 else if j = 8 then W 8 else W' j) = W' j
    rw [if_neg (by omega), if_neg (by omega)]
  generalize (fun i => if i = 7 then W 7 else if i = 8 then W 8 else W' i) = V at key z
  have z3 : W' 3 = W 3 := e 3 (by decide) (by decide) (by decide)
  have z5 : W' 5 = W 5 := e 5 (by decide) (by decide) (by decide)
  obtain ⟨-, -, -, g4, -, -, -, g8, g9, -, -⟩ := hw
  obtain ⟨h1, h2, h3, -, h5, h6, h7', -, -, -, -⟩ := key
  refine ⟨fun p hp => ?_, fun t ht k hk3 => ?_, fun m hm => ?_, fun d hd => ?_, fun d hd => ?_, fun g hg t ht ht6 => ?_, ?_, ?_, ?_, h7, h8⟩
  · obtain ⟨p0, p1, p2, p3, p4, p5, p6⟩ := h1 p hp
    rw [z _ (by omega)] at p0 p1 p2 p3 p4 p5
    refine ⟨p0, p1, p2, p3, p4, p5, ?_⟩
    rw [z _ (by omega)] at p6
    refine p6.imp id fun ⟨t, ht, q1, q2⟩ => ⟨t, ht, q1, ?_⟩
    rwa [z (13 + 8 * p) (by omega), z _ (by omega)] at q2
  · have := h2 t ht k hk3
    rw [z _ (by omega)] at this
    rcases this with q | ⟨p, q1, q2, q3, q4⟩
    · exact Or.inl q
    · rw [z _ (by omega)] at q3 q4
      exact Or.inr ⟨p, q1, q2, q3, q4⟩
  · have := h3 m hm
    rwa [z _ (by omega)] at this
  · have hd' := hd
    unfold dOk
    rw [e (171 + 7 * d) (by omega) (by omega) (by omega), e (171 + 7 * d + 1) (by omega) (by omega) (by omega), e (171 + 7 * d + 2) (by omega) (by omega) (by omega), e (171 + 7 * d + 3) (by omega) (by omega) (by omega), e (171 + 7 * d + 4) (by omega) (by omega) (by omega), e (171 + 7 * d + 5) (by omega) (by omega) (by omega), z5]
    exact g4 d hd'
  · have := h5 d hd
    rwa [z _ (by omega), z _ (by omega)] at this
  · have := h6 g hg t ht ht6
    rwa [z _ (by omega)] at this
  · have hg : gsum W' (K.1 0) = gsum V (K.1 0) := gsum_row _ fun p hp => (z _ (by omega)).symm
    rw [hg]
    exact h7'
  · rw [z3]
    exact g8
  · rw [z5]
    exact g9
theorem isN_le {u m : Nat} (hu : u < 100000) (hm : m < 2 ^ 31) (h : Int32.ofNat u ≤ Int32.ofNat m) : isN (Int32.ofNat u) m := ⟨u, (ofN_le (by omega) hm).mp h, rfl⟩
theorem Sm.damp (S : Sm K W) (v : Int32) : Sm (kint K 9 v) (upd W 8 v) := by
  obtain ⟨⟨a0, a1, a2, a3, a4, a5⟩, ⟨c0, c1, c2, c3, c4, c5⟩, p, t, m, d, l, g⟩ := S
  have o : ∀ i, i ≠ 8 → upd W 8 v i = W i := fun i h => if_neg h
  exact ⟨⟨a0, a1, a2, a3, a4, a5⟩, ⟨c0, c1, rfl, c3, c4, c5⟩, fun i hi c hc => (p i hi c hc).trans (o _ (by omega)).symm, fun i hi c hc => (t i hi c hc).trans (o _ (by omega)).symm, fun i hi => (m i hi).trans (o _ (by omega)).symm, fun i hi c hc => (d i hi c hc).trans (o _ (by omega)).symm, fun i hi c hc => (l i hi c hc).trans (o _ (by omega)).symm, fun i hi c hc => (g i hi c hc).trans (o _ (by omega)).symm⟩
theorem Sm.limit (S : Sm K W) (v : Int32) : Sm (kint K 10 v) (upd W 7 v) := by
  obtain ⟨⟨a0, a1, a2, a3, a4, a5⟩, ⟨c0, c1, c2, c3, c4, c5⟩, p, t, m, d, l, g⟩ := S
  have o : ∀ i, i ≠ 7 → upd W 7 v i = W i := fun i h => if_neg h
  exact ⟨⟨a0, a1, a2, a3, a4, a5⟩, ⟨c0, c1, c2, rfl, c4, c5⟩, fun i hi c hc => (p i hi c hc).trans (o _ (by omega)).symm, fun i hi c hc => (t i hi c hc).trans (o _ (by omega)).symm, fun i hi => (m i hi).trans (o _ (by omega)).symm, fun i hi c hc => (d i hi c hc).trans (o _ (by omega)).symm, fun i hi c hc => (l i hi c hc).trans (o _ (by omega)).symm, fun i hi c hc => (g i hi c hc).trans (o _ (by omega)).symm⟩
end LINE
