/-! THE LINE part, both sides -/
section LRC
variable {α β : Type} {sc sm : aS} {x x1 : Nat → Int32} {F : Nat → Nat → Int32} {K : CK} {M : MK} {W : Nat → Int32} {n k c0 c i b : Nat} {B : Nat → Nat} {mc mr : MM Int32}
theorem LineR.crun (T : Tc sc n B) (C : Crt sc 41 K) {m : MM α} {f : α → MM Int32} {v : α} (h : RRs m sc v x1 F) (h10 : x1 10 = x 10) (h11 : x1 11 = x 11) (g : ∀ s1, Tc s1 n B → RdS s1 x1 F → Crt s1 41 K → LineR (f v) s1 x1 F K mr sm M W n B c0 c) : LineR (mbnd m f) sc x F K mr sm M W n B c0 c := by
  obtain ⟨s1, e1, R1, o1⟩ := h
  have cat : ∀ {w : Int32} {x' : Nat → Int32} {K' : CK}, SC (f v) s1 w x' F K' → SC (mbnd m f) sc w x' F K' := fun ⟨s2, g1, g2, g3, g4⟩ => ⟨s2, (bnd_ok e1).trans g1, g2, g3, (o1.wide (by decide) (by decide)).trans g4⟩
  rcases g s1 (T.off o1 (by decide)) R1 (C.off o1 (Or.inl (by decide))) with ⟨z, x', K', W', i', a1, a2⟩ | ⟨x', K', W', k', i', b', a1, a2, a3, a4, a5, a6⟩
  · exact Or.inl ⟨z, x', K', W', i', cat a1, a2⟩
  · exact Or.inr ⟨x', K', W', k', i', b', cat a1, a2, a3, a4.trans h10, a5.trans h11, a6⟩
theorem LineR.cg {m : MM α} {f : α → MM Int32} {v : α} (h : m sc = some (.inl v, sc)) (g : LineR (f v) sc x F K mr sm M W n B c0 c) : LineR (mbnd m f) sc x F K mr sm M W n B c0 c := by
  rcases g with ⟨z, x', K', W', i', a1, a2⟩ | ⟨x', K', W', k', i', b', a1, a2⟩
  · exact Or.inl ⟨z, x', K', W', i', SC.get h a1, a2⟩
  · exact Or.inr ⟨x', K', W', k', i', b', SC.get h a1, a2⟩
theorem LineR.co (R : RdS sc x F) (g : LineR mc sc x F K mr sm M W n B c0 c) : LineR (onC 7 54 mc) sc x F K mr sm M W n B c0 c := by
  rcases g with ⟨z, x', K', W', i', a1, a2⟩ | ⟨x', K', W', k', i', b', a1, a2⟩
  · exact Or.inl ⟨z, x', K', W', i', SC.o R a1, a2⟩
  · exact Or.inr ⟨x', K', W', k', i', b', SC.o R a1, a2⟩
theorem LineR.mrun {m : MM α} {f : α → MM Int32} {v : α} {i1 b1 : Nat} (h : MRun m sm 66 v (mcur (mw M W) i1 b1)) (g : ∀ m1, Mdl m1 66 (mcur (mw M W) i1 b1) → LineR mc sc x F K (f v) m1 M W n B c0 c) : LineR mc sc x F K (mbnd m f) sm M W n B c0 c := by
  obtain ⟨m1, e1, D1, o1⟩ := h
  have cat : ∀ {w : Int32} {M' : MK}, MRun (f v) m1 66 w M' → MRun (mbnd m f) sm 66 w M' := fun ⟨s2, g1, g2, g3⟩ => ⟨s2, (bnd_ok e1).trans g1, g2, o1.trans g3⟩
  rcases g m1 D1 with ⟨z, x', K', W', i', a1, a2, a3, a4, a5⟩ | ⟨x', K', W', k', i', b', a1, a2, a3, a4, a5, a6, a7⟩
  · exact Or.inl ⟨z, x', K', W', i', a1, a2, a3, cat a4, a5⟩
  · exact Or.inr ⟨x', K', W', k', i', b', a1, a2, a3, a4, a5, cat a6, a7⟩
theorem LineR.mg {m : MM α} {f : α → MM Int32} {v : α} (h : m sm = some (.inl v, sm)) (g : LineR mc sc x F K (f v) sm M W n B c0 c) : LineR mc sc x F K (mbnd m f) sm M W n B c0 c := by
  rcases g with ⟨z, x', K', W', i', a1, a2, a3, a4, a5⟩ | ⟨x', K', W', k', i', b', a1, a2, a3, a4, a5, a6, a7⟩
  · exact Or.inl ⟨z, x', K', W', i', a1, a2, a3, MRun.get h a4, a5⟩
  · exact Or.inr ⟨x', K', W', k', i', b', a1, a2, a3, a4, a5, MRun.get h a6, a7⟩
theorem LineR.mo {M9 : MK} (D : Mdl sm 66 M9) (g : LineR mc sc x F K mr sm M W n B c0 c) : LineR mc sc x F K (onC 11 66 mr) sm M W n B c0 c := by
  rcases g with ⟨z, x', K', W', i', a1, a2, a3, ⟨s2, g1, g2⟩, a5⟩ | ⟨x', K', W', k', i', b', a1, a2, a3, a4, a5, ⟨s2, g1, g2⟩, a7⟩
  · exact Or.inl ⟨z, x', K', W', i', a1, a2, a3, ⟨s2, (onC_ok D.1).trans g1, g2⟩, a5⟩
  · exact Or.inr ⟨x', K', W', k', i', b', a1, a2, a3, a4, a5, ⟨s2, (onC_ok D.1).trans g1, g2⟩, a7⟩
theorem LineR.bad {z i' : Nat} (C : Crt sc 41 K) (hc : RRs mc sc 0 x1 F) (h11 : x1 11 = Int32.ofNat z) (hz : z ≤ n) (hm : MRun mr sm 66 0 (mcur (mw M W) i' z)) : LineR mc sc x F K mr sm M W n B c0 c := Or.inl ⟨z, x1, K, W, i', SC.rd C hc, h11, hz, hm, wkp.rf W⟩
theorem LineR.cx (h10 : x1 10 = x 10) (h11 : x1 11 = x 11) (g : LineR mc sc x1 F K mr sm M W n B c0 c) : LineR mc sc x F K mr sm M W n B c0 c := by
  rcases g with a | ⟨x', K', W', k', i', b', a1, a2, a3, a4, a5, a6⟩
  · exact Or.inl a
  · exact Or.inr ⟨x', K', W', k', i', b', a1, a2, a3, a4.trans h10, a5.trans h11, a6⟩
end LRC
section PL2
variable {sc sm : aS} {x : Nat → Int32} {F : Nat → Nat → Int32} {K : CK} {M : MK} {W : Nat → Int32} {n k c0 c i b : Nat} {B : Nat → Nat}
theorem line_part (T : Tc sc n B) (R : RdS sc x F) (A : Ats x F n B c0 k) (C : Crt sc 41 K) (hi : i ≤ n) (hk : nxt B n i = tb B n k) (TB : Byt M n B) (D : Mdl sm 66 (mcur (mw M W) i b)) (H : Hld K W c) (h16 : K.1 0 < 16) : LineR (mX7_readPart 54) sc x F K (mX12_readPart 66) sm M W n B c0 c := by
  have hb : ∀ q, q < n → B q < 256 := fun q hq => (TB.2.2 q hq).1
  have hW : W 0 = Int32.ofNat (K.1 0) := H.1.1.1
  have g0 : mX12_parts 66 sm = some (.inl (Int32.ofNat (K.1 0)), sm) := by
    have := parts_run D
    rwa [mw_row, hW] at this
  have g7 : gI 7 7 54 sc = some (.inl (thing B n (tb B n k)), sc) := by
    rw [← A.2.2.2.1]
    exact rgis R (by decide) (by decide)
  have hne : ¬ Int32.ofNat (K.1 0) = (16 : Int32) := by
    show ¬ Int32.ofNat (K.1 0) = Int32.ofNat 16
    rw [ofN_inj (by omega) (by decide)]
    omega
  have TW : Byt (mw M W) n B := TB.mw
  unfold mX7_readPart mX12_readPart
  refine LineR.co R (LineR.mo D (LineR.cg g7 (LineR.cg (v := thing B n (tb B n k) - 300) rfl (LineR.mg g0 ?_))))
  rw [if_neg hne]
  have ml := m_letters TW D hi
  rw [hk] at ml
  refine LineR.mrun ml fun m1 D1 => ?_
  rcases sort_cases (tb_le B n k) hb with ⟨j, hj, hth, hs⟩ | ⟨-, hth, hs⟩
  · obtain ⟨hlt, w2, w3, -⟩ := word_next hb hth (by omega)
    have hkc := A.more hlt
    refine LineR.mg (hs m1 _ TW D1) ?_
    have e2 : thing B n (tb B n k) - 300 = Int32.ofNat j := by
      rw [hth, show Int32.ofNat (300 + j) - 300 = Int32.ofNat (300 + j - 300) from ofN_sub (m := 300) (by omega), Nat.add_sub_cancel_left]
    rw [e2, if_neg (neg_ofN (by omega)), if_pos (show Int32.ofNat j < (3 : Int32) from (ofN_lt (m := 3) (by omega) (by decide)).mpr hj), if_pos (ge_ofN (u := j) (by omega))]
    refine LineR.crun T C (gos T R A) rfl rfl fun s1 T1 R1 C1 => ?_
    have A1 : Ats (xgos x B n (k + 1)) F n B c0 (k + 1) := A.next (by omega) fun _ _ _ => rfl
    by_cases h4 : thing B n (tb B n (k + 1)) = Int32.ofNat (300 + 4)
    · obtain ⟨hlt1, w4, w5, -⟩ := word_next hb h4 (by decide)
      have wd4 := (word_thing (tb_le B n (k + 1)) hb (j := 4) rfl).mp h4
      have hkc1 := A1.more hlt1
      refine LineR.crun T1 C1 (takeYess T1 R1 A1 (v := 304) h4) rfl rfl fun s2 T2 R2 C2 => ?_
      rw [if_neg (show ¬ (1 : Int32) = 0 by decide)]
      have A2 : Ats (xgos (xgos x B n (k + 1)) B n (k + 1 + 1)) F n B c0 (k + 1 + 1) := A1.next (by omega) fun _ _ _ => rfl
      rcases num3 T2 A2 w5 w4 9 with ⟨q1, q2⟩ | ⟨u, hu, ule, q1, q2, q3, q4, q5, -⟩
      · refine LineR.bad (z := tb B n (k + 1 + 1)) (x1 := xsets (xgos (xgos x B n (k + 1)) B n (k + 1 + 1)) 11 (Int32.ofNat (tb B n (k + 1 + 1)))) C2 (RRs.bnd (q1 s2 T2 R2) fun s3 R3 _ => by rw [if_pos rfl]; exact RRs.ret R3) rfl (tb_le B n _) (i' := dend B n (tb B n (k + 1 + 1))) ?_
        refine MRun.bnd (MRun.bnd (m_after_yes TW D1 w3 w2 tx_edge wd4 fun m2 D2 => q2 m2 (mw M W) _ TW D2) fun m2 D2 => MRun.ret D2) fun m2 D2 => ?_
        rw [if_neg (show ¬ (0 : Int32) ≤ -1 by decide)]
        refine MRun.get (x := (-1 : Int32)) rfl ?_
        rw [if_neg (show ¬ (0 : Int32) ≤ -1 by decide)]
        exact MRun.ret D2
      · refine LineR.crun T2 C2 (q1 s2 T2 R2) rfl rfl fun s3 T3 R3 C3 => ?_
        rw [if_neg (show ¬ (1 : Int32) = 0 by decide)]
        refine LineR.cg (rgis R3 (k := 9) (by decide) (by decide)) ?_
        refine LineR.mrun (MRun.bnd (m_after_yes TW D1 w3 w2 tx_edge wd4 fun m2 D2 => q2 m2 (mw M W) _ TW D2) fun m2 D2 => MRun.ret D2) fun m2 D2 => ?_
        rw [if_pos (ge_ofN hu)]
        have A3 : Ats (xgos (xsets (xgos (xgos x B n (k + 1)) B n (k + 1 + 1)) 9 (Int32.ofNat u)) B n (k + 1 + 1 + 1)) F n B c0 (k + 1 + 1 + 1) := A2.next (by omega) (fun j h1 h2 => if_neg (by omega))
        by_cases h5 : thing B n (tb B n (k + 1 + 1 + 1)) = Int32.ofNat (300 + 5)
        · obtain ⟨hlt3, w6, w7, -⟩ := word_next hb h5 (by decide)
          have wd5 := (word_thing (tb_le B n (k + 1 + 1 + 1)) hb (j := 5) rfl).mp h5
          have hkc3 := A3.more hlt3
          refine LineR.crun T3 C3 (takeYess T3 R3 A3 (v := 305) h5) rfl rfl fun s4 T4 R4 C4 => ?_
          rw [if_neg (show ¬ (1 : Int32) = 0 by decide)]
          have A4 : Ats (xgos (xgos (xsets (xgos (xgos x B n (k + 1)) B n (k + 1 + 1)) 9 (Int32.ofNat u)) B n (k + 1 + 1 + 1)) B n (k + 1 + 1 + 1 + 1)) F n B c0 (k + 1 + 1 + 1 + 1) := A3.next (by omega) fun _ _ _ => rfl
          rcases num3 T4 A4 w7 w6 99 with ⟨p1, p2⟩ | ⟨v, hv, vle, p1, p2, p3, p4, p5, -⟩
          · refine LineR.bad (z := tb B n (k + 1 + 1 + 1 + 1)) (x1 := xsets (xgos (xgos (xsets (xgos (xgos x B n (k + 1)) B n (k + 1 + 1)) 9 (Int32.ofNat u)) B n (k + 1 + 1 + 1)) B n (k + 1 + 1 + 1 + 1)) 11 (Int32.ofNat (tb B n (k + 1 + 1 + 1 + 1)))) C4 (RRs.bnd (p1 s4 T4 R4) fun s5 R5 _ => by rw [if_pos rfl]; exact RRs.ret R5) rfl (tb_le B n _) (i' := dend B n (tb B n (k + 1 + 1 + 1 + 1))) ?_
            refine MRun.bnd (MRun.bnd (m_after_yes TW D2 q4 q3 tx_wear wd5 fun m3 D3 => p2 m3 (mw M W) _ TW D3) fun m3 D3 => MRun.ret D3) fun m3 D3 => ?_
            rw [if_neg (show ¬ (0 : Int32) ≤ -1 by decide)]
            exact MRun.ret D3
          · refine LineR.crun T4 C4 (p1 s4 T4 R4) rfl rfl fun s5 T5 R5 C5 => ?_
            rw [if_neg (show ¬ (1 : Int32) = 0 by decide)]
            refine LineR.mrun (MRun.bnd (m_after_yes TW D2 q4 q3 tx_wear wd5 fun m3 D3 => p2 m3 (mw M W) _ TW D3) fun m3 D3 => MRun.ret D3) fun m3 D3 => ?_
            rw [if_pos (ge_ofN hv)]
            have A5 : Ats (xgos (xsets (xgos (xgos (xsets (xgos (xgos x B n (k + 1)) B n (k + 1 + 1)) 9 (Int32.ofNat u)) B n (k + 1 + 1 + 1)) B n (k + 1 + 1 + 1 + 1)) 9 (Int32.ofNat v)) B n (k + 1 + 1 + 1 + 1 + 1)) F n B c0 (k + 1 + 1 + 1 + 1 + 1) := A4.next (by omega) (fun j h1 h2 => if_neg (by omega))
            exact Or.inr ⟨_, kpart K (Int32.ofNat j) (Int32.ofNat u) (Int32.ofNat v), wpart W (K.1 0) (Int32.ofNat j) (Int32.ofNat u) (Int32.ofNat v), _, dend B n (tb B n (k + 1 + 1 + 1 + 1)), tb B n (k + 1 + 1 + 1 + 1), c_part R5 C5 h16 rfl, A5, p5, rfl, rfl, m_part D3 h16 hW _ _ _, p4, p3, H.part h16 ⟨j, by omega, rfl⟩ (isN_le (m := 9) hu (by decide) ule) (isN_le (m := 99) hv (by decide) vle), rfl, wpart_kp W h16 _ _ _⟩
        · have hn5 : ¬ wd B (tb B n (k + 1 + 1 + 1)) (wend B n (tb B n (k + 1 + 1 + 1))) = [119, 101, 97, 114] := fun q => h5 ((word_thing (tb_le B n (k + 1 + 1 + 1)) hb (j := 5) rfl).mpr q)
          refine LineR.bad C3 (RRs.bnd (takeNos R3 A3 (v := 305) h5) fun s4 R4 _ => by rw [if_pos rfl]; exact RRs.ret R4) (z := tb B n (k + 1 + 1 + 1)) rfl (tb_le B n _) (i' := wend B n (tb B n (k + 1 + 1 + 1))) ?_
          refine MRun.bnd (MRun.bnd (m_after_no TW D2 q4 q3 tx_wear 99 hn5) fun m3 D3 => MRun.ret D3) fun m3 D3 => ?_
          rw [if_neg (show ¬ (0 : Int32) ≤ -1 by decide)]
          exact MRun.ret D3
    · have hn4 : ¬ wd B (tb B n (k + 1)) (wend B n (tb B n (k + 1))) = [101, 100, 103, 101] := fun q => h4 ((word_thing (tb_le B n (k + 1)) hb (j := 4) rfl).mpr q)
      refine LineR.bad C1 (RRs.bnd (takeNos R1 A1 (v := 304) h4) fun s2 R2 _ => by rw [if_pos rfl]; exact RRs.ret R2) (z := tb B n (k + 1)) rfl (tb_le B n _) (i' := wend B n (tb B n (k + 1))) ?_
      refine MRun.bnd (MRun.bnd (m_after_no TW D1 w3 w2 tx_edge 9 hn4) fun m2 D2 => MRun.ret D2) fun m2 D2 => ?_
      rw [if_neg (show ¬ (0 : Int32) ≤ -1 by decide)]
      refine MRun.get (x := (-1 : Int32)) rfl ?_
      rw [if_neg (show ¬ (0 : Int32) ≤ -1 by decide)]
      exact MRun.ret D2
  · refine LineR.mg (hs m1 _ TW D1) ?_
    refine LineR.bad (x1 := xsets x 11 (x 8)) C ?_ A.2.2.2.2 (tb_le B n k) (i' := wend B n (tb B n k)) ?_
    · rcases hth with h | h
      · rw [if_pos h]
        exact wrongAts R
      · by_cases h' : thing B n (tb B n k) - 300 < 0
        · rw [if_pos h']
          exact wrongAts R
        · rw [if_neg h', if_neg h]
          exact wrongAts R
    · rw [if_neg (show ¬ (0 : Int32) ≤ -1 by decide)]
      refine MRun.get (x := (-1 : Int32)) rfl ?_
      rw [if_neg (show ¬ (0 : Int32) ≤ -1 by decide)]
      refine MRun.get (x := (-1 : Int32)) rfl ?_
      rw [if_neg (show ¬ (0 : Int32) ≤ -1 by decide)]
      exact MRun.ret D1
end PL2
