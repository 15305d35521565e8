/-! THE LINE tool of the shop's text -/
section LRD
variable {α : Type} {sc sm s1 : aS} {x : Nat → Int32} {F : Nat → Nat → Int32} {K K1 : CK} {M : MK} {W W1 : Nat → Int32} {n c0 c : Nat} {B : Nat → Nat} {mc mr : MM Int32}
theorem LineR.wk (h : wkp W W1) (hK : K1.2.2.2 = K.2.2.2) (g : LineR mc sc x F K1 mr sm M W1 n B c0 c) : LineR mc sc x F K mr sm M W n B c0 c := by
  rcases g with ⟨z, x', K', W', i', a1, a2, a3, a4, a5⟩ | ⟨x', K', W', k', i', b', a1, a2, a3, a4, a5, a6, a7, a8, a9, a10, a11⟩
  · exact Or.inl ⟨z, x', K', W', i', a1, a2, a3, a4, h.tr a5⟩
  · exact Or.inr ⟨x', K', W', k', i', b', a1, a2, a3, a4, a5, a6, a7, a8, a9, a10.trans hK, h.tr a11⟩
theorem LineR.cany {m : MM α} {f : α → MM Int32} {v : α} (e1 : m sc = some (.inl v, s1)) (o1 : Off sc s1 41 58) (g : LineR (f v) s1 x F K mr sm M W n B c0 c) : LineR (mbnd m f) sc x F K mr sm M W n B c0 c := by
  have cat : ∀ {w : Int32} {x' : Nat → Int32} {K' : CK}, SC (f v) s1 w x' F K' → SC (mbnd m f) sc w x' F K' := fun ⟨s2, g1, g2, g3, g4⟩ => ⟨s2, (bnd_ok e1).trans g1, g2, g3, o1.trans g4⟩
  rcases g with ⟨z, x', K', W', i', a1, a2⟩ | ⟨x', K', W', k', i', b', a1, a2⟩
  · exact Or.inl ⟨z, x', K', W', i', cat a1, a2⟩
  · exact Or.inr ⟨x', K', W', k', i', b', cat a1, a2⟩
theorem LineR.many {m : MM α} {f : α → MM Int32} {v : α} (e1 : m sm = some (.inl v, s1)) (o1 : Off sm s1 66 (66 + 12)) (g : LineR mc sc x F K (f v) s1 M W n B c0 c) : LineR mc sc x F K (mbnd m f) sm M W n B c0 c := by
  have cat : ∀ {w : Int32} {M' : MK}, MRun (f v) s1 66 w M' → MRun (mbnd m f) sm 66 w M' := fun ⟨s2, g1, g2, g3⟩ => ⟨s2, (bnd_ok e1).trans g1, g2, o1.trans g3⟩
  rcases g with ⟨z, x', K', W', i', a1, a2, a3, a4, a5⟩ | ⟨x', K', W', k', i', b', a1, a2, a3, a4, a5, a6, a7⟩
  · exact Or.inl ⟨z, x', K', W', i', a1, a2, a3, cat a4, a5⟩
  · exact Or.inr ⟨x', K', W', k', i', b', a1, a2, a3, a4, a5, cat a6, a7⟩
end LRD
section TLN
variable {sc sm : aS} {x : Nat → Int32} {F : Nat → Nat → Int32} {K : CK} {M : MK} {W : Nat → Int32} {n k c0 c i b t : Nat} {B : Nat → Nat}
def kplace (K : CK) (u t q : Nat) : CK := kput (kput K 1 (Int32.ofNat t) (Int32.ofNat q) (Int32.ofNat u)) 0 (Int32.ofNat u) (Int32.ofNat 6) (Int32.ofNat t)
theorem cell_cases (hw : wOk K W c) (hk : kOk K) (ht : t < K.1 1) {q : Nat} (hq : q < 3) : (W (141 + 4 * t + q) = -1 ∧ W (141 + 4 * t + q) < 0) ∨ (¬ W (141 + 4 * t + q) = -1 ∧ ¬ W (141 + 4 * t + q) < 0) := by
  have b0 : K.1 0 ≤ 16 := hk 0 (by decide)
  rcases hw.2.1 t ht q hq with h | ⟨p, hp, h, -⟩
  · refine Or.inl ⟨h, ?_⟩
    rw [h]
    decide
  · refine Or.inr ⟨fun z => ?_, ?_⟩
    · rw [h] at z
      have := congrArg Int32.toInt z
      rw [ofN_toInt (by omega)] at this
      have e : (-1 : Int32).toInt = -1 := rfl
      omega
    · rw [h]
      exact ofN_nn (by omega)
theorem part_of (T : Tc sc n B) (R : RdS sc x F) (A : Ats x F n B c0 k) (C : Crt sc 41 K) (hi : i ≤ n) (hk : nxt B n i = tb B n k) (TB : Byt M n B) (D : Mdl sm 66 (mcur (mw M W) i b)) (H : Hld K (upd W 1 (Int32.ofNat (t + 1))) c) (ht : t < K.1 1) :
    (∃ z x' i', z ≤ n ∧ x' 11 = Int32.ofNat z ∧ SC (mX7_readPartOf 54 (Int32.ofNat t)) sc 0 x' F K ∧ MRun (mX12_readTool_L56 66 (Int32.ofNat t) ()) sm 66 (.inr (.inl ())) (mcur (mw M W) i' z)) ∨
    (∃ u q, u < K.1 0 ∧ q < 3 ∧ W (141 + 4 * t + q) = -1 ∧ k < c0 ∧ SC (mX7_readPartOf 54 (Int32.ofNat t)) sc 1 (xgos (xsets x 9 (Int32.ofNat u)) B n (k + 1)) F (kplace K u t q) ∧ MRun (mX12_readTool_L56 66 (Int32.ofNat t) ()) sm 66 (if thing B n (tb B n (k + 1)) = 256 then .inl () else .inr (.inr ())) (mcur (mw M (wplace W u t q)) (tb B n (k + 1)) (tb B n (k + 1))) ∧ Hld (kplace K u t q) (upd (wplace W u t q) 1 (Int32.ofNat (t + 1))) c) := by
  have b0 : K.1 0 ≤ 16 := H.2.1 0 (by decide)
  have b1 : K.1 1 ≤ 6 := H.2.1 1 (by decide)
  have hV : ∀ j, j ≠ 1 → upd W 1 (Int32.ofNat (t + 1)) j = W j := fun j hj => updn _ _ hj
  have hW : W 0 = Int32.ofNat (K.1 0) := (hV 0 (by decide)).symm.trans H.1.1.1
  have TW : Byt (mw M W) n B := TB.mw
  have g8 : gI 7 8 54 sc = some (.inl (Int32.ofNat (tb B n k)), sc) := by
    rw [← A.2.2.2.2]
    exact rgis R (by decide) (by decide)
  rcases num3 T A hi hk (Int32.ofNat (K.1 0) - 1) with ⟨r1, r2⟩ | ⟨u, hu, hle, r1, r2, r3, r4, r5, -⟩
  · refine Or.inl ⟨tb B n k, xsets x 11 (Int32.ofNat (tb B n k)), dend B n (tb B n k), tb_le B n k, rfl, ?_, ?_⟩
    · unfold mX7_readPartOf
      exact SC.o R (SC.get g8 (SC.get (dr R) (SC.get (gR_ok C.1 rfl) (SC.get (rows0 C) (SC.bnd (SC.rd C (r1 _ T R)) fun s1 R1 C1 _ => by rw [if_pos rfl]; exact SC.ret R1 C1)))))
    · unfold mX12_readTool_L56
      refine MRun.bnd (m_partTold hi D hW (r2 sm (mw M W) b TW D)) fun s1 D1 => ?_
      rw [if_pos (by decide)]
      exact MRun.ret D1
  · have hur : u < K.1 0 := le_pred hu (by omega) hle
    obtain ⟨⟨q, hq2, hs0⟩, -⟩ := H.2.2.1 u hur
    have hs : W (13 + 8 * u) = Int32.ofNat q := (hV _ (by omega)).symm.trans hs0
    have kg0 : kget K 0 (Int32.ofNat u) 0 = Int32.ofNat q := (H.1.part H.2.1 hur (c := 0) (by decide)).trans hs0
    have kg6 : kget K 0 (Int32.ofNat u) 6 = W (13 + 8 * u + 6) := (H.1.part H.2.1 hur (c := 6) (by decide)).trans (hV _ (by omega))
    have kgt : kget K 1 (Int32.ofNat t) (Int32.ofNat q) = W (141 + 4 * t + q) := (H.1.tool H.2.1 ht (c := q) (by omega)).trans (hV _ (by omega))
    have crun : ∀ {v : Int32} {x' : Nat → Int32} {K' : CK}, (∀ s1, RdS s1 (xgos (xsets x 9 (Int32.ofNat u)) B n (k + 1)) F → Crt s1 41 K → SC (mbnd (mX1_isSpare 41 (Int32.ofNat u)) fun (v13 : Int32) =>
    if v13 = 0 then (
      mbnd (nox (mX10_wrongs 54 (Int32.ofNat (tb B n k)))) fun (v15 : Int32) =>
      mbool v15
    ) else (
      mbnd (gR 7 13 54) fun (v16 : Nat) =>
      mbnd (gR 1 1 v16) fun (v17 : Nat) =>
      mbnd (mX8_get v17 (Int32.ofNat t) (Int32.ofNat q)) fun (v18 : Int32) =>
      if v18 = (-1) then (
        mbnd (gR 7 13 54) fun (v20 : Nat) =>
        mbnd (gI 7 9 54) fun (v21 : Int32) =>
        mbnd (mX1_place v20 (Int32.ofNat t) (Int32.ofNat q) v21) fun _ =>
        mret 1
      ) else (
        mbnd (nox (mX10_wrongs 54 (Int32.ofNat (tb B n k)))) fun (v22 : Int32) =>
        mbool v22
      )
    )) s1 v x' F K') → SC (mX7_readPartOf 54 (Int32.ofNat t)) sc v x' F K' := fun g => by
      unfold mX7_readPartOf
      refine SC.o R (SC.get g8 (SC.get (dr R) (SC.get (gR_ok C.1 rfl) (SC.get (rows0 C) (SC.bnd (SC.rd C (r1 _ T R)) fun s1 R1 C1 _ => ?_)))))
      rw [if_neg (by decide)]
      refine SC.get (dr R1) (SC.get (gR_ok C1.1 rfl) (SC.get (rgis R1 (k := 9) (by decide) (by decide)) (SC.get (v := Int32.ofNat q) ?_ (SC.get (dr R1) (SC.get (rgis R1 (k := 9) (by decide) (by decide)) (g s1 R1 C1))))))
      rw [← kg0]
      exact get_ok C1.t0
    have mrun : ∀ {v : Unit ⊕ (Unit ⊕ Unit)} {M' : MK}, (∀ s1, Mdl s1 66 (mcur (mw M W) (dend B n (tb B n k)) (tb B n k)) → MRun (mbnd (mX12_isSpare 66 (Int32.ofNat u)) fun (v17 : Int32) =>
    if v17 = 0 then (
      mret (.inr ((.inl ())))
    ) else (
      mbnd (mX12_of 66 (Int32.ofNat u) 0) fun (v19 : Int32) =>
      mbnd (mX12_inTool 66 (Int32.ofNat t) v19) fun (v20 : Int32) =>
      if v20 < 0 then (
        mbnd (mX12_puts 66 (Int32.ofNat t) (Int32.ofNat u)) fun _ =>
        mbnd (mX12_isFigure 66) fun (v22 : Int32) =>
        if v22 = 0 then (
          mret (.inr ((.inr ())))
        ) else (
          mret (.inl ())
        )
      ) else (
        mret (.inr ((.inl ())))
      )
    )) s1 66 v M') → MRun (mX12_readTool_L56 66 (Int32.ofNat t) ()) sm 66 v M' := fun g => by
      unfold mX12_readTool_L56
      refine MRun.bnd (m_partTold hi D hW (r2 sm (mw M W) b TW D)) fun s1 D1 => ?_
      rw [if_neg (neg_ofN hu)]
      exact g s1 D1
    have hh : (W (13 + 8 * u + 6) = -1 ∧ ¬ (0 : Int32) ≤ W (13 + 8 * u + 6)) ∨ (¬ W (13 + 8 * u + 6) = -1 ∧ (0 : Int32) ≤ W (13 + 8 * u + 6)) := by
      have := home_cases H hur
      rwa [hV _ (by omega)] at this
    have hc : (W (141 + 4 * t + q) = -1 ∧ W (141 + 4 * t + q) < 0) ∨ (¬ W (141 + 4 * t + q) = -1 ∧ ¬ W (141 + 4 * t + q) < 0) := by
      have := cell_cases H.2.2 H.2.1 ht (q := q) (by omega)
      rwa [hV _ (by omega)] at this
    rcases hh with ⟨h1, h2⟩ | ⟨h1, h2⟩
    · have spm : ∀ {s1}, Mdl s1 66 (mcur (mw M W) (dend B n (tb B n k)) (tb B n k)) → mX12_isSpare 66 (Int32.ofNat u) s1 = some (.inl 1, s1) := fun D1 => by
        have sp := (MD.is D1).1 u (by omega)
        rwa [mw_row, if_neg h2] at sp
      have spc : ∀ {s1}, Crt s1 41 K → mX1_isSpare 41 (Int32.ofNat u) s1 = some (.inl 1, s1) := fun C1 => by
        have sp := isSpare_run (i := Int32.ofNat u) C1
        rwa [kg6, if_pos h1] at sp
      have ofm : ∀ {s1}, Mdl s1 66 (mcur (mw M W) (dend B n (tb B n k)) (tb B n k)) → mX12_of 66 (Int32.ofNat u) 0 s1 = some (.inl (Int32.ofNat q), s1) := fun D1 => by
        have := (MD.cols D1).1 u (by omega)
        rwa [mw_row, hs] at this
      have itm : ∀ {s1}, Mdl s1 66 (mcur (mw M W) (dend B n (tb B n k)) (tb B n k)) → mX12_inTool 66 (Int32.ofNat t) (Int32.ofNat q) s1 = some (.inl (W (141 + 4 * t + q)), s1) := fun D1 => by
        have := inTool_run (t := t) (c := q) D1 (by omega)
        rwa [mw_row] at this
      have itc : ∀ {s1}, Crt s1 41 K → mX8_get 44 (Int32.ofNat t) (Int32.ofNat q) s1 = some (.inl (W (141 + 4 * t + q)), s1) := fun C1 => by
        rw [← kgt]
        exact get_ok C1.t1
      rcases hc with ⟨c1, c2⟩ | ⟨c1, c2⟩
      · refine Or.inr ⟨u, q, hur, by omega, c1, r5, crun fun s1 R1 C1 => ?_, mrun fun s1 D1 => ?_, ?_⟩
        · refine SC.get (spc C1) ?_
          rw [if_neg (by decide)]
          refine SC.get (dr R1) (SC.get (gR_ok C1.1 rfl) (SC.get (itc C1) ?_))
          rw [if_pos c1]
          exact SC.get (dr R1) (SC.get (rgis R1 (k := 9) (by decide) (by decide)) (SC.bnd (SC.crt R1 (place_run C1)) fun s2 R2 C2 _ => SC.ret R2 C2))
        · refine MRun.get (spm D1) ?_
          rw [if_neg (by decide)]
          refine MRun.get (ofm D1) (MRun.get (itm D1) ?_)
          rw [if_pos c2]
          have pr : MRun (mX12_puts 66 (Int32.ofNat t) (Int32.ofNat u)) s1 66 () (mcur (mw M (wplace W u t q)) (dend B n (tb B n k)) (tb B n k)) := by
            unfold mX12_puts
            refine MRun.onC D1 (MRun.get (w_ref D1) (MRun.get (ofm D1) ?_))
            rw [show (141 : Int32) + 4 * Int32.ofNat t + Int32.ofNat q = Int32.ofNat (141 + 4 * t + q) from at_lin 141 4 t q]
            exact MRun.bnd (w_put D1 (by omega) _) fun s2 D2 => MRun.get (w_ref D2) (MRun.get (m_partAt u 6 s2) (MRun.bnd (w_put D2 (by omega) _) fun s3 D3 => MRun.ret D3))
          refine MRun.bnd pr fun s2 D2 => ?_
          have fg := m_isFigure (TB.mw (W := wplace W u t q)) D2 r4
          rw [r3] at fg
          rcases thing_num B n (tb B n (k + 1)) (tb_le B n _) (fun p hp => (TB.2.2 p hp).1) with ⟨n1, n2⟩ | ⟨n1, n2, n3, -⟩
          · rw [if_neg (show ¬ (tb B n (k + 1) < n ∧ pD B (tb B n (k + 1)) = true) from fun z => by
              have := (run_next z.1 z.2).2
              change tb B n (k + 1) < dend B n (tb B n (k + 1)) at this
              omega)] at fg
            rw [if_neg n1]
            refine MRun.bnd fg fun s3 D3 => ?_
            rw [if_pos rfl]
            exact MRun.ret D3
          · rw [if_pos ⟨n2, n3⟩] at fg
            rw [if_pos n1]
            refine MRun.bnd fg fun s3 D3 => ?_
            rw [if_neg (by decide)]
            exact MRun.ret D3
        · have eV : upd (wplace W u t q) 1 (Int32.ofNat (t + 1)) = wplace (upd W 1 (Int32.ofNat (t + 1))) u t q := by
            unfold wplace
            rw [upd_comm _ (show 13 + 8 * u + 6 ≠ 1 by omega), upd_comm _ (show 141 + 4 * t + q ≠ 1 by omega)]
          rw [eV]
          exact ⟨(H.1.toput H.2.1 ht (by omega) _).pput H.2.1 hur (by decide) _, H.2.1, (show wOk K (wplace (upd W 1 (Int32.ofNat (t + 1))) u t q) c from wOk.place H.2.2 H.2.1 hur ht (by omega) ((hV _ (by omega)).trans c1) hs0 ((hV _ (by omega)).trans h1))⟩
      · refine Or.inl ⟨tb B n k, xsets (xgos (xsets x 9 (Int32.ofNat u)) B n (k + 1)) 11 (Int32.ofNat (tb B n k)), dend B n (tb B n k), tb_le B n k, rfl, crun fun s1 R1 C1 => ?_, mrun fun s1 D1 => ?_⟩
        · refine SC.get (spc C1) ?_
          rw [if_neg (by decide)]
          refine SC.get (dr R1) (SC.get (gR_ok C1.1 rfl) (SC.get (itc C1) ?_))
          rw [if_neg c1]
          exact SC.rd C1 (wrongBs R1 _)
        · refine MRun.get (spm D1) ?_
          rw [if_neg (by decide)]
          refine MRun.get (ofm D1) (MRun.get (itm D1) ?_)
          rw [if_neg c2]
          exact MRun.ret D1
    · refine Or.inl ⟨tb B n k, xsets (xgos (xsets x 9 (Int32.ofNat u)) B n (k + 1)) 11 (Int32.ofNat (tb B n k)), dend B n (tb B n k), tb_le B n k, rfl, crun fun s1 R1 C1 => ?_, mrun fun s1 D1 => ?_⟩
      · have sp := isSpare_run (i := Int32.ofNat u) C1
        rw [kg6, if_neg h1] at sp
        refine SC.get sp ?_
        rw [if_pos rfl]
        exact SC.rd C1 (wrongBs R1 _)
      · have sp := (MD.is D1).1 u (by omega)
        rw [mw_row, if_pos h2] at sp
        refine MRun.get sp ?_
        rw [if_pos rfl]
        exact MRun.ret D1
end TLN
