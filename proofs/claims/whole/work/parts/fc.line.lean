/-! A LINE of the shop's text, both sides -/
section LSH
variable {sc sm : aS} {x : Nat → Int32} {F : Nat → Nat → Int32} {K : CK} {M : MK} {W : Nat → Int32} {n k c0 c i b : Nat} {B : Nat → Nat} {mc mr : MM Int32}
theorem LineR.wc {f : Int32 → MM Int32} (h0 : ∀ s, f 0 s = some (.inl 0, s)) (h1 : ∀ s, f 1 s = some (.inl 1, s)) (g : LineR mc sc x F K mr sm M W n B c0 c) : LineR (mbnd mc f) sc x F K mr sm M W n B c0 c := by
  rcases g with ⟨z, x', K', W', i', ⟨s2, e2, r2⟩, a2⟩ | ⟨x', K', W', k', i', b', ⟨s2, e2, r2⟩, a2⟩
  · exact Or.inl ⟨z, x', K', W', i', ⟨s2, (bnd_ok e2).trans (h0 s2), r2⟩, a2⟩
  · exact Or.inr ⟨x', K', W', k', i', b', ⟨s2, (bnd_ok e2).trans (h1 s2), r2⟩, a2⟩
theorem LineR.wm {f : Int32 → MM Int32} (h0 : ∀ s, f 0 s = some (.inl 0, s)) (h1 : ∀ s, f 1 s = some (.inl 1, s)) (g : LineR mc sc x F K mr sm M W n B c0 c) : LineR mc sc x F K (mbnd mr f) sm M W n B c0 c := by
  rcases g with ⟨z, x', K', W', i', a1, a2, a3, ⟨s2, e2, r2⟩, a5⟩ | ⟨x', K', W', k', i', b', a1, a2, a3, a4, a5, ⟨s2, e2, r2⟩, a7⟩
  · exact Or.inl ⟨z, x', K', W', i', a1, a2, a3, ⟨s2, (bnd_ok e2).trans (h0 s2), r2⟩, a5⟩
  · exact Or.inr ⟨x', K', W', k', i', b', a1, a2, a3, a4, a5, ⟨s2, (bnd_ok e2).trans (h1 s2), r2⟩, a7⟩
theorem mbool0 (s : aS) : mbool 0 s = some (.inl 0, s) := if_pos (Or.inl rfl)
theorem mbool1 (s : aS) : mbool 1 s = some (.inl 1, s) := if_pos (Or.inr rfl)
theorem full_run {s : aS} {a : Nat} (C : Crt s a K) {t : Nat} (ht : t < 6) : mX8_isFull (a + 1 + 2 * t) s = some (.inl (if K.1 t < tM t then (0 : Int32) else 1), s) := by
  obtain ⟨h1, -, h3, -, h5, -⟩ := C.2 t ht
  unfold mX8_isFull
  rw [onC_ok h1, bnd_ok (gI_ok h1 (show _ = some (Value.int (Int32.ofNat (K.1 t))) from rfl)), bnd_ok (gI_ok h1 (show _ = some (Value.int (Int32.ofNat (tM t))) from rfl))]
  by_cases h : K.1 t < tM t
  · rw [if_pos ((ofN_lt (by omega) (by omega)).mpr h), if_pos h]
    rfl
  · rw [if_neg (fun q => h ((ofN_lt (by omega) (by omega)).mp q)), if_neg h]
    rfl
theorem tx_part : isText 27 [112, 97, 114, 116] := ⟨by decide, by decide, by decide, by decide, by decide⟩
theorem tx_tool : isText 33 [116, 111, 111, 108] := ⟨by decide, by decide, by decide, by decide, by decide⟩
theorem tx_master : isText 34 [109, 97, 115, 116, 101, 114] := ⟨by decide, by decide, by decide, by decide, by decide⟩
theorem tx_nail : isText 35 [110, 97, 105, 108] := ⟨by decide, by decide, by decide, by decide, by decide⟩
theorem tx_need : isText 36 [110, 101, 101, 100] := ⟨by decide, by decide, by decide, by decide, by decide⟩
theorem tx_limit : isText 37 [108, 105, 109, 105, 116] := ⟨by decide, by decide, by decide, by decide, by decide⟩
theorem tx_damp : isText 38 [100, 97, 109, 112] := ⟨by decide, by decide, by decide, by decide, by decide⟩
theorem line_shop (T : Tc sc n B) (R : RdS sc x F) (A : Ats x F n B c0 k) (C : Crt sc 41 K) (hi : i ≤ n) (hk : nxt B n i = tb B n k) (hkc : k ≤ c0) (TB : Byt M n B) (D : Mdl sm 66 (mcur (mw M W) i b)) (H : Hld K W c) {j : Nat} (hj : j < 14) : LineR (mX7_readLine 54) sc x F K (mX12_readLine 66 1 (Int32.ofNat j)) sm M W n B c0 c := by
  have hb : ∀ q, q < n → B q < 256 := fun q hq => (T.choose_spec.2.2 q hq).1
  have TW : Byt (mw M W) n B := TB.mw
  have g8 : gI 7 8 54 sc = some (.inl (Int32.ofNat (tb B n k)), sc) := by
    rw [← A.2.2.2.2]
    exact rgis R (by decide) (by decide)
  have g7 : gI 7 7 54 sc = some (.inl (thing B n (tb B n k)), sc) := by
    rw [← A.2.2.2.1]
    exact rgis R (by decide) (by decide)
  have hp0 := tb_le B n k
  unfold mX12_readLine mX7_readLine
  have ml := m_letters TW D hi
  rw [hk] at ml
  refine LineR.co R (LineR.mo D (LineR.mrun ml fun m1 D1 => LineR.mg (v := 14) rfl ?_))
  rw [if_neg (show ¬ (14 : Int32) ≤ Int32.ofNat j from nle (n := 14) hj (by decide)), if_neg (show ¬ (1 : Int32) = 0 by decide)]
  refine LineR.wm (fun s => rfl) (fun s => rfl) ?_
  have r1 := gos T R A
  have A1 : Ats (xgos x B n (k + 1)) F n B c0 (k + 1) := A.next hkc (fun _ _ _ => rfl)
  refine LineR.cg g8 (LineR.cg g7 (LineR.crun T C r1 rfl rfl fun s1 T1 R1 C1 => ?_))
  have hw := run_spec (pL B) hp0
  have wn : ∀ {a j : Nat} {w : List Nat}, isText a w → wl[j]? = some w → ¬ thing B n (tb B n k) = Int32.ofNat (300 + j) → mX12_isWord 66 a m1 = some (.inl 0, m1) := fun {a j w} h1 h2 h3 => by
    have := m_isWord TW D1 hw.2.1 hw.1 h1
    rw [if_neg (fun q => h3 ((word_thing hp0 hb h2).mpr q))] at this
    exact this
  have wy : ∀ {a j : Nat} {w : List Nat}, isText a w → wl[j]? = some w → thing B n (tb B n k) = Int32.ofNat (300 + j) → mX12_isWord 66 a m1 = some (.inl 1, m1) := fun {a j w} h1 h2 h3 => by
    have := m_isWord TW D1 hw.2.1 hw.1 h1
    rw [if_pos ((word_thing hp0 hb h2).mp h3)] at this
    exact this
  unfold mX12_readShopLine
  refine LineR.mo D1 ?_
  by_cases hp : thing B n (tb B n k) = Int32.ofNat (300 + 20)
  · obtain ⟨hlt, hx, hle, -⟩ := word_next hb hp (by decide)
    rw [if_neg (show ¬ thing B n (tb B n k) = 309 from fun q => absurd (hp.symm.trans q) (by decide)), if_neg (show ¬ thing B n (tb B n k) = 310 from fun q => absurd (hp.symm.trans q) (by decide)), if_neg (show ¬ thing B n (tb B n k) = 311 from fun q => absurd (hp.symm.trans q) (by decide)), if_neg (show ¬ thing B n (tb B n k) = 312 from fun q => absurd (hp.symm.trans q) (by decide)), if_neg (show ¬ thing B n (tb B n k) = 313 from fun q => absurd (hp.symm.trans q) (by decide)), if_neg (show ¬ thing B n (tb B n k) = 314 from fun q => absurd (hp.symm.trans q) (by decide)), if_neg (show ¬ thing B n (tb B n k) = 315 from fun q => absurd (hp.symm.trans q) (by decide)), if_neg (show ¬ thing B n (tb B n k) = 316 from fun q => absurd (hp.symm.trans q) (by decide)), if_neg (show ¬ thing B n (tb B n k) = 317 from fun q => absurd (hp.symm.trans q) (by decide)), if_neg (show ¬ thing B n (tb B n k) = 318 from fun q => absurd (hp.symm.trans q) (by decide)), if_neg (show ¬ thing B n (tb B n k) = 319 from fun q => absurd (hp.symm.trans q) (by decide)), if_pos (show thing B n (tb B n k) = 320 from hp)]
    refine LineR.mg (wy tx_part (j := 20) rfl hp) ?_
    rw [if_neg (show ¬ (1 : Int32) = 0 by decide)]
    refine LineR.cg (dr R1) (LineR.cg (gR_ok C1.1 (show _ = some (Value.ref 42) from rfl)) ?_)
    have fr := full_run C1 (t := 0) (by decide)
    by_cases hf : K.1 0 < tM 0
    · rw [if_pos hf] at fr
      refine LineR.cg fr ?_
      rw [if_pos rfl]
      exact LineR.wc mbool0 mbool1 (LineR.wm mbool0 mbool1 (line_part T1 R1 A1 C1 hle hx TB D1 H hf))
    · rw [if_neg hf] at fr
      refine LineR.cg fr ?_
      rw [if_neg (show ¬ (1 : Int32) = 0 by decide)]
      have hm : K.1 0 = 16 := Nat.le_antisymm (H.2.1 0 (by decide)) (Nat.not_lt.mp hf)
      have hW : W 0 = Int32.ofNat 16 := by rw [← hm]; exact H.1.1.1
      refine LineR.bad C1 (x1 := xsets (xgos x B n (k + 1)) 11 (Int32.ofNat (tb B n k))) (wrongBs R1 _) rfl hp0 (MRun.bnd (x := 0) (M := mcur (mw M W) (wend B n (tb B n k)) (tb B n k)) ?_ fun s9 D9 => ⟨s9, mbool0 s9, D9, Off.rf⟩)
      unfold mX12_readPart
      have g0 : mX12_parts 66 m1 = some (.inl (Int32.ofNat 16), m1) := by
        have := parts_run D1
        rwa [mw_row, hW] at this
      refine MRun.onC D1 (MRun.get g0 ?_)
      rw [if_pos (show Int32.ofNat 16 = 16 from rfl)]
      exact MRun.ret D1
  have n_part := hp
  clear hp
  by_cases hp : thing B n (tb B n k) = Int32.ofNat (300 + 11)
  · obtain ⟨hlt, hx, hle, -⟩ := word_next hb hp (by decide)
    rw [if_neg (show ¬ thing B n (tb B n k) = 309 from fun q => absurd (hp.symm.trans q) (by decide)), if_neg (show ¬ thing B n (tb B n k) = 310 from fun q => absurd (hp.symm.trans q) (by decide)), if_pos (show thing B n (tb B n k) = 311 from hp)]
    refine LineR.mg (wn tx_part (j := 20) rfl n_part) ?_
    rw [if_pos rfl]
    refine LineR.mg (wy tx_tool (j := 11) rfl hp) ?_
    rw [if_neg (show ¬ (1 : Int32) = 0 by decide)]
    refine LineR.cg (dr R1) (LineR.cg (gR_ok C1.1 (show _ = some (Value.ref 44) from rfl)) ?_)
    have fr := full_run C1 (t := 1) (by decide)
    by_cases hf : K.1 1 < tM 1
    · rw [if_pos hf] at fr
      refine LineR.cg fr ?_
      rw [if_pos rfl]
      exact LineR.wc mbool0 mbool1 (LineR.wm mbool0 mbool1 (line_tool T1 R1 A1 C1 hle hx TB D1 H hf))
    · rw [if_neg hf] at fr
      refine LineR.cg fr ?_
      rw [if_neg (show ¬ (1 : Int32) = 0 by decide)]
      have hm : K.1 1 = 6 := Nat.le_antisymm (H.2.1 1 (by decide)) (Nat.not_lt.mp hf)
      have hW : W 1 = Int32.ofNat 6 := by rw [← hm]; exact H.1.1.2.1
      refine LineR.bad C1 (x1 := xsets (xgos x B n (k + 1)) 11 (Int32.ofNat (tb B n k))) (wrongBs R1 _) rfl hp0 (MRun.bnd (x := 0) (M := mcur (mw M W) (wend B n (tb B n k)) (tb B n k)) ?_ fun s9 D9 => ⟨s9, mbool0 s9, D9, Off.rf⟩)
      unfold mX12_readTool
      have g0 : mX12_tools 66 m1 = some (.inl (Int32.ofNat 6), m1) := by
        have := tools_run D1
        rwa [mw_row, hW] at this
      refine MRun.onC D1 (MRun.get g0 ?_)
      rw [if_pos (show Int32.ofNat 6 = 6 from rfl)]
      exact MRun.ret D1
  have n_tool := hp
  clear hp
  by_cases hp : thing B n (tb B n k) = Int32.ofNat (300 + 9)
  · obtain ⟨hlt, hx, hle, -⟩ := word_next hb hp (by decide)
    rw [if_pos (show thing B n (tb B n k) = 309 from hp)]
    refine LineR.mg (wn tx_part (j := 20) rfl n_part) ?_
    rw [if_pos rfl]
    refine LineR.mg (wn tx_tool (j := 11) rfl n_tool) ?_
    rw [if_pos rfl]
    refine LineR.mg (wy tx_master (j := 9) rfl hp) ?_
    rw [if_neg (show ¬ (1 : Int32) = 0 by decide)]
    refine LineR.cg (dr R1) (LineR.cg (gR_ok C1.1 (show _ = some (Value.ref 46) from rfl)) ?_)
    have fr := full_run C1 (t := 2) (by decide)
    by_cases hf : K.1 2 < tM 2
    · rw [if_pos hf] at fr
      refine LineR.cg fr ?_
      rw [if_pos rfl]
      exact LineR.wc mbool0 mbool1 (LineR.wm mbool0 mbool1 (line_master T1 R1 A1 C1 hle hx TB D1 H hf))
    · rw [if_neg hf] at fr
      refine LineR.cg fr ?_
      rw [if_neg (show ¬ (1 : Int32) = 0 by decide)]
      have hm : K.1 2 = 6 := Nat.le_antisymm (H.2.1 2 (by decide)) (Nat.not_lt.mp hf)
      have hW : W 2 = Int32.ofNat 6 := by rw [← hm]; exact H.1.1.2.2.1
      refine LineR.bad C1 (x1 := xsets (xgos x B n (k + 1)) 11 (Int32.ofNat (tb B n k))) (wrongBs R1 _) rfl hp0 (MRun.bnd (x := 0) (M := mcur (mw M W) (wend B n (tb B n k)) (tb B n k)) ?_ fun s9 D9 => ⟨s9, mbool0 s9, D9, Off.rf⟩)
      unfold mX12_readMaster
      have g0 : mX12_masters 66 m1 = some (.inl (Int32.ofNat 6), m1) := by
        have := masters_run D1
        rwa [mw_row, hW] at this
      refine MRun.onC D1 (MRun.get g0 ?_)
      rw [if_pos (show Int32.ofNat 6 = 6 from rfl)]
      exact MRun.ret D1
  have n_master := hp
  clear hp
  by_cases hp : thing B n (tb B n k) = Int32.ofNat (300 + 21)
  · obtain ⟨hlt, hx, hle, -⟩ := word_next hb hp (by decide)
    rw [if_neg (show ¬ thing B n (tb B n k) = 309 from fun q => absurd (hp.symm.trans q) (by decide)), if_neg (show ¬ thing B n (tb B n k) = 310 from fun q => absurd (hp.symm.trans q) (by decide)), if_neg (show ¬ thing B n (tb B n k) = 311 from fun q => absurd (hp.symm.trans q) (by decide)), if_neg (show ¬ thing B n (tb B n k) = 312 from fun q => absurd (hp.symm.trans q) (by decide)), if_neg (show ¬ thing B n (tb B n k) = 313 from fun q => absurd (hp.symm.trans q) (by decide)), if_neg (show ¬ thing B n (tb B n k) = 314 from fun q => absurd (hp.symm.trans q) (by decide)), if_neg (show ¬ thing B n (tb B n k) = 315 from fun q => absurd (hp.symm.trans q) (by decide)), if_neg (show ¬ thing B n (tb B n k) = 316 from fun q => absurd (hp.symm.trans q) (by decide)), if_neg (show ¬ thing B n (tb B n k) = 317 from fun q => absurd (hp.symm.trans q) (by decide)), if_neg (show ¬ thing B n (tb B n k) = 318 from fun q => absurd (hp.symm.trans q) (by decide)), if_neg (show ¬ thing B n (tb B n k) = 319 from fun q => absurd (hp.symm.trans q) (by decide)), if_neg (show ¬ thing B n (tb B n k) = 320 from fun q => absurd (hp.symm.trans q) (by decide)), if_pos (show thing B n (tb B n k) = 321 from hp)]
    refine LineR.mg (wn tx_part (j := 20) rfl n_part) ?_
    rw [if_pos rfl]
    refine LineR.mg (wn tx_tool (j := 11) rfl n_tool) ?_
    rw [if_pos rfl]
    refine LineR.mg (wn tx_master (j := 9) rfl n_master) ?_
    rw [if_pos rfl]
    refine LineR.mg (wy tx_nail (j := 21) rfl hp) ?_
    rw [if_neg (show ¬ (1 : Int32) = 0 by decide)]
    exact LineR.wc mbool0 mbool1 (LineR.wm mbool0 mbool1 (line_nail T1 R1 A1 C1 hle hx TB D1 H))
  have n_nail := hp
  clear hp
  by_cases hp : thing B n (tb B n k) = Int32.ofNat (300 + 23)
  · obtain ⟨hlt, hx, hle, -⟩ := word_next hb hp (by decide)
    rw [if_neg (show ¬ thing B n (tb B n k) = 309 from fun q => absurd (hp.symm.trans q) (by decide)), if_neg (show ¬ thing B n (tb B n k) = 310 from fun q => absurd (hp.symm.trans q) (by decide)), if_neg (show ¬ thing B n (tb B n k) = 311 from fun q => absurd (hp.symm.trans q) (by decide)), if_neg (show ¬ thing B n (tb B n k) = 312 from fun q => absurd (hp.symm.trans q) (by decide)), if_neg (show ¬ thing B n (tb B n k) = 313 from fun q => absurd (hp.symm.trans q) (by decide)), if_neg (show ¬ thing B n (tb B n k) = 314 from fun q => absurd (hp.symm.trans q) (by decide)), if_neg (show ¬ thing B n (tb B n k) = 315 from fun q => absurd (hp.symm.trans q) (by decide)), if_neg (show ¬ thing B n (tb B n k) = 316 from fun q => absurd (hp.symm.trans q) (by decide)), if_neg (show ¬ thing B n (tb B n k) = 317 from fun q => absurd (hp.symm.trans q) (by decide)), if_neg (show ¬ thing B n (tb B n k) = 318 from fun q => absurd (hp.symm.trans q) (by decide)), if_neg (show ¬ thing B n (tb B n k) = 319 from fun q => absurd (hp.symm.trans q) (by decide)), if_neg (show ¬ thing B n (tb B n k) = 320 from fun q => absurd (hp.symm.trans q) (by decide)), if_neg (show ¬ thing B n (tb B n k) = 321 from fun q => absurd (hp.symm.trans q) (by decide)), if_neg (show ¬ thing B n (tb B n k) = 322 from fun q => absurd (hp.symm.trans q) (by decide)), if_pos (show thing B n (tb B n k) = 323 from hp)]
    refine LineR.mg (wn tx_part (j := 20) rfl n_part) ?_
    rw [if_pos rfl]
    refine LineR.mg (wn tx_tool (j := 11) rfl n_tool) ?_
    rw [if_pos rfl]
    refine LineR.mg (wn tx_master (j := 9) rfl n_master) ?_
    rw [if_pos rfl]
    refine LineR.mg (wn tx_nail (j := 21) rfl n_nail) ?_
    rw [if_pos rfl]
    refine LineR.mg (wy tx_need (j := 23) rfl hp) ?_
    rw [if_neg (show ¬ (1 : Int32) = 0 by decide)]
    exact LineR.wc mbool0 mbool1 (LineR.wm mbool0 mbool1 (line_need T1 R1 A1 C1 hle hx TB D1 H))
  have n_need := hp
  clear hp
  by_cases hp : thing B n (tb B n k) = Int32.ofNat (300 + 24)
  · obtain ⟨hlt, hx, hle, -⟩ := word_next hb hp (by decide)
    rw [if_neg (show ¬ thing B n (tb B n k) = 309 from fun q => absurd (hp.symm.trans q) (by decide)), if_neg (show ¬ thing B n (tb B n k) = 310 from fun q => absurd (hp.symm.trans q) (by decide)), if_neg (show ¬ thing B n (tb B n k) = 311 from fun q => absurd (hp.symm.trans q) (by decide)), if_neg (show ¬ thing B n (tb B n k) = 312 from fun q => absurd (hp.symm.trans q) (by decide)), if_neg (show ¬ thing B n (tb B n k) = 313 from fun q => absurd (hp.symm.trans q) (by decide)), if_neg (show ¬ thing B n (tb B n k) = 314 from fun q => absurd (hp.symm.trans q) (by decide)), if_neg (show ¬ thing B n (tb B n k) = 315 from fun q => absurd (hp.symm.trans q) (by decide)), if_neg (show ¬ thing B n (tb B n k) = 316 from fun q => absurd (hp.symm.trans q) (by decide)), if_neg (show ¬ thing B n (tb B n k) = 317 from fun q => absurd (hp.symm.trans q) (by decide)), if_neg (show ¬ thing B n (tb B n k) = 318 from fun q => absurd (hp.symm.trans q) (by decide)), if_neg (show ¬ thing B n (tb B n k) = 319 from fun q => absurd (hp.symm.trans q) (by decide)), if_neg (show ¬ thing B n (tb B n k) = 320 from fun q => absurd (hp.symm.trans q) (by decide)), if_neg (show ¬ thing B n (tb B n k) = 321 from fun q => absurd (hp.symm.trans q) (by decide)), if_neg (show ¬ thing B n (tb B n k) = 322 from fun q => absurd (hp.symm.trans q) (by decide)), if_neg (show ¬ thing B n (tb B n k) = 323 from fun q => absurd (hp.symm.trans q) (by decide)), if_pos (show thing B n (tb B n k) = 324 from hp)]
    refine LineR.mg (wn tx_part (j := 20) rfl n_part) ?_
    rw [if_pos rfl]
    refine LineR.mg (wn tx_tool (j := 11) rfl n_tool) ?_
    rw [if_pos rfl]
    refine LineR.mg (wn tx_master (j := 9) rfl n_master) ?_
    rw [if_pos rfl]
    refine LineR.mg (wn tx_nail (j := 21) rfl n_nail) ?_
    rw [if_pos rfl]
    refine LineR.mg (wn tx_need (j := 23) rfl n_need) ?_
    rw [if_pos rfl]
    refine LineR.mg (wy tx_limit (j := 24) rfl hp) ?_
    rw [if_neg (show ¬ (1 : Int32) = 0 by decide)]
    simp only [if_neg (show ¬ (1 : Int32) = 0 by decide), mret_mbnd]
    exact LineR.wc mbool0 mbool1 (line_limit T1 R1 A1 C1 hle hx TB D1 H)
  have n_limit := hp
  clear hp
  by_cases hp : thing B n (tb B n k) = Int32.ofNat (300 + 22)
  · obtain ⟨hlt, hx, hle, -⟩ := word_next hb hp (by decide)
    rw [if_neg (show ¬ thing B n (tb B n k) = 309 from fun q => absurd (hp.symm.trans q) (by decide)), if_neg (show ¬ thing B n (tb B n k) = 310 from fun q => absurd (hp.symm.trans q) (by decide)), if_neg (show ¬ thing B n (tb B n k) = 311 from fun q => absurd (hp.symm.trans q) (by decide)), if_neg (show ¬ thing B n (tb B n k) = 312 from fun q => absurd (hp.symm.trans q) (by decide)), if_neg (show ¬ thing B n (tb B n k) = 313 from fun q => absurd (hp.symm.trans q) (by decide)), if_neg (show ¬ thing B n (tb B n k) = 314 from fun q => absurd (hp.symm.trans q) (by decide)), if_neg (show ¬ thing B n (tb B n k) = 315 from fun q => absurd (hp.symm.trans q) (by decide)), if_neg (show ¬ thing B n (tb B n k) = 316 from fun q => absurd (hp.symm.trans q) (by decide)), if_neg (show ¬ thing B n (tb B n k) = 317 from fun q => absurd (hp.symm.trans q) (by decide)), if_neg (show ¬ thing B n (tb B n k) = 318 from fun q => absurd (hp.symm.trans q) (by decide)), if_neg (show ¬ thing B n (tb B n k) = 319 from fun q => absurd (hp.symm.trans q) (by decide)), if_neg (show ¬ thing B n (tb B n k) = 320 from fun q => absurd (hp.symm.trans q) (by decide)), if_neg (show ¬ thing B n (tb B n k) = 321 from fun q => absurd (hp.symm.trans q) (by decide)), if_pos (show thing B n (tb B n k) = 322 from hp)]
    refine LineR.mg (wn tx_part (j := 20) rfl n_part) ?_
    rw [if_pos rfl]
    refine LineR.mg (wn tx_tool (j := 11) rfl n_tool) ?_
    rw [if_pos rfl]
    refine LineR.mg (wn tx_master (j := 9) rfl n_master) ?_
    rw [if_pos rfl]
    refine LineR.mg (wn tx_nail (j := 21) rfl n_nail) ?_
    rw [if_pos rfl]
    refine LineR.mg (wn tx_need (j := 23) rfl n_need) ?_
    rw [if_pos rfl]
    refine LineR.mg (wn tx_limit (j := 24) rfl n_limit) ?_
    rw [if_pos rfl]
    refine LineR.mg (wy tx_damp (j := 22) rfl hp) ?_
    rw [if_neg (show ¬ (1 : Int32) = 0 by decide)]
    simp only [if_pos (show (0 : Int32) = 0 from rfl), mret_mbnd]
    exact LineR.wc mbool0 mbool1 (line_damp T1 R1 A1 C1 hle hx TB D1 H)
  have n_damp := hp
  clear hp
  refine LineR.bad C1 (x1 := xsets (xgos x B n (k + 1)) 11 (Int32.ofNat (tb B n k))) (i' := wend B n (tb B n k)) ?_ rfl hp0 ?_
  · have wb : RRs (mbnd (nox (mX10_wrongs 54 (Int32.ofNat (tb B n k)))) fun v6 => mbool v6) s1 0 (xsets (xgos x B n (k + 1)) 11 (Int32.ofNat (tb B n k))) F := wrongBs R1 _
    rw [if_neg (show ¬ thing B n (tb B n k) = 309 from n_master)]
    by_cases q310 : thing B n (tb B n k) = 310
    · rw [if_pos q310]
      exact wb
    rw [if_neg q310]
    rw [if_neg (show ¬ thing B n (tb B n k) = 311 from n_tool)]
    by_cases q312 : thing B n (tb B n k) = 312
    · rw [if_pos q312]
      exact wb
    rw [if_neg q312]
    by_cases q313 : thing B n (tb B n k) = 313
    · rw [if_pos q313]
      exact wb
    rw [if_neg q313]
    by_cases q314 : thing B n (tb B n k) = 314
    · rw [if_pos q314]
      exact wb
    rw [if_neg q314]
    by_cases q315 : thing B n (tb B n k) = 315
    · rw [if_pos q315]
      exact wb
    rw [if_neg q315]
    by_cases q316 : thing B n (tb B n k) = 316
    · rw [if_pos q316]
      exact wb
    rw [if_neg q316]
    by_cases q317 : thing B n (tb B n k) = 317
    · rw [if_pos q317]
      exact wb
    rw [if_neg q317]
    by_cases q318 : thing B n (tb B n k) = 318
    · rw [if_pos q318]
      exact wb
    rw [if_neg q318]
    by_cases q319 : thing B n (tb B n k) = 319
    · rw [if_pos q319]
      exact wb
    rw [if_neg q319]
    rw [if_neg (show ¬ thing B n (tb B n k) = 320 from n_part)]
    rw [if_neg (show ¬ thing B n (tb B n k) = 321 from n_nail)]
    rw [if_neg (show ¬ thing B n (tb B n k) = 322 from n_damp)]
    rw [if_neg (show ¬ thing B n (tb B n k) = 323 from n_need)]
    rw [if_neg (show ¬ thing B n (tb B n k) = 324 from n_limit)]
    exact wb
  · refine MRun.get (wn tx_part (j := 20) rfl n_part) ?_
    rw [if_pos rfl]
    refine MRun.get (wn tx_tool (j := 11) rfl n_tool) ?_
    rw [if_pos rfl]
    refine MRun.get (wn tx_master (j := 9) rfl n_master) ?_
    rw [if_pos rfl]
    refine MRun.get (wn tx_nail (j := 21) rfl n_nail) ?_
    rw [if_pos rfl]
    refine MRun.get (wn tx_need (j := 23) rfl n_need) ?_
    rw [if_pos rfl]
    refine MRun.get (wn tx_limit (j := 24) rfl n_limit) ?_
    rw [if_pos rfl]
    refine MRun.get (wn tx_damp (j := 22) rfl n_damp) ?_
    rw [if_pos rfl]
    exact MRun.ret D1
end LSH
