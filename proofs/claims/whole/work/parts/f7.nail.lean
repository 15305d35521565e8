/-! THE LINES nail AND need of the shop's text -/
section NLS
variable {sc sm : aS} {x : Nat → Int32} {F : Nat → Nat → Int32} {K : CK} {M : MK} {W : Nat → Int32} {n k c0 c i b : Nat} {B : Nat → Nat}
theorem m_partAt (p q : Nat) (s : aS) : mX12_partAt (Int32.ofNat p) (Int32.ofNat q) s = some (.inl (Int32.ofNat (13 + 8 * p + q)), s) := by
  show some (Sum.inl (Int32.ofNat 13 + Int32.ofNat 8 * Int32.ofNat p + Int32.ofNat q), s) = _
  rw [at_lin]
theorem home_cases (H : Hld K W c) {u : Nat} (hu : u < K.1 0) : (W (13 + 8 * u + 6) = -1 ∧ ¬ (0 : Int32) ≤ W (13 + 8 * u + 6)) ∨ (¬ W (13 + 8 * u + 6) = -1 ∧ (0 : Int32) ≤ W (13 + 8 * u + 6)) := by
  have b1 : K.1 1 ≤ 6 := H.2.1 1 (by decide)
  obtain ⟨-, -, -, -, -, -, h6⟩ := H.2.2.1 u hu
  rcases h6 with h | ⟨t, ht, h, -⟩
  · refine Or.inl ⟨h, ?_⟩
    rw [h]
    decide
  · refine Or.inr ⟨fun q => ?_, ?_⟩
    · rw [h] at q
      have := congrArg Int32.toInt q
      rw [ofN_toInt (by omega)] at this
      have e : (-1 : Int32).toInt = -1 := rfl
      omega
    · rw [h]
      exact ge_ofN (by omega)
theorem rows0 (C : Crt sc 41 K) : gI 8 3 42 sc = some (.inl (Int32.ofNat (K.1 0)), sc) := gI_ok C.t0.1 rfl
theorem m_partTold (hi : i ≤ n) {u v : Int32} {M' : MK} (D : Mdl sm 66 (mcur (mw M W) i b)) (h0 : W 0 = u) (g : MRun (mX12_number 66 0 (u - 1)) sm 66 v M') : MRun (mX12_partTold 66) sm 66 v M' := by
  have g0 : mX12_parts 66 sm = some (.inl u, sm) := by
    have := parts_run D
    rwa [mw_row, h0] at this
  unfold mX12_partTold
  exact MRun.onC D (MRun.get g0 (MRun.bnd g fun s1 D1 => MRun.ret D1))
theorem line_nail (T : Tc sc n B) (R : RdS sc x F) (A : Ats x F n B c0 k) (C : Crt sc 41 K) (hi : i ≤ n) (hk : nxt B n i = tb B n k) (TB : Byt M n B) (D : Mdl sm 66 (mcur (mw M W) i b)) (H : Hld K W c) : LineR (mX7_readNail 54) sc x F K (mX12_readNail 66) sm M W n B c0 c := by
  have b0 : K.1 0 ≤ 16 := H.2.1 0 (by decide)
  have hW : W 0 = Int32.ofNat (K.1 0) := H.1.1.1
  have g8 : gI 7 8 54 sc = some (.inl (Int32.ofNat (tb B n k)), sc) := by
    rw [← A.2.2.2.2]
    exact rgis R (by decide) (by decide)
  rcases num2 T R A hi hk (Int32.ofNat (K.1 0) - 1) with ⟨r1, r2⟩ | ⟨u, hu, hle, r1, r2, r3, r4, r5⟩
  · refine Or.inl ⟨tb B n k, xsets x 11 (Int32.ofNat (tb B n k)), K, W, dend B n (tb B n k), ?_, rfl, tb_le B n k, ?_, wkp.rf W⟩
    · unfold mX7_readNail
      exact SC.o R (SC.get g8 (SC.get (dr R) (SC.get (gR_ok C.1 rfl) (SC.get (rows0 C) (SC.bnd (SC.rd C r1) fun s1 R1 C1 _ => by rw [if_pos rfl]; exact SC.ret R1 C1)))))
    · unfold mX12_readNail
      refine MRun.onC D (MRun.bnd (m_partTold hi D hW (r2 sm (mw M W) b TB.mw D)) fun s1 D1 => ?_)
      rw [if_pos (by decide)]
      exact MRun.ret D1
  · have hur : u < K.1 0 := le_pred hu (by omega) hle
    have kg : kget K 0 (Int32.ofNat u) 6 = W (13 + 8 * u + 6) := H.1.part H.2.1 hur (c := 6) (by decide)
    have mrun : ∀ {v : Int32} {M' : MK}, (∀ s1, Mdl s1 66 (mcur (mw M W) (dend B n (tb B n k)) (tb B n k)) → MRun (mbnd (mX12_isSpare 66 (Int32.ofNat u)) fun (v3 : Int32) =>
        if v3 = 0 then (
          mbnd (gR 11 1 66) fun (v5 : Nat) =>
          mbnd (mX12_partAt (Int32.ofNat u) 4) fun (v6 : Int32) =>
          mbnd (stI 0 v5 v6 1) fun _ =>
          mret 1
        ) else (
          mret (0 : Int32)
        )) s1 66 v M') → MRun (mX12_readNail 66) sm 66 v M' := fun g => by
      unfold mX12_readNail
      refine MRun.onC D (MRun.bnd (m_partTold hi D hW (r2 sm (mw M W) b TB.mw D)) fun s1 D1 => ?_)
      rw [if_neg (neg_ofN hu)]
      exact g s1 D1
    rcases home_cases H hur with ⟨h1, h2⟩ | ⟨h1, h2⟩
    · refine Or.inl ⟨tb B n k, xsets (xgos (xsets x 9 (Int32.ofNat u)) B n (k + 1)) 11 (Int32.ofNat (tb B n k)), K, W, dend B n (tb B n k), ?_, rfl, tb_le B n k, mrun fun s1 D1 => ?_, wkp.rf W⟩
      · unfold mX7_readNail
        refine SC.o R (SC.get g8 (SC.get (dr R) (SC.get (gR_ok C.1 rfl) (SC.get (rows0 C) (SC.bnd (SC.rd C r1) fun s1 R1 C1 _ => ?_)))))
        rw [if_neg (by decide)]
        have sp := isSpare_run (i := Int32.ofNat u) C1
        rw [kg, if_pos h1] at sp
        refine SC.get (dr R1) (SC.get (rgis R1 (k := 9) (by decide) (by decide)) (SC.get sp ?_))
        rw [if_neg (by decide)]
        exact SC.rd C1 (wrongBs R1 _)
      · have sp := (MD.is D1).1 u (by omega)
        rw [mw_row, if_neg h2] at sp
        refine MRun.get sp ?_
        rw [if_neg (by decide)]
        exact MRun.ret D1
    · refine Or.inr ⟨xgos (xsets x 9 (Int32.ofNat u)) B n (k + 1), kput K 0 (Int32.ofNat u) (Int32.ofNat 4) 1, upd W (13 + 8 * u + 4) 1, k + 1, dend B n (tb B n k), tb B n k, ?_, A.next (by omega) (fun j h1 h2 => if_neg (by omega)), r5, rfl, rfl, mrun fun s1 D1 => ?_, r4, r3, ⟨H.1.pput H.2.1 hur (by decide) 1, H.2.1, ?_⟩, rfl, (wkp.rf W).upd _ (by omega) (by omega) (by omega)⟩
      · unfold mX7_readNail
        refine SC.o R (SC.get g8 (SC.get (dr R) (SC.get (gR_ok C.1 rfl) (SC.get (rows0 C) (SC.bnd (SC.rd C r1) fun s1 R1 C1 _ => ?_)))))
        rw [if_neg (by decide)]
        have sp := isSpare_run (i := Int32.ofNat u) C1
        rw [kg, if_neg h1] at sp
        refine SC.get (dr R1) (SC.get (rgis R1 (k := 9) (by decide) (by decide)) (SC.get sp ?_))
        rw [if_pos rfl]
        exact SC.get (dr R1) (SC.get (gR_ok C1.1 rfl) (SC.get (rgis R1 (k := 9) (by decide) (by decide)) (SC.bnd (SC.crt R1 (cput0 C1)) fun s2 R2 C2 _ => SC.ret R2 C2)))
      · have sp := (MD.is D1).1 u (by omega)
        rw [mw_row, if_pos h2] at sp
        refine MRun.get sp ?_
        rw [if_pos rfl]
        exact MRun.get (w_ref D1) (MRun.get (m_partAt u 4 s1) (MRun.bnd (w_put D1 (by omega) _) fun s2 D2 => MRun.ret D2))
      · exact (show wOk K (upd W (13 + 8 * u + 4) 1) c from wOk.pupd H.2.2 H.2.1 hur (Or.inr (Or.inl ⟨Or.inl rfl, ⟨1, Nat.le_refl 1, rfl⟩⟩)))
theorem num3 (T : Tc sc n B) (A : Ats x F n B c0 k) (hi : i ≤ n) (hk : nxt B n i = tb B n k) (h : Int32) :
    ((∀ s, Tc s n B → RdS s x F → RRs (nox (mX10_takeNumbers 54 4 h)) s 0 (xsets x 11 (Int32.ofNat (tb B n k))) F) ∧ ∀ sm M b, Byt M n B → Mdl sm 66 (mcur M i b) → MRun (mX12_number 66 0 h) sm 66 (-1) (mcur M (dend B n (tb B n k)) (tb B n k))) ∨
    ∃ u, u < 100000 ∧ Int32.ofNat u ≤ h ∧ (∀ s, Tc s n B → RdS s x F → RRs (nox (mX10_takeNumbers 54 4 h)) s 1 (xgos (xsets x 9 (Int32.ofNat u)) B n (k + 1)) F) ∧ (∀ sm M b, Byt M n B → Mdl sm 66 (mcur M i b) → MRun (mX12_number 66 0 h) sm 66 (Int32.ofNat u) (mcur M (dend B n (tb B n k)) (tb B n k))) ∧ nxt B n (dend B n (tb B n k)) = tb B n (k + 1) ∧ dend B n (tb B n k) ≤ n ∧ k < c0 ∧ thing B n (tb B n k) = 256 := by
  have neg1 : ∀ {u : Nat}, u < 100000 → ¬ Int32.ofNat u = -1 := fun {u} hu q => by
    have := congrArg Int32.toInt q
    rw [ofN_toInt (by omega)] at this
    have e : (-1 : Int32).toInt = -1 := rfl
    omega
  have mod : ∀ {v : Int32}, figv B n (tb B n k) 4 h = v → ∀ sm M b, Byt M n B → Mdl sm 66 (mcur M i b) → MRun (mX12_number 66 0 h) sm 66 v (mcur M (dend B n (tb B n k)) (tb B n k)) := fun e sm M b TB D => by
    have := m_number TB D hi h
    rw [hk, e] at this
    exact this
  rcases thing_num B n (tb B n k) (tb_le B n k) (fun p hp => (T.choose_spec.2.2 p hp).1) with ⟨-, hd⟩ | ⟨h256, hlt, hd, hL⟩
  · have e : figv B n (tb B n k) 4 h = -1 := if_pos hd
    refine Or.inl ⟨fun s T' R' => ?_, mod e⟩
    rcases takeNumbers T' R' A (m := 4) (by decide) h with ⟨-, f2⟩ | ⟨u, hu, f1, -⟩
    · rw [← A.2.2.2.2]
      exact f2
    · exact absurd (f1.symm.trans e) (neg1 hu)
  · by_cases e : figv B n (tb B n k) 4 h = -1
    · refine Or.inl ⟨fun s T' R' => ?_, mod e⟩
      rcases takeNumbers T' R' A (m := 4) (by decide) h with ⟨-, f2⟩ | ⟨u, hu, f1, -⟩
      · rw [← A.2.2.2.2]
        exact f2
      · exact absurd (f1.symm.trans e) (neg1 hu)
    · obtain ⟨r1, r2⟩ := run_next hlt hd
      obtain ⟨q1, q2, q3, q4⟩ := run_spec (pD B) (Nat.le_of_lt hlt)
      change tb B n k < dend B n (tb B n k) at r2
      change dend B n (tb B n k) ≤ n at q2
      change ∀ j, tb B n k ≤ j → j < dend B n (tb B n k) → pD B j = true at q3
      have ev : ∃ u, u < 100000 ∧ figv B n (tb B n k) 4 h = Int32.ofNat u ∧ Int32.ofNat u ≤ h := by
        unfold figv at e ⊢
        rw [if_neg (show ¬ dend B n (tb B n k) = tb B n k by omega)] at e ⊢
        by_cases hl : 4 < dend B n (tb B n k) - tb B n k
        · rw [if_pos hl] at e
          exact absurd rfl e
        · rw [if_neg hl] at e ⊢
          by_cases hh : Int32.ofNat (nv B (tb B n k) (dend B n (tb B n k) - tb B n k)) ≤ h
          · rw [if_pos hh]
            have lt : nv B (tb B n k) (dend B n (tb B n k) - tb B n k) < 10 ^ (dend B n (tb B n k) - tb B n k) := nv_lt B _ fun j hj => (of_decide_eq_true (q3 (tb B n k + j) (by omega) (by omega))).2
            have l5 : 10 ^ (dend B n (tb B n k) - tb B n k) ≤ 10 ^ 5 := Nat.pow_le_pow_right (by decide) (by omega)
            exact ⟨_, by omega, rfl, hh⟩
          · rw [if_neg hh] at e
            exact absurd rfl e
      obtain ⟨u, hu, eu, hle⟩ := ev
      refine Or.inr ⟨u, hu, hle, fun s T' R' => ?_, mod eu, ?_, q2, A.more hlt, h256⟩
      · rcases takeNumbers T' R' A (m := 4) (by decide) h with ⟨f1, -⟩ | ⟨u', hu', f1, -, -, f4⟩
        · exact absurd f1 e
        · rw [eu, ofN_inj (by omega) (by omega)] at f1
          rw [f1]
          exact f4
      · show _ = (if tb B n k < n then nxt B n (tend B n (tb B n k)) else n)
        rw [if_pos hlt, tend_num hlt hd hL]
theorem wOk.needs {t : Nat} (hw : wOk K W c) (hk : kOk K) (ht : t < K.1 1) (v : Int32) : wOk K (upd W (141 + 4 * t + 3) v) c := by
  have b0 : K.1 0 ≤ 16 := hk 0 (by decide)
  have b1 : K.1 1 ≤ 6 := hk 1 (by decide)
  refine wOk.homes hw hk (fun i _ h => if_neg (by omega)) (fun p q hp hq _ => if_neg (by omega)) (fun p hp => ?_) fun t' q ht' hq => ?_
  · obtain ⟨⟨z, hz, e0⟩, -, -, -, -, -, h6⟩ := hw.1 p hp
    rw [show upd W (141 + 4 * t + 3) v (13 + 8 * p + 6) = W (13 + 8 * p + 6) from if_neg (by omega)]
    refine h6.imp id fun ⟨t', ht', q1, q2⟩ => ⟨t', ht', q1, ?_⟩
    have hcl : (W (13 + 8 * p)).toNatClampNeg = z := by rw [e0, ofN_cl (by omega)]
    rw [show upd W (141 + 4 * t + 3) v (141 + 4 * t' + (W (13 + 8 * p)).toNatClampNeg) = W (141 + 4 * t' + (W (13 + 8 * p)).toNatClampNeg) from if_neg (by omega)]
    exact q2
  · rw [show upd W (141 + 4 * t + 3) v (141 + 4 * t' + q) = W (141 + 4 * t' + q) from if_neg (by omega)]
    rcases hw.2.1 t' ht' q hq with z | ⟨p, z1, z2, z3, z4⟩
    · exact Or.inl z
    · exact Or.inr ⟨p, z1, z2, z3, (show upd W (141 + 4 * t + 3) v (13 + 8 * p + 6) = W (13 + 8 * p + 6) from if_neg (by omega)).trans z4⟩
theorem rows1 (C : Crt sc 41 K) : gI 8 3 44 sc = some (.inl (Int32.ofNat (K.1 1)), sc) := gI_ok (C.2 1 (by decide)).1 rfl
theorem line_need (T : Tc sc n B) (R : RdS sc x F) (A : Ats x F n B c0 k) (C : Crt sc 41 K) (hi : i ≤ n) (hk : nxt B n i = tb B n k) (TB : Byt M n B) (D : Mdl sm 66 (mcur (mw M W) i b)) (H : Hld K W c) : LineR (mX7_readNeed 54) sc x F K (mX12_readNeed 66) sm M W n B c0 c := by
  have b1 : K.1 1 ≤ 6 := H.2.1 1 (by decide)
  have hW : W 1 = Int32.ofNat (K.1 1) := H.1.1.2.1
  rcases num3 T A hi hk 31 with ⟨r1, r2⟩ | ⟨u, hu, hle, r1, r2, r3, r4, r5, -⟩
  · refine Or.inl ⟨tb B n k, xsets x 11 (Int32.ofNat (tb B n k)), K, W, dend B n (tb B n k), ?_, rfl, tb_le B n k, ?_, wkp.rf W⟩
    · unfold mX7_readNeed
      exact SC.o R (SC.bnd (SC.rd C (r1 _ T R)) fun s1 R1 C1 _ => by rw [if_pos rfl]; exact SC.ret R1 C1)
    · unfold mX12_readNeed
      refine MRun.onC D (MRun.bnd (r2 sm (mw M W) b TB.mw D) fun s1 D1 => ?_)
      rw [if_neg (show ¬ (0 : Int32) ≤ -1 by decide)]
      refine MRun.get (x := (-1 : Int32)) rfl ?_
      rw [if_pos (show (-1 : Int32) < 0 by decide), if_pos (show (-1 : Int32) < 0 by decide)]
      exact MRun.get (x := ()) rfl (MRun.ret D1)
  · have A1 : Ats (xgos (xsets x 9 (Int32.ofNat u)) B n (k + 1)) F n B c0 (k + 1) := A.next (by omega) (fun j h1 h2 => if_neg (by omega))
    have crun : ∀ {v : Int32} {x' : Nat → Int32} {K' : CK}, (∀ s1, Tc s1 n B → RdS s1 (xgos (xsets x 9 (Int32.ofNat u)) B n (k + 1)) F → Crt s1 41 K → SC (mbnd (nox (mX10_takeNumbers 54 4 (Int32.ofNat (K.1 1) - 1))) fun (v7 : Int32) =>
        if v7 = 0 then (
          mret (0 : Int32)
        ) else (
          mbnd (gR 7 13 54) fun (v9 : Nat) =>
          mbnd (gI 7 9 54) fun (v10 : Int32) =>
          mbnd (mX1_need v9 v10 (Int32.ofNat u)) fun _ =>
          mret 1
        )) s1 v x' F K') → SC (mX7_readNeed 54) sc v x' F K' := fun g => by
      unfold mX7_readNeed
      refine SC.o R (SC.bnd (SC.rd C (r1 _ T R)) fun s2 R2 C2 o2 => ?_)
      rw [if_neg (by decide)]
      exact SC.get (rgis R2 (k := 9) (by decide) (by decide)) (SC.get (dr R2) (SC.get (gR_ok C2.1 rfl) (SC.get (rows1 C2) (g s2 (T.off o2 (by decide)) R2 C2))))
    have mrun : ∀ {v : Int32} {M' : MK}, (∀ s1, Mdl s1 66 (mcur (mw M W) (dend B n (tb B n k)) (tb B n k)) → MRun (mbnd (mbnd (mX12_number 66 0 (Int32.ofNat (K.1 1) - 1)) fun (v7 : Int32) => mret v7) fun (x3 : Int32) =>
      mbnd (α := Unit) (
        if x3 < 0 then (
          mret ()
        ) else (
          mbnd (gR 11 1 66) fun (v12 : Nat) =>
          mbnd (mret ((141 + (4 * x3)) + 3)) fun (v13 : Int32) =>
          mbnd (ldI 0 v12 v13) fun (v14 : Int32) =>
          mbnd (stI 0 v12 v13 (v14 ||| (1 <<< (Int32.ofNat u &&& (31 : Int32))))) fun _ =>
          mret ()
        )
      ) fun (_ : Unit) =>
      if x3 < 0 then (
        mret (0 : Int32)
      ) else (
        mret 1
      )) s1 66 v M') → MRun (mX12_readNeed 66) sm 66 v M' := fun g => by
      unfold mX12_readNeed
      refine MRun.onC D (MRun.bnd (r2 sm (mw M W) b TB.mw D) fun s1 D1 => ?_)
      have gt : mX12_tools 66 s1 = some (.inl (Int32.ofNat (K.1 1)), s1) := by
        have := tools_run D1
        rwa [mw_row, hW] at this
      obtain ⟨s9, g1, g2⟩ := g s1 D1
      refine ⟨s9, ?_, g2⟩
      rw [if_pos (ge_ofN hu), ← g1]
      unfold mbnd
      rw [gt]
    rcases num3 T A1 r4 r3 (Int32.ofNat (K.1 1) - 1) with ⟨q1, q2⟩ | ⟨t, ht, tle, q1, q2, q3, q4, q5, -⟩
    · refine Or.inl ⟨tb B n (k + 1), xsets (xgos (xsets x 9 (Int32.ofNat u)) B n (k + 1)) 11 (Int32.ofNat (tb B n (k + 1))), K, W, dend B n (tb B n (k + 1)), crun fun s1 T1 R1 C1 => ?_, rfl, tb_le B n _, mrun fun s1 D1 => ?_, wkp.rf W⟩
      · exact SC.bnd (SC.rd C1 (q1 _ T1 R1)) fun s3 R3 C3 _ => by rw [if_pos rfl]; exact SC.ret R3 C3
      · refine MRun.bnd (MRun.bnd (q2 s1 (mw M W) _ TB.mw D1) fun s2 D2 => MRun.ret D2) fun s2 D2 => ?_
        rw [if_pos (show (-1 : Int32) < 0 by decide), if_pos (show (-1 : Int32) < 0 by decide)]
        exact MRun.get (x := ()) rfl (MRun.ret D2)
    · have htr : t < K.1 1 := le_pred ht (by omega) tle
      have kg : kget K 1 (Int32.ofNat t) 3 = W (141 + 4 * t + 3) := H.1.tool H.2.1 htr (c := 3) (by decide)
      refine Or.inr ⟨xgos (xsets (xgos (xsets x 9 (Int32.ofNat u)) B n (k + 1)) 9 (Int32.ofNat t)) B n (k + 1 + 1), kput K 1 (Int32.ofNat t) (Int32.ofNat 3) (W (141 + 4 * t + 3) ||| (1 <<< (Int32.ofNat u &&& (31 : Int32)))), upd W (141 + 4 * t + 3) (W (141 + 4 * t + 3) ||| (1 <<< (Int32.ofNat u &&& (31 : Int32)))), k + 1 + 1, dend B n (tb B n (k + 1)), tb B n (k + 1), crun fun s1 T1 R1 C1 => ?_, A1.next (by omega) (fun j h1 h2 => if_neg (by omega)), q5, rfl, rfl, mrun fun s1 D1 => ?_, q4, q3, ⟨H.1.toput H.2.1 htr (by decide) _, H.2.1, H.2.2.needs H.2.1 htr _⟩, rfl, (wkp.rf W).upd _ (by omega) (by omega) (by omega)⟩
      · refine SC.bnd (SC.rd C1 (q1 _ T1 R1)) fun s3 R3 C3 _ => ?_
        rw [if_neg (by decide)]
        have nr := need_run (i := Int32.ofNat t) (v := Int32.ofNat u) C3
        rw [kg] at nr
        exact SC.get (dr R3) (SC.get (rgis R3 (k := 9) (by decide) (by decide)) (SC.bnd (SC.crt R3 nr) fun s4 R4 C4 _ => SC.ret R4 C4))
      · refine MRun.bnd (MRun.bnd (q2 s1 (mw M W) _ TB.mw D1) fun s2 D2 => MRun.ret D2) fun s2 D2 => ?_
        rw [if_neg (neg_ofN ht), if_neg (neg_ofN ht)]
        refine MRun.bnd (x := ()) (M := mcur (mw M (upd W (141 + 4 * t + 3) (W (141 + 4 * t + 3) ||| (1 <<< (Int32.ofNat u &&& (31 : Int32)))))) (dend B n (tb B n (k + 1))) (tb B n (k + 1))) ?_ fun s3 D3 => MRun.ret D3
        refine MRun.get (w_ref D2) (MRun.get (x := Int32.ofNat (141 + 4 * t + 3)) ?_ (MRun.get (w_ld D2 (by omega)) (MRun.bnd (w_put D2 (by omega) _) fun s3 D3 => MRun.ret D3)))
        show some (Sum.inl (Int32.ofNat 141 + Int32.ofNat 4 * Int32.ofNat t + Int32.ofNat 3), s2) = _
        rw [at_lin]
end NLS
