/-! LAUNDERING, the class: the search as a whole -/
section SE
variable {s : aS} {f : Int32} {K : CK} {W : Nat → Int32} {LW : Option (List Ln)} {c t : Nat} {hr sh : Int32}
theorem canB_eq {k q p : Nat} (hs : vS W t k = Int32.ofNat q) (hq : q < 2 ^ 31) (hn : ¬ W (13 + 8 * q + 4) = 1) (hb : ¬ bt sh k = true) : (canB W sh t k p = true) = (W (13 + 8 * p) = Int32.ofNat k ∧ W (13 + 8 * p + 6) < 0) := by
  unfold canB
  rw [hs, ofN_cl hq]
  have h0 : (0 : Int32) ≤ Int32.ofNat q := le0_ofN hq
  have hb2 : bt sh k = false := by simpa using hb
  simp [h0, hn, hb2]
theorem canB_no {k : Nat} (h : vS W t k = -1 ∨ (∃ q, q < 2 ^ 31 ∧ vS W t k = Int32.ofNat q ∧ W (13 + 8 * q + 4) = 1) ∨ bt sh k = true) (p : Nat) : ¬ canB W sh t k p = true := by
  unfold canB
  rcases h with h | ⟨q, hq, h, h1⟩ | h
  · rw [h]
    simp
  · rw [h, ofN_cl hq]
    simp [h1]
  · simp [h]
theorem sw_loop (S : Sm K W) (hk : kOk K) (hw : wOk K W c) {k q0 : Nat} (h3 : k < 3) (hq0 : q0 < 2 ^ 31) (hs : vS W t k = Int32.ofNat q0) (hn : ¬ W (13 + 8 * q0 + 4) = 1) (hb : ¬ bt sh k = true) : ∀ (q p : Nat) (s : aS), q + p = K.1 0 → CL s f K LW → WS s (vO W LW hr sh t) k (wLst (canB W sh t k) p) → ∃ s1, loopM (mX3_addSwaps_L61 8 28 (Int32.ofNat k) (wLau W LW hr q0)) (Int32.ofNat p) s = some (.inl (), s1) ∧ ScR K.2.2.2 s s1 ∧ WS s1 (vO W LW hr sh t) k (wLst (canB W sh t k) (K.1 0)) ∧ ∀ j, j < 3 → j ≠ k → ∀ L', WS s (vO W LW hr sh t) j L' → WS s1 (vO W LW hr sh t) j L'
  | 0, p, s, hp, C, H => by
    have e : p = K.1 0 := by omega
    subst e
    refine ⟨s, ?_, ScR.rf, H, fun _ _ _ _ h => h⟩
    rw [loopM_eq]
    refine (bnd_ok (v := .inr ()) (s' := s) ?_).trans rfl
    unfold mX3_addSwaps_L61
    simp only [mbnd_app, kx_in, CC.all C.1, Int32.le_refl, if_true, mret_app]
  | q + 1, p, s, hp, C, H => by
    have hb16 : K.1 0 ≤ 16 := hk 0 (by decide)
    have hpl : p < K.1 0 := by omega
    have hcan := canB_eq (p := p) hs hq0 hn hb
    have hlen := wLst_len (can := canB W sh t k) p
    have hnle := nle hpl (show K.1 0 < 2 ^ 31 by omega)
    have cs := Sm.cols S hk
    have e1 : wLst (canB W sh t k) (p + 1) = wLst (canB W sh t k) p ++ (if canB W sh t k p = true then [p + 1] else []) := rfl
    have hsp : (W (13 + 8 * p + 6) = -1) = (W (13 + 8 * p + 6) < 0) := by
      rcases home_or hk hw hpl with h | ⟨u, hu, hu6, h⟩
      · rw [h]
        exact propext ⟨fun _ => neg1_lt, fun _ => rfl⟩
      · rw [h]
        exact propext ⟨fun z => absurd z (ofN_ne1 (by omega)), fun z => absurd z (ofN_nn (by omega))⟩
    have stepB : ∃ s1, mX3_addSwaps_L61 8 28 (Int32.ofNat k) (wLau W LW hr q0) (Int32.ofNat p) s = some (.inl (.inl (Int32.ofNat (p + 1))), s1) ∧ ScR K.2.2.2 s s1 ∧ WS s1 (vO W LW hr sh t) k (wLst (canB W sh t k) (p + 1)) ∧ ∀ j, j < 3 → j ≠ k → ∀ L', WS s (vO W LW hr sh t) j L' → WS s1 (vO W LW hr sh t) j L' := by
      by_cases hc : canB W sh t k p = true
      · obtain ⟨h1, h2⟩ := hcan.mp hc
        obtain ⟨s1, a1, a2, a3, a4⟩ := addWay_run C.2.1 C.2.2.2.1 h3 H (by omega) (p + 1)
        have ev : vO W LW hr sh t k (p + 1) = W (13 + 8 * p + 3) + wLau W LW hr q0 := by
          show (if canB W sh t k p = true then W (13 + 8 * p + 3) + wLau W LW hr (vS W t k).toNatClampNeg else 1000000) = _
          rw [if_pos hc, hs, ofN_cl hq0]
        rw [ev] at a1
        have a1' : mX3_addWay 8 (Int32.ofNat k) (W (13 + 8 * p + 3) + wLau W LW hr q0) (1 <<< (Int32.ofNat p &&& (31 : Int32))) s = some (.inl (), s1) := a1
        refine ⟨s1, ?_, a2, ?_, a4⟩
        · unfold mX3_addSwaps_L61
          simp only [mbnd_app, kx_in, CC.all C.1, if_neg hnle, hsp, h2, if_true, one_ne0, if_false, cs, hpl, h1, a1', mret_app, ofN_succ]
        · rw [e1, if_pos hc]
          exact a3
      · refine ⟨s, ?_, ScR.rf, ?_, fun _ _ _ _ h => h⟩
        · unfold mX3_addSwaps_L61
          by_cases h2 : W (13 + 8 * p + 6) < 0
          · have h1 : ¬ W (13 + 8 * p) = Int32.ofNat k := fun z => hc (hcan.mpr ⟨z, h2⟩)
            simp only [mbnd_app, kx_in, CC.all C.1, if_neg hnle, hsp, h2, if_true, one_ne0, if_false, cs, hpl, h1, mret_app, ofN_succ]
          · simp only [mbnd_app, kx_in, CC.all C.1, if_neg hnle, cs, hpl, hsp, h2, if_true, if_false, mret_app, ofN_succ]
        · rw [e1, if_neg hc, List.append_nil]
          exact H
    obtain ⟨s1, a1, a2, a3, a4⟩ := stepB
    obtain ⟨s2, b1, b2, b3, b4⟩ := sw_loop S hk hw h3 hq0 hs hn hb q (p + 1) s1 (by omega) (C.scR a2) a3
    refine ⟨s2, ?_, a2.tr b2, b3, fun j hj hjk L' h => b4 j hj hjk L' (a4 j hj hjk L' h)⟩
    rw [loopM_eq]
    exact (bnd_ok a1).trans b1
/-- one sort's ways -/
theorem sort_run (C : CL s f K LW) (S : Sm K W) (hk : kOk K) (hw : wOk K W c) (ht : t < K.1 1) (hh : hr = -1 ∨ 0 ≤ hr) {k : Nat} (h3 : k < 3) : ∃ s1, mX3_search_L3 8 28 3 (Int32.ofNat t) sh hr (Int32.ofNat k) s = some (.inl (.inl (Int32.ofNat (k + 1))), s1) ∧ ScR K.2.2.2 s s1 ∧ WS s1 (vO W LW hr sh t) k (wLst (canB W sh t k) (K.1 0)) ∧ ∀ j, j < 3 → j ≠ k → ∀ L', WS s (vO W LW hr sh t) j L' → WS s1 (vO W LW hr sh t) j L' := by
  have hl := C.2.2.2.1
  have hb16 : K.1 0 ≤ 16 := hk 0 (by decide)
  have k3 : ¬ (3 : Int32) ≤ Int32.ofNat k := nle (n := 3) h3 (by decide)
  have kcl : (Int32.ofNat k).toNatClampNeg = k := ofN_cl (by omega)
  have cs := Sm.cols S hk
  obtain ⟨w, hw17⟩ := C.2.1.2.2.2.2 17 3 rfl
  obtain ⟨gA, hA⟩ := C.2.1.2.2.2.2 (10 + k) 17 (scN_a h3)
  obtain ⟨gB, hB⟩ := C.2.1.2.2.2.2 (14 + k) 17 (scN_b h3)
  have st0 : stI 0 17 (Int32.ofNat k) 0 s = some (.inl (), sup s 17 (rwE 3 (upd w k 0))) := by
    rw [stI_ok hw17 (ofN_nn (by omega)) (by rw [kcl]; exact h3), kcl]
  have c0 : ScR K.2.2.2 s (sup s 17 (rwE 3 (upd w k 0))) := ScR.put hl rfl
  have C0 := C.scR c0
  have H0 : WS (sup s 17 (rwE 3 (upd w k 0))) (vO W LW hr sh t) k [] := ⟨⟨gA, hasI_sup hA (by omega), fun i hi => absurd hi (Nat.not_lt_zero i)⟩, ⟨gB, hasI_sup hB (by omega), fun i hi => absurd hi (Nat.not_lt_zero i)⟩, upd w k 0, hasI_put hw17.2, by
    show (if k = k then (0 : Int32) else w k) = _
    rw [if_pos rfl]
    rfl⟩
  have O0 : ∀ j, j < 3 → j ≠ k → ∀ L', WS s (vO W LW hr sh t) j L' → WS (sup s 17 (rwE 3 (upd w k 0))) (vO W LW hr sh t) j L' := by
    rintro j hj hjk L' ⟨⟨gA', p1, p2⟩, ⟨gB', q1, q2⟩, w', r1, r2⟩
    have hw' : w' = w := by
      have := r1.1.symm.trans hw17.1
      injection this with e
      injection e with e
      injection e with e1 e
      injection e with e2 e3
    subst hw'
    refine ⟨⟨gA', hasI_sup p1 (by omega), p2⟩, ⟨gB', hasI_sup q1 (by omega), q2⟩, upd w' k 0, hasI_put hw17.2, ?_⟩
    show (if j = k then _ else w' j) = _
    rw [if_neg hjk, r2]
  obtain ⟨s1, a1, a2, a3, a4⟩ := addWay_run C0.2.1 hl h3 H0 (by decide) 0
  have C1 := C0.scR a2
  have a3' : WS s1 (vO W LW hr sh t) k [0] := a3
  -- what stands at the place
  have gt0 : mX8_get 31 (Int32.ofNat t) (Int32.ofNat k) (sup s 17 (rwE 3 (upd w k 0))) = some (.inl (vS W t k), sup s 17 (rwE 3 (upd w k 0))) := by
    rw [show vS W t k = W (141 + 4 * t + k) from rfl, ← cs.2.2.2.2.2.2.2.2.2.2.2.2.2.1 t k ht (by omega)]
    exact get_ok C0.1.2.t1
  have gg0 : mX1_guiltOf 28 (vS W t k) (sup s 17 (rwE 3 (upd w k 0))) = some (.inl (vO W LW hr sh t k 0), sup s 17 (rwE 3 (upd w k 0))) := by
    have e : vO W LW hr sh t k 0 = kguilt K (vS W t k) := by
      show (if 0 ≤ vS W t k then W (13 + 8 * (vS W t k).toNatClampNeg + 3) else 0) = _
      rcases slot_or hk hw ht h3 with h | ⟨q, hq, hq16, h, -⟩
      · rw [show vS W t k = -1 from h, kguilt_none]
        rfl
      · rw [show vS W t k = Int32.ofNat q from h, if_pos (le0_ofN (by omega)), ofN_cl (by omega), kguilt_in S hk hq]
    rw [e]
    exact guiltOf_run C0.1.2
  have a1' : mX3_addWay 8 (Int32.ofNat k) (vO W LW hr sh t k 0) 0 (sup s 17 (rwE 3 (upd w k 0))) = some (.inl (), s1) := a1
  have g11 : gR 1 1 28 (sup s 17 (rwE 3 (upd w k 0))) = some (.inl 31, sup s 17 (rwE 3 (upd w k 0))) := gR_ok C0.1.2.1 rfl
  have g32 : gR 3 2 8 s = some (.inl 17, s) := (lau_st C.2.1).2.2.2.1
  have swp : ∃ s2, (if inSet sh (Int32.ofNat k) = 0 then (mbnd (mX3_addSwaps 8 28 3 (Int32.ofNat t) (Int32.ofNat k) hr) fun _ => mret ()) else mret () : MM Unit) s1 = some (.inl (), s2) ∧ ScR K.2.2.2 s1 s2 ∧ WS s2 (vO W LW hr sh t) k (wLst (canB W sh t k) (K.1 0)) ∧ ∀ j, j < 3 → j ≠ k → ∀ L', WS s1 (vO W LW hr sh t) j L' → WS s2 (vO W LW hr sh t) j L' := by
    by_cases hb : bt sh k = true
    · refine ⟨s1, ?_, ScR.rf, ?_, fun _ _ _ _ h => h⟩
      · rw [if_neg (by rw [inSet_0 sh (by omega)]; exact fun z => z hb)]
        rfl
      · rw [wLst_no _ (fun p _ => canB_no (Or.inr (Or.inr hb)) p)]
        exact a3'
    · have hin : inSet sh (Int32.ofNat k) = 0 := by
        rw [inSet_0 sh (by omega)]
        exact hb
      rw [if_pos hin]
      have gt1 : mX8_get 31 (Int32.ofNat t) (Int32.ofNat k) s1 = some (.inl (vS W t k), s1) := by
        rw [show vS W t k = W (141 + 4 * t + k) from rfl, ← cs.2.2.2.2.2.2.2.2.2.2.2.2.2.1 t k ht (by omega)]
        exact get_ok C1.1.2.t1
      have g11' : gR 1 1 28 s1 = some (.inl 31, s1) := gR_ok C1.1.2.1 rfl
      rcases slot_or hk hw ht h3 with h | ⟨q, hq, hq16, h, h9, -⟩
      · refine ⟨s1, ?_, ScR.rf, ?_, fun _ _ _ _ h => h⟩
        · unfold mX3_addSwaps
          rw [show vS W t k = -1 from h] at gt1
          simp only [mbnd_app, lau_st C1.2.1, g11', kx_in, gt1, if_true, mret_app]
        · rw [wLst_no _ (fun p _ => canB_no (Or.inl h) p)]
          exact a3'
      · have hne : ¬ Int32.ofNat q = -1 := ofN_ne1 (by omega)
        by_cases hn : W (13 + 8 * q + 4) = 1
        · refine ⟨s1, ?_, ScR.rf, ?_, fun _ _ _ _ h => h⟩
          · unfold mX3_addSwaps
            rw [show vS W t k = Int32.ofNat q from h] at gt1
            simp only [mbnd_app, lau_st C1.2.1, g11', kx_in, gt1, if_neg hne, CC.fns C1.1, cs, hq, hn, if_true, one_ne0, if_false, mret_app]
          · rw [wLst_no _ (fun p _ => canB_no (Or.inr (Or.inl ⟨q, by omega, h, hn⟩)) p)]
            exact a3'
        · obtain ⟨s2, b1, b2, b3⟩ := over_run (hr := hr) C1 S hk hw hq hh
          obtain ⟨s3, d1, d2, d3, d4⟩ := sw_loop (hr := hr) S hk hw h3 (q0 := q) (by omega) h hn hb (K.1 0) 0 s2 (by omega) (C1.scR b2) (b3 _ k [0] h3 a3')
          refine ⟨s3, ?_, b2.tr d2, d3, fun j hj hjk L' z => d4 j hj hjk L' (b3 _ j L' hj z)⟩
          unfold mX3_addSwaps
          rw [show vS W t k = Int32.ofNat q from h] at gt1
          have d1' : loopM (mX3_addSwaps_L61 8 28 (Int32.ofNat k) (wLau W LW hr q)) 0 s2 = some (.inl (), s3) := d1
          simp only [mbnd_app, lau_st C1.2.1, g11', kx_in, gt1, if_neg hne, CC.fns C1.1, cs, hq, hn, if_true, if_false, b1, d1', mret_app]
  obtain ⟨s2, b1, b2, b3, b4⟩ := swp
  refine ⟨s2, ?_, c0.tr (a2.tr b2), b3, fun j hj hjk L' z => b4 j hj hjk L' (a4 j hj hjk L' (O0 j hj hjk L' z))⟩
  unfold mX3_search_L3
  have hin : nox (mX11_inSet sh (Int32.ofNat k)) s1 = some (.inl (inSet sh (Int32.ofNat k)), s1) := nox_ok (inSet_app _ _ s1)
  rw [if_neg k3, bnd_ok g32, bnd_ok st0, bnd_ok g11, bnd_ok gt0, bnd_ok gg0, bnd_ok a1', bnd_ok hin, bnd_ok b1, ← ofN_succ]
  rfl
end SE
