/-! THE TAPE: together -/
def tset (b : Nat → Nat) : Nat → Int32 := orI (fun k => 1 <<< (Int32.ofNat (b k) &&& (31 : Int32)))
def wtog (W : Nat → Int32) (x : Int32) : Nat → Int32 × Int32
  | 0 => (0, -1)
  | d + 1 => if (W (171 + 7 * d + 6) &&& x) = x then ((wtog W x d).1 + 1, if (wtog W x d).1 = 0 then W (171 + 7 * d) else (wtog W x d).2) else wtog W x d
theorem bt_m1 : ∀ k, k < 32 → bt (-1 : Int32) k = true := by decide +kernel
theorem bt_xor (x y : Int32) (k : Nat) : bt (x ^^^ y) k = (bt x k ^^ bt y k) := by
  unfold bt
  rw [Int32.toBitVec_xor, BitVec.getLsbD_xor]
theorem sub_bits (x y : Int32) : ((x &&& (y ^^^ (-1))) = 0) = ((y &&& x) = x) := by
  apply propext
  constructor
  · intro h
    refine bt_ext fun k hk => ?_
    have := congrArg (fun z => bt z k) h
    simp only [bt_and, bt_xor, bt_m1 k hk, bt_0] at this
    rw [bt_and]
    cases hx : bt x k <;> cases hy : bt y k <;> simp_all
  · intro h
    refine bt_ext fun k hk => ?_
    have := congrArg (fun z => bt z k) h
    simp only [bt_and] at this
    simp only [bt_and, bt_xor, bt_m1 k hk, bt_0]
    cases hx : bt x k <;> cases hy : bt y k <;> simp_all
theorem tset_bt (b : Nat → Nat) (r : Nat) (hr : r ≤ 16) : ∀ n, (∀ i, i < n → b i < r) → bt (tset b n) 31 = false
  | 0, _ => bt_0 31
  | n + 1, h => by
    show bt (tset b n ||| (1 <<< (Int32.ofNat (b n) &&& (31 : Int32)))) 31 = false
    have := h n (Nat.lt_succ_self n)
    rw [bt_or, tset_bt b r hr n (fun i hi => h i (by omega)), bt_shl (by omega)]
    simp
    omega
theorem tset_ne (b : Nat → Nat) {r n : Nat} (hr : r ≤ 16) (h : ∀ i, i < n → b i < r) : ¬ tset b n = -1 := fun e => by
  have h1 := tset_bt b r hr n h
  rw [e, bt_m1 31 (by decide)] at h1
  cases h1
section TG
variable {s : aS} {f : Int32} {K : CK} {M : MK} {W : Nat → Int32} {LW : Option (List Ln)} {c c' : Nat} {x : Int32}
theorem c_tog (C : CC s f K) (S : Sm K W) (hk : kOk K) (y : Int32) : loopM (mX11_together_L38 0 y) (0, -1, 0) s = some (.inl (wtog W y (K.1 3)), s) := by
  have hb3 : K.1 3 ≤ 60 := hk 3 (by decide)
  have cs := Sm.cols S hk
  have key : loopM (mX11_together_L38 0 y) ((wtog W y 0).1, (wtog W y 0).2, Int32.ofNat 0) s = some (.inl (wtog W y (K.1 3)), s) := by
    refine loop_steps (K.1 3) (fun j => ((wtog W y j).1, (wtog W y j).2, Int32.ofNat j)) (fun _ => s) (fun j hj => ?_) ?_
    · have ew : wtog W y (j + 1) = if (W (171 + 7 * j + 6) &&& y) = y then ((wtog W y j).1 + 1, if (wtog W y j).1 = 0 then W (171 + 7 * j) else (wtog W y j).2) else wtog W y j := rfl
      show mX11_together_L38 0 y ((wtog W y j).1, (wtog W y j).2, Int32.ofNat j) s = some (.inl (.inl ((wtog W y (j + 1)).1, (wtog W y (j + 1)).2, Int32.ofNat (j + 1))), s)
      rw [ew]
      generalize wtog W y j = X
      unfold mX11_together_L38
      dsimp only
      have g6 : mX8_get 35 (Int32.ofNat j) 6 s = some (.inl (W (171 + 7 * j + 6)), s) := by
        rw [← cs.2.2.2.2.2.2.2.2.2.2.2.2.2.2.2.2.2.2.2.2.2.1 j hj]
        exact get_ok C.2.t3
      have g0 : mX8_get 35 (Int32.ofNat j) 0 s = some (.inl (W (171 + 7 * j)), s) := by
        rw [← cs.2.2.2.2.2.2.2.2.2.2.2.2.2.2.2.1 j hj]
        exact get_ok C.2.t3
      rw [bnd_ok (gR_ok C.1 rfl), bnd_ok (gR_ok C.2.1 rfl), bnd_ok (gI_ok C.2.t3.1 rfl), if_neg (nle hj (by omega)), bnd_ok (gR_ok C.1 rfl), bnd_ok (gR_ok C.2.1 rfl), bnd_ok g6, ← ofN_succ]
      by_cases q : (W (171 + 7 * j + 6) &&& y) = y
      · rw [if_pos q, if_pos q]
        refine (bnd_ok (v := (X.1 + 1, if X.1 = 0 then W (171 + 7 * j) else X.2)) (s' := s) ?_).trans rfl
        refine (bnd_ok (v := if X.1 = 0 then W (171 + 7 * j) else X.2) (s' := s) ?_).trans rfl
        by_cases z : X.1 = 0
        · rw [if_pos z, if_pos z, bnd_ok (gR_ok C.1 rfl), bnd_ok (gR_ok C.2.1 rfl), bnd_ok g0]
          rfl
        · rw [if_neg z, if_neg z]
          rfl
      · rw [if_neg q, if_neg q]
        rfl
    · show mX11_together_L38 0 y ((wtog W y (K.1 3)).1, (wtog W y (K.1 3)).2, Int32.ofNat (K.1 3)) s = _
      unfold mX11_together_L38
      dsimp only
      rw [bnd_ok (gR_ok C.1 rfl), bnd_ok (gR_ok C.2.1 rfl), bnd_ok (gI_ok C.2.t3.1 rfl), if_pos (Int32.le_refl _)]
      rfl
  exact key
theorem m_tog (C : Mdl s 66 M) {n : Nat} (hn : M.2 1 6 = Int32.ofNat n) (h60 : n ≤ 60) (y z : Int32) : loopM (mX12_together_L98 66 (y, z)) (0, -1, 0) s = some (.inl (wtog (M.2 1) y n), s) := by
  have key : loopM (mX12_together_L98 66 (y, z)) ((wtog (M.2 1) y 0).1, (wtog (M.2 1) y 0).2, Int32.ofNat 0) s = some (.inl (wtog (M.2 1) y n), s) := by
    refine loop_steps n (fun j => ((wtog (M.2 1) y j).1, (wtog (M.2 1) y j).2, Int32.ofNat j)) (fun _ => s) (fun j hj => ?_) ?_
    · have ew : wtog (M.2 1) y (j + 1) = if (M.2 1 (171 + 7 * j + 6) &&& y) = y then ((wtog (M.2 1) y j).1 + 1, if (wtog (M.2 1) y j).1 = 0 then M.2 1 (171 + 7 * j) else (wtog (M.2 1) y j).2) else wtog (M.2 1) y j := rfl
      show mX12_together_L98 66 (y, z) ((wtog (M.2 1) y j).1, (wtog (M.2 1) y j).2, Int32.ofNat j) s = some (.inl (.inl ((wtog (M.2 1) y (j + 1)).1, (wtog (M.2 1) y (j + 1)).2, Int32.ofNat (j + 1))), s)
      rw [ew]
      generalize wtog (M.2 1) y j = X
      unfold mX12_together_L98
      dsimp only
      have g6 : mX12_ofTruth 66 (Int32.ofNat j) 6 s = some (.inl (M.2 1 (171 + 7 * j + 6)), s) := ofTruth_run (c := 6) C (by omega)
      have g0 : mX12_ofTruth 66 (Int32.ofNat j) 0 s = some (.inl (M.2 1 (171 + 7 * j)), s) := ofTruth_run (c := 0) C (by omega)
      rw [bnd_ok (deeds_run C), hn, if_neg (nle hj (by omega)), bnd_ok g6, ← ofN_succ]
      by_cases q : (M.2 1 (171 + 7 * j + 6) &&& y) = y
      · rw [if_pos ((sub_bits y _).mpr q), if_pos q]
        refine (bnd_ok (v := (X.1 + 1, if X.1 = 0 then M.2 1 (171 + 7 * j) else X.2)) (s' := s) ?_).trans rfl
        refine (bnd_ok (v := if X.1 = 0 then M.2 1 (171 + 7 * j) else X.2) (s' := s) ?_).trans rfl
        by_cases z : X.1 = 0
        · rw [if_pos z, if_pos z, bnd_ok g0]
          rfl
        · rw [if_neg z, if_neg z]
          rfl
      · rw [if_neg (fun e => q ((sub_bits y _).mp e)), if_neg q]
        rfl
    · show mX12_together_L98 66 (y, z) ((wtog (M.2 1) y n).1, (wtog (M.2 1) y n).2, Int32.ofNat n) s = _
      unfold mX12_together_L98
      dsimp only
      rw [bnd_ok (deeds_run C), hn, if_pos (Int32.le_refl _)]
      rfl
  exact key
/-- what the tape tells, the class's side -/
theorem c_told (C : CC s f K) (hk : kOk K) {n : Nat} {g : Nat → Int32} {b : Nat → Nat} (T : Tpc s n g) (hn : n ≤ 400) (hb : ∀ k, k < n → b k < 256 ∧ g k = Int32.ofNat (b k)) : ((∀ i, i < n → b i < K.1 0) → mX11_partsTold 0 s = some (.inl (tset b n), s)) ∧ ((¬ ∀ i, i < n → b i < K.1 0) → mX11_partsTold 0 s = some (.inl (-1), s)) := by
  have b0 : K.1 0 ≤ 16 := hk 0 (by decide)
  have key : ∀ d j, j + d = n → (∀ i, i < j → b i < K.1 0) → ((∀ i, i < n → b i < K.1 0) → loopM (mX11_partsTold_L4 0) (tset b j, Int32.ofNat j) s = some (.inl (.inr (tset b n)), s)) ∧ ((¬ ∀ i, i < n → b i < K.1 0) → loopM (mX11_partsTold_L4 0) (tset b j, Int32.ofNat j) s = some (.inl (.inl ()), s)) := by
    intro d
    induction d with
    | zero =>
      intro j e hj
      have ej : j = n := by omega
      subst ej
      refine ⟨fun _ => ?_, fun h => absurd hj h⟩
      rw [loopM_eq]
      refine (bnd_ok (v := (.inr (.inr (tset b j)) : (Int32 × Int32) ⊕ (Unit ⊕ Int32))) (s' := s) ?_).trans rfl
      unfold mX11_partsTold_L4
      dsimp only
      rw [bnd_ok (gR_ok C.1 rfl), bnd_ok (gI_ok T.1 rfl), if_pos (Int32.le_refl _)]
      rfl
    | succ d ih =>
      intro j e hj
      have hjn : j < n := by omega
      obtain ⟨hb1, hb2⟩ := hb j hjn
      have byte : mX9_byteAt 1 (Int32.ofNat j) s = some (.inl (Int32.ofNat (b j)), s) := by
        have ld := ldI_ok (i := Int32.ofNat j) T.2 (ofN_nn (by omega)) (by rw [ofN_cl (by omega)]; omega)
        rw [ofN_cl (by omega), hb2] at ld
        unfold mX9_byteAt
        rw [onC_ok T.1, if_neg (ofN_nn (by omega)), bnd_ok (gI_ok T.1 rfl), if_neg (nle hjn (by omega)), bnd_ok (gR_ok T.1 rfl), bnd_ok (lenI_ok T.2), if_neg (show ¬ Int32.ofNat 400 ≤ Int32.ofNat j from nle (by omega) (by decide)), bnd_ok (gR_ok T.1 rfl)]
        exact (bnd_ok ld).trans rfl
      by_cases q : b j < K.1 0
      · have step : mX11_partsTold_L4 0 (tset b j, Int32.ofNat j) s = some (.inl (.inl (tset b (j + 1), Int32.ofNat (j + 1))), s) := by
          unfold mX11_partsTold_L4
          dsimp only
          rw [bnd_ok (gR_ok C.1 rfl), bnd_ok (gI_ok T.1 rfl), if_neg (nle hjn (by omega)), bnd_ok (gR_ok C.1 rfl), bnd_ok byte, bnd_ok (gR_ok C.1 rfl), bnd_ok (gR_ok C.2.1 rfl), bnd_ok (has_ok C.2.t0), if_neg (rg_in q (by omega)), if_neg one_ne0, ← ofN_succ]
          rfl
        have ih' := ih (j + 1) (by omega) (fun i hi => by
          by_cases z : i = j
          · rw [z]
            exact q
          · exact hj i (by omega))
        refine ⟨fun h => ?_, fun h => ?_⟩
        · rw [loopM_eq]
          exact (bnd_ok step).trans (ih'.1 h)
        · rw [loopM_eq]
          exact (bnd_ok step).trans (ih'.2 h)
      · refine ⟨fun h => absurd (h j hjn) q, fun h => ?_⟩
        rw [loopM_eq]
        refine (bnd_ok (v := (.inr (.inl ()) : (Int32 × Int32) ⊕ (Unit ⊕ Int32))) (s' := s) ?_).trans rfl
        unfold mX11_partsTold_L4
        dsimp only
        rw [bnd_ok (gR_ok C.1 rfl), bnd_ok (gI_ok T.1 rfl), if_neg (nle hjn (by omega)), bnd_ok (gR_ok C.1 rfl), bnd_ok byte, bnd_ok (gR_ok C.1 rfl), bnd_ok (gR_ok C.2.1 rfl), bnd_ok (has_ok C.2.t0), if_pos (Or.inr ((ofN_le (by omega) (by omega)).mpr (by omega))), if_pos rfl]
        rfl
  have k0 := key n 0 (by omega) (fun i hi => absurd hi (Nat.not_lt_zero i))
  refine ⟨fun h => ?_, fun h => ?_⟩
  · unfold mX11_partsTold
    rw [onC_ok C.1]
    exact (bnd_ok (show loopM (mX11_partsTold_L4 0) (0, 0) s = _ from k0.1 h)).trans rfl
  · unfold mX11_partsTold
    rw [onC_ok C.1]
    exact (bnd_ok (show loopM (mX11_partsTold_L4 0) (0, 0) s = _ from k0.2 h)).trans rfl
theorem sb_or {b : Nat} (hb : b < 256) (r : Nat) (hr : r ≤ 16) : (b < r ∧ sb b = Int32.ofNat b) ∨ (¬ b < r ∧ rg r (sb b)) := by
  by_cases q : b < r
  · refine Or.inl ⟨q, ?_⟩
    unfold sb
    rw [if_pos (by omega)]
  · refine Or.inr ⟨q, ?_⟩
    have h := sb_toInt hb
    by_cases z : b < 128
    · rw [if_pos z] at h
      exact Or.inr ((i32_le _ _).mpr (by rw [ofN_toInt (by omega), h]; omega))
    · rw [if_neg z] at h
      exact Or.inl ((i32_lt _ _).mpr (by rw [h]; show (b : Int) - 256 < 0; omega))
/-- what the tape tells, the reference's side -/
theorem m_told (C : Mdl s 66 M) {r n : Nat} (h0 : M.2 1 0 = Int32.ofNat r) (hr : r ≤ 16) (h11 : M.1 11 = Int32.ofNat n) (hn : n ≤ 400) {b : Nat → Nat} (hb : ∀ k, k < n → b k < 256 ∧ M.2 6 k = sb (b k)) : ((∀ i, i < n → b i < r) → loopM (mX12_together_L11 66) (0, 1, 0) s = some (.inl (tset b n, 1), s)) ∧ ((¬ ∀ i, i < n → b i < r) → ∃ z, loopM (mX12_together_L11 66) (0, 1, 0) s = some (.inl (z, 0), s)) := by
  have g11 : gI 11 11 66 s = some (.inl (Int32.ofNat n), s) := by
    rw [← h11]
    exact gI_ok C.1 rfl
  have key : ∀ d j, j + d = n → (∀ i, i < j → b i < r) → ((∀ i, i < n → b i < r) → loopM (mX12_together_L11 66) (tset b j, 1, Int32.ofNat j) s = some (.inl (tset b n, 1), s)) ∧ ((¬ ∀ i, i < n → b i < r) → ∃ z, loopM (mX12_together_L11 66) (tset b j, 1, Int32.ofNat j) s = some (.inl (z, 0), s)) := by
    intro d
    induction d with
    | zero =>
      intro j e hj
      have ej : j = n := by omega
      subst ej
      refine ⟨fun _ => ?_, fun h => absurd hj h⟩
      rw [loopM_eq]
      refine (bnd_ok (v := (.inr (tset b j, 1) : (Int32 × Int32 × Int32) ⊕ (Int32 × Int32))) (s' := s) ?_).trans rfl
      unfold mX12_together_L11
      dsimp only
      rw [bnd_ok g11, if_pos (Int32.le_refl _)]
      rfl
    | succ d ih =>
      intro j e hj
      have hjn : j < n := by omega
      obtain ⟨hb1, hb2⟩ := hb j hjn
      have ld : ldI 1 72 (Int32.ofNat j) s = some (.inl (sb (b j)), s) := by
        have := ldI_ok (i := Int32.ofNat j) (C.2 6 (by decide) (by decide)) (ofN_nn (by omega)) (by rw [ofN_cl (by omega)]; show j < 400; omega)
        rw [ofN_cl (by omega), hb2] at this
        exact this
      rcases sb_or hb1 r hr with ⟨q, es⟩ | ⟨q, es⟩
      · have step : mX12_together_L11 66 (tset b j, 1, Int32.ofNat j) s = some (.inl (.inl (tset b (j + 1), 1, Int32.ofNat (j + 1))), s) := by
          unfold mX12_together_L11
          dsimp only
          rw [bnd_ok g11, if_neg (nle hjn (by omega)), if_neg one_ne0, bnd_ok (gR_ok C.1 rfl), bnd_ok ld, es, bnd_ok (noPart_in C h0 (by omega) q), if_pos rfl, mret_mbnd, if_neg one_ne0]
          refine (bnd_ok (v := 1 <<< (Int32.ofNat (b j) &&& (31 : Int32))) (s' := s) ?_).trans ?_
          · rw [bnd_ok (gR_ok C.1 rfl), bnd_ok ld, es]
            rfl
          · rw [ofN_succ]
            rfl
        have ih' := ih (j + 1) (by omega) (fun i hi => by
          by_cases z : i = j
          · rw [z]
            exact q
          · exact hj i (by omega))
        refine ⟨fun h => ?_, fun h => ?_⟩
        · rw [loopM_eq]
          exact (bnd_ok step).trans (ih'.1 h)
        · obtain ⟨z, hz⟩ := ih'.2 h
          refine ⟨z, ?_⟩
          rw [loopM_eq]
          exact (bnd_ok step).trans hz
      · refine ⟨fun h => absurd (h j hjn) q, fun h => ⟨tset b j ||| 0, ?_⟩⟩
        rw [loopM_eq]
        refine (bnd_ok (v := (.inl (tset b j ||| 0, 0, Int32.ofNat j + 1) : (Int32 × Int32 × Int32) ⊕ (Int32 × Int32))) (s' := s) ?_).trans ?_
        · unfold mX12_together_L11
          dsimp only
          rw [bnd_ok g11, if_neg (nle hjn (by omega)), if_neg one_ne0, bnd_ok (gR_ok C.1 rfl), bnd_ok ld, bnd_ok (noPart_no C h0 (by omega) es), if_neg one_ne0, mret_mbnd, if_pos rfl]
          rfl
        · show loopM (mX12_together_L11 66) (tset b j ||| 0, 0, Int32.ofNat j + 1) s = _
          rw [loopM_eq]
          refine (bnd_ok (v := (.inr (tset b j ||| 0, 0) : (Int32 × Int32 × Int32) ⊕ (Int32 × Int32))) (s' := s) ?_).trans rfl
          unfold mX12_together_L11
          dsimp only
          rw [bnd_ok g11]
          by_cases z : Int32.ofNat n ≤ Int32.ofNat j + 1
          · rw [if_pos z]
            rfl
          · rw [if_neg z, if_pos rfl]
            rfl
  exact key n 0 (by omega) (fun i hi => absurd hi (Nat.not_lt_zero i))
end TG
