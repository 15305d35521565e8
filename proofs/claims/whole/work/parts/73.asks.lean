/-! COURTS THAT ARE ASKED: sets, sums, wear some days on -/
def kspares (K : CK) : Int32 := orI (fun p => if kget K 0 (Int32.ofNat p) 6 = -1 then 1 <<< (Int32.ofNat p &&& (31 : Int32)) else 0) (K.1 0)
def kguiltAll (K : CK) : Int32 := sumI (fun p => kguilt K (Int32.ofNat p)) (K.1 0)
/-- damp days among the next n, and the seed then -/
def kdays (K : CK) (x : Int32) : Nat → Int32 × Int32
  | 0 => (0, x)
  | n + 1 => ((kdays K x n).1 + kdamp K (kseed (kdays K x n).2), kseed (kdays K x n).2)
def kwearSum (K : CK) (d : Int32) : Nat → Int32
  | 0 => 0
  | n + 1 => if kget K 0 (Int32.ofNat n) 0 = 1 then kwearSum K d n + imin 99 (kget K 0 (Int32.ofNat n) 2 + d) else kwearSum K d n
section AK
variable {s : aS} {a : Nat} {K : CK} {x : Int32}
theorem spareSet_run (C : Crt s a K) : mX1_spareSet a s = some (.inl (kspares K), s) := by
  unfold mX1_spareSet
  rw [onC_ok C.1]
  have hr : K.1 0 ≤ 16 := C.t0.2.2.1
  have hl : loopM (mX1_spareSet_L4 a) (orI (fun p => if kget K 0 (Int32.ofNat p) 6 = -1 then 1 <<< (Int32.ofNat p &&& (31 : Int32)) else 0) 0, Int32.ofNat 0) s = some (.inl (kspares K), s) := by
    refine loop_steps (K.1 0) (fun j => (orI (fun p => if kget K 0 (Int32.ofNat p) 6 = -1 then 1 <<< (Int32.ofNat p &&& (31 : Int32)) else 0) j, Int32.ofNat j)) (fun _ => s) (fun j hj => ?_) ?_
    · show mX1_spareSet_L4 a (_, Int32.ofNat j) s = _
      unfold mX1_spareSet_L4
      rw [bnd_ok (gR_ok C.1 rfl), bnd_ok (gI_ok C.t0.1 rfl), if_neg (fun q => absurd ((ofN_le (by omega) (by omega)).mp q) (by omega)), bnd_ok (isSpare_run C)]
      show _ = some (Sum.inl (Sum.inl (_ ||| (if kget K 0 (Int32.ofNat j) 6 = -1 then _ else _), Int32.ofNat (j + 1))), s)
      rw [← ofN_succ]
      by_cases h : kget K 0 (Int32.ofNat j) 6 = -1
      · rw [if_pos h, if_pos h]; rfl
      · rw [if_neg h, if_neg h]; rfl
    · show mX1_spareSet_L4 a (_, Int32.ofNat (K.1 0)) s = _
      unfold mX1_spareSet_L4
      rw [bnd_ok (gR_ok C.1 rfl), bnd_ok (gI_ok C.t0.1 rfl), if_pos (Int32.le_refl _)]
      rfl
  exact bnd_ok hl
theorem guiltOfAll_run (C : Crt s a K) : mX1_guiltOfAll a s = some (.inl (kguiltAll K), s) := by
  unfold mX1_guiltOfAll
  rw [onC_ok C.1]
  have hr : K.1 0 ≤ 16 := C.t0.2.2.1
  have hl : loopM (mX1_guiltOfAll_L4 a) (sumI (fun p => kguilt K (Int32.ofNat p)) 0, Int32.ofNat 0) s = some (.inl (kguiltAll K), s) := by
    refine loop_steps (K.1 0) (fun j => (sumI (fun p => kguilt K (Int32.ofNat p)) j, Int32.ofNat j)) (fun _ => s) (fun j hj => ?_) ?_
    · show mX1_guiltOfAll_L4 a (_, Int32.ofNat j) s = _
      unfold mX1_guiltOfAll_L4
      rw [bnd_ok (gR_ok C.1 rfl), bnd_ok (gI_ok C.t0.1 rfl), if_neg (fun q => absurd ((ofN_le (by omega) (by omega)).mp q) (by omega)), bnd_ok (guiltOf_run C), mret_mbnd, ofN_succ]
      rfl
    · show mX1_guiltOfAll_L4 a (_, Int32.ofNat (K.1 0)) s = _
      unfold mX1_guiltOfAll_L4
      rw [bnd_ok (gR_ok C.1 rfl), bnd_ok (gI_ok C.t0.1 rfl), if_pos (Int32.le_refl _)]
      rfl
  exact bnd_ok hl
theorem allParts_run (C : Crt s a K) : mX1_allParts a s = some (.inl ((1 <<< (Int32.ofNat (K.1 0) &&& (31 : Int32))) - 1), s) := by
  unfold mX1_allParts
  rw [onC_ok C.1, bnd_ok (gR_ok C.1 rfl), bnd_ok (gI_ok C.t0.1 rfl)]
  rfl
theorem wearAfter_run (C : Crt s a K) {n : Nat} (hn : n < 2 ^ 31) : mX1_wearAfter a (Int32.ofNat n) x s = some (.inl (kwearSum K (kdays K x n).1 (K.1 0)), s) := by
  unfold mX1_wearAfter
  rw [onC_ok C.1]
  have hr : K.1 0 ≤ 16 := C.t0.2.2.1
  have h1 : loopM (mX1_wearAfter_L8 a (Int32.ofNat n)) ((kdays K x 0).1, (kdays K x 0).2, Int32.ofNat 0) s = some (.inl (kdays K x n).1, s) := by
    refine loop_steps n (fun j => ((kdays K x j).1, (kdays K x j).2, Int32.ofNat j)) (fun _ => s) (fun j hj => ?_) ?_
    · show mX1_wearAfter_L8 a (Int32.ofNat n) (_, _, Int32.ofNat j) s = _
      unfold mX1_wearAfter_L8
      rw [if_neg (fun q => absurd ((ofN_le (by omega) (by omega)).mp q) (by omega))]
      refine (bnd_ok (show mX1_nextSeed _ s = some (.inl (kseed (kdays K x j).2), s) from rfl)).trans ?_
      rw [bnd_ok (show mX1_isDamp a _ s = some (.inl (kdamp K (kseed (kdays K x j).2)), s) from isDamp_run C)]
      show _ = some (Sum.inl (Sum.inl ((kdays K x j).1 + kdamp K (kseed (kdays K x j).2), kseed (kdays K x j).2, Int32.ofNat (j + 1))), s)
      rw [← ofN_succ]
      by_cases h : kdamp K (kseed (kdays K x j).2) = 0
      · rw [if_pos h, h]; rfl
      · have h9 : kdamp K (kseed (kdays K x j).2) = 1 := by
          unfold kdamp at h ⊢
          split
          · next q => rw [if_pos q] at h; exact absurd rfl h
          · rfl
        rw [if_neg h, h9]; rfl
    · show mX1_wearAfter_L8 a (Int32.ofNat n) (_, _, Int32.ofNat n) s = _
      unfold mX1_wearAfter_L8
      rw [if_pos (Int32.le_refl _)]
      rfl
  have h2 : loopM (mX1_wearAfter_L50 a (kdays K x n).1) (kwearSum K (kdays K x n).1 0, Int32.ofNat 0) s = some (.inl (kwearSum K (kdays K x n).1 (K.1 0)), s) := by
    refine loop_steps (K.1 0) (fun j => (kwearSum K (kdays K x n).1 j, Int32.ofNat j)) (fun _ => s) (fun j hj => ?_) ?_
    · show mX1_wearAfter_L50 a _ (_, Int32.ofNat j) s = _
      unfold mX1_wearAfter_L50
      rw [bnd_ok (gR_ok C.1 rfl), bnd_ok (gI_ok C.t0.1 rfl), if_neg (fun q => absurd ((ofN_le (by omega) (by omega)).mp q) (by omega)), bnd_ok (gR_ok C.1 rfl), bnd_ok (get_ok C.t0)]
      show mbnd (if kget K 0 (Int32.ofNat j) 0 = 1 then _ else _ : MM Int32) _ s = some (Sum.inl (Sum.inl ((if kget K 0 (Int32.ofNat j) 0 = 1 then _ else _), Int32.ofNat (j + 1))), s)
      rw [← ofN_succ]
      by_cases h : kget K 0 (Int32.ofNat j) 0 = 1
      · rw [if_pos h, if_pos h, mbnd_assoc, bnd_ok (gR_ok C.1 rfl), mbnd_assoc, bnd_ok (get_ok C.t0)]
        rfl
      · rw [if_neg h, if_neg h]; rfl
    · show mX1_wearAfter_L50 a _ (_, Int32.ofNat (K.1 0)) s = _
      unfold mX1_wearAfter_L50
      rw [bnd_ok (gR_ok C.1 rfl), bnd_ok (gI_ok C.t0.1 rfl), if_pos (Int32.le_refl _)]
      rfl
  exact (bnd_ok h1).trans (bnd_ok h2)
end AK
