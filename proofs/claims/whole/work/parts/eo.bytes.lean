/-! THE TAPE: bytes -/
def byt (a : Int32) (k : Nat) : Nat := a.toBitVec.toNat / 2 ^ k % 256
theorem byt_lt (a : Int32) (k : Nat) : byt a k < 256 := Nat.mod_lt _ (by decide)
theorem byte_c (a : Int32) {k : Nat} (hk : k < 32) : (iushr a (Int32.ofNat k)) &&& 255 = Int32.ofNat (byt a k) := by
  have hb := byt_lt a k
  apply Int32.toBitVec_inj.mp
  rw [Int32.toBitVec_and, iushr_bv a hk]
  apply BitVec.eq_of_toNat_eq
  rw [BitVec.toNat_and, BitVec.toNat_ushiftRight]
  show (a.toBitVec.toNat >>> k) &&& (2 ^ 8 - 1) = byt a k % 2 ^ 32
  rw [Nat.and_two_pow_sub_one_eq_mod, Nat.shiftRight_eq_div_pow, Nat.mod_eq_of_lt (show byt a k < 2 ^ 32 by omega)]
  rfl
theorem sb_toInt {b : Nat} (hb : b < 256) : (sb b).toInt = if b < 128 then (b : Int) else (b : Int) - 256 := by
  unfold sb
  by_cases q : b < 128
  · rw [if_pos q, if_pos q, ofN_toInt (by omega)]
  · have e : (256 : Int32).toInt = 256 := rfl
    rw [if_neg q, if_neg q, i_sub (by rw [ofN_toInt (by omega), e]; omega) (by rw [ofN_toInt (by omega), e]; omega), ofN_toInt (by omega), e]
theorem byte_m (a : Int32) {k : Nat} (hk : k = 0 ∨ k = 8 ∨ k = 16 ∨ k = 24) : ((a >>> (Int32.ofNat k &&& (31 : Int32))).toInt8.toInt32) = sb (byt a k) := by
  have hb := byt_lt a k
  apply Int32.toInt_inj.mp
  rw [Int8.toInt_toInt32, Int32.toInt_toInt8, sb_toInt hb]
  have e1 : (a >>> (Int32.ofNat k &&& (31 : Int32))).toInt = a.toInt / ((2 ^ k : Nat) : Int) := by
    show (a >>> (Int32.ofNat k &&& (31 : Int32))).toBitVec.toInt = _
    rw [Int32.toBitVec_shiftRight, BitVec.toInt_sshiftRight', k31 k (by omega), Int.shiftRight_eq_div_pow]
    rfl
  rw [e1, Int.bmod_def]
  have e2 : a.toInt = if 2 * a.toBitVec.toNat < 2 ^ 32 then (a.toBitVec.toNat : Int) else (a.toBitVec.toNat : Int) - (2 ^ 32 : Nat) := BitVec.toInt_eq_toNat_cond a.toBitVec
  have e3 : a.toBitVec.toNat < 2 ^ 32 := a.toBitVec.isLt
  unfold byt
  generalize a.toBitVec.toNat = n at *
  rw [e2]
  rcases hk with rfl | rfl | rfl | rfl
  · split <;> split <;> split <;> omega
  · split <;> split <;> split <;> omega
  · split <;> split <;> split <;> omega
  · split <;> split <;> split <;> omega
/-- the class's tape holds n bytes -/
def Tpc (s : aS) (n : Nat) (f : Nat → Int32) : Prop := hasO s 1 9 [.ref 2, .int (Int32.ofNat n)] ∧ hasI s 2 0 400 f
theorem ap_step {s : aS} {n : Nat} {f : Nat → Int32} (T : Tpc s n f) (hn : n < 400) (a : Int32) {k : Nat} (hk : k < 32) : ∃ s', mX9_append_L3 1 a (Int32.ofNat k) s = some (.inl (.inl (Int32.ofNat k + (-8))), s') ∧ Tpc s' (n + 1) (upd f n (Int32.ofNat (byt a k))) ∧ Off s s' 1 2 := by
  obtain ⟨O, I⟩ := T
  have O1 : hasO (sup s 2 (.inr (.inl (0, 400, upd f n (Int32.ofNat (byt a k)))))) 1 9 [.ref 2, .int (Int32.ofNat n)] := hasO_sup O (by decide)
  refine ⟨sup (sup s 2 (.inr (.inl (0, 400, upd f n (Int32.ofNat (byt a k)))))) 1 (.inl (9, [.ref 2, .int (Int32.ofNat (n + 1))])), ?_, ⟨hasO_put O1.2, hasI_sup (hasI_put I.2) (by decide)⟩, Off.trans (Off.sup (by decide) (by decide)) (Off.sup (by decide) (by decide))⟩
  have st := stI_ok (i := Int32.ofNat n) (x := Int32.ofNat (byt a k)) I (ofN_nn (by omega)) (by rw [ofN_cl (by omega)]; exact hn)
  rw [ofN_cl (by omega)] at st
  unfold mX9_append_L3
  rw [if_neg (ofN_nn (by omega)), bnd_ok (gI_ok O rfl), bnd_ok (gR_ok O rfl), bnd_ok (lenI_ok I)]
  refine (bnd_ok (v := ()) (s' := sup (sup s 2 (.inr (.inl (0, 400, upd f n (Int32.ofNat (byt a k)))))) 1 (.inl (9, [.ref 2, .int (Int32.ofNat (n + 1))]))) ?_).trans rfl
  rw [if_neg (show ¬ Int32.ofNat 400 ≤ Int32.ofNat n from nle hn (by decide)), bnd_ok (gR_ok O rfl), bnd_ok (gI_ok O rfl), byte_c a hk, bnd_ok st, bnd_ok (gI_ok O1 rfl), ofN_succ]
  exact (bnd_ok (show pI 9 1 1 (Int32.ofNat (n + 1)) _ = _ from pF_ok O1 (Nat.le_of_ble_eq_true rfl))).trans rfl
def fill4 (f : Nat → Int32) (n : Nat) (a : Int32) : Nat → Int32 := upd (upd (upd (upd f n (Int32.ofNat (byt a 24))) (n + 1) (Int32.ofNat (byt a 16))) (n + 2) (Int32.ofNat (byt a 8))) (n + 3) (Int32.ofNat (byt a 0))
theorem append_run {s : aS} {n : Nat} {f : Nat → Int32} (T : Tpc s n f) (hn : n + 4 ≤ 400) (a : Int32) : ∃ s', mX9_append 1 a s = some (.inl (), s') ∧ Tpc s' (n + 4) (fill4 f n a) ∧ Off s s' 1 2 := by
  obtain ⟨s1, a1, T1, o1⟩ := ap_step T (by omega) a (k := 24) (by decide)
  obtain ⟨s2, a2, T2, o2⟩ := ap_step T1 (by omega) a (k := 16) (by decide)
  obtain ⟨s3, a3, T3, o3⟩ := ap_step T2 (by omega) a (k := 8) (by decide)
  obtain ⟨s4, a4, T4, o4⟩ := ap_step T3 (by omega) a (k := 0) (by decide)
  refine ⟨s4, ?_, T4, o1.trans (o2.trans (o3.trans o4))⟩
  unfold mX9_append
  rw [onC_ok T.1]
  refine (bnd_ok (v := ()) (s' := s4) ?_).trans rfl
  rw [loopM_eq]
  refine (bnd_ok (show mX9_append_L3 1 a 24 s = some (.inl (.inl 16), s1) from a1)).trans ?_
  show loopM (mX9_append_L3 1 a) 16 s1 = _
  rw [loopM_eq]
  refine (bnd_ok (show mX9_append_L3 1 a 16 s1 = some (.inl (.inl 8), s2) from a2)).trans ?_
  show loopM (mX9_append_L3 1 a) 8 s2 = _
  rw [loopM_eq]
  refine (bnd_ok (show mX9_append_L3 1 a 8 s2 = some (.inl (.inl 0), s3) from a3)).trans ?_
  show loopM (mX9_append_L3 1 a) 0 s3 = _
  rw [loopM_eq]
  refine (bnd_ok (show mX9_append_L3 1 a 0 s3 = some (.inl (.inl (-8)), s4) from a4)).trans ?_
  show loopM (mX9_append_L3 1 a) (-8) s4 = _
  rw [loopM_eq]
  exact (bnd_ok (show mX9_append_L3 1 a (-8) s4 = some (.inl (.inr ()), s4) from by
    unfold mX9_append_L3
    rw [if_pos (show (-8 : Int32) < 0 by decide)]
    rfl)).trans rfl
theorem fill4_at (f : Nat → Int32) (n : Nat) (a : Int32) : (∀ i, i < n ∨ n + 4 ≤ i → fill4 f n a i = f i) ∧ ∀ j, j < 4 → fill4 f n a (n + j) = Int32.ofNat (byt a (24 - 8 * j)) := by
  unfold fill4 upd
  refine ⟨fun i hi => ?_, fun j hj => ?_⟩
  · rw [if_neg (by omega), if_neg (by omega), if_neg (by omega), if_neg (by omega)]
  · have : j = 0 ∨ j = 1 ∨ j = 2 ∨ j = 3 := by omega
    rcases this with rfl | rfl | rfl | rfl
    · rw [if_neg (by omega), if_neg (by omega), if_neg (by omega), if_pos (by omega)]
    · rw [if_neg (by omega), if_neg (by omega), if_pos rfl]
    · rw [if_neg (by omega), if_pos rfl]
    · rw [if_pos rfl]
