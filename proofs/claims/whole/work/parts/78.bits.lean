/-! BITS, and numbers as integers -/
def bt (x : Int32) (k : Nat) : Bool := x.toBitVec.getLsbD k
theorem k31 : ∀ k, k < 32 → (((Int32.ofNat k &&& (31 : Int32)).toBitVec.smod 32) : BitVec 32).toNat = k := by decide +kernel
theorem k31u : ∀ k, k < 32 → ((((Int32.ofNat k).toUInt32 &&& Int32.toUInt32 31).toBitVec % 32) : BitVec 32).toNat = k := by decide +kernel
theorem shl_bv : ∀ k, k < 32 → ((1 : Int32) <<< (Int32.ofNat k &&& (31 : Int32))).toBitVec = BitVec.twoPow 32 k := by decide +kernel
theorem twoPow_ne : ∀ k, k < 32 → ¬ (0#32 = BitVec.twoPow 32 k) := by decide +kernel
theorem and1_1 (x : BitVec 32) : (x &&& 1#32 = 1#32) ↔ x.getLsbD 0 = true := by
  have h := BitVec.and_twoPow x 0
  rw [BitVec.twoPow_zero] at h
  rw [h]
  by_cases hx : x.getLsbD 0 = true
  · rw [if_pos hx]
    exact ⟨fun _ => hx, fun _ => rfl⟩
  · rw [if_neg hx]
    exact ⟨fun q => absurd q (by decide), fun q => absurd q hx⟩
theorem and1_0 (x : BitVec 32) : (x &&& 1#32 = 0#32) ↔ ¬ x.getLsbD 0 = true := by
  have h := BitVec.and_twoPow x 0
  rw [BitVec.twoPow_zero] at h
  rw [h]
  by_cases hx : x.getLsbD 0 = true
  · rw [if_pos hx]
    exact ⟨fun q => absurd q (by decide), fun q => absurd hx q⟩
  · rw [if_neg hx]
    exact ⟨fun _ => hx, fun _ => rfl⟩
theorem has_bt (x : Int32) {k : Nat} (hk : k < 32) : ((x >>> (Int32.ofNat k &&& (31 : Int32))) &&& 1 = 1) = (bt x k = true) := by
  apply propext
  rw [← Int32.toBitVec_inj, Int32.toBitVec_and, Int32.toBitVec_shiftRight]
  refine (and1_1 _).trans ?_
  rw [BitVec.getLsbD_sshiftRight', k31 k hk]
  unfold bt
  simp [hk]
theorem iushr_bv (x : Int32) {k : Nat} (hk : k < 32) : (iushr x (Int32.ofNat k)).toBitVec = x.toBitVec >>> k := by
  show (x.toUInt32 >>> ((Int32.ofNat k).toUInt32 &&& Int32.toUInt32 31)).toBitVec = _
  rw [UInt32.toBitVec_shiftRight]
  show x.toBitVec >>> (((Int32.ofNat k).toUInt32 &&& Int32.toUInt32 31).toBitVec % 32) = _
  rw [BitVec.ushiftRight_eq', k31u k hk]
theorem iushr_bt (x : Int32) {k : Nat} (hk : k < 32) : ((iushr x (Int32.ofNat k)) &&& 1 = 0) = ¬ (bt x k = true) := by
  apply propext
  rw [← Int32.toBitVec_inj, Int32.toBitVec_and, iushr_bv x hk]
  refine (and1_0 _).trans ?_
  rw [BitVec.getLsbD_ushiftRight]
  exact Iff.rfl
theorem inSet_0 (x : Int32) {k : Nat} (hk : k < 32) : (inSet x (Int32.ofNat k) = 0) = ¬ (bt x k = true) := by
  unfold inSet
  rw [ite01_0, iushr_bt x hk]
  have h1 := ofN_nn (n := k) (by omega)
  have h2 : ¬ (32 : Int32) ≤ Int32.ofNat k := fun q => absurd ((ofN_le (n := 32) (m := k) (by omega) (by omega)).mp q) (by omega)
  exact propext ⟨fun q => q.elim (fun q => absurd q h1) (fun q => q.elim (fun q => absurd q h2) id), fun q => Or.inr (Or.inr q)⟩
theorem and_shl (x : Int32) {k : Nat} (hk : k < 32) : ((x &&& (1 <<< (Int32.ofNat k &&& (31 : Int32)))) = 1 <<< (Int32.ofNat k &&& (31 : Int32))) = (bt x k = true) := by
  apply propext
  rw [← Int32.toBitVec_inj, Int32.toBitVec_and, shl_bv k hk, BitVec.and_twoPow]
  unfold bt
  by_cases h : x.toBitVec.getLsbD k = true
  · rw [if_pos h]
    exact ⟨fun _ => h, fun _ => rfl⟩
  · rw [if_neg h]
    exact ⟨fun q => absurd q (twoPow_ne k hk), fun q => absurd q h⟩
theorem bt_and (x y : Int32) (k : Nat) : bt (x &&& y) k = (bt x k && bt y k) := by
  unfold bt
  rw [Int32.toBitVec_and, BitVec.getLsbD_and]
theorem bt_or (x y : Int32) (k : Nat) : bt (x ||| y) k = (bt x k || bt y k) := by
  unfold bt
  rw [Int32.toBitVec_or, BitVec.getLsbD_or]
theorem bt_shl {k j : Nat} (hk : k < 32) : bt (1 <<< (Int32.ofNat k &&& (31 : Int32))) j = decide (k = j) := by
  unfold bt
  rw [shl_bv k hk, BitVec.getLsbD_twoPow]
  simp [hk]
theorem bt_0 (k : Nat) : bt 0 k = false := by
  unfold bt
  exact BitVec.getLsbD_zero
theorem bt_ext {x y : Int32} (h : ∀ k, k < 32 → bt x k = bt y k) : x = y := by
  apply Int32.toBitVec_inj.mp
  exact BitVec.eq_of_getLsbD_eq fun k hk => h k hk
theorem add_ite0 {c : Prop} [Decidable c] (x y : Int32) : (if c then x else x + y) = x + (if c then 0 else y) := by
  split
  · exact (Int32.add_zero x).symm
  · rfl
theorem add_ite1 {c : Prop} [Decidable c] (x y : Int32) : (if c then x + y else x) = x + (if c then y else 0) := by
  split
  · rfl
  · exact (Int32.add_zero x).symm
theorem ite_or2 {α : Type} {c d : Prop} [Decidable c] [Decidable d] (x y : α) : (if c then x else if d then x else y) = if c ∨ d then x else y := by
  by_cases hc : c
  · rw [if_pos hc, if_pos (Or.inl hc)]
  · rw [if_neg hc]
    by_cases hd : d
    · rw [if_pos hd, if_pos (Or.inr hd)]
    · rw [if_neg hd, if_neg (fun q => q.elim hc hd)]
theorem and_ite {c : Prop} [Decidable c] (x y : Int32) : (if c then x &&& y else x) = x &&& (if c then y else x) := by
  split
  · rfl
  · exact (Int32.and_self).symm
theorem or_ite {c : Prop} [Decidable c] (x y : Int32) : (if c then x ||| y else x) = x ||| (if c then y else 0) := by
  split
  · rfl
  · exact (Int32.or_zero).symm
/-! whole numbers -/
theorem i_bmod {x : Int} (h1 : -2147483648 ≤ x) (h2 : x ≤ 2147483647) : x.bmod (2 ^ 32) = x := Int.bmod_eq_of_le_mul_two (by omega) (by omega)
theorem i_add {a b : Int32} (h1 : -2147483648 ≤ a.toInt + b.toInt) (h2 : a.toInt + b.toInt ≤ 2147483647) : (a + b).toInt = a.toInt + b.toInt := by rw [Int32.toInt_add, i_bmod h1 h2]
theorem i_sub {a b : Int32} (h1 : -2147483648 ≤ a.toInt - b.toInt) (h2 : a.toInt - b.toInt ≤ 2147483647) : (a - b).toInt = a.toInt - b.toInt := by rw [Int32.toInt_sub, i_bmod h1 h2]
theorem i_mul {a b : Int32} (h1 : -2147483648 ≤ a.toInt * b.toInt) (h2 : a.toInt * b.toInt ≤ 2147483647) : (a * b).toInt = a.toInt * b.toInt := by rw [Int32.toInt_mul, i_bmod h1 h2]
theorem i_div {a b : Int32} (h1 : 0 ≤ a.toInt) (h2 : 0 < b.toInt) : (a / b).toInt = a.toInt / b.toInt := by
  rw [Int32.toInt_div_of_ne_right _ _ (fun q => by rw [q] at h2; exact absurd h2 (by decide)), Int.tdiv_eq_ediv_of_nonneg h1]
theorem ofN_sub {n m : Nat} (h : m ≤ n) : Int32.ofNat n - Int32.ofNat m = Int32.ofNat (n - m) := (Int32.ofNat_sub n m h).symm
theorem ofN_div {n m : Nat} (hn : n < 2 ^ 31) (hm : m < 2 ^ 31) : Int32.ofNat n / Int32.ofNat m = Int32.ofNat (n / m) := (Int32.ofNat_div hn hm).symm
theorem ofN_inj {n m : Nat} (hn : n < 2 ^ 31) (hm : m < 2 ^ 31) : (Int32.ofNat n = Int32.ofNat m) = (n = m) := by
  apply propext
  refine ⟨fun h => ?_, fun h => by rw [h]⟩
  have := congrArg Int32.toNatClampNeg h
  rwa [ofN_cl hn, ofN_cl hm] at this
/-- a number within bounds -/
def isN (x : Int32) (B : Nat) : Prop := ∃ n, n ≤ B ∧ x = Int32.ofNat n
theorem isN.toInt {x : Int32} {B : Nat} (h : isN x B) (hB : B < 2 ^ 31) : 0 ≤ x.toInt ∧ x.toInt ≤ B := by
  obtain ⟨n, h1, rfl⟩ := h
  rw [ofN_toInt (by omega)]
  omega
theorem isN.of {x : Int32} {B : Nat} (h0 : 0 ≤ x.toInt) (h1 : x.toInt ≤ B) : isN x B := by
  have hx : ¬ x < 0 := fun q => by
    have := Int32.lt_iff_toInt_lt.mp q
    have h9 : (0 : Int32).toInt = 0 := rfl
    omega
  refine ⟨x.toNatClampNeg, ?_, i32_of hx⟩
  have := i32_nn hx
  omega
theorem isN.nn {x : Int32} {B : Nat} (h : isN x B) (hB : B < 2 ^ 31) : ¬ x < 0 := by
  obtain ⟨n, h1, rfl⟩ := h
  exact ofN_nn (by omega)
theorem isN.mono {x : Int32} {B B' : Nat} (h : isN x B) (hB : B ≤ B') : isN x B' := by
  obtain ⟨n, h1, e⟩ := h
  exact ⟨n, Nat.le_trans h1 hB, e⟩
theorem i32_lt (a b : Int32) : a < b ↔ a.toInt < b.toInt := Int32.lt_iff_toInt_lt
theorem i32_le (a b : Int32) : a ≤ b ↔ a.toInt ≤ b.toInt := Int32.le_iff_toInt_le
/-- a loop over numbers that may end early, where nothing changes -/
theorem for_exit {ε : Type} {s : aS} {b : Int32 → MM (Int32 ⊕ ε)} {e1 e2 : ε} (n : Nat) (bad : Nat → Prop) (hs : ∀ j, j < n → ¬ bad j → b (Int32.ofNat j) s = some (.inl (.inl (Int32.ofNat j + 1)), s)) (hb : ∀ j, j < n → bad j → b (Int32.ofNat j) s = some (.inl (.inr e1), s)) (he : b (Int32.ofNat n) s = some (.inl (.inr e2), s)) : ((∃ j, j < n ∧ bad j) → loopM b 0 s = some (.inl e1, s)) ∧ ((¬ ∃ j, j < n ∧ bad j) → loopM b 0 s = some (.inl e2, s)) := by
  refine ⟨fun hx => ?_, fun hx => ?_⟩
  · have key : ∀ m, ∀ k, k + m = n → (∃ j, k ≤ j ∧ j < n ∧ bad j) → loopM b (Int32.ofNat k) s = some (.inl e1, s) := by
      intro m
      induction m with
      | zero =>
        intro k hk hj
        obtain ⟨j, h1, h2, -⟩ := hj
        exact absurd h2 (by omega)
      | succ m ih =>
        intro k hk hj
        rw [loopM_eq]
        rcases Classical.em (bad k) with hb9 | hb9
        · exact bnd_ok (hb k (by omega) hb9)
        · refine (bnd_ok (hs k (by omega) hb9)).trans ?_
          rw [ofN_succ]
          refine ih (k + 1) (by omega) ?_
          obtain ⟨j, h1, h2, h3⟩ := hj
          refine ⟨j, ?_, h2, h3⟩
          rcases Nat.lt_or_ge k j with q | q
          · exact q
          · exact absurd ((show j = k by omega) ▸ h3) hb9
    obtain ⟨j, h1, h2⟩ := hx
    exact key n 0 (by omega) ⟨j, Nat.zero_le j, h1, h2⟩
  · exact loop_steps n (fun j => Int32.ofNat j) (fun _ => s) (fun j hj => by rw [hs j hj (fun q => hx ⟨j, hj, q⟩), ofN_succ]) he
