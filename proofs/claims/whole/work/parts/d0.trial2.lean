/-! TRIAL: both sides count the same wear -/
theorem sh16 (x : Int32) : (x >>> (16 &&& (31 : Int32))) &&& 32767 = (iushr x 16) &&& 32767 := bt_ext fun k hk => by
  rw [bt_and, bt_and]
  by_cases h : k < 15
  · congr 1
    have e1 : bt (iushr x 16) k = x.toBitVec.getLsbD (16 + k) := by
      unfold bt
      rw [show iushr x 16 = iushr x (Int32.ofNat 16) from rfl, iushr_bv x (by decide), BitVec.getLsbD_ushiftRight]
    have e2 : bt (x >>> (16 &&& (31 : Int32))) k = x.toBitVec.getLsbD (16 + k) := by
      unfold bt
      rw [Int32.toBitVec_shiftRight, BitVec.getLsbD_sshiftRight']
      rw [show (((16 &&& (31 : Int32)).toBitVec.smod 32) : BitVec 32).toNat = 16 from by decide +kernel]
      simp [show 16 + k < 32 by omega, show k < 32 by omega]
    rw [e1, e2]
  · have : bt (32767 : Int32) k = false := by
      have all : ∀ j, j < 32 → ¬ j < 15 → bt (32767 : Int32) j = false := by decide +kernel
      exact all k hk h
    rw [this, Bool.and_false, Bool.and_false]
theorem damp_same {K : CK} {W : Nat → Int32} (S : Sm K W) (x : Int32) : kdamp K x = wdamp (W 8) x := by
  unfold kdamp wdamp
  rw [sh16, (Sm.ints S).2.2.1]
/-- how many damp days -/
def dcn (r : Int32) : Nat → Int32 → Nat × Int32
  | 0, x => (0, x)
  | n + 1, x => ((dcn r n x).1 + (if wdamp r (kseed (dcn r n x).2) = 0 then 0 else 1), kseed (dcn r n x).2)
theorem kdays_dcn {K : CK} {W : Nat → Int32} (S : Sm K W) (x : Int32) : ∀ n, kdays K x n = (Int32.ofNat (dcn (W 8) n x).1, (dcn (W 8) n x).2)
  | 0 => rfl
  | n + 1 => by
    show ((kdays K x n).1 + kdamp K (kseed (kdays K x n).2), kseed (kdays K x n).2) = _
    rw [kdays_dcn S x n, damp_same S]
    dsimp only [dcn]
    congr 1
    rw [← ofN_add]
    congr 1
    unfold wdamp
    split
    · rw [if_pos rfl]
      rfl
    · rw [if_neg one_ne0]
      rfl
theorem dN_seed (W : Nat → Int32) {n0 n1 : Nat} (hn : n0 ≤ 16) (h6 : n1 ≤ 6) : ∀ n, dN W n0 n1 n 12 = (dcn (W 8) n (W 12)).2
  | 0 => rfl
  | n + 1 => by
    show oneW (dN W n0 n1 n) n0 n1 12 = kseed (dcn (W 8) n (W 12)).2
    rw [oneW_seed _ hn h6, dN_seed W hn h6 n]
theorem dN_wear (W : Nat → Int32) {n0 n1 : Nat} (hn : n0 ≤ 16) (h6 : n1 ≤ 6) {p w : Nat} (hp : p < n0) (hw : W (13 + 8 * p + 2) = Int32.ofNat w) (h99 : w ≤ 99) (hh : W (13 + 8 * p) = 1) : ∀ n, dN W n0 n1 n (13 + 8 * p + 2) = Int32.ofNat (min 99 (w + (dcn (W 8) n (W 12)).1))
  | 0 => by
    show W (13 + 8 * p + 2) = Int32.ofNat (min 99 (w + 0))
    rw [hw, Nat.min_eq_right (by omega)]
    rfl
  | n + 1 => by
    show oneW (dN W n0 n1 n) n0 n1 (13 + 8 * p + 2) = _
    have e8 : dN W n0 n1 n 8 = W 8 := dN_off W hn h6 (by omega) (by omega) (by omega) (by omega) (fun q _ => by omega) (by omega) n
    have eh : dN W n0 n1 n (13 + 8 * p) = W (13 + 8 * p) := dN_off W hn h6 (by omega) (by omega) (by omega) (by omega) (fun q _ => by omega) (by omega) n
    rw [oneW_wear _ hn h6 hp, e8, eh, dN_seed W hn h6 n, dN_wear W hn h6 hp hw h99 hh n]
    dsimp only [dcn]
    by_cases q : wdamp (W 8) (kseed (dcn (W 8) n (W 12)).2) = 0
    · rw [if_neg (fun z => z.2 q), if_pos q]
      rfl
    · rw [if_pos ⟨hh, q⟩, if_neg q, ofN_succ, show (99 : Int32) = Int32.ofNat 99 from rfl, imin_of (by decide) (by omega)]
      congr 1
      omega
theorem heads_same {K : CK} {W : Nat → Int32} {c : Nat} (S : Sm K W) (hk : kOk K) (hw : wOk K W c) {n : Nat} (hb : n ≤ 60) : wheads (dN W (K.1 0) (K.1 1) n) (K.1 0) = kwearSum K (kdays K (W 12) n).1 (K.1 0) := by
  have hn : K.1 0 ≤ 16 := hk 0 (by decide)
  have h6 : K.1 1 ≤ 6 := hk 1 (by decide)
  have dle : ∀ m, (dcn (W 8) m (W 12)).1 ≤ m := by
    intro m
    induction m with
    | zero => exact Nat.le_refl 0
    | succ m ih =>
      show (dcn (W 8) m (W 12)).1 + (if wdamp (W 8) (kseed (dcn (W 8) m (W 12)).2) = 0 then 0 else 1) ≤ m + 1
      split <;> omega
  have key : ∀ j, j ≤ K.1 0 → sumI (fun p => if dN W (K.1 0) (K.1 1) n (13 + 8 * p) = 1 then dN W (K.1 0) (K.1 1) n (13 + 8 * p + 2) else 0) j = kwearSum K (kdays K (W 12) n).1 j := by
    intro j
    induction j with
    | zero => intro _; rfl
    | succ j ih =>
      intro hj
      show sumI _ j + (if dN W (K.1 0) (K.1 1) n (13 + 8 * j) = 1 then dN W (K.1 0) (K.1 1) n (13 + 8 * j + 2) else 0) = (if kget K 0 (Int32.ofNat j) 0 = 1 then kwearSum K (kdays K (W 12) n).1 j + imin 99 (kget K 0 (Int32.ofNat j) 2 + (kdays K (W 12) n).1) else kwearSum K (kdays K (W 12) n).1 j)
      rw [ih (by omega), (Sm.cols S hk).1 j (by omega), (Sm.cols S hk).2.2.1 j (by omega), dN_off W hn h6 (i := 13 + 8 * j) (by omega) (by omega) (by omega) (by omega) (fun q _ => by omega) (by omega) n, kdays_dcn S]
      by_cases q : W (13 + 8 * j) = 1
      · obtain ⟨w, h99, ew⟩ := (hw.1 j (by omega)).2.2.1
        have := dle n
        rw [if_pos q, if_pos q, dN_wear W hn h6 (by omega) ew h99 q n, ew, ofN_add, show (99 : Int32) = Int32.ofNat 99 from rfl, imin_of (by decide) (by omega)]
      · rw [if_neg q, if_neg q, Int32.add_zero]
  exact key _ (Nat.le_refl _)
