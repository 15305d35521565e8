/-! LAUNDERING, the reference's side: what ways bring, the least, the fewest swaps -/
abbrev vS (W : Nat → Int32) (t k : Nat) : Int32 := W (141 + 4 * t + k)
def canB (W : Nat → Int32) (gd : Int32) (t k p : Nat) : Bool := decide (0 ≤ vS W t k) && (decide (¬ W (13 + 8 * (vS W t k).toNatClampNeg + 4) = 1) && (!(bt gd k) && (decide (W (13 + 8 * p) = Int32.ofNat k) && decide (W (13 + 8 * p + 6) < 0))))
def wLau (W : Nat → Int32) (LW : Option (List Ln)) (wd : Int32) (p : Nat) : Int32 := if 0 ≤ wd then W (13 + 8 * p + 3) * wd / 100 else wOver W LW p
/-- a way of a sort: 0 no swap, p + 1 the part p comes -/
def vO (W : Nat → Int32) (LW : Option (List Ln)) (wd gd : Int32) (t k : Nat) : Nat → Int32
  | 0 => if 0 ≤ vS W t k then W (13 + 8 * (vS W t k).toNatClampNeg + 3) else 0
  | p + 1 => if canB W gd t k p = true then W (13 + 8 * p + 3) + wLau W LW wd (vS W t k).toNatClampNeg else 1000000
def oI : Nat → Int32
  | 0 => -1
  | p + 1 => Int32.ofNat p
def nV (W : Nat → Int32) (LW : Option (List Ln)) (wd gd : Int32) (t k o : Nat) : Nat := (vO W LW wd gd t k o).toNatClampNeg
def lsN (W : Nat → Int32) (LW : Option (List Ln)) (wd gd : Int32) (t k : Nat) : Nat → Nat
  | 0 => 1000000
  | p + 1 => min (lsN W LW wd gd t k p) (nV W LW wd gd t k (p + 1))
/-- the sum of sorts from k on: the least where the set says so -/
def sN (W : Nat → Int32) (LW : Option (List Ln)) (wd gd : Int32) (t np k set : Nat) : Nat → Nat
  | 0 => 0
  | i + 1 => sN W LW wd gd t np k set i + (if set.testBit i = true then lsN W LW wd gd t (k + i) np else nV W LW wd gd t (k + i) 0)
def bc (j : Nat) : Nat := j % 2 + j / 2 % 2 + j / 4 % 2
def bN (W : Nat → Int32) (LW : Option (List Ln)) (wd gd : Int32) (t np k : Nat) (left : Int) : Nat → Nat
  | 0 => 1000000
  | j + 1 => if (sN W LW wd gd t np k j (3 - k) : Int) ≤ left then min (bN W LW wd gd t np k left j) (bc j) else bN W LW wd gd t np k left j
theorem bc_app (j : Nat) (hj : j < 8) (s : aS) : mJ6_bitCount_0f7a4 (Int32.ofNat j) s = some (.inl (Int32.ofNat (bc j)), s) := by
  have : j = 0 ∨ j = 1 ∨ j = 2 ∨ j = 3 ∨ j = 4 ∨ j = 5 ∨ j = 6 ∨ j = 7 := by omega
  rcases this with rfl | rfl | rfl | rfl | rfl | rfl | rfl | rfl <;> rfl
theorem bc_le (j : Nat) : bc j ≤ 3 := by
  unfold bc
  omega
theorem bt_small : ∀ j, j < 8 → ∀ i, i < 3 → bt (Int32.ofNat j) i = j.testBit i := by decide
section LA
variable {s : aS} {f : Int32} {K : CK} {M : MK} {W : Nat → Int32} {LW : Option (List Ln)} {c t : Nat} {wd gd : Int32}
/-- the word is none, or a number up to 101 -/
def wdOk (wd : Int32) : Prop := wd = -1 ∨ isN wd 101
theorem over_nn (ok : LWok LW) {p : Nat} (hg : isN (W (13 + 8 * p + 3)) 179820) : isN (wOver W LW p) 179820 := by
  unfold wOver
  obtain ⟨n, h1, e1⟩ := hg
  obtain ⟨m, h2, e2⟩ := lawTot_nn ok (fRow W p 0 0 0) 2
  have hnm : n * m ≤ n * 100 := Nat.mul_le_mul_left n h2
  rw [e1, e2, ofN_mul, show (100 : Int32) = Int32.ofNat 100 from rfl, ofN_div (by omega) (by decide)]
  exact ⟨n * m / 100, by omega, rfl⟩
theorem lau_nn (ok : LWok LW) (hwd : wdOk wd) {p : Nat} (hg : isN (W (13 + 8 * p + 3)) 179820) : isN (wLau W LW wd p) 181619 := by
  unfold wLau
  rcases hwd with h | ⟨m, h2, e2⟩
  · rw [h, if_neg (by decide)]
    exact (over_nn ok hg).mono (by omega)
  · obtain ⟨n, h1, e1⟩ := hg
    have hnm : n * m ≤ n * 101 := Nat.mul_le_mul_left n h2
    rw [e2, if_pos (le0_ofN (by omega)), e1, ofN_mul, show (100 : Int32) = Int32.ofNat 100 from rfl, ofN_div (by omega) (by decide)]
    exact ⟨n * m / 100, by omega, rfl⟩
theorem vO_nn (hk : kOk K) (hw : wOk K W c) (ok : LWok LW) (hwd : wdOk wd) (ht : t < K.1 1) {k : Nat} (h3 : k < 3) (o : Nat) (ho : o ≤ K.1 0) : isN (vO W LW wd gd t k o) 361439 ∨ (o ≠ 0 ∧ vO W LW wd gd t k o = 1000000) := by
  have hb : K.1 0 ≤ 16 := hk 0 (by decide)
  cases o with
  | zero =>
    refine Or.inl ?_
    show isN (if 0 ≤ vS W t k then _ else _) _
    rcases slot_or hk hw ht h3 with h | ⟨p, hp, hp16, h, -⟩
    · rw [show vS W t k = -1 from h, if_neg (by decide)]
      exact ⟨0, by omega, rfl⟩
    · rw [show vS W t k = Int32.ofNat p from h, if_pos (le0_ofN (by omega)), ofN_cl (by omega)]
      exact (hw.1 p hp).2.2.2.1.mono (by omega)
  | succ p =>
    show isN (if canB W gd t k p = true then _ else _) _ ∨ _ ∧ (if canB W gd t k p = true then _ else _) = _
    by_cases hc : canB W gd t k p = true
    · rw [if_pos hc]
      refine Or.inl ?_
      rcases slot_or hk hw ht h3 with h | ⟨q, hq, hq16, h, -⟩
      · unfold canB at hc
        rw [show vS W t k = -1 from h] at hc
        exact absurd hc (by simp)
      · rw [show vS W t k = Int32.ofNat q from h, ofN_cl (by omega)]
        exact (isN_add (hw.1 p (by omega)).2.2.2.1 (lau_nn ok hwd (hw.1 q hq).2.2.2.1)).mono (by omega)
    · rw [if_neg hc]
      exact Or.inr ⟨by omega, rfl⟩
theorem vO_of (hk : kOk K) (hw : wOk K W c) (ok : LWok LW) (hwd : wdOk wd) (ht : t < K.1 1) {k : Nat} (h3 : k < 3) (o : Nat) (ho : o ≤ K.1 0) : vO W LW wd gd t k o = Int32.ofNat (nV W LW wd gd t k o) ∧ (nV W LW wd gd t k o ≤ 361439 ∨ (o ≠ 0 ∧ nV W LW wd gd t k o = 1000000)) := by
  unfold nV
  rcases vO_nn (gd := gd) hk hw ok hwd ht h3 o ho with ⟨n, h1, e⟩ | ⟨h0, e⟩
  · rw [e, ofN_cl (by omega)]
    exact ⟨rfl, Or.inl h1⟩
  · rw [e]
    exact ⟨rfl, Or.inr ⟨h0, rfl⟩⟩
theorem long_word {a wd : Int32} (ha : isN a 179820) (hb : isN wd 101) : ((a.toInt64 * wd.toInt64) / 100).toInt32 = a * wd / 100 := by
  obtain ⟨n, h1, rfl⟩ := ha
  obtain ⟨m, h2, rfl⟩ := hb
  have hnm : n * m ≤ 179820 * 101 := Nat.mul_le_mul h1 h2
  have e1 : (Int32.ofNat n).toInt = n := ofN_toInt (by omega)
  have e2 : (Int32.ofNat m).toInt = m := ofN_toInt (by omega)
  have e100 : (100 : Int64).toInt = 100 := rfl
  apply Int32.toInt_inj.mp
  have p1 : ((Int32.ofNat n).toInt64 * (Int32.ofNat m).toInt64).toInt = ((n * m : Nat) : Int) := by
    rw [Int64.toInt_mul, Int32.toInt_toInt64, Int32.toInt_toInt64, e1, e2, ← Int.natCast_mul]
    exact Int.bmod_eq_of_le_mul_two (by omega) (by omega)
  rw [Int64.toInt_toInt32, Int64.toInt_div_of_ne_right _ _ (by decide), p1, e100, Int.tdiv_eq_ediv_of_nonneg (by omega), ofN_mul, show (100 : Int32) = Int32.ofNat 100 from rfl, ofN_div (by omega) (by decide), ofN_toInt (by omega)]
  rw [show ((n * m : Nat) : Int) / 100 = ((n * m / 100 : Nat) : Int) from rfl]
  exact Int.bmod_eq_of_le_mul_two (by omega) (by omega)
theorem m_lau (C : Mdl s 66 M) (L : LawR (M.2 1) LW) (ok : LWok LW) (hwd : wdOk wd) (e23 : M.1 23 = wd) {p : Nat} (hp : p < 300) (hg : isN (M.2 1 (13 + 8 * p + 3)) 179820) (h9 : M.2 1 (13 + 8 * p + 4) = 0 ∨ M.2 1 (13 + 8 * p + 4) = 1) : QX I3 (mX12_launders 66 (Int32.ofNat p)) s M (wLau (M.2 1) LW wd p) := by
  have g23 : gI 11 23 66 s = some (.inl wd, s) := by rw [← e23]; exact gI_ok C.1 rfl
  unfold mX12_launders wLau
  refine QX.o11 C (QX.get g23 ?_)
  rcases hwd with h | h
  · rw [h, if_neg (by decide), if_neg (by decide)]
    exact QX.bnd (m_over C L ok hp hg h9) fun s1 M1 C1 _ _ => QX.ret C1
  · have h0 : 0 ≤ wd := Int32.not_lt.mp (h.nn (by decide))
    rw [if_pos h0, if_pos h0]
    refine QX.get ((MD.cols C).2.2.2.1 p hp) (QX.get g23 ?_)
    rw [long_word hg h]
    exact QX.ret C
theorem m_ansBy (C : Mdl s 66 M) (L : LawR (M.2 1) LW) (ok : LWok LW) (hk : kOk K) (hw : wOk K (M.2 1) c) (hwd : wdOk wd) (e23 : M.1 23 = wd) (e24 : M.1 24 = gd) (ht : t < K.1 1) {k : Nat} (h3 : k < 3) {o : Nat} (ho : o ≤ K.1 0) : QX I3 (mX12_answersBy 66 (Int32.ofNat t) (Int32.ofNat k) (oI o)) s M (vO (M.2 1) LW wd gd t k o) := by
  have hb : K.1 0 ≤ 16 := hk 0 (by decide)
  have hb1 : K.1 1 ≤ 6 := hk 1 (by decide)
  have g24 : gI 11 24 66 s = some (.inl gd, s) := by rw [← e24]; exact gI_ok C.1 rfl
  have gs := (MD.cols C).2.2.2.2.2.2.2.2.2.2.2.2.2.1 t k (by omega) (by omega)
  unfold mX12_answersBy
  refine QX.o11 C (QX.get gs ?_)
  cases o with
  | zero =>
    show QX I3 (if (0 : Int32) ≤ -1 then _ else _) s M (if 0 ≤ vS (M.2 1) t k then _ else _)
    rw [if_neg (by decide)]
    rcases slot_or hk hw ht h3 with h | ⟨p, hp, hp16, h, -⟩
    · rw [h, show vS (M.2 1) t k = -1 from h, if_neg (by decide), if_neg (by decide)]
      exact QX.ret C
    · have h0 : (0 : Int32) ≤ Int32.ofNat p := le0_ofN (by omega)
      rw [h, show vS (M.2 1) t k = Int32.ofNat p from h, if_pos h0, if_pos h0, ofN_cl (by omega)]
      exact QX.get ((MD.cols C).2.2.2.1 p (by omega)) (QX.ret C)
  | succ p =>
    show QX I3 (if (0 : Int32) ≤ Int32.ofNat p then _ else _) s M (if canB (M.2 1) gd t k p = true then _ else _)
    rw [if_pos (le0_ofN (by omega))]
    have hp3 : p < 300 := by omega
    rcases slot_or hk hw ht h3 with h | ⟨q, hq, hq16, h, h9, -⟩
    · have hc : ¬ canB (M.2 1) gd t k p = true := by
        unfold canB
        rw [show vS (M.2 1) t k = -1 from h]
        simp
      rw [if_neg hc, h, if_pos neg1_lt]
      exact QX.get (x := 0) rfl (QX.ret C)
    · have hnn : ¬ Int32.ofNat q < 0 := ofN_nn (by omega)
      have h01 : (if (if M.2 1 (13 + 8 * q + 4) = 1 then (1 : Int32) else 0) = 0 then (if (if (gd >>> (Int32.ofNat k &&& (31 : Int32))) &&& 1 = 1 then (1 : Int32) else 0) = 0 then (if M.2 1 (13 + 8 * p) = Int32.ofNat k then (if (if 0 ≤ M.2 1 (13 + 8 * p + 6) then (0 : Int32) else 1) = 0 then 0 else 1) else 0) else 0) else 0) = (if canB (M.2 1) gd t k p = true then (1 : Int32) else 0) := by
        simp only [has_bt gd (show k < 32 by omega)]
        unfold canB
        rw [show vS (M.2 1) t k = Int32.ofNat q from h, ofN_cl (by omega)]
        have h0 : (0 : Int32) ≤ Int32.ofNat q := le0_ofN (by omega)
        by_cases c1 : M.2 1 (13 + 8 * q + 4) = 1
        · simp [c1, h0]
        · by_cases c2 : bt gd k = true
          · simp [c1, c2, h0]
          · by_cases c3 : M.2 1 (13 + 8 * p) = Int32.ofNat k
            · by_cases c4 : 0 ≤ M.2 1 (13 + 8 * p + 6)
              · have c5 : ¬ M.2 1 (13 + 8 * p + 6) < 0 := Int32.not_lt.mpr c4
                simp [c1, c2, c3, c4, c5, h0]
              · have c5 : M.2 1 (13 + 8 * p + 6) < 0 := Int32.not_le.mp c4
                simp [c1, c2, c3, c4, c5, h0]
            · simp [c1, c2, c3, h0]
      rw [h, if_neg hnn]
      refine QX.get (x := if canB (M.2 1) gd t k p = true then (1 : Int32) else 0) ?_ ?_
      · rw [← h01]
        simp only [mbnd_app, kx_in, (MD.is C).2.1 q (by omega), (MD.is C).1 p hp3, (MD.cols C).1 p hp3, oI, mite_app, g24, has_app, mret_app, ite_some]
      · by_cases hc : canB (M.2 1) gd t k p = true
        · rw [if_pos hc, if_pos hc, if_neg one_ne0]
          refine QX.get ((MD.cols C).2.2.2.1 p hp3) (QX.bnd (m_lau C L ok hwd e23 (p := q) (by omega) (hw.1 q hq).2.2.2.1 h9) fun s1 M1 C1 _ _ => ?_)
          rw [show vS (M.2 1) t k = Int32.ofNat q from h, ofN_cl (by omega)]
          exact QX.ret C1
        · rw [if_neg hc, if_neg hc, if_pos rfl]
          exact QX.ret C
end LA
