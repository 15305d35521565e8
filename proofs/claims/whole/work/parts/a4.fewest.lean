/-! LAUNDERING, the reference: the least by a sort, the fewest swaps -/
def LHs (K : CK) (W : Nat → Int32) (LW : Option (List Ln)) (c t : Nat) (wd : Int32) : Prop := LawR W LW ∧ LWok LW ∧ kOk K ∧ wOk K W c ∧ wdOk wd ∧ t < K.1 1 ∧ W 0 = Int32.ofNat (K.1 0)
def LHm (W : Nat → Int32) (wd gd : Int32) (M : MK) : Prop := M.2 1 = W ∧ M.1 23 = wd ∧ M.1 24 = gd
theorem LHm.keep {W : Nat → Int32} {wd gd : Int32} {M M' : MK} (h : LHm W wd gd M) (k : Keep M M') (i : ∀ k, I3 k → M'.1 k = M.1 k) : LHm W wd gd M' := ⟨k.1.trans h.1, (i 23 (Or.inr (Or.inl rfl))).trans h.2.1, (i 24 (Or.inr (Or.inr rfl))).trans h.2.2⟩
section LF
variable {s : aS} {K : CK} {M : MK} {W : Nat → Int32} {LW : Option (List Ln)} {c t : Nat} {wd gd : Int32}
theorem m_ans (H : LHs K W LW c t wd) (C : Mdl s 66 M) (h : LHm W wd gd M) {k : Nat} (h3 : k < 3) {o : Nat} (ho : o ≤ K.1 0) : QX I3 (mX12_answersBy 66 (Int32.ofNat t) (Int32.ofNat k) (oI o)) s M (Int32.ofNat (nV W LW wd gd t k o)) := by
  obtain ⟨h1, h2, h4, h5, h6, h7, h8⟩ := H
  have e := h.1
  subst e
  rw [← (vO_of h4 h5 h2 h6 h7 h3 o ho).1]
  exact m_ansBy C h1 h2 h4 h5 h6 h.2.1 h.2.2 h7 h3 ho
theorem nV_le (H : LHs K W LW c t wd) {k : Nat} (h3 : k < 3) {o : Nat} (ho : o ≤ K.1 0) : nV W LW wd gd t k o ≤ 361439 ∨ (o ≠ 0 ∧ nV W LW wd gd t k o = 1000000) := by
  obtain ⟨h1, h2, h4, h5, h6, h7, h8⟩ := H
  exact (vO_of h4 h5 h2 h6 h7 h3 o ho).2
theorem nV0_le (H : LHs K W LW c t wd) {k : Nat} (h3 : k < 3) : nV W LW wd gd t k 0 ≤ 361439 := (nV_le H h3 (Nat.zero_le _)).elim id fun q => absurd rfl q.1
theorem lsN_le (W : Nat → Int32) (LW : Option (List Ln)) (wd gd : Int32) (t k : Nat) : ∀ n, lsN W LW wd gd t k n ≤ 1000000
  | 0 => Nat.le_refl _
  | n + 1 => Nat.le_trans (Nat.min_le_left _ _) (lsN_le W LW wd gd t k n)
theorem m_least (H : LHs K W LW c t wd) (C : Mdl s 66 M) (h : LHm W wd gd M) {k : Nat} (h3 : k < 3) : QX I3 (mX12_leastBy 66 (Int32.ofNat t) (Int32.ofNat k)) s M (Int32.ofNat (lsN W LW wd gd t k (K.1 0))) := by
  have hb : K.1 0 ≤ 16 := H.2.2.1 0 (by decide)
  have key : QX I3 (loopM (mX12_leastBy_L7 66 (Int32.ofNat t) (Int32.ofNat k)) (Int32.ofNat (lsN W LW wd gd t k 0), Int32.ofNat 0)) s M (Int32.ofNat (lsN W LW wd gd t k (K.1 0))) := by
    refine QX.loop (K.1 0) (fun j => (Int32.ofNat (lsN W LW wd gd t k j), Int32.ofNat j)) (fun j hj s' M' C' k' i' => ?_) (fun s' M' C' k' i' => ?_) C
    · have h' := h.keep k' i'
      have hp : mX12_parts 66 s' = some (.inl (Int32.ofNat (K.1 0)), s') := by
        rw [← H.2.2.2.2.2.2, ← h'.1]
        exact parts_run C'
      show QX I3 (mX12_leastBy_L7 66 (Int32.ofNat t) (Int32.ofNat k) (Int32.ofNat (lsN W LW wd gd t k j), Int32.ofNat j)) s' M' _
      unfold mX12_leastBy_L7
      refine QX.get hp ?_
      rw [if_neg (nle hj (by omega))]
      refine QX.bnd (m_ans H C' h' h3 (o := j + 1) (by omega)) fun s1 M1 C1 _ _ => ?_
      have hl := lsN_le W LW wd gd t k j
      have hv : nV W LW wd gd t k (j + 1) ≤ 1000000 := (nV_le (gd := gd) H h3 (o := j + 1) (by omega)).elim (fun q => by omega) fun q => by omega
      rw [mret_mbnd, imin_of (by omega) (by omega), ofN_succ]
      exact QX.ret C1
    · have h' := h.keep k' i'
      have hp : mX12_parts 66 s' = some (.inl (Int32.ofNat (K.1 0)), s') := by
        rw [← H.2.2.2.2.2.2, ← h'.1]
        exact parts_run C'
      show QX I3 (mX12_leastBy_L7 66 (Int32.ofNat t) (Int32.ofNat k) (_, Int32.ofNat (K.1 0))) s' M' _
      unfold mX12_leastBy_L7
      refine QX.get hp ?_
      rw [if_pos (Int32.le_refl _)]
      exact QX.ret C'
  unfold mX12_leastBy
  exact QX.o11 C (QX.bnd key fun s1 M1 C1 _ _ => QX.ret C1)
theorem sN_le (H : LHs K W LW c t wd) {k : Nat} (set : Nat) : ∀ i, k + i ≤ 3 → sN W LW wd gd t (K.1 0) k set i ≤ 1000000 * i
  | 0, _ => Nat.zero_le _
  | i + 1, h => by
    have ih := sN_le H (k := k) set i (by omega)
    have h1 := lsN_le W LW wd gd t (k + i) (K.1 0)
    have h2 := nV0_le (gd := gd) H (k := k + i) (by omega)
    have e : sN W LW wd gd t (K.1 0) k set (i + 1) = sN W LW wd gd t (K.1 0) k set i + (if set.testBit i = true then lsN W LW wd gd t (k + i) (K.1 0) else nV W LW wd gd t (k + i) 0) := rfl
    rw [e]
    split <;> omega
theorem m_sum (H : LHs K W LW c t wd) (C : Mdl s 66 M) (h : LHm W wd gd M) {k : Nat} (h3 : k ≤ 3) {j : Nat} (hj : j < 8) {b : Int32} : QX I3 (loopM (mX12_swapsFrom_L24 66 (Int32.ofNat t) (Int32.ofNat k) (b, Int32.ofNat j)) (0, Int32.ofNat k)) s M (Int32.ofNat (sN W LW wd gd t (K.1 0) k j (3 - k))) := by
  have key : QX I3 (loopM (mX12_swapsFrom_L24 66 (Int32.ofNat t) (Int32.ofNat k) (b, Int32.ofNat j)) (Int32.ofNat (sN W LW wd gd t (K.1 0) k j 0), Int32.ofNat (k + 0))) s M (Int32.ofNat (sN W LW wd gd t (K.1 0) k j (3 - k))) := by
    refine QX.loop (3 - k) (fun i => (Int32.ofNat (sN W LW wd gd t (K.1 0) k j i), Int32.ofNat (k + i))) (fun i hi s' M' C' k' i' => ?_) (fun s' M' C' k' i' => ?_) C
    · have h' := h.keep k' i'
      have n3 : ¬ (3 : Int32) ≤ Int32.ofNat (k + i) := nle (n := 3) (by omega) (by decide)
      have es : Int32.ofNat (k + i) - Int32.ofNat k = Int32.ofNat i := by
        rw [ofN_sub (by omega), show k + i - k = i by omega]
      show QX I3 (mX12_swapsFrom_L24 66 (Int32.ofNat t) (Int32.ofNat k) (b, Int32.ofNat j) (Int32.ofNat (sN W LW wd gd t (K.1 0) k j i), Int32.ofNat (k + i))) s' M' (.inl (Int32.ofNat (sN W LW wd gd t (K.1 0) k j i + (if j.testBit i = true then lsN W LW wd gd t (k + i) (K.1 0) else nV W LW wd gd t (k + i) 0)), Int32.ofNat (k + i + 1)))
      unfold mX12_swapsFrom_L24
      rw [if_neg n3, ← ofN_add (sN W LW wd gd t (K.1 0) k j i), ← ofN_succ (k + i)]
      refine QX.get (has_app _ _ s') ?_
      show QX I3 (mbnd (if (if (Int32.ofNat j >>> ((Int32.ofNat (k + i) - Int32.ofNat k) &&& (31 : Int32))) &&& 1 = 1 then (1 : Int32) else 0) = 0 then _ else _) _) s' M' _
      rw [es]
      by_cases hb : j.testBit i = true
      · have hbt : (Int32.ofNat j >>> (Int32.ofNat i &&& (31 : Int32))) &&& 1 = 1 := by
          rw [has_bt _ (by omega), bt_small j hj i (by omega)]
          exact hb
        rw [if_pos hbt, if_neg one_ne0, if_pos hb]
        refine QX.bnd (QX.bnd (m_least H C' h' (k := k + i) (by omega)) fun s1 M1 C1 _ _ => QX.ret C1) fun s1 M1 C1 _ _ => ?_
        rw [mret_mbnd]
        exact QX.ret C1
      · have hbt : ¬ (Int32.ofNat j >>> (Int32.ofNat i &&& (31 : Int32))) &&& 1 = 1 := by
          rw [has_bt _ (by omega), bt_small j hj i (by omega)]
          exact hb
        rw [if_neg hbt, if_pos rfl, if_neg hb]
        refine QX.bnd (QX.bnd (show QX I3 (mX12_answersBy 66 (Int32.ofNat t) (Int32.ofNat (k + i)) (-1)) s' M' _ from m_ans H C' h' (k := k + i) (by omega) (o := 0) (Nat.zero_le _)) fun s1 M1 C1 _ _ => QX.ret C1) fun s1 M1 C1 _ _ => ?_
        rw [mret_mbnd]
        exact QX.ret C1
    · show QX I3 (mX12_swapsFrom_L24 66 (Int32.ofNat t) (Int32.ofNat k) (b, Int32.ofNat j) (_, Int32.ofNat (k + (3 - k)))) s' M' _
      unfold mX12_swapsFrom_L24
      rw [show k + (3 - k) = 3 by omega, if_pos (show (3 : Int32) ≤ Int32.ofNat 3 by decide)]
      exact QX.ret C'
  exact key
theorem bN_le (W : Nat → Int32) (LW : Option (List Ln)) (wd gd : Int32) (t np k : Nat) (left : Int) : ∀ n, bN W LW wd gd t np k left n ≤ 1000000
  | 0 => Nat.le_refl _
  | n + 1 => by
    have ih := bN_le W LW wd gd t np k left n
    show (if _ then _ else _) ≤ _
    split
    · exact Nat.le_trans (Nat.min_le_left _ _) ih
    · exact ih
theorem pow_app : ∀ k, k ≤ 3 → (1 : Int32) <<< (((3 : Int32) - Int32.ofNat k) &&& (31 : Int32)) = Int32.ofNat (2 ^ (3 - k)) := by decide +kernel
theorem m_swaps (H : LHs K W LW c t wd) (C : Mdl s 66 M) (h : LHm W wd gd M) {k : Nat} (h3 : k ≤ 3) {left : Int32} : QX I3 (mX12_swapsFrom 66 (Int32.ofNat t) (Int32.ofNat k) left) s M (Int32.ofNat (bN W LW wd gd t (K.1 0) k left.toInt (2 ^ (3 - k)))) := by
  have hpow : 2 ^ (3 - k) ≤ 8 := by
    have : k = 0 ∨ k = 1 ∨ k = 2 ∨ k = 3 := by omega
    rcases this with rfl | rfl | rfl | rfl <;> decide
  have key : QX I3 (loopM (mX12_swapsFrom_L8 66 (Int32.ofNat t) (Int32.ofNat k) left) (Int32.ofNat (bN W LW wd gd t (K.1 0) k left.toInt 0), Int32.ofNat 0)) s M (Int32.ofNat (bN W LW wd gd t (K.1 0) k left.toInt (2 ^ (3 - k)))) := by
    refine QX.loop (2 ^ (3 - k)) (fun j => (Int32.ofNat (bN W LW wd gd t (K.1 0) k left.toInt j), Int32.ofNat j)) (fun j hj s' M' C' k' i' => ?_) (fun s' M' C' k' i' => ?_) C
    · have h' := h.keep k' i'
      show QX I3 (mX12_swapsFrom_L8 66 (Int32.ofNat t) (Int32.ofNat k) left (Int32.ofNat (bN W LW wd gd t (K.1 0) k left.toInt j), Int32.ofNat j)) s' M' (.inl (Int32.ofNat (if (sN W LW wd gd t (K.1 0) k j (3 - k) : Int) ≤ left.toInt then min (bN W LW wd gd t (K.1 0) k left.toInt j) (bc j) else bN W LW wd gd t (K.1 0) k left.toInt j), Int32.ofNat (j + 1)))
      unfold mX12_swapsFrom_L8
      rw [pow_app k h3, if_neg (nle hj (by omega)), ← ofN_succ]
      refine QX.bnd (m_sum H C' h' h3 (j := j) (by omega)) fun s1 M1 C1 _ _ => ?_
      have hs := sN_le H (gd := gd) (k := k) j (3 - k) (by omega)
      have hs2 : sN W LW wd gd t (K.1 0) k j (3 - k) ≤ 3000000 := by
        have : 1000000 * (3 - k) ≤ 3000000 := by omega
        omega
      have hlt : (left < Int32.ofNat (sN W LW wd gd t (K.1 0) k j (3 - k))) ↔ ¬ (sN W LW wd gd t (K.1 0) k j (3 - k) : Int) ≤ left.toInt := by
        rw [i32_lt, ofN_toInt (by omega)]
        omega
      have hbb := bN_le W LW wd gd t (K.1 0) k left.toInt j
      have hbc := bc_le j
      by_cases q : (sN W LW wd gd t (K.1 0) k j (3 - k) : Int) ≤ left.toInt
      · rw [if_pos q, if_neg (fun z => hlt.mp z q)]
        refine QX.bnd (x := Int32.ofNat (min (bN W LW wd gd t (K.1 0) k left.toInt j) (bc j))) (QX.get (bc_app j (by omega) s1) ?_) fun s2 M2 C2 _ _ => QX.ret C2
        rw [mret_mbnd, imin_of (by omega) (by omega)]
        exact QX.ret C1
      · rw [if_neg q, if_pos (hlt.mpr q)]
        exact QX.get (x := Int32.ofNat (bN W LW wd gd t (K.1 0) k left.toInt j)) rfl (QX.ret C1)
    · show QX I3 (mX12_swapsFrom_L8 66 (Int32.ofNat t) (Int32.ofNat k) left (_, Int32.ofNat (2 ^ (3 - k)))) s' M' _
      unfold mX12_swapsFrom_L8
      rw [pow_app k h3, if_pos (Int32.le_refl _)]
      exact QX.ret C'
  unfold mX12_swapsFrom
  exact QX.o11 C (QX.bnd key fun s1 M1 C1 _ _ => QX.ret C1)
/-- the fewest swaps, as the reference counts them: 1000000 where there is no way -/
def wFew (K : CK) (W : Nat → Int32) (LW : Option (List Ln)) (wd gd : Int32) (t : Nat) : Nat := bN W LW wd gd t (K.1 0) 0 (W 7).toInt 8
theorem m_fewest (H : LHs K W LW c t wd) (C : Mdl s 66 M) (h : LHm W wd gd M) : QX I3 (mX12_fewest 66 (Int32.ofNat t)) s M (Int32.ofNat (wFew K W LW wd gd t)) := by
  unfold mX12_fewest wFew
  refine QX.o11 C (QX.get (MD.refs C).2.1 (QX.get (show ldI 0 67 7 s = some (.inl (W 7), s) by rw [← h.1]; exact wrd_ok (i := 7) C (by decide)) ?_))
  exact QX.bnd (show QX I3 (mX12_swapsFrom 66 (Int32.ofNat t) 0 (W 7)) s M _ from m_swaps H C h (k := 0) (by decide)) fun s1 M1 C1 _ _ => QX.ret C1
end LF
