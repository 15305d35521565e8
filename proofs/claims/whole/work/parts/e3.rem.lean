/-! THE REFERENCE REMEMBERS: a row of acts more -/
theorem mrow_mrow (R : Nat → Nat → Int32) (q : Nat) (f g : Nat → Int32) : mrow (mrow R q f) q g = mrow R q g := by
  funext k
  unfold mrow
  split <;> rfl
theorem mrow_at (R : Nat → Nat → Int32) (q : Nat) (g : Nat → Int32) : mrow R q g q = g := if_pos rfl
theorem mrow_ne (R : Nat → Nat → Int32) {q k : Nat} (g : Nat → Int32) (h : k ≠ q) : mrow R q g k = R k := if_neg h
theorem mrow_self (R : Nat → Nat → Int32) (q : Nat) : mrow R q (R q) = R := by
  funext k
  unfold mrow
  split
  · next h => rw [h]
  · rfl
theorem mput_eq {M : MK} {q i : Nat} {v : Int32} {R : Nat → Nat → Int32} {f g : Nat → Int32} (e : M.2 = mrow R q f) (h : upd f i v = g) : mput M q i v = (M.1, mrow R q g) := by
  unfold mput
  rw [e, mrow_at, mrow_mrow, h]
section RM
variable {s : aS} {M : MK}
theorem row_ld (C : Mdl s 66 M) {q i : Nat} (h1 : 1 ≤ q) (h2 : q ≤ 12) (ht : mT q = 0) (hi : i < mS q) (hb : mS q < 2 ^ 31) : ldI 0 (66 + q) (Int32.ofNat i) s = some (.inl (M.2 q i), s) := by
  have h := C.2 q h1 h2
  rw [ht] at h
  have := ldI_ok (i := Int32.ofNat i) h (ofN_nn (by omega)) (by rw [ofN_cl (by omega)]; exact hi)
  rwa [ofN_cl (by omega)] at this
def shA (V : Nat → Int32) (k : Nat) : Nat → Int32 := fun i => if i < k then V (i + 1071) else V i
theorem shA_step (V : Nat → Int32) (k : Nat) : upd (shA V k) k (shA V k (k + 1071)) = shA V (k + 1) := by
  funext i
  unfold upd shA
  by_cases h : i = k
  · rw [if_pos h, if_neg (by omega), if_pos (by omega), h]
  · rw [if_neg h]
    by_cases q : i < k
    · rw [if_pos q, if_pos (by omega)]
    · rw [if_neg q, if_neg (by omega)]
theorem rem_shift (C : Mdl s 66 M) : MRun (loopM (mX12_remembers_L11 66) 0) s 66 () (M.1, mrow M.2 5 (shA (M.2 5) 9639)) := by
  have h0 : (M.1, mrow M.2 5 (shA (M.2 5) 0)) = M := by
    have : shA (M.2 5) 0 = M.2 5 := funext fun i => if_neg (Nat.not_lt_zero i)
    rw [this, mrow_self]
  refine MRun.loop (f := mX12_remembers_L11 66) (e := ()) (M' := (M.1, mrow M.2 5 (shA (M.2 5) 9639))) 9639 (fun n => Int32.ofNat n) (fun n => (M.1, mrow M.2 5 (shA (M.2 5) n))) (fun n s' hn C' => ?_) (fun s' C' => ?_) (by rw [h0]; exact C)
  · show MRun (mX12_remembers_L11 66 (Int32.ofNat n)) s' 66 (.inl (Int32.ofNat (n + 1))) _
    unfold mX12_remembers_L11
    rw [if_neg (show ¬ (9639 : Int32) ≤ Int32.ofNat n from nle (n := 9639) hn (by decide)), show Int32.ofNat n + 1071 = Int32.ofNat (n + 1071) from ofN_add n 1071, ofN_succ]
    have ld := row_ld C' (q := 5) (i := n + 1071) (by decide) (by decide) rfl (show n + 1071 < 10710 by omega) (by decide)
    refine MRun.get (gR_ok C'.1 rfl) (MRun.get (gR_ok C'.1 rfl) (MRun.get ld (MRun.bnd (x := ()) (M := (M.1, mrow M.2 5 (shA (M.2 5) (n + 1)))) ?_ fun s2 C2 => MRun.ret C2)))
    have st := mput_run (q := 5) (i := n) (v := mrow M.2 5 (shA (M.2 5) n) 5 (n + 1071)) C' (by decide) (by decide) (show n < 10710 by omega) (by decide)
    rw [mput_eq (R := M.2) (f := shA (M.2 5) n) (g := shA (M.2 5) (n + 1)) rfl (by rw [mrow_at]; exact shA_step _ _)] at st
    exact st
  · show MRun (mX12_remembers_L11 66 (Int32.ofNat 9639)) s' 66 (.inr ()) _
    unfold mX12_remembers_L11
    rw [if_pos (show (9639 : Int32) ≤ Int32.ofNat 9639 from Int32.le_refl _)]
    exact MRun.ret C'
def cpA (V W : Nat → Int32) (a k : Nat) : Nat → Int32 := fun i => if a ≤ i ∧ i < a + k then W (i - a) else V i
theorem cpA_step (V W : Nat → Int32) (a k : Nat) : upd (cpA V W a k) (a + k) (W k) = cpA V W a (k + 1) := by
  funext i
  unfold upd cpA
  by_cases h : i = a + k
  · rw [if_pos h, if_pos (by omega), h, Nat.add_sub_cancel_left]
  · rw [if_neg h]
    by_cases q : a ≤ i ∧ i < a + k
    · rw [if_pos q, if_pos (by omega)]
    · rw [if_neg q, if_neg (by omega)]
theorem rem_put (C : Mdl s 66 M) {n : Nat} (hn : n < 10) (h7 : M.1 7 = Int32.ofNat (n + 1)) : MRun (loopM (mX12_remembers_L55 66) 0) s 66 () (M.1, mrow M.2 5 (cpA (M.2 5) (M.2 1) (1071 * n) 1071)) := by
  have h0 : (M.1, mrow M.2 5 (cpA (M.2 5) (M.2 1) (1071 * n) 0)) = M := by
    have : cpA (M.2 5) (M.2 1) (1071 * n) 0 = M.2 5 := funext fun i => if_neg (by omega)
    rw [this, mrow_self]
  refine MRun.loop (f := mX12_remembers_L55 66) (e := ()) (M' := (M.1, mrow M.2 5 (cpA (M.2 5) (M.2 1) (1071 * n) 1071))) 1071 (fun k => Int32.ofNat k) (fun k => (M.1, mrow M.2 5 (cpA (M.2 5) (M.2 1) (1071 * n) k))) (fun k s' hk C' => ?_) (fun s' C' => ?_) (by rw [h0]; exact C)
  · show MRun (mX12_remembers_L55 66 (Int32.ofNat k)) s' 66 (.inl (Int32.ofNat (k + 1))) _
    unfold mX12_remembers_L55
    rw [if_neg (show ¬ (1071 : Int32) ≤ Int32.ofNat k from nle (n := 1071) hk (by decide)), ofN_succ]
    have ld := row_ld C' (q := 1) (i := k) (by decide) (by decide) rfl (show k < 2769 by omega) (by decide)
    have i7 : gI 11 7 66 s' = some (.inl (Int32.ofNat (n + 1)), s') := by
      rw [← h7]
      exact gI_ok C'.1 rfl
    have ei : (1071 : Int32) * (Int32.ofNat (n + 1) - 1) + Int32.ofNat k = Int32.ofNat (1071 * n + k) := by
      rw [ofN_pred, show (1071 : Int32) = Int32.ofNat 1071 from rfl, ofN_mul, ofN_add]
    refine MRun.get (gR_ok C'.1 rfl) (MRun.get i7 (MRun.get (gR_ok C'.1 rfl) (MRun.get ld ?_)))
    rw [ei]
    refine MRun.bnd (x := ()) (M := (M.1, mrow M.2 5 (cpA (M.2 5) (M.2 1) (1071 * n) (k + 1)))) ?_ fun s2 C2 => MRun.ret C2
    have st := mput_run (q := 5) (i := 1071 * n + k) (v := mrow M.2 5 (cpA (M.2 5) (M.2 1) (1071 * n) k) 1 k) C' (by decide) (by decide) (show 1071 * n + k < 10710 by omega) (by decide)
    rw [mput_eq (R := M.2) (f := cpA (M.2 5) (M.2 1) (1071 * n) k) (g := cpA (M.2 5) (M.2 1) (1071 * n) (k + 1)) rfl (by rw [mrow_ne _ _ (by decide)]; exact cpA_step _ _ _ _)] at st
    exact st
  · show MRun (mX12_remembers_L55 66 (Int32.ofNat 1071)) s' 66 (.inr ()) _
    unfold mX12_remembers_L55
    rw [if_pos (show (1071 : Int32) ≤ Int32.ofNat 1071 from Int32.le_refl _)]
    exact MRun.ret C'
/-- what the acts are then -/
def remV (M : MK) (h : Nat) : Nat → Int32 := if h = 10 then cpA (shA (M.2 5) 9639) (M.2 1) 9639 1071 else cpA (M.2 5) (M.2 1) (1071 * h) 1071
theorem remembers_run (C : Mdl s 66 M) {h : Nat} (hh : h ≤ 10) (h7 : M.1 7 = Int32.ofNat h) : MRun (mX12_remembers 66) s 66 () ((mint M 7 (Int32.ofNat (nextH h))).1, mrow M.2 5 (remV M h)) := by
  unfold mX12_remembers
  refine MRun.onC C (MRun.get (x := Int32.ofNat h) (by rw [← h7]; exact gI_ok C.1 rfl) ?_)
  by_cases q : h = 10
  · have e7 : mint M 7 (Int32.ofNat (nextH h)) = M := by
      unfold mint nextH
      rw [if_pos q]
      refine Prod.ext (funext fun j => ?_) rfl
      show (if j = 7 then _ else M.1 j) = M.1 j
      split
      · next e => rw [e, h7, q]
      · rfl
    rw [e7]
    unfold remV
    rw [if_pos q, if_pos (show Int32.ofNat h = 10 by rw [q]; rfl)]
    refine MRun.bnd (MRun.bnd (rem_shift C) fun s1 C1 => MRun.ret C1) fun s1 C1 => ?_
    have := rem_put (n := 9) C1 (by decide) (by show M.1 7 = _; rw [h7, q])
    rw [mrow_mrow] at this
    exact MRun.bnd this fun s2 C2 => MRun.ret C2
  · unfold remV
    rw [if_neg q, if_neg (show ¬ Int32.ofNat h = 10 from fun z => q ((ofN_inj (m := 10) (by omega) (by decide)).mp z))]
    have eh : nextH h = h + 1 := if_neg q
    rw [eh]
    refine MRun.bnd (M := mint M 7 (Int32.ofNat (h + 1))) (x := ()) (MRun.get (x := Int32.ofNat h) (by rw [← h7]; exact gI_ok C.1 rfl) ?_) fun s1 C1 => ?_
    · rw [ofN_succ]
      exact MRun.bnd (mint_run C rfl) fun s2 C2 => MRun.ret C2
    · exact MRun.bnd (rem_put (n := h) C1 (by omega) rfl) fun s2 C2 => MRun.ret C2
theorem remV_old {h : Nat} (hh : h ≤ 10) {j i : Nat} (hj : j + 1 < nextH h) (hi : i < 1071) : remV M h (1071 * j + i) = M.2 5 (1071 * (if h = 10 then j + 1 else j) + i) := by
  unfold remV nextH at *
  by_cases q : h = 10
  · rw [if_pos q] at hj ⊢
    rw [if_pos q]
    unfold cpA shA
    rw [if_neg (by omega), if_pos (by omega)]
    exact congrArg (M.2 5) (by omega)
  · rw [if_neg q] at hj ⊢
    rw [if_neg q]
    unfold cpA
    rw [if_neg (by omega)]
theorem remV_new {h : Nat} (hh : h ≤ 10) {i : Nat} (hi : i < 1071) : remV M h (1071 * (nextH h - 1) + i) = M.2 1 i := by
  unfold remV nextH
  by_cases q : h = 10
  · rw [if_pos q, if_pos q]
    unfold cpA
    rw [if_pos (by omega)]
    exact congrArg (M.2 1) (by omega)
  · rw [if_neg q, if_neg q]
    unfold cpA
    rw [if_pos (by omega)]
    exact congrArg (M.2 1) (by omega)
end RM
