/-! THE REFERENCE'S LOG: a row ahead of the others -/
/-- rows from 5 on hold what stood five ahead, for places above n -/
def wshift (W : Nat → Int32) (n : Nat) : Nat → Int32 := fun k => if 771 + n < k ∧ k < 1071 then W (k - 5) else W k
def mtells (M : MK) (p g d f : Int32) : MK := if g = 0 then M else
  mput (mput (mput (mput (mput (mput (M.1, mrow M.2 1 (wshift (M.2 1) 4)) 1 771 (M.2 1 5)) 1 772 p) 1 773 g) 1 774 d) 1 775 f) 1 10 (imin 60 (M.2 1 10 + 1))
section TL
variable {s : aS} {b : Nat} {M : MK} {p g d f : Int32}
theorem wshift_step (W : Nat → Int32) {n : Nat} (h1 : 5 ≤ n) (h2 : n < 300) : upd (wshift W n) (771 + n) (wshift W n (771 + n - 5)) = wshift W (n - 1) := by
  funext k
  unfold upd wshift
  by_cases h : k = 771 + n
  · subst h
    rw [if_pos rfl, if_neg (by omega), if_pos (by omega)]
  · rw [if_neg h]
    by_cases h3 : 771 + n < k ∧ k < 1071
    · rw [if_pos h3, if_pos (by omega)]
    · rw [if_neg h3, if_neg (by omega)]
theorem wshift_top (W : Nat → Int32) : wshift W 299 = W := funext fun k => if_neg (by omega)
theorem tells_loop (C : Mdl s b M) : MRun (loopM (mX12_tells_L10 b) 299) s b () (M.1, mrow M.2 1 (wshift (M.2 1) 4)) := by
  have hm : ∀ n, mrow (mrow M.2 1 (wshift (M.2 1) n)) 1 (wshift (M.2 1) (n - 1)) = mrow M.2 1 (wshift (M.2 1) (n - 1)) := fun n => by
    funext k
    unfold mrow
    split <;> rfl
  have h0 : (M.1, mrow M.2 1 (wshift (M.2 1) (299 - 0))) = M := by
    rw [Nat.sub_zero, wshift_top]
    have : mrow M.2 1 (M.2 1) = M.2 := funext fun k => by
      unfold mrow
      split
      · next h => rw [h]
      · rfl
    rw [this]
  have key := MRun.loop (f := mX12_tells_L10 b) (s := s) (b := b) (e := ()) (M' := (M.1, mrow M.2 1 (wshift (M.2 1) 4))) 295 (fun n => Int32.ofNat (299 - n)) (fun n => (M.1, mrow M.2 1 (wshift (M.2 1) (299 - n)))) (fun n s' hn C' => ?_) (fun s' C' => ?_) (by rw [h0]; exact C)
  · exact key
  · show MRun (mX12_tells_L10 b (Int32.ofNat (299 - n))) s' b (.inl (Int32.ofNat (299 - (n + 1)))) _
    unfold mX12_tells_L10
    have h5 : ¬ Int32.ofNat (299 - n) < 5 := fun q => absurd ((ofN_lt (n := 299 - n) (m := 5) (by omega) (by omega)).mp q) (by omega)
    rw [if_neg h5]
    have e1 : Int32.ofNat (299 - n) + (-1) = Int32.ofNat (299 - (n + 1)) := by
      have h := ofN_pred (299 - (n + 1))
      rw [show 299 - (n + 1) + 1 = 299 - n by omega, Int32.sub_eq_add_neg] at h
      exact h
    have e2 : (771 : Int32) + Int32.ofNat (299 - n) = Int32.ofNat (771 + (299 - n)) := ofN_add 771 (299 - n)
    have e3 : Int32.ofNat (771 + (299 - n)) - 5 = Int32.ofNat (771 + (299 - n) - 5) := by
      have h : Int32.ofNat (771 + (299 - n) - 5) + Int32.ofNat 5 = Int32.ofNat (771 + (299 - n)) := by
        rw [ofN_add]
        congr 1
        omega
      rw [← h]
      exact Int32.add_sub_cancel _ _
    rw [e2, e3, e1]
    refine MRun.get (gR_ok C'.1 rfl) (MRun.get (gR_ok C'.1 rfl) (MRun.get (wrd_ok C' (by omega)) (MRun.bnd (wput C' (by omega)) fun s2 C2 => ?_)))
    have e4 : mput (M.1, mrow M.2 1 (wshift (M.2 1) (299 - n))) 1 (771 + (299 - n)) (mrow M.2 1 (wshift (M.2 1) (299 - n)) 1 (771 + (299 - n) - 5)) = (M.1, mrow M.2 1 (wshift (M.2 1) (299 - (n + 1)))) := by
      show (M.1, mrow (mrow M.2 1 (wshift (M.2 1) (299 - n))) 1 (upd (wshift (M.2 1) (299 - n)) (771 + (299 - n)) (wshift (M.2 1) (299 - n) (771 + (299 - n) - 5)))) = _
      rw [wshift_step _ (by omega) (by omega), hm]
      rfl
    rw [← e4]
    exact MRun.ret C2
  · show MRun (mX12_tells_L10 b (Int32.ofNat 4)) s' b (.inr ()) (M.1, mrow M.2 1 (wshift (M.2 1) 4))
    unfold mX12_tells_L10
    rw [if_pos (by decide)]
    exact MRun.ret C'
theorem tells_run (C : Mdl s b M) : MRun (mX12_tells b p g d f) s b () (mtells M p g d f) := by
  unfold mX12_tells mtells
  refine MRun.onC C ?_
  by_cases h : g = 0
  · rw [if_pos h, if_pos h]
    exact MRun.ret C
  · rw [if_neg h, if_neg h]
    exact MRun.bnd (tells_loop C) fun s1 C1 => MRun.get (gR_ok C1.1 rfl) (MRun.get (today_run C1) (MRun.bnd (wput (i := 771) C1 (by decide)) fun s2 C2 => MRun.get (gR_ok C2.1 rfl) (MRun.bnd (wput (i := 772) C2 (by decide)) fun s3 C3 => MRun.get (gR_ok C3.1 rfl) (MRun.bnd (wput (i := 773) C3 (by decide)) fun s4 C4 => MRun.get (gR_ok C4.1 rfl) (MRun.bnd (wput (i := 774) C4 (by decide)) fun s5 C5 => MRun.get (gR_ok C5.1 rfl) (MRun.bnd (wput (i := 775) C5 (by decide)) fun s6 C6 => MRun.get (gR_ok C6.1 rfl) (MRun.get (gR_ok C6.1 rfl) (MRun.get (wrd_ok (i := 10) C6 (by decide)) (MRun.bnd (wput (i := 10) C6 (by decide)) fun s7 C7 => MRun.ret C7)))))))))
end TL
