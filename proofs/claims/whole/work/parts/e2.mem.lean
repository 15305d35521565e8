/-! THE KEPT COURTS: the ring of acts, and the image at place 10 -/
def MemC (s : aS) (l li o h : Nat) (A : Nat → Option (Nat × CK)) : Prop :=
  (o < 10 ∧ h ≤ 10) ∧ hasO s 23 6 [.ref 24, .int (Int32.ofNat o), .int (Int32.ofNat h), va_rf ((A 10).map Prod.fst)] ∧
  (∃ g, s.1 24 = .inr (.inr (.inl (3, 10, g))) ∧ 24 < s.2.1 ∧ ∀ i, i < 10 → g i = (A i).map Prod.fst) ∧
  (∀ i a K, i < 11 → A i = some (a, K) → 80 ≤ a ∧ Crt s a K ∧ (l + 2 < a ∨ a + 12 < l) ∧ (li + 2 < a ∨ a + 12 < li)) ∧
  (∀ i j a K b K', i < 11 → j < 11 → i ≠ j → A i = some (a, K) → A j = some (b, K') → a + 12 < b ∨ b + 12 < a)
theorem ofN_mod {n k : Nat} (hn : n < 2 ^ 31) (h0 : 0 < k) (hk : k < 2 ^ 31) : Int32.ofNat n - Int32.ofNat n / Int32.ofNat k * Int32.ofNat k = Int32.ofNat (n % k) := by
  have h1 : n / k * k ≤ n := Nat.div_mul_le_self n k
  rw [ofN_div hn hk, ofN_mul, ofN_sub h1]
  congr 1
  have h2 := Nat.div_add_mod n k
  rw [Nat.mul_comm] at h2
  omega
section KQ
variable {s : aS} {a t n i : Nat} {g : Nat → Option Nat}
theorem kq_len (h : s.1 a = .inr (.inr (.inl (t, n, g)))) (ha : a < s.2.1) : lenQ t a s = some (.inl (Int32.ofNat n), s) := by
  unfold lenQ
  rw [h]
  exact if_pos ⟨rfl, ha⟩
theorem kq_ld (h : s.1 a = .inr (.inr (.inl (t, n, g)))) (ha : a < s.2.1) (hi : i < n) (hn : n < 2 ^ 31) : ldQ t a (Int32.ofNat i) s = some (.inl (g i), s) := by
  unfold ldQ
  rw [h]
  show (if t = t ∧ a < s.2.1 then (if Int32.ofNat i < 0 ∨ n ≤ (Int32.ofNat i).toNatClampNeg then none else some (Sum.inl (g (Int32.ofNat i).toNatClampNeg), s)) else none) = _
  rw [if_pos ⟨rfl, ha⟩, ofN_cl (by omega), if_neg (fun q => q.elim (ofN_nn (by omega)) (fun q => absurd hi (Nat.not_lt.mpr q)))]
theorem kq_st {r : Nat} (h : s.1 a = .inr (.inr (.inl (t, n, g)))) (ha : a < s.2.1) (hi : i < n) (hn : n < 2 ^ 31) : stQ t a (Int32.ofNat i) r s = some (.inl (), sup s a (.inr (.inr (.inl (t, n, va_up g i (some r)))))) := by
  unfold stQ
  rw [h]
  show (if t = t ∧ a < s.2.1 then (if Int32.ofNat i < 0 ∨ n ≤ (Int32.ofNat i).toNatClampNeg then none else some (Sum.inl (), (hup s.1 a (.inr (.inr (.inl (t, n, va_up g (Int32.ofNat i).toNatClampNeg (some r))))), s.2))) else none) = _
  rw [if_pos ⟨rfl, ha⟩, ofN_cl (by omega), if_neg (fun q => q.elim (ofN_nn (by omega)) (fun q => absurd hi (Nat.not_lt.mpr q)))]
  rfl
end KQ
/-- what keeping an act may change -/
def pKeep (l li k : Nat) : Prop := k = 23 ∨ k = 24 ∨ (80 ≤ k ∧ ¬ (l ≤ k ∧ k ≤ l + 2) ∧ ¬ (li ≤ k ∧ k ≤ li + 2))
def nextO (o h : Nat) : Nat := if h = 10 then (o + 1) % 10 else o
def nextH (h : Nat) : Nat := if h = 10 then 10 else h + 1
def setA (A : Nat → Option (Nat × CK)) (j a : Nat) (K : CK) : Nat → Option (Nat × CK) := fun i => if i = j then some (a, K) else A i
/-- a kept Court more in place j: what a copy makes of the heap -/
theorem MemC.copied {s s2 : aS} {l li o h j a : Nat} {A : Nat → Option (Nat × CK)} {K1 : CK} (H : MemC s l li o h A) (hl : l + 2 < s.2.1) (hli : li + 2 < s.2.1) (h80 : 80 ≤ s.2.1) (hj : j < 11) (C1 : Crt s2 a K1) (f : Fr (fun k => a ≤ k ∧ k ≤ a + 12) s s2) (ha : (A j = none ∧ a = s.2.1) ∨ ∃ K0, A j = some (a, K0)) :
    80 ≤ a ∧ (l + 2 < a ∨ a + 12 < l) ∧ (li + 2 < a ∨ a + 12 < li) ∧ (∀ i b K, i < 11 → i ≠ j → A i = some (b, K) → (a + 12 < b ∨ b + 12 < a) ∧ Crt s2 b K) := by
  obtain ⟨-, -, -, hC, hA⟩ := H
  have apt : ∀ i b K, i < 11 → i ≠ j → A i = some (b, K) → (a + 12 < b ∨ b + 12 < a) := fun i b K hi hn e => by
    rcases ha with ⟨-, e2⟩ | ⟨K0, e2⟩
    · have := (hC i b K hi e).2.1.lt
      omega
    · exact hA j i a K0 b K hj hi (Ne.symm hn) e2 e
  refine ⟨?_, ?_, ?_, fun i b K hi hn e => ⟨apt i b K hi hn e, (hC i b K hi e).2.1.fr f fun k h1 h2 (q : a ≤ k ∧ k ≤ a + 12) => ?_⟩⟩
  · rcases ha with ⟨-, e2⟩ | ⟨K0, e2⟩
    · omega
    · exact (hC j a K0 hj e2).1
  · rcases ha with ⟨-, e2⟩ | ⟨K0, e2⟩
    · omega
    · exact (hC j a K0 hj e2).2.2.1
  · rcases ha with ⟨-, e2⟩ | ⟨K0, e2⟩
    · omega
    · exact (hC j a K0 hj e2).2.2.2
  · have := apt i b K hi hn e
    omega
section KA
variable {s : aS} {l li o h : Nat} {A : Nat → Option (Nat × CK)} {K : CK}
/-- other numbers in the memory's own object -/
theorem MemC.nums (H : MemC s l li o h A) {o' h' : Nat} (ho : o' < 10) (hh : h' ≤ 10) : MemC (sup s 23 (.inl (6, [.ref 24, .int (Int32.ofNat o'), .int (Int32.ofNat h'), va_rf ((A 10).map Prod.fst)]))) l li o' h' A := by
  obtain ⟨-, h1, ⟨g, h2, h3, h4⟩, hC, hA⟩ := H
  exact ⟨⟨ho, hh⟩, hasO_put h1.2, ⟨g, (sup_at (by decide)).trans h2, h3, h4⟩, fun i a K hi e => ⟨(hC i a K hi e).1, (hC i a K hi e).2.1.frame (Or.inl (by have := (hC i a K hi e).1; omega)), (hC i a K hi e).2.2⟩, hA⟩
theorem keepAct_run (H : MemC s l li o h A) (C : Crt s 28 K) (hl : l + 2 < s.2.1) (hli : li + 2 < s.2.1) (h80 : 80 ≤ s.2.1) : ∃ s' a K1, mX6_keepAct 23 28 s = some (.inl (), s') ∧ Cpy K1 K ∧ MemC s' l li (nextO o h) (nextH h) (setA A ((o + h) % 10) a K1) ∧ Fr (pKeep l li) s s' ∧ s'.2.2.1 ≤ s.2.2.1 + 13 ∧ s'.2.2.2 ≤ s.2.2.2 + 1095 := by
  obtain ⟨⟨ho, hh⟩, h1, -, -, -⟩ := id H
  have hat : (o + h) % 10 < 10 := Nat.mod_lt _ (by decide)
  have ho' : nextO o h < 10 := by
    unfold nextO
    split
    · exact Nat.mod_lt _ (by decide)
    · exact ho
  have hh' : nextH h ≤ 10 := by
    unfold nextH
    split <;> omega
  have H1 := H.nums ho' hh'
  have O1 : hasO (sup s 23 (.inl (6, [.ref 24, .int (Int32.ofNat (nextO o h)), .int (Int32.ofNat (nextH h)), va_rf ((A 10).map Prod.fst)]))) 23 6 [.ref 24, .int (Int32.ofNat (nextO o h)), .int (Int32.ofNat (nextH h)), va_rf ((A 10).map Prod.fst)] := H1.2.1
  have C1 : Crt (sup s 23 (.inl (6, [.ref 24, .int (Int32.ofNat (nextO o h)), .int (Int32.ofNat (nextH h)), va_rf ((A 10).map Prod.fst)]))) 28 K := C.frame (by omega)
  have f1 : Fr (fun q => q = 23) s (sup s 23 (.inl (6, [.ref 24, .int (Int32.ofNat (nextO o h)), .int (Int32.ofNat (nextH h)), va_rf ((A 10).map Prod.fst)]))) := Fr.sup
  generalize hs1 : sup s 23 (.inl (6, [.ref 24, .int (Int32.ofNat (nextO o h)), .int (Int32.ofNat (nextH h)), va_rf ((A 10).map Prod.fst)])) = s1 at H1 O1 C1 f1
  have e2 : s1.2 = s.2 := by rw [← hs1]; rfl
  obtain ⟨-, -, ⟨g, g1, g2, g3⟩, hC1, -⟩ := id H1
  obtain ⟨s2, a, K1, r1, D2, cp, f2, hor, m1, m2⟩ := copied_run C1 (A ((o + h) % 10)) (fun a K0 e => ⟨by have := (hC1 _ a K0 (by omega) e).1; omega, (hC1 _ a K0 (by omega) e).2.1⟩)
  obtain ⟨a80, al, ali, aA⟩ := H1.copied (by rw [e2]; exact hl) (by rw [e2]; exact hli) (by rw [e2]; exact h80) (show (o + h) % 10 < 11 by omega) D2 f2 hor
  have g24 : s2.1 24 = .inr (.inr (.inl (3, 10, g))) := (f2.2 24 g2 (fun q : a ≤ 24 ∧ 24 ≤ a + 12 => by omega)).trans g1
  have g2' : 24 < s2.2.1 := Nat.lt_of_lt_of_le g2 f2.1
  refine ⟨sup s2 24 (.inr (.inr (.inl (3, 10, va_up g ((o + h) % 10) (some a))))), a, K1, ?_, cp, ⟨⟨ho', hh'⟩, ?_, ⟨va_up g ((o + h) % 10) (some a), show hup s2.1 24 _ 24 = _ from if_pos rfl, g2', fun i hi => ?_⟩, fun i b Kb hi e => ?_, fun i j b Kb d Kd hi hj hn eb ed => ?_⟩, ?_, ?_, ?_⟩
  · unfold mX6_keepAct
    rw [onC_ok h1, bnd_ok (gI_ok h1 rfl), bnd_ok (gI_ok h1 rfl), mret_mbnd, bnd_ok (gI_ok h1 rfl), ofN_add, show Int32.ofNat (o + h) - Int32.ofNat (o + h) / 10 * 10 = Int32.ofNat ((o + h) % 10) from ofN_mod (k := 10) (by omega) (by decide) (by decide)]
    refine (bnd_ok (v := ()) (s' := s1) ?_).trans ?_
    · by_cases q : h = 10
      · rw [if_pos (show Int32.ofNat h = 10 by rw [q]; rfl), bnd_ok (gI_ok h1 rfl)]
        rw [show (Int32.ofNat o + 1) - (Int32.ofNat o + 1) / 10 * 10 = Int32.ofNat ((o + 1) % 10) from by rw [ofN_succ]; exact ofN_mod (k := 10) (by omega) (by decide) (by decide)]
        refine (bnd_ok (show pI 6 1 23 _ s = some (.inl (), _) from pF_ok h1 (Nat.le_of_ble_eq_true rfl))).trans ?_
        rw [← hs1]
        unfold nextO nextH
        rw [if_pos q, if_pos q, q]
        rfl
      · rw [if_neg (show ¬ Int32.ofNat h = 10 from fun z => q ((ofN_inj (m := 10) (by omega) (by decide)).mp z)), bnd_ok (gI_ok h1 rfl), ofN_succ]
        refine (bnd_ok (show pI 6 2 23 _ s = some (.inl (), _) from pF_ok h1 (Nat.le_of_ble_eq_true rfl))).trans ?_
        rw [← hs1]
        unfold nextO nextH
        rw [if_neg q, if_neg q]
        rfl
    · rw [if_neg (ofN_nn (by omega)), bnd_ok (gR_ok O1 rfl), bnd_ok (kq_len g1 g2), if_neg (show ¬ Int32.ofNat 10 ≤ Int32.ofNat ((o + h) % 10) from nle hat (by decide)), bnd_ok (gR_ok O1 rfl), bnd_ok (gR_ok O1 rfl), bnd_ok (kq_ld g1 g2 hat (by decide)), g3 _ hat, bnd_ok r1]
      refine (bnd_ok (v := ()) (s' := _) ((onC_ok D2.1).trans (kq_st g24 g2' hat (by decide)))).trans rfl
  · have e10 : setA A ((o + h) % 10) a K1 10 = A 10 := if_neg (by omega)
    rw [e10]
    exact hasO_sup (hasO_fr O1 f2 (fun q : a ≤ 23 ∧ 23 ≤ a + 12 => by omega)) (by decide)
  · show (if i = (o + h) % 10 then some a else g i) = Option.map Prod.fst (if i = (o + h) % 10 then some (a, K1) else A i)
    split
    · rfl
    · exact g3 i hi
  · have e' : (if i = (o + h) % 10 then some (a, K1) else A i) = some (b, Kb) := e
    by_cases q : i = (o + h) % 10
    · rw [if_pos q] at e'
      cases e'
      exact ⟨a80, D2.frame (Or.inl (by omega)), al, ali⟩
    · rw [if_neg q] at e'
      have z := hC1 i b Kb hi e'
      exact ⟨z.1, (aA i b Kb hi q e').2.frame (Or.inl (by have := z.1; omega)), z.2.2⟩
  · have eb' : (if i = (o + h) % 10 then some (a, K1) else A i) = some (b, Kb) := eb
    have ed' : (if j = (o + h) % 10 then some (a, K1) else A j) = some (d, Kd) := ed
    by_cases q : i = (o + h) % 10
    · rw [if_pos q] at eb'
      cases eb'
      rw [if_neg (fun z => hn (q.trans z.symm))] at ed'
      exact (aA j d Kd hj (fun z => hn (q.trans z.symm)) ed').1
    · rw [if_neg q] at eb'
      by_cases q2 : j = (o + h) % 10
      · rw [if_pos q2] at ed'
        cases ed'
        exact (aA i b Kb hi q eb').1.symm
      · rw [if_neg q2] at ed'
        exact H.2.2.2.2 i j b Kb d Kd hi hj hn eb' ed'
  · refine Fr.tr (f1.mono fun k (e : k = 23) => Or.inl e) (Fr.tr (f2.mono fun k (e : a ≤ k ∧ k ≤ a + 12) => Or.inr (Or.inr ⟨by omega, by omega, by omega⟩)) (Fr.sup.mono fun k (e : k = 24) => Or.inr (Or.inl e)))
  · show s2.2.2.1 ≤ _
    rw [e2] at m1
    exact m1
  · show s2.2.2.2 ≤ _
    rw [e2] at m2
    exact m2
end KA
