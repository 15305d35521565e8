/-! ACTS: one DAY keeps both sides alike -/
theorem upd_comm (W : Nat → Int32) {i j : Nat} (h : i ≠ j) (x y : Int32) : upd (upd W i x) j y = upd (upd W j y) i x := by
  funext k
  unfold upd
  by_cases h1 : k = j
  · rw [if_pos h1, if_neg (fun e => h (e.symm.trans h1)), if_pos h1]
  · rw [if_neg h1, if_neg h1]
theorem wrN_upd (W : Nat → Int32) {j : Nat} (v : Int32) (hj : ∀ p, p < 16 → j ≠ 13 + 8 * p ∧ j ≠ 13 + 8 * p + 2) : ∀ k, k ≤ 16 → wrN (upd W j v) k = upd (wrN W k) j v
  | 0, _ => rfl
  | k + 1, h => by
    have ih := wrN_upd W v hj k (by omega)
    have n0 := (hj k (by omega)).1
    have n2 := (hj k (by omega)).2
    show (if wrN (upd W j v) k (13 + 8 * k) = 1 then upd (wrN (upd W j v) k) (13 + 8 * k + 2) (imin 99 (wrN (upd W j v) k (13 + 8 * k + 2) + 1)) else wrN (upd W j v) k) = upd (if wrN W k (13 + 8 * k) = 1 then upd (wrN W k) (13 + 8 * k + 2) (imin 99 (wrN W k (13 + 8 * k + 2) + 1)) else wrN W k) j v
    rw [ih, show upd (wrN W k) j v (13 + 8 * k) = wrN W k (13 + 8 * k) from if_neg (Ne.symm n0), show upd (wrN W k) j v (13 + 8 * k + 2) = wrN W k (13 + 8 * k + 2) from if_neg (Ne.symm n2)]
    split
    · exact upd_comm _ n2 _ _
    · rfl
theorem ndN_wrN (X : Nat → Int32) {n0 : Nat} (hn : n0 ≤ 16) : ∀ k, k ≤ 6 → ndN (wrN X n0) k = wrN (ndN X k) n0
  | 0, _ => rfl
  | k + 1, h => by
    have ih := ndN_wrN X hn k (by omega)
    show upd (ndN (wrN X n0) k) (141 + 4 * k + 3) (iushr (ndN (wrN X n0) k (141 + 4 * k + 3)) 1) = wrN (upd (ndN X k) (141 + 4 * k + 3) (iushr (ndN X k (141 + 4 * k + 3)) 1)) n0
    rw [ih, wrN_off (ndN X k) (i := 141 + 4 * k + 3) (fun p _ => by omega) n0 hn, wrN_upd _ _ (fun p _ => by omega) n0 hn]
def dyF (W : Nat → Int32) (n1 : Nat) : Nat → Int32 := ndN (upd (dyC W n1) 5 (dyC W n1 5 + 1)) n1
theorem oneW_eq (W : Nat → Int32) {n0 n1 : Nat} (hn : n0 ≤ 16) (h6 : n1 ≤ 6) : oneW W n0 n1 = if wdamp (W 8) (kseed (W 12)) = 0 then dyF W n1 else wrN (dyF W n1) n0 := by
  have e8 : dyC W n1 8 = W 8 := dyC_off W n1 (by omega) (by omega) (by omega)
  unfold oneW dyE dyD
  rw [e8, dyC_seed]
  split
  · rfl
  · rw [wrN_off (dyC W n1) (i := 5) (fun p _ => by omega) n0 hn, ← wrN_upd _ _ (fun p _ => by omega) n0 hn, ndN_wrN _ hn n1 h6]
    rfl
theorem shN_at (W : Nat → Int32) : ∀ k i, k ≤ 174 → shN W k i = if 770 - k < i ∧ i ≤ 770 then W (i - 6) else W i
  | 0, i, _ => by
    rw [if_neg (by omega)]
    rfl
  | k + 1, i, h => by
    show (if i = 770 - k then shN W k (764 - k) else shN W k i) = _
    rw [shN_at W k _ (by omega), shN_at W k i (by omega), if_neg (show ¬ (770 - k < 764 - k ∧ 764 - k ≤ 770) by omega)]
    by_cases e : i = 770 - k
    · rw [if_pos e, if_pos (by omega)]
      congr 1
      omega
    · rw [if_neg e]
      by_cases q : 770 - k < i ∧ i ≤ 770
      · rw [if_pos q, if_pos (by omega)]
      · rw [if_neg q, if_neg (by omega)]
theorem wmark_congr {W W' : Nat → Int32} {t : Nat} (ht : t < 6) (hk : toolOk W t) (e : ∀ i, i < 591 → i ≠ 11 → W' i = W i) : wmark W' t = wmark W t := by
  unfold wmark
  rw [e (141 + 4 * t + 1) (by omega) (by omega)]
  rcases hk 1 (by decide) with h | ⟨p, hp, h⟩
  · rw [h]
    rfl
  · rw [h, ofN_cl (by omega), e (13 + 8 * p + 1) (by omega) (by omega), e (13 + 8 * p + 2) (by omega) (by omega)]
theorem mkN_at (V : Nat → Int32) {n : Nat} (hto : ∀ t, t < n → toolOk V t) : ∀ k c, k ≤ 6 → c < 6 → mkN V n k (591 + c) = if c < k then (if c < n then wmark V c else -1) else V (591 + c)
  | 0, c, _, _ => by
    rw [if_neg (Nat.not_lt_zero c)]
    rfl
  | k + 1, c, hk, hc => by
    show (if 591 + c = 591 + k then (if k < n then wmark (mkN V n k) k else -1) else mkN V n k (591 + c)) = _
    rw [mkN_at V hto k c (by omega) hc]
    by_cases e : c = k
    · subst e
      rw [if_pos rfl, if_pos (Nat.lt_succ_self c)]
      by_cases q : c < n
      · rw [if_pos q, if_pos q]
        exact wmark_congr (by omega) (hto c q) fun i hi _ => mkN_off V n (Or.inl hi) c (by omega)
      · rw [if_neg q, if_neg q]
    · rw [if_neg (by omega)]
      by_cases q : c < k
      · rw [if_pos q, if_pos (show c < k + 1 by omega)]
      · rw [if_neg q, if_neg (show ¬ c < k + 1 by omega)]
theorem ndN_at (W : Nat → Int32) {t : Nat} (ht : t < 6) : ∀ k, k ≤ 6 → ndN W k (141 + 4 * t + 3) = if t < k then iushr (W (141 + 4 * t + 3)) 1 else W (141 + 4 * t + 3)
  | 0, _ => by
    rw [if_neg (Nat.not_lt_zero t)]
    rfl
  | k + 1, hk => by
    have ih := ndN_at W ht k (by omega)
    show (if 141 + 4 * t + 3 = 141 + 4 * k + 3 then iushr (ndN W k (141 + 4 * k + 3)) 1 else ndN W k (141 + 4 * t + 3)) = _
    by_cases e : t = k
    · subst e
      rw [if_pos rfl, ih, if_neg (Nat.lt_irrefl t), if_pos (Nat.lt_succ_self t)]
    · rw [if_neg (by omega), ih]
      by_cases q : t < k
      · rw [if_pos q, if_pos (by omega)]
      · rw [if_neg q, if_neg (by omega)]
section DF
variable {W : Nat → Int32} {n1 : Nat}
theorem dyF_off (h6 : n1 ≤ 6) {i : Nat} (h : i < 591 ∨ 770 < i) (h5 : i ≠ 5) (h11 : i ≠ 11) (h12 : i ≠ 12) (ht : i < 141 ∨ 165 ≤ i ∨ ∃ t k, k < 3 ∧ i = 141 + 4 * t + k) : dyF W n1 i = W i := by
  unfold dyF
  rw [ndN_off _ ht n1 h6]
  show (if i = 5 then _ else _) = _
  rw [if_neg h5, dyC_off W n1 h h11 h12]
theorem dyF_need (h6 : n1 ≤ 6) {t : Nat} (ht : t < n1) : dyF W n1 (141 + 4 * t + 3) = iushr (W (141 + 4 * t + 3)) 1 := by
  unfold dyF
  rw [ndN_at _ (by omega) n1 h6, if_pos ht]
  congr 1
  show (if 141 + 4 * t + 3 = 5 then _ else _) = _
  rw [if_neg (by omega), dyC_off W n1 (by omega) (by omega) (by omega)]
theorem dyF_5 (h6 : n1 ≤ 6) : dyF W n1 5 = W 5 + 1 := by
  unfold dyF
  rw [ndN_off _ (by omega) n1 h6]
  show (if 5 = 5 then dyC W n1 5 + 1 else _) = _
  rw [if_pos rfl, dyC_off W n1 (by omega) (by omega) (by omega)]
theorem dyF_12 (h6 : n1 ≤ 6) : dyF W n1 12 = kseed (W 12) := by
  unfold dyF
  rw [ndN_off _ (by omega) n1 h6]
  show (if 12 = 5 then _ else dyC W n1 12) = _
  rw [if_neg (by decide), dyC_seed]
theorem dyF_11 (h6 : n1 ≤ 6) : dyF W n1 11 = imin 30 (W 11 + 1) := by
  unfold dyF
  rw [ndN_off _ (by omega) n1 h6]
  have e : dyA W n1 11 = W 11 := by
    unfold dyA
    rw [mkN_off _ _ (by omega) 6 (by decide), shN_off _ (by omega) 174 (by decide)]
  have e1 : upd (dyC W n1) 5 (dyC W n1 5 + 1) 11 = dyC W n1 11 := if_neg (by decide)
  have e2 : dyC W n1 11 = dyB W n1 11 := by
    unfold dyC
    exact if_neg (by decide)
  have e3 : dyB W n1 11 = imin 30 (dyA W n1 11 + 1) := by
    unfold dyB
    exact if_pos rfl
  rw [e1, e2, e3, e]
theorem dyF_sh (h6 : n1 ≤ 6) {i : Nat} (h1 : 591 ≤ i) (h2 : i ≤ 770) : dyF W n1 i = dyA W n1 i := by
  unfold dyF
  rw [ndN_off _ (by omega) n1 h6]
  show (if i = 5 then _ else if i = 12 then _ else if i = 11 then _ else dyA W n1 i) = _
  rw [if_neg (by omega), if_neg (by omega), if_neg (by omega)]
theorem dyF_s0 (h6 : n1 ≤ 6) (hto : ∀ t, t < n1 → toolOk W t) {c : Nat} (hc : c < 6) : dyF W n1 (591 + c) = if c < n1 then wmark W c else -1 := by
  rw [dyF_sh h6 (by omega) (by omega)]
  unfold dyA
  have low : ∀ i, i < 591 → shN W 174 i = W i := fun i hi => shN_off W (Or.inl (by omega)) 174 (by decide)
  rw [mkN_at (shN W 174) (fun t ht => toolOk_low (by omega) (fun i a b _ => low i (by omega)) (hto t ht)) 6 c (by decide) hc, if_pos hc]
  split
  · next q => exact wmark_congr (by omega) (hto c q) fun i hi _ => low i hi
  · rfl
theorem dyF_s1 (h6 : n1 ≤ 6) {g c : Nat} (hg : 1 ≤ g) (hg2 : g < 30) (hc : c < 6) : dyF W n1 (591 + 6 * g + c) = W (591 + 6 * (g - 1) + c) := by
  rw [dyF_sh h6 (by omega) (by omega)]
  unfold dyA
  rw [mkN_off _ _ (by omega) 6 (by decide), shN_at W 174 _ (by decide), if_pos (by omega)]
  congr 1
  omega
end DF
/-! the class's side of it -/
theorem kmarks_at (K : CK) {q0 : Nat} (hq : q0 < K.1 5) (h5 : K.1 5 ≤ 30) (h1 : K.1 1 ≤ 6) : ∀ n, n ≤ K.1 1 →
    (∀ t, t ≠ 1 → t ≠ 5 → (kmarks K (Int32.ofNat q0) n).2.1 t = K.2.1 t) ∧
    (∀ t, t < K.1 1 → ∀ c, c < 4 → (kmarks K (Int32.ofNat q0) n).2.1 1 (t * 4 + c) = if c = 3 ∧ t < n then iushr (K.2.1 1 (t * 4 + 3)) 1 else K.2.1 1 (t * 4 + c)) ∧
    (∀ i, i < K.1 5 → ∀ c, c < 6 → (kmarks K (Int32.ofNat q0) n).2.1 5 (i * 6 + c) = if i = q0 ∧ c < n then kmark K (Int32.ofNat c) else K.2.1 5 (i * 6 + c)) := by
  intro n
  induction n with
  | zero => exact fun _ => ⟨fun _ _ _ => rfl, fun t _ c _ => (if_neg (by omega)).symm, fun i _ c _ => (if_neg (by omega)).symm⟩
  | succ n ih =>
    intro hn
    obtain ⟨a1, a2, a3⟩ := ih (by omega)
    have er := kmarks_rows K (Int32.ofNat q0) n
    have emk : kmark (kmarks K (Int32.ofNat q0) n) (Int32.ofNat n) = kmark K (Int32.ofNat n) := by
      have g0 : ∀ i j, kget (kmarks K (Int32.ofNat q0) n) 0 i j = kget K 0 i j := fun i j => by
        unfold kget
        rw [er, a1 0 (by decide) (by decide)]
      have g1 : kget (kmarks K (Int32.ofNat q0) n) 1 (Int32.ofNat n) 1 = kget K 1 (Int32.ofNat n) 1 := by
        unfold kget
        rw [er, show tW 1 = 4 from rfl, show (1 : Int32) = Int32.ofNat 1 from rfl, tget_in (show n < K.1 1 by omega) (by decide) (by omega) (by decide), tget_in (show n < K.1 1 by omega) (by decide) (by omega) (by decide), a2 n (by omega) 1 (by decide), if_neg (by omega)]
      unfold kmark
      rw [g1, g0, g0]
    have e1 : kput (kmarks K (Int32.ofNat q0) n) 5 (Int32.ofNat q0) (Int32.ofNat n) (kmark (kmarks K (Int32.ofNat q0) n) (Int32.ofNat n)) = ((kmarks K (Int32.ofNat q0) n).1, kset (kmarks K (Int32.ofNat q0) n).2.1 5 (upd ((kmarks K (Int32.ofNat q0) n).2.1 5) (q0 * 6 + n) (kmark K (Int32.ofNat n))), (kmarks K (Int32.ofNat q0) n).2.2) := by
      unfold kput
      rw [show tW 5 = 6 from rfl, er, tput_in hq (show n < 6 by omega) (by omega) (by decide), emk]
    have e2 : kmarks K (Int32.ofNat q0) (n + 1) = ((kmarks K (Int32.ofNat q0) n).1, kset (kset (kmarks K (Int32.ofNat q0) n).2.1 5 (upd ((kmarks K (Int32.ofNat q0) n).2.1 5) (q0 * 6 + n) (kmark K (Int32.ofNat n)))) 1 (upd ((kmarks K (Int32.ofNat q0) n).2.1 1) (n * 4 + 3) (iushr ((kmarks K (Int32.ofNat q0) n).2.1 1 (n * 4 + 3)) 1)), (kmarks K (Int32.ofNat q0) n).2.2) := by
      show kput (kput (kmarks K (Int32.ofNat q0) n) 5 (Int32.ofNat q0) (Int32.ofNat n) (kmark (kmarks K (Int32.ofNat q0) n) (Int32.ofNat n))) 1 (Int32.ofNat n) 3 (iushr (kget (kput (kmarks K (Int32.ofNat q0) n) 5 (Int32.ofNat q0) (Int32.ofNat n) (kmark (kmarks K (Int32.ofNat q0) n) (Int32.ofNat n))) 1 (Int32.ofNat n) 3) 1) = _
      rw [e1]
      unfold kput kget
      dsimp only
      rw [show kset (kmarks K (Int32.ofNat q0) n).2.1 5 (upd ((kmarks K (Int32.ofNat q0) n).2.1 5) (q0 * 6 + n) (kmark K (Int32.ofNat n))) 1 = (kmarks K (Int32.ofNat q0) n).2.1 1 from rfl, show tW 1 = 4 from rfl, er, show (3 : Int32) = Int32.ofNat 3 from rfl, tput_in (show n < K.1 1 by omega) (by decide) (by omega) (by decide), tget_in (show n < K.1 1 by omega) (by decide) (by omega) (by decide)]
    rw [e2]
    refine ⟨fun t h h' => ?_, fun t ht c hc => ?_, fun i hi c hc => ?_⟩
    · show kset (kset _ 5 _) 1 _ t = _
      unfold kset
      rw [if_neg h, if_neg h']
      exact a1 t h h'
    · show (if t * 4 + c = n * 4 + 3 then _ else _) = _
      by_cases e : t = n ∧ c = 3
      · obtain ⟨rfl, rfl⟩ := e
        rw [if_pos rfl, if_pos ⟨rfl, Nat.lt_succ_self t⟩, a2 t ht 3 (by decide), if_neg (fun q => Nat.lt_irrefl t q.2)]
      · rw [if_neg (by omega), a2 t ht c hc]
        by_cases q : c = 3 ∧ t < n
        · rw [if_pos q, if_pos ⟨q.1, by omega⟩]
        · rw [if_neg q, if_neg (by omega)]
    · show (if i * 6 + c = q0 * 6 + n then _ else _) = _
      by_cases e : i = q0 ∧ c = n
      · obtain ⟨rfl, rfl⟩ := e
        rw [if_pos rfl, if_pos ⟨rfl, Nat.lt_succ_self c⟩]
      · rw [if_neg (by omega), a3 i hi c hc]
        by_cases q : i = q0 ∧ c < n
        · rw [if_pos q, if_pos ⟨q.1, by omega⟩]
        · rw [if_neg q, if_neg (by omega)]
/-- a row of sheets more -/
theorem klast5 (K : CK) (hk : kOk K) : klastR K 5 = Int32.ofNat ((klast K 5 (-1)).1 5 - 1) ∧ 1 ≤ (klast K 5 (-1)).1 5 ∧ (klast K 5 (-1)).1 5 = min 30 (K.1 5 + 1) ∧ (∀ t, t ≠ 5 → (klast K 5 (-1)).1 t = K.1 t ∧ (klast K 5 (-1)).2.1 t = K.2.1 t) ∧
    (∀ c, c < 6 → (klast K 5 (-1)).2.1 5 (((klast K 5 (-1)).1 5 - 1) * 6 + c) = -1) ∧ ∀ g, 1 ≤ g → g < (klast K 5 (-1)).1 5 → ∀ c, c < 6 → (klast K 5 (-1)).2.1 5 (((klast K 5 (-1)).1 5 - 1 - g) * 6 + c) = K.2.1 5 ((K.1 5 - 1 - (g - 1)) * 6 + c) := by
  have b5 : K.1 5 ≤ 30 := hk 5 (by decide)
  have t5 : tM 5 = 30 := rfl
  have w5 : tW 5 = 6 := rfl
  unfold klastR klast
  by_cases h : K.1 5 < 30
  · rw [if_pos (show K.1 5 < tM 5 from h), if_pos (show K.1 5 < tM 5 from h)]
    have r5 : (krows K 5 (K.1 5 + 1) (fillR (tW 5) (K.1 5) (K.2.1 5) (-1) (tW 5))).1 5 = K.1 5 + 1 := rfl
    rw [r5]
    refine ⟨by rw [Nat.add_sub_cancel], by omega, by omega, fun t ht => ⟨if_neg ht, if_neg ht⟩, fun c hc => ?_, fun g h1 h2 c hc => ?_⟩
    · show (if K.1 5 * 6 ≤ (K.1 5 + 1 - 1) * 6 + c ∧ (K.1 5 + 1 - 1) * 6 + c < K.1 5 * 6 + 6 then (-1 : Int32) else _) = _
      rw [if_pos (by omega)]
    · show (if K.1 5 * 6 ≤ (K.1 5 + 1 - 1 - g) * 6 + c ∧ (K.1 5 + 1 - 1 - g) * 6 + c < K.1 5 * 6 + 6 then (-1 : Int32) else K.2.1 5 ((K.1 5 + 1 - 1 - g) * 6 + c)) = _
      have h2' : g < K.1 5 + 1 := h2
      rw [if_neg (by omega)]
      exact congrArg (K.2.1 5) (by omega)
  · have e : K.1 5 = 30 := by omega
    rw [if_neg (show ¬ K.1 5 < tM 5 from h), if_neg (show ¬ K.1 5 < tM 5 from h)]
    have r5 : (krows K 5 (K.1 5) (fillR (tW 5) (K.1 5 - 1) (va_cpy (K.2.1 5) (K.2.1 5) (tW 5) 0 ((K.1 5 - 1) * tW 5)) (-1) (tW 5))).1 5 = K.1 5 := rfl
    rw [r5]
    refine ⟨rfl, by omega, by omega, fun t ht => ⟨if_neg ht, if_neg ht⟩, fun c hc => ?_, fun g h1 h2 c hc => ?_⟩
    · show (if (K.1 5 - 1) * 6 ≤ (K.1 5 - 1) * 6 + c ∧ (K.1 5 - 1) * 6 + c < (K.1 5 - 1) * 6 + 6 then (-1 : Int32) else _) = _
      rw [if_pos (by omega)]
    · show (if (K.1 5 - 1) * 6 ≤ (K.1 5 - 1 - g) * 6 + c ∧ (K.1 5 - 1 - g) * 6 + c < (K.1 5 - 1) * 6 + 6 then (-1 : Int32) else (if 0 ≤ (K.1 5 - 1 - g) * 6 + c ∧ (K.1 5 - 1 - g) * 6 + c < 0 + (K.1 5 - 1) * 6 then K.2.1 5 (6 + ((K.1 5 - 1 - g) * 6 + c - 0)) else K.2.1 5 ((K.1 5 - 1 - g) * 6 + c))) = _
      have h2' : g < K.1 5 := h2
      rw [if_neg (by omega), if_pos (by omega)]
      exact congrArg (K.2.1 5) (by omega)
section DD
variable {K : CK} {W : Nat → Int32} {c : Nat}
theorem Sm.day0 (S : Sm K W) (hk : kOk K) (hw : wOk K W c) : Sm (kday0 K) (dyF W (K.1 1)) := by
  have b0 : K.1 0 ≤ 16 := hk 0 (by decide)
  have b1 : K.1 1 ≤ 6 := hk 1 (by decide)
  have b2 : K.1 2 ≤ 6 := hk 2 (by decide)
  have b3 : K.1 3 ≤ 60 := hk 3 (by decide)
  have b4 : K.1 4 ≤ 60 := hk 4 (by decide)
  have b5 : K.1 5 ≤ 30 := hk 5 (by decide)
  obtain ⟨q1, q2, q3, q4, q5, q6⟩ := klast5 K hk
  have hto : ∀ t, t < K.1 1 → toolOk W t := fun t ht => (hw.2.1 t ht).ok hk
  have r1 : (klast K 5 (-1)).1 1 = K.1 1 := (q4 1 (by decide)).1
  obtain ⟨m1, m2, m3⟩ := kmarks_at (klast K 5 (-1)) (q0 := (klast K 5 (-1)).1 5 - 1) (by omega) (by omega) (by omega) (K.1 1) (by omega)
  have er := kmarks_rows (klast K 5 (-1)) (Int32.ofNat ((klast K 5 (-1)).1 5 - 1)) (K.1 1)
  have ei := (kmarks_ints (klast K 5 (-1)) (Int32.ofNat ((klast K 5 (-1)).1 5 - 1)) (K.1 1)).trans (klast_ints K 5 (-1))
  have emark : ∀ t, t < K.1 1 → kmark (klast K 5 (-1)) (Int32.ofNat t) = wmark W t := fun t ht => by
    rw [← mark_same S hk ht (hw.2.1 t ht).toolIn]
    unfold kmark kget
    rw [(q4 0 (by decide)).1, (q4 0 (by decide)).2, (q4 1 (by decide)).1, (q4 1 (by decide)).2]
  obtain ⟨⟨a0, a1, a2, a3, a4, a5⟩, ⟨c0, c1, c2, c3, c4, c5⟩, p, t, m, d, l, g⟩ := S
  unfold kday0
  rw [q1]
  refine ⟨⟨?_, ?_, ?_, ?_, ?_, ?_⟩, ⟨?_, ?_, ?_, ?_, ?_, ?_⟩, fun i hi c hc => ?_, fun i hi c hc => ?_, fun i hi => ?_, fun i hi c hc => ?_, fun i hi c hc => ?_, fun i hi c hc => ?_⟩
  · show dyF W (K.1 1) 0 = Int32.ofNat ((kmarks _ _ _).1 0)
    rw [er, (q4 0 (by decide)).1, dyF_off b1 (by omega) (by omega) (by omega) (by omega) (by omega)]
    exact a0
  · show dyF W (K.1 1) 1 = Int32.ofNat ((kmarks _ _ _).1 1)
    rw [er, (q4 1 (by decide)).1, dyF_off b1 (by omega) (by omega) (by omega) (by omega) (by omega)]
    exact a1
  · show dyF W (K.1 1) 2 = Int32.ofNat ((kmarks _ _ _).1 2)
    rw [er, (q4 2 (by decide)).1, dyF_off b1 (by omega) (by omega) (by omega) (by omega) (by omega)]
    exact a2
  · show dyF W (K.1 1) 6 = Int32.ofNat ((kmarks _ _ _).1 3)
    rw [er, (q4 3 (by decide)).1, dyF_off b1 (by omega) (by omega) (by omega) (by omega) (by omega)]
    exact a3
  · show dyF W (K.1 1) 10 = Int32.ofNat ((kmarks _ _ _).1 4)
    rw [er, (q4 4 (by decide)).1, dyF_off b1 (by omega) (by omega) (by omega) (by omega) (by omega)]
    exact a4
  · show dyF W (K.1 1) 11 = Int32.ofNat ((kmarks _ _ _).1 5)
    rw [er, q3, dyF_11 b1, a5, ofN_succ]
    exact imin_of (n := 30) (by decide) (by omega)
  · show dyF W (K.1 1) 3 = (kmarks _ _ _).2.2.1 7
    rw [ei, dyF_off b1 (by omega) (by omega) (by omega) (by omega) (by omega)]
    exact c0
  · show dyF W (K.1 1) 5 = (kmarks _ _ _).2.2.1 8 + 1
    rw [ei, dyF_5 b1, c1]
  · show dyF W (K.1 1) 8 = (kmarks _ _ _).2.2.1 9
    rw [ei, dyF_off b1 (by omega) (by omega) (by omega) (by omega) (by omega)]
    exact c2
  · show dyF W (K.1 1) 7 = (kmarks _ _ _).2.2.1 10
    rw [ei, dyF_off b1 (by omega) (by omega) (by omega) (by omega) (by omega)]
    exact c3
  · show dyF W (K.1 1) 12 = kseed ((kmarks _ _ _).2.2.1 11)
    rw [ei, dyF_12 b1, c4]
  · show dyF W (K.1 1) 9 = (kmarks _ _ _).2.2.1 12
    rw [ei, dyF_off b1 (by omega) (by omega) (by omega) (by omega) (by omega)]
    exact c5
  · have hi' : i < (kmarks (klast K 5 (-1)) (Int32.ofNat ((klast K 5 (-1)).1 5 - 1)) (K.1 1)).1 0 := hi
    rw [er, (q4 0 (by decide)).1] at hi'
    show (kmarks _ _ _).2.1 0 (i * 8 + c) = _
    rw [m1 0 (by decide) (by decide), (q4 0 (by decide)).2, dyF_off b1 (by omega) (by omega) (by omega) (by omega) (by omega)]
    exact p i hi' c hc
  · have hi' : i < (kmarks (klast K 5 (-1)) (Int32.ofNat ((klast K 5 (-1)).1 5 - 1)) (K.1 1)).1 1 := hi
    rw [er, (q4 1 (by decide)).1] at hi'
    show (kmarks _ _ _).2.1 1 (i * 4 + c) = _
    rw [m2 i (by omega) c hc, (q4 1 (by decide)).2]
    by_cases e : c = 3
    · subst e
      rw [if_pos ⟨rfl, hi'⟩, t i hi' 3 (by decide), dyF_need b1 hi']
    · rw [if_neg (fun q => e q.1), dyF_off b1 (by omega) (by omega) (by omega) (by omega) (Or.inr (Or.inr ⟨i, c, by omega, rfl⟩))]
      exact t i hi' c hc
  · have hi' : i < (kmarks (klast K 5 (-1)) (Int32.ofNat ((klast K 5 (-1)).1 5 - 1)) (K.1 1)).1 2 := hi
    rw [er, (q4 2 (by decide)).1] at hi'
    show (kmarks _ _ _).2.1 2 i = _
    rw [m1 2 (by decide) (by decide), (q4 2 (by decide)).2, dyF_off b1 (by omega) (by omega) (by omega) (by omega) (by omega)]
    exact m i hi'
  · have hi' : i < (kmarks (klast K 5 (-1)) (Int32.ofNat ((klast K 5 (-1)).1 5 - 1)) (K.1 1)).1 3 := hi
    rw [er, (q4 3 (by decide)).1] at hi'
    show (kmarks _ _ _).2.1 3 (i * 7 + c) = _
    rw [m1 3 (by decide) (by decide), (q4 3 (by decide)).2, dyF_off b1 (by omega) (by omega) (by omega) (by omega) (by omega)]
    exact d i hi' c hc
  · have hi' : i < (kmarks (klast K 5 (-1)) (Int32.ofNat ((klast K 5 (-1)).1 5 - 1)) (K.1 1)).1 4 := hi
    rw [er, (q4 4 (by decide)).1] at hi'
    show (kmarks _ _ _).2.1 4 (((kmarks _ _ _).1 4 - 1 - i) * 5 + c) = _
    rw [m1 4 (by decide) (by decide), er, (q4 4 (by decide)).1, (q4 4 (by decide)).2, dyF_off b1 (by omega) (by omega) (by omega) (by omega) (by omega)]
    exact l i hi' c hc
  · have hi' : i < (kmarks (klast K 5 (-1)) (Int32.ofNat ((klast K 5 (-1)).1 5 - 1)) (K.1 1)).1 5 := hi
    rw [er] at hi'
    show (kmarks _ _ _).2.1 5 (((kmarks _ _ _).1 5 - 1 - i) * 6 + c) = _
    rw [er, m3 _ (by omega) c hc]
    by_cases e : i = 0
    · subst e
      rw [Nat.sub_zero, show 591 + 6 * 0 + c = 591 + c from rfl, dyF_s0 b1 hto hc]
      by_cases q : c < K.1 1
      · rw [if_pos ⟨rfl, q⟩, if_pos q]
        exact emark c q
      · rw [if_neg (fun z => q z.2), if_neg q]
        exact q5 c hc
    · rw [if_neg (by omega), q6 i (by omega) hi' c hc, dyF_s1 b1 (by omega) (by omega) hc]
      exact g (i - 1) (by omega) c hc
theorem kday_damp (S : Sm K W) : (kday K) = if wdamp (W 8) (kseed (W 12)) = 0 then (0, kday0 K) else krust (kday0 K) ((kday0 K).1 0) := by
  unfold kday
  rw [day_damp S]
theorem kday0_rows (K : CK) (hk : kOk K) : (∀ t, t ≠ 5 → (kday0 K).1 t = K.1 t) ∧ (kday0 K).1 5 = min 30 (K.1 5 + 1) := by
  obtain ⟨q1, q2, q3, q4, q5, q6⟩ := klast5 K hk
  have e : (kday0 K).1 = (klast K 5 (-1)).1 := kmarks_rows _ _ _
  rw [e]
  exact ⟨fun t ht => (q4 t ht).1, q3⟩
theorem kday_rows (S : Sm K W) (hk : kOk K) : (∀ t, t ≠ 5 → (kday K).2.1 t = K.1 t) ∧ (kday K).2.1 5 = min 30 (K.1 5 + 1) := by
  have e : (kday K).2.1 = (kday0 K).1 := by
    rw [kday_damp S]
    split
    · rfl
    · exact krust_rows _ _
  rw [e]
  exact kday0_rows K hk
theorem krust_law (K : CK) : ∀ n, (krust K n).2.2.2 = K.2.2
  | 0 => rfl
  | n + 1 => by
    show (if _ then _ else _ : Int32 × CK).2.2.2 = _
    split
    · exact krust_law K n
    · exact krust_law K n
theorem kday_law (S : Sm K W) : (kday K).2.2.2.2 = K.2.2.2 := by
  have e9 := congrArg Prod.snd ((kmarks_ints (klast K 5 (-1)) (klastR K 5) (K.1 1)).trans (klast_ints K 5 (-1)))
  have e0 : (kday0 K).2.2.2 = K.2.2.2 := e9
  rw [kday_damp S]
  split
  · exact e0
  · rw [krust_law]
    exact e0
theorem Sm.oneDay (S : Sm K W) (hk : kOk K) (hw : wOk K W c) : Sm (kday K).2 (oneW W (K.1 0) (K.1 1)) := by
  have b0 : K.1 0 ≤ 16 := hk 0 (by decide)
  have b1 : K.1 1 ≤ 6 := hk 1 (by decide)
  have S0 := S.day0 hk hw
  rw [kday_damp S, oneW_eq W b0 b1]
  split
  · exact S0
  · obtain ⟨r1, r2⟩ := kday0_rows K hk
    have hk0 : kOk (kday0 K) := fun t ht => by
      by_cases e : t = 5
      · subst e
        rw [r2]
        show min 30 (K.1 5 + 1) ≤ 30
        omega
      · rw [r1 t e]
        exact hk t ht
    have := Sm.rust S0 hk0 (K.1 0) (by rw [r1 0 (by decide)]; exact Nat.le_refl _)
    rw [r1 0 (by decide)]
    exact this
/-- the wear that comes in a day -/
theorem rust_sum {K0 : CK} {X : Nat → Int32} (S : Sm K0 X) (hk : kOk K0) : ∀ n, n ≤ K0.1 0 → (krust K0 n).1 + sumI (fun p => if X (13 + 8 * p) = 1 then X (13 + 8 * p + 2) else 0) n = sumI (fun p => if X (13 + 8 * p) = 1 then imin 99 (X (13 + 8 * p + 2) + 1) else 0) n := by
  have b0 : K0.1 0 ≤ 16 := hk 0 (by decide)
  intro n
  induction n with
  | zero => exact fun _ => rfl
  | succ n ih =>
    intro hn
    have ih := ih (by omega)
    have S1 := Sm.rust S hk n (by omega)
    have er := krust_rows K0 n
    have hk1 : kOk (krust K0 n).2 := hk.rows fun t _ => by rw [er]
    have hn1 : n < (krust K0 n).2.1 0 := by rw [er]; omega
    have e0 : kget (krust K0 n).2 0 (Int32.ofNat n) 0 = X (13 + 8 * n) := ((Sm.cols S1 hk1).1 n hn1).trans (wrN_off X (fun p _ => by omega) n (by omega))
    have e2 : kget (krust K0 n).2 0 (Int32.ofNat n) 2 = X (13 + 8 * n + 2) := ((Sm.cols S1 hk1).2.2.1 n hn1).trans (by rw [wrN_at X (by omega) n (by omega), if_neg (fun q => Nat.lt_irrefl n q.1)])
    show (if kget (krust K0 n).2 0 (Int32.ofNat n) 0 = 1 then ((krust K0 n).1 + (imin 99 (kget (krust K0 n).2 0 (Int32.ofNat n) 2 + 1) - kget (krust K0 n).2 0 (Int32.ofNat n) 2), _) else ((krust K0 n).1, _) : Int32 × CK).1 + (sumI _ n + (if X (13 + 8 * n) = 1 then X (13 + 8 * n + 2) else 0)) = sumI _ n + (if X (13 + 8 * n) = 1 then imin 99 (X (13 + 8 * n + 2) + 1) else 0)
    rw [e0, e2, ← ih]
    by_cases q : X (13 + 8 * n) = 1
    · rw [if_pos q, if_pos q, if_pos q]
      show (krust K0 n).1 + (imin 99 (X (13 + 8 * n + 2) + 1) - X (13 + 8 * n + 2)) + (sumI _ n + X (13 + 8 * n + 2)) = _
      grind
    · rw [if_neg q, if_neg q, if_neg q]
      show (krust K0 n).1 + (sumI _ n + 0) = _
      grind
theorem kday_wear (S : Sm K W) (hk : kOk K) (hw : wOk K W c) : (kday K).1 + wheads W (K.1 0) = wheads (oneW W (K.1 0) (K.1 1)) (K.1 0) := by
  have b0 : K.1 0 ≤ 16 := hk 0 (by decide)
  have b1 : K.1 1 ≤ 6 := hk 1 (by decide)
  have S0 := S.day0 hk hw
  have hF : ∀ i, 13 ≤ i → i < 141 → dyF W (K.1 1) i = W i := fun i h1 h2 => dyF_off b1 (by omega) (by omega) (by omega) (by omega) (by omega)
  have e0 : wheads (dyF W (K.1 1)) (K.1 0) = wheads W (K.1 0) := sumI_congr fun p hp => by rw [hF _ (by omega) (by omega), hF _ (by omega) (by omega)]
  rw [kday_damp S, oneW_eq W b0 b1]
  split
  · rw [e0]
    exact Int32.zero_add _
  · obtain ⟨r1, r2⟩ := kday0_rows K hk
    have hk0 : kOk (kday0 K) := fun t ht => by
      by_cases e : t = 5
      · subst e
        rw [r2]
        show min 30 (K.1 5 + 1) ≤ 30
        omega
      · rw [r1 t e]
        exact hk t ht
    have rs := rust_sum S0 hk0 (K.1 0) (by rw [r1 0 (by decide)]; exact Nat.le_refl _)
    rw [r1 0 (by decide), ← e0]
    refine rs.trans (sumI_congr fun p hp => ?_)
    rw [wrN_off _ (fun q _ => by omega) _ b0, wrN_at _ (by omega) _ b0]
    by_cases q : dyF W (K.1 1) (13 + 8 * p) = 1
    · rw [if_pos q, if_pos q, if_pos ⟨hp, q⟩]
    · rw [if_neg q, if_neg q]
end DD
