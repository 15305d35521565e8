/-! ACTS: THE LOG takes a row more on both sides -/
theorem upd_upd (W : Nat → Int32) (i : Nat) (x y : Int32) : upd (upd W i x) i y = upd W i y := by
  funext k
  unfold upd
  by_cases h : k = i
  · rw [if_pos h, if_pos h]
  · rw [if_neg h, if_neg h, if_neg h]
theorem upd_self (W : Nat → Int32) (i : Nat) {v : Int32} (h : v = W i) : upd W i v = W := by
  funext k
  unfold upd
  split
  · next e => rw [e, h]
  · rfl
def wtells (W : Nat → Int32) (p g d f : Int32) : Nat → Int32 := if g = 0 then W else upd (upd (upd (upd (upd (upd (wshift W 4) 771 (W 5)) 772 p) 773 g) 774 d) 775 f) 10 (imin 60 (W 10 + 1))
theorem mtells_w (M : MK) (p g d f : Int32) : (mtells M p g d f).1 = M.1 ∧ (mtells M p g d f).2 1 = wtells (M.2 1) p g d f ∧ ∀ q, q ≠ 1 → (mtells M p g d f).2 q = M.2 q := by
  unfold mtells wtells
  by_cases h : g = 0
  · rw [if_pos h, if_pos h]
    exact ⟨rfl, rfl, fun _ _ => rfl⟩
  · rw [if_neg h, if_neg h]
    refine ⟨rfl, rfl, fun q hq => ?_⟩
    unfold mput mrow
    dsimp only
    rw [if_neg hq, if_neg hq, if_neg hq, if_neg hq, if_neg hq, if_neg hq, if_neg hq]
theorem WRun.tells {s : aS} {M : MK} {p g d f : Int32} (C : Mdl s 66 M) : WRun (mX12_tells 66 p g d f) s M () (wtells (M.2 1) p g d f) := by
  obtain ⟨s', h1, h2, h3⟩ := tells_run (p := p) (g := g) (d := d) (f := f) C
  obtain ⟨e1, e2, e3⟩ := mtells_w M p g d f
  exact ⟨s', _, h1, h2, h3, e1, e2, e3⟩
theorem wtells_off (W : Nat → Int32) (p g d f : Int32) {i : Nat} (h : i < 771 ∨ 1071 ≤ i) (h10 : i ≠ 10) : wtells W p g d f i = W i := by
  unfold wtells
  split
  · rfl
  · unfold upd
    rw [if_neg h10, if_neg (by omega), if_neg (by omega), if_neg (by omega), if_neg (by omega), if_neg (by omega)]
    exact if_neg (by omega)
theorem klast4 (K : CK) (hk : kOk K) (v : Int32) : klastR K 4 = Int32.ofNat ((klast K 4 v).1 4 - 1) ∧ 1 ≤ (klast K 4 v).1 4 ∧ (klast K 4 v).1 4 = min 60 (K.1 4 + 1) ∧ (∀ t, t ≠ 4 → (klast K 4 v).1 t = K.1 t ∧ (klast K 4 v).2.1 t = K.2.1 t) ∧
    ∀ g, 1 ≤ g → g < (klast K 4 v).1 4 → ∀ c, c < 5 → (klast K 4 v).2.1 4 (((klast K 4 v).1 4 - 1 - g) * 5 + c) = K.2.1 4 ((K.1 4 - 1 - (g - 1)) * 5 + c) := by
  have b4 : K.1 4 ≤ 60 := hk 4 (by decide)
  unfold klastR klast
  by_cases h : K.1 4 < 60
  · rw [if_pos (show K.1 4 < tM 4 from h), if_pos (show K.1 4 < tM 4 from h)]
    have r5 : (krows K 4 (K.1 4 + 1) (fillR (tW 4) (K.1 4) (K.2.1 4) v (tW 4))).1 4 = K.1 4 + 1 := rfl
    rw [r5]
    refine ⟨by rw [Nat.add_sub_cancel], by omega, by omega, fun t ht => ⟨if_neg ht, if_neg ht⟩, fun g h1 h2 c hc => ?_⟩
    show (if K.1 4 * 5 ≤ (K.1 4 + 1 - 1 - g) * 5 + c ∧ (K.1 4 + 1 - 1 - g) * 5 + c < K.1 4 * 5 + 5 then v else K.2.1 4 ((K.1 4 + 1 - 1 - g) * 5 + c)) = _
    have h2' : g < K.1 4 + 1 := h2
    rw [if_neg (by omega)]
    exact congrArg (K.2.1 4) (by omega)
  · have e : K.1 4 = 60 := by omega
    rw [if_neg (show ¬ K.1 4 < tM 4 from h), if_neg (show ¬ K.1 4 < tM 4 from h)]
    have r5 : (krows K 4 (K.1 4) (fillR (tW 4) (K.1 4 - 1) (va_cpy (K.2.1 4) (K.2.1 4) (tW 4) 0 ((K.1 4 - 1) * tW 4)) v (tW 4))).1 4 = K.1 4 := rfl
    rw [r5]
    refine ⟨rfl, by omega, by omega, fun t ht => ⟨if_neg ht, if_neg ht⟩, fun g h1 h2 c hc => ?_⟩
    show (if (K.1 4 - 1) * 5 ≤ (K.1 4 - 1 - g) * 5 + c ∧ (K.1 4 - 1 - g) * 5 + c < (K.1 4 - 1) * 5 + 5 then v else (if 0 ≤ (K.1 4 - 1 - g) * 5 + c ∧ (K.1 4 - 1 - g) * 5 + c < 0 + (K.1 4 - 1) * 5 then K.2.1 4 (5 + ((K.1 4 - 1 - g) * 5 + c - 0)) else K.2.1 4 ((K.1 4 - 1 - g) * 5 + c))) = _
    have h2' : g < K.1 4 := h2
    rw [if_neg (by omega), if_pos (by omega)]
    exact congrArg (K.2.1 4) (by omega)
/-- the class's row of the log -/
def klog (K : CK) (a p g d f : Int32) : CK := kput (kput (kput (kput (kput (klast K 4 0) 4 (klastR K 4) 0 a) 4 (klastR K 4) 1 p) 4 (klastR K 4) 2 g) 4 (klastR K 4) 3 d) 4 (klastR K 4) 4 f
theorem klog_at (K : CK) (hk : kOk K) (a p g d f : Int32) : (klog K a p g d f).1 = (klast K 4 0).1 ∧ (klog K a p g d f).2.2 = K.2.2 ∧ (∀ t, t ≠ 4 → (klog K a p g d f).2.1 t = (klast K 4 0).2.1 t) ∧ (klog K a p g d f).2.1 4 = upd (upd (upd (upd (upd ((klast K 4 0).2.1 4) (((klast K 4 0).1 4 - 1) * 5) a) (((klast K 4 0).1 4 - 1) * 5 + 1) p) (((klast K 4 0).1 4 - 1) * 5 + 2) g) (((klast K 4 0).1 4 - 1) * 5 + 3) d) (((klast K 4 0).1 4 - 1) * 5 + 4) f := by
  obtain ⟨q1, q2, q3, q4, q6⟩ := klast4 K hk 0
  have b : (klast K 4 0).1 4 ≤ 1000 := by rw [q3]; omega
  have pt : ∀ (F : Nat → Int32) (j : Nat) (v : Int32), j < 5 → tput 5 ((klast K 4 0).1 4) F (Int32.ofNat ((klast K 4 0).1 4 - 1)) (Int32.ofNat j) v = upd F (((klast K 4 0).1 4 - 1) * 5 + j) v := fun F j v hj => tput_in (by omega) hj b (by decide)
  have p0 : ∀ (F : Nat → Int32) (v : Int32), tput 5 ((klast K 4 0).1 4) F (Int32.ofNat ((klast K 4 0).1 4 - 1)) 0 v = upd F (((klast K 4 0).1 4 - 1) * 5) v := fun F v => pt F 0 v (by decide)
  have p1 : ∀ (F : Nat → Int32) (v : Int32), tput 5 ((klast K 4 0).1 4) F (Int32.ofNat ((klast K 4 0).1 4 - 1)) 1 v = upd F (((klast K 4 0).1 4 - 1) * 5 + 1) v := fun F v => pt F 1 v (by decide)
  have p2 : ∀ (F : Nat → Int32) (v : Int32), tput 5 ((klast K 4 0).1 4) F (Int32.ofNat ((klast K 4 0).1 4 - 1)) 2 v = upd F (((klast K 4 0).1 4 - 1) * 5 + 2) v := fun F v => pt F 2 v (by decide)
  have p3 : ∀ (F : Nat → Int32) (v : Int32), tput 5 ((klast K 4 0).1 4) F (Int32.ofNat ((klast K 4 0).1 4 - 1)) 3 v = upd F (((klast K 4 0).1 4 - 1) * 5 + 3) v := fun F v => pt F 3 v (by decide)
  have p4 : ∀ (F : Nat → Int32) (v : Int32), tput 5 ((klast K 4 0).1 4) F (Int32.ofNat ((klast K 4 0).1 4 - 1)) 4 v = upd F (((klast K 4 0).1 4 - 1) * 5 + 4) v := fun F v => pt F 4 v (by decide)
  refine ⟨rfl, klast_ints K 4 0, fun t ht => ?_, ?_⟩
  · unfold klog kput kset
    dsimp only
    rw [if_neg ht, if_neg ht, if_neg ht, if_neg ht, if_neg ht]
  · unfold klog kput kset
    dsimp only
    rw [if_pos rfl, if_pos rfl, if_pos rfl, if_pos rfl, if_pos rfl, show tW 4 = 5 from rfl, q1, p0, p1, p2, p3, p4]
section TL2
variable {K : CK} {W : Nat → Int32} {p g d f : Int32}
theorem Sm.log (S : Sm K W) (hk : kOk K) (hg : ¬ g = 0) : Sm (klog K (K.2.2.1 8) p g d f) (wtells W p g d f) := by
  have b0 : K.1 0 ≤ 16 := hk 0 (by decide)
  have b1 : K.1 1 ≤ 6 := hk 1 (by decide)
  have b2 : K.1 2 ≤ 6 := hk 2 (by decide)
  have b3 : K.1 3 ≤ 60 := hk 3 (by decide)
  have b4 : K.1 4 ≤ 60 := hk 4 (by decide)
  have b5 : K.1 5 ≤ 30 := hk 5 (by decide)
  obtain ⟨q1, q2, q3, q4, q6⟩ := klast4 K hk 0
  obtain ⟨z1, z2, z3, z4⟩ := klog_at K hk (K.2.2.1 8) p g d f
  have o : ∀ i, i < 771 → i ≠ 10 → wtells W p g d f i = W i := fun i h1 h2 => wtells_off W p g d f (Or.inl h1) h2
  have rw0 : ∀ t, t ≠ 4 → (klog K (K.2.2.1 8) p g d f).1 t = K.1 t := fun t ht => by rw [z1]; exact (q4 t ht).1
  have ce0 : ∀ t, t ≠ 4 → (klog K (K.2.2.1 8) p g d f).2.1 t = K.2.1 t := fun t ht => by rw [z3 t ht]; exact (q4 t ht).2
  have e10 : wtells W p g d f 10 = imin 60 (W 10 + 1) := by
    unfold wtells
    rw [if_neg hg]
    exact if_pos rfl
  have row : ∀ i, 771 ≤ i → i < 1071 → wtells W p g d f i = if i = 775 then f else if i = 774 then d else if i = 773 then g else if i = 772 then p else if i = 771 then W 5 else W (i - 5) := fun i h1 h2 => by
    unfold wtells
    rw [if_neg hg]
    unfold upd
    rw [if_neg (by omega)]
    by_cases e5 : i = 775
    · rw [if_pos e5, if_pos e5]
    rw [if_neg e5, if_neg e5]
    by_cases e4 : i = 774
    · rw [if_pos e4, if_pos e4]
    rw [if_neg e4, if_neg e4]
    by_cases e3 : i = 773
    · rw [if_pos e3, if_pos e3]
    rw [if_neg e3, if_neg e3]
    by_cases e2 : i = 772
    · rw [if_pos e2, if_pos e2]
    rw [if_neg e2, if_neg e2]
    by_cases e1 : i = 771
    · rw [if_pos e1, if_pos e1]
    rw [if_neg e1, if_neg e1]
    exact if_pos (by omega)
  have e58 : W 5 = K.2.2.1 8 := S.2.1.2.1
  obtain ⟨⟨a0, a1, a2, a3, a4, a5⟩, ⟨c0, c1, c2, c3, c4, c5⟩, pp, t, m, dd, l, gg⟩ := S
  refine ⟨⟨?_, ?_, ?_, ?_, ?_, ?_⟩, ?_, fun i hi c hc => ?_, fun i hi c hc => ?_, fun i hi => ?_, fun i hi c hc => ?_, fun i hi c hc => ?_, fun i hi c hc => ?_⟩
  · rw [rw0 0 (by decide), o 0 (by decide) (by decide)]; exact a0
  · rw [rw0 1 (by decide), o 1 (by decide) (by decide)]; exact a1
  · rw [rw0 2 (by decide), o 2 (by decide) (by decide)]; exact a2
  · rw [rw0 3 (by decide), o 6 (by decide) (by decide)]; exact a3
  · rw [z1, q3, e10, a4, ofN_succ]
    exact imin_of (n := 60) (by decide) (by omega)
  · rw [rw0 5 (by decide), o 11 (by decide) (by decide)]; exact a5
  · rw [z2, o 3 (by decide) (by decide), o 5 (by decide) (by decide), o 8 (by decide) (by decide), o 7 (by decide) (by decide), o 12 (by decide) (by decide), o 9 (by decide) (by decide)]
    exact ⟨c0, c1, c2, c3, c4, c5⟩
  · rw [rw0 0 (by decide)] at hi
    rw [ce0 0 (by decide), o _ (by omega) (by omega)]
    exact pp i hi c hc
  · rw [rw0 1 (by decide)] at hi
    rw [ce0 1 (by decide), o _ (by omega) (by omega)]
    exact t i hi c hc
  · rw [rw0 2 (by decide)] at hi
    rw [ce0 2 (by decide), o _ (by omega) (by omega)]
    exact m i hi
  · rw [rw0 3 (by decide)] at hi
    rw [ce0 3 (by decide), o _ (by omega) (by omega)]
    exact dd i hi c hc
  · rw [z1] at hi ⊢
    rw [row _ (by omega) (by omega), z4]
    unfold upd
    by_cases e : i = 0
    · subst e
      rw [Nat.sub_zero]
      have : c = 0 ∨ c = 1 ∨ c = 2 ∨ c = 3 ∨ c = 4 := by omega
      rcases this with rfl | rfl | rfl | rfl | rfl
      · rw [if_neg (by omega), if_neg (by omega), if_neg (by omega), if_neg (by omega), if_pos (by omega), if_neg (by decide), if_neg (by decide), if_neg (by decide), if_neg (by decide), if_pos rfl]
        exact e58.symm
      · rw [if_neg (by omega), if_neg (by omega), if_neg (by omega), if_pos (by omega), if_neg (by decide), if_neg (by decide), if_neg (by decide), if_pos rfl]
      · rw [if_neg (by omega), if_neg (by omega), if_pos (by omega), if_neg (by decide), if_neg (by decide), if_pos rfl]
      · rw [if_neg (by omega), if_pos (by omega), if_neg (by decide), if_pos rfl]
      · rw [if_pos (by omega), if_pos rfl]
    · rw [if_neg (by omega), if_neg (by omega), if_neg (by omega), if_neg (by omega), if_neg (by omega), if_neg (by omega), if_neg (by omega), if_neg (by omega), if_neg (by omega), if_neg (by omega), q6 i (by omega) hi c hc, l (i - 1) (by omega) c hc]
      congr 1
      omega
  · rw [rw0 5 (by decide)] at hi ⊢
    rw [ce0 5 (by decide), o _ (by omega) (by omega)]
    exact gg i hi c hc
theorem klog_rows (hk : kOk K) (a : Int32) : (∀ t, t ≠ 4 → (klog K a p g d f).1 t = K.1 t) ∧ kOk (klog K a p g d f) := by
  obtain ⟨q1, q2, q3, q4, q6⟩ := klast4 K hk 0
  obtain ⟨z1, -⟩ := klog_at K hk a p g d f
  refine ⟨fun t ht => by rw [z1]; exact (q4 t ht).1, fun t ht => ?_⟩
  rw [z1]
  by_cases e : t = 4
  · subst e
    rw [q3]
    show min 60 (K.1 4 + 1) ≤ 60
    omega
  · rw [(q4 t e).1]
    exact hk t ht
/-- GUILT comes to a part, on both sides -/
def wblame (W : Nat → Int32) (p : Nat) (g d f : Int32) : Nat → Int32 := wtells (upd W (13 + 8 * p + 3) (W (13 + 8 * p + 3) + g)) (Int32.ofNat p) g d f
theorem Sm.blame (S : Sm K W) (hk : kOk K) {q : Nat} (hq : q < K.1 0) {n : Nat} (hn : n < 2 ^ 31) : Sm (kblame K (Int32.ofNat q) (Int32.ofNat n) d f) (wblame W q (Int32.ofNat n) d f) ∧ (∀ t, t ≠ 4 → (kblame K (Int32.ofNat q) (Int32.ofNat n) d f).1 t = K.1 t) ∧ kOk (kblame K (Int32.ofNat q) (Int32.ofNat n) d f) ∧ (kblame K (Int32.ofNat q) (Int32.ofNat n) d f).2.2 = K.2.2 := by
  have hk1 : ∀ v, kOk (kput K 0 (Int32.ofNat q) 3 v) := fun v => hk
  unfold kblame wblame
  by_cases h0 : n = 0
  · subst h0
    rw [if_neg (show ¬ (0 : Int32) < Int32.ofNat 0 by decide), upd_self W _ (show W (13 + 8 * q + 3) + Int32.ofNat 0 = W (13 + 8 * q + 3) from Int32.add_zero _)]
    unfold wtells
    rw [if_pos (show Int32.ofNat 0 = 0 from rfl)]
    exact ⟨S, fun _ _ => rfl, hk, rfl⟩
  · have hpos : (0 : Int32) < Int32.ofNat n := (ofN_lt (n := 0) (by decide) hn).mpr (by omega)
    have hne : ¬ Int32.ofNat n = 0 := fun e => h0 ((ofN_inj (m := 0) hn (by decide)).mp e)
    rw [if_pos hpos]
    have e3 : kget K 0 (Int32.ofNat q) 3 = W (13 + 8 * q + 3) := S.part hk hq (c := 3) (by decide)
    have S1 := Sm.pput S hk (q := q) (k := 3) hq (by decide) (W (13 + 8 * q + 3) + Int32.ofNat n)
    have S2 := Sm.log (p := Int32.ofNat q) (g := Int32.ofNat n) (d := d) (f := f) S1 (hk1 _) hne
    rw [e3]
    obtain ⟨r1, r2⟩ := klog_rows (p := Int32.ofNat q) (g := Int32.ofNat n) (d := d) (f := f) (hk1 (W (13 + 8 * q + 3) + Int32.ofNat n)) (K.2.2.1 8)
    exact ⟨S2, r1, r2, (klog_at _ (hk1 _) _ _ _ _ _).2.1⟩
theorem wblame_off {q : Nat} {i : Nat} (h : i < 771 ∨ 1071 ≤ i) (h10 : i ≠ 10) (h3 : i ≠ 13 + 8 * q + 3) : wblame W q g d f i = W i := by
  unfold wblame
  rw [wtells_off _ _ _ _ _ h h10]
  exact if_neg h3
end TL2
