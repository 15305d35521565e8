/-! LAUNDERING: both sides find the same; the call laundered -/
section LU
variable {s : aS} {f : Int32} {K : CK} {M : MK} {W : Nat → Int32} {LW : Option (List Ln)} {c t : Nat} {wd gd : Int32} {x y : Int32}
abbrev lkS (K : CK) (W : Nat → Int32) (LW : Option (List Ln)) (wd gd : Int32) (t : Nat) : St2 := looks (fun k => canB W gd t k) (fun k => vO W LW wd gd t k) (W 7) (K.1 0)
theorem lk_best (H : LHs K W LW c t wd) : Bst (nV W LW wd gd t) (K.1 0) (W 7).toInt (K.1 0 + 1) 0 0 (lkS K W LW wd gd t) := by
  refine looks_best (fun k h3 o ho => ?_) (fun k h3 p hp hc => ?_) H.2.2.2.1.2.2.2.2.2.2.2.2.2.1
  · obtain ⟨h1, h2, h4, h5, h6, h7, h8⟩ := H
    obtain ⟨a1, a2⟩ := vO_of (gd := gd) h4 h5 h2 h6 h7 h3 o ho
    exact ⟨a1, by omega⟩
  · unfold nV
    show (if canB W gd t k p = true then _ else (1000000 : Int32)).toNatClampNeg = _
    rw [if_neg hc]
    rfl
theorem lim_le (H : LHs K W LW c t wd) : 0 ≤ (W 7).toInt ∧ (W 7).toInt ≤ 9999 := H.2.2.2.1.2.2.2.2.2.2.2.2.2.1.toInt (by decide)
theorem few_iff (H : LHs K W LW c t wd) {m : Int} (hm : m < 1000000) : ((wFew K W LW wd gd t : Int) ≤ m) ↔ ∃ a b c, fe (nV W LW wd gd t) (K.1 0) (W 7).toInt a b c ∧ cs1 a + cs1 b + cs1 c ≤ m := by
  have h := bN_Cm (W := W) (LW := LW) (wd := wd) (gd := gd) (t := t) (K.1 0) 0 (by decide) (left := (W 7).toInt) (m := m) (lim_le H).2 hm
  unfold wFew
  exact h.trans Cm3
theorem few_none (H : LHs K W LW c t wd) (hno : ∀ x y z, ¬ fe (nV W LW wd gd t) (K.1 0) (W 7).toInt x y z) : wFew K W LW wd gd t = 1000000 := by
  have h1 : wFew K W LW wd gd t ≤ 1000000 := bN_le _ _ _ _ _ _ _ _ _
  have h2 : ¬ (wFew K W LW wd gd t : Int) ≤ 999999 := fun q => by
    obtain ⟨a, b, c, h, _⟩ := (few_iff H (by decide)).mp q
    exact hno a b c h
  omega
theorem co_cs1 (x y z : Nat) : cs1 x + cs1 y + cs1 z = (co x y z : Int) := by
  rw [cs1_cs, cs1_cs, cs1_cs]
  unfold co
  omega
/-- the fewest is the same -/
theorem few_same (H : LHs K W LW c t wd) : (lkS K W LW wd gd t).1 = (if wFew K W LW wd gd t = 1000000 then -1 else Int32.ofNat (wFew K W LW wd gd t)) ∧ (wFew K W LW wd gd t = 1000000 ∨ wFew K W LW wd gd t ≤ 3) := by
  rcases lk_best (gd := gd) H with ⟨h1, h2⟩ | ⟨x, y, z, h1, h2, h3, h4⟩
  · have e := few_none (gd := gd) H (fun x y z hf => h2 x y z hf (by
      have := hf.1
      unfold bf
      omega))
    rw [h1, e]
    exact ⟨rfl, Or.inl rfl⟩
  · have hco := co_le x y z
    have le1 : (wFew K W LW wd gd t : Int) ≤ co x y z := (few_iff H (by omega)).mpr ⟨x, y, z, h1, by rw [co_cs1]; exact Int.le_refl _⟩
    obtain ⟨a, b, c', g1, g2⟩ := (few_iff (gd := gd) H (m := (wFew K W LW wd gd t : Int)) (by omega)).mp (Int.le_refl _)
    have le2 := (h4 a b c' g1 (by
      have := g1.1
      unfold bf
      omega)).1
    rw [co_cs1] at g2
    have e : wFew K W LW wd gd t = co x y z := by omega
    rw [h3, e, if_neg (by omega)]
    exact ⟨rfl, Or.inr hco⟩
/-- who comes is the same -/
theorem m_waysBy (H : LHs K W LW c t wd) (C : Mdl s 66 M) (h : LHm W wd gd M) (hw : ¬ wFew K W LW wd gd t = 1000000) : QX I3 (mX12_waysBy 66 (Int32.ofNat t)) s M (lkS K W LW wd gd t).2 := by
  have hlim := lim_le H
  have hb16 : K.1 0 ≤ 16 := H.2.2.1 0 (by decide)
  rcases lk_best (gd := gd) H with ⟨h1, h2⟩ | ⟨x, y, z, h1, h2, h3, h4⟩
  · exact absurd (few_none (gd := gd) H (fun x y z hf => h2 x y z hf (by
      have := hf.1
      unfold bf
      omega))) hw
  have hfew := (few_same (gd := gd) H).1
  rw [h3, if_neg hw] at hfew
  have hco := co_le x y z
  have e : wFew K W LW wd gd t = co x y z := by
    have h9 := (few_same (gd := gd) H).2
    exact ((ofN_inj (by omega) (by omega)).mp hfew).symm
  have inR : ∀ {a b c}, fe (nV W LW wd gd t) (K.1 0) (W 7).toInt a b c → bf (K.1 0 + 1) 0 0 a b c := fun hf => by
    have := hf.1
    unfold bf
    omega
  obtain ⟨hx, hy, hz, hsum⟩ := h1
  have cx := cs_le x
  have cy := cs_le y
  have cz := cs_le z
  have eco : co x y z = cs x + cs y + cs z := rfl
  -- the three steps of numbers
  have n0 : (Int32.ofNat (wFew K W LW wd gd t)).toInt = (co x y z : Int) := by rw [e, ofN_toInt (by omega)]
  have L1 : (W 7 - Int32.ofNat (nV W LW wd gd t 0 x)).toInt = (W 7).toInt - nV W LW wd gd t 0 x := by
    rw [i_sub (by rw [ofN_toInt (by omega)]; omega) (by rw [ofN_toInt (by omega)]; omega), ofN_toInt (by omega)]
  have L2 : (W 7 - Int32.ofNat (nV W LW wd gd t 0 x) - Int32.ofNat (nV W LW wd gd t 1 y)).toInt = (W 7).toInt - nV W LW wd gd t 0 x - nV W LW wd gd t 1 y := by
    rw [i_sub (by rw [L1, ofN_toInt (by omega)]; omega) (by rw [L1, ofN_toInt (by omega)]; omega), L1, ofN_toInt (by omega)]
  have n1 : (Int32.ofNat (wFew K W LW wd gd t) - Int32.ofNat (cs x)).toInt = (co x y z : Int) - cs x := by
    rw [i_sub (by rw [n0, ofN_toInt (by omega)]; omega) (by rw [n0, ofN_toInt (by omega)]; omega), n0, ofN_toInt (by omega)]
  have n2 : (Int32.ofNat (wFew K W LW wd gd t) - Int32.ofNat (cs x) - Int32.ofNat (cs y)).toInt = (co x y z : Int) - cs x - cs y := by
    rw [i_sub (by rw [n1, ofN_toInt (by omega)]; omega) (by rw [n1, ofN_toInt (by omega)]; omega), n1, ofN_toInt (by omega)]
  -- x is the first that is good
  have g0 : gdO (nV W LW wd gd t) (K.1 0) 0 (W 7).toInt (Int32.ofNat (wFew K W LW wd gd t)).toInt x := by
    refine ⟨hx, by omega, y, hy, z, hz, ?_, ?_⟩
    · show 0 ≤ (W 7).toInt - nV W LW wd gd t 0 x - nV W LW wd gd t 1 y - nV W LW wd gd t 2 z
      omega
    · show 0 ≤ (Int32.ofNat (wFew K W LW wd gd t)).toInt - cs1 x - cs1 y - cs1 z
      rw [n0, cs1_cs, cs1_cs, cs1_cs]
      omega
  have m0 : ∀ m, m < x → ¬ gdO (nV W LW wd gd t) (K.1 0) 0 (W 7).toInt (Int32.ofNat (wFew K W LW wd gd t)).toInt m := by
    rintro m hm ⟨q1, q2, b, hb, c', hc, q3, q4⟩
    have q3' : 0 ≤ (W 7).toInt - nV W LW wd gd t 0 m - nV W LW wd gd t 1 b - nV W LW wd gd t 2 c' := q3
    have q4' : 0 ≤ (Int32.ofNat (wFew K W LW wd gd t)).toInt - cs1 m - cs1 b - cs1 c' := q4
    rw [n0, cs1_cs, cs1_cs, cs1_cs] at q4'
    have hf : fe (nV W LW wd gd t) (K.1 0) (W 7).toInt m b c' := ⟨q1, hb, hc, by omega⟩
    have := (h4 m b c' hf (inR hf)).2 (Or.inl hm)
    unfold co at this q4'
    omega
  have g1 : gdO (nV W LW wd gd t) (K.1 0) 1 (W 7 - Int32.ofNat (nV W LW wd gd t 0 x)).toInt (Int32.ofNat (wFew K W LW wd gd t) - Int32.ofNat (cs x)).toInt y := by
    refine ⟨hy, by omega, z, hz, ?_, ?_⟩
    · show 0 ≤ (W 7 - Int32.ofNat (nV W LW wd gd t 0 x)).toInt - nV W LW wd gd t 1 y - nV W LW wd gd t 2 z
      omega
    · show 0 ≤ (Int32.ofNat (wFew K W LW wd gd t) - Int32.ofNat (cs x)).toInt - cs1 y - cs1 z
      rw [n1, cs1_cs, cs1_cs]
      omega
  have m1 : ∀ m, m < y → ¬ gdO (nV W LW wd gd t) (K.1 0) 1 (W 7 - Int32.ofNat (nV W LW wd gd t 0 x)).toInt (Int32.ofNat (wFew K W LW wd gd t) - Int32.ofNat (cs x)).toInt m := by
    rintro m hm ⟨q1, q2, c', hc, q3, q4⟩
    have q3' : 0 ≤ (W 7 - Int32.ofNat (nV W LW wd gd t 0 x)).toInt - nV W LW wd gd t 1 m - nV W LW wd gd t 2 c' := q3
    have q4' : 0 ≤ (Int32.ofNat (wFew K W LW wd gd t) - Int32.ofNat (cs x)).toInt - cs1 m - cs1 c' := q4
    rw [n1, cs1_cs, cs1_cs] at q4'
    rw [L1] at q3'
    have hf : fe (nV W LW wd gd t) (K.1 0) (W 7).toInt x m c' := ⟨hx, q1, hc, by omega⟩
    have := (h4 x m c' hf (inR hf)).2 (Or.inr ⟨rfl, Or.inl hm⟩)
    unfold co at this q4'
    omega
  have g2 : gdO (nV W LW wd gd t) (K.1 0) 2 (W 7 - Int32.ofNat (nV W LW wd gd t 0 x) - Int32.ofNat (nV W LW wd gd t 1 y)).toInt (Int32.ofNat (wFew K W LW wd gd t) - Int32.ofNat (cs x) - Int32.ofNat (cs y)).toInt z := by
    refine ⟨hz, by omega, ?_, ?_⟩
    · rw [L2]
      omega
    · rw [n2, cs1_cs]
      omega
  have m2 : ∀ m, m < z → ¬ gdO (nV W LW wd gd t) (K.1 0) 2 (W 7 - Int32.ofNat (nV W LW wd gd t 0 x) - Int32.ofNat (nV W LW wd gd t 1 y)).toInt (Int32.ofNat (wFew K W LW wd gd t) - Int32.ofNat (cs x) - Int32.ofNat (cs y)).toInt m := by
    rintro m hm ⟨q1, q2, q3, q4⟩
    rw [L2] at q3
    rw [n2, cs1_cs] at q4
    have hf : fe (nV W LW wd gd t) (K.1 0) (W 7).toInt x y m := ⟨hx, hy, q1, by omega⟩
    have := (h4 x y m hf (inR hf)).2 (Or.inr ⟨rfl, Or.inr ⟨rfl, hm⟩⟩)
    unfold co at this q4
    omega
  have fin : (lkS K W LW wd gd t).2 = 0 ||| cb x ||| cb y ||| cb z := by
    rw [h3, Int32.zero_or]
  rw [fin]
  unfold mX12_waysBy
  refine QX.o11 C (QX.get (MD.refs C).2.1 (QX.get (show ldI 0 67 7 s = some (.inl (W 7), s) by rw [← h.1]; exact wrd_ok (i := 7) C (by decide)) (QX.bnd (m_fewest H C h) fun s0 M0 C0 k0 i0 => ?_)))
  have h0 := h.keep k0 i0
  refine QX.bnd (x := 0 ||| cb x ||| cb y ||| cb z) ?_ fun s9 M9 C9 _ _ => QX.ret C9
  rw [loopM_eq]
  refine QX.bnd (show QX I3 (mX12_waysBy_L20 66 (Int32.ofNat t) (W 7, Int32.ofNat (wFew K W LW wd gd t), 0, 0)) s0 M0 _ from m_choose H (k := 0) (by decide) (by omega) hlim.2 (by rw [n0]; omega) (by rw [n0]; omega) g0 m0 C0 h0) fun s1 M1 C1 k1 i1 => ?_
  have h1 := h0.keep k1 i1
  show QX I3 (loopM _ _) s1 M1 _
  rw [loopM_eq]
  refine QX.bnd (m_choose H (k := 1) (by decide) (by omega) (by omega) (by rw [n1]; omega) (by rw [n1]; omega) g1 m1 C1 h1) fun s2 M2 C2 k2 i2 => ?_
  have h2 := h1.keep k2 i2
  show QX I3 (loopM _ _) s2 M2 _
  rw [loopM_eq]
  refine QX.bnd (m_choose H (k := 2) (by decide) (by omega) (by omega) (by rw [n2]; omega) (by rw [n2]; omega) g2 m2 C2 h2) fun s3 M3 C3 k3 i3 => ?_
  show QX I3 (loopM _ _) s3 M3 _
  rw [loopM_eq]
  exact QX.bnd (x := .inr (0 ||| cb x ||| cb y ||| cb z)) (QX.val C3 rfl) fun s4 M4 C4 _ _ => QX.ret C4
end LU
