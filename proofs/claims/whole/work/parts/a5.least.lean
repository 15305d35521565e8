/-! LAUNDERING: what the reference's count means -/
def cs1 (o : Nat) : Int := if o = 0 then 0 else 1
/-- from the last d sorts ways can be chosen that sum to left at most, with m swaps at most -/
def Cm (V : Nat → Nat → Nat) (np : Nat) : Nat → Int → Int → Prop
  | 0, left, m => 0 ≤ left ∧ 0 ≤ m
  | d + 1, left, m => ∃ o, o ≤ np ∧ Cm V np d (left - V (2 - d) o) (m - cs1 o)
theorem Cm_left {V : Nat → Nat → Nat} {np : Nat} : ∀ {d : Nat} {left m : Int}, Cm V np d left m → 0 ≤ left
  | 0, _, _, h => h.1
  | d + 1, left, m, ⟨o, _, h⟩ => by
    have := Cm_left h
    omega
theorem Cm_mono {V : Nat → Nat → Nat} {np : Nat} : ∀ {d : Nat} {left left' m m' : Int}, Cm V np d left m → left ≤ left' → m ≤ m' → Cm V np d left' m'
  | 0, _, _, _, _, h, h1, h2 => ⟨Int.le_trans h.1 h1, Int.le_trans h.2 h2⟩
  | d + 1, left, left', m, m', ⟨o, ho, h⟩, h1, h2 => ⟨o, ho, Cm_mono h (by omega) (by omega)⟩
section CM
variable {W : Nat → Int32} {LW : Option (List Ln)} {wd gd : Int32} {t : Nat}
theorem lsN_min (k : Nat) : ∀ (n p : Nat), p < n → lsN W LW wd gd t k n ≤ nV W LW wd gd t k (p + 1)
  | 0, p, h => absurd h (Nat.not_lt_zero p)
  | n + 1, p, h => by
    have e : lsN W LW wd gd t k (n + 1) = min (lsN W LW wd gd t k n) (nV W LW wd gd t k (n + 1)) := rfl
    rw [e]
    rcases Nat.lt_or_ge p n with q | q
    · have := lsN_min k n p q
      omega
    · have : p = n := by omega
      subst this
      omega
theorem lsN_or (k : Nat) : ∀ n, lsN W LW wd gd t k n = 1000000 ∨ ∃ p, p < n ∧ lsN W LW wd gd t k n = nV W LW wd gd t k (p + 1)
  | 0 => Or.inl rfl
  | n + 1 => by
    have e : lsN W LW wd gd t k (n + 1) = min (lsN W LW wd gd t k n) (nV W LW wd gd t k (n + 1)) := rfl
    rw [e]
    rcases Nat.le_total (lsN W LW wd gd t k n) (nV W LW wd gd t k (n + 1)) with q | q
    · rw [Nat.min_eq_left q]
      exact (lsN_or k n).imp id fun ⟨p, h1, h2⟩ => ⟨p, Nat.lt_succ_of_lt h1, h2⟩
    · rw [Nat.min_eq_right q]
      exact Or.inr ⟨n, Nat.lt_succ_self n, rfl⟩
theorem sN_first (np k set : Nat) : ∀ i, sN W LW wd gd t np k set (i + 1) = (if set.testBit 0 = true then lsN W LW wd gd t k np else nV W LW wd gd t k 0) + sN W LW wd gd t np (k + 1) (set / 2) i
  | 0 => by
    show 0 + (if set.testBit 0 = true then lsN W LW wd gd t (k + 0) np else nV W LW wd gd t (k + 0) 0) = _ + 0
    rw [Nat.zero_add, Nat.add_zero, Nat.add_zero]
  | i + 1 => by
    have e1 : sN W LW wd gd t np k set (i + 1 + 1) = sN W LW wd gd t np k set (i + 1) + (if set.testBit (i + 1) = true then lsN W LW wd gd t (k + (i + 1)) np else nV W LW wd gd t (k + (i + 1)) 0) := rfl
    have e2 : sN W LW wd gd t np (k + 1) (set / 2) (i + 1) = sN W LW wd gd t np (k + 1) (set / 2) i + (if (set / 2).testBit i = true then lsN W LW wd gd t (k + 1 + i) np else nV W LW wd gd t (k + 1 + i) 0) := rfl
    rw [e1, e2, sN_first np k set i, Nat.testBit_succ, show k + (i + 1) = k + 1 + i by omega]
    omega
theorem bN_iff (np k : Nat) (left m : Int) : ∀ n, ((bN W LW wd gd t np k left n : Int) ≤ m ↔ (1000000 : Int) ≤ m ∨ ∃ j, j < n ∧ (sN W LW wd gd t np k j (3 - k) : Int) ≤ left ∧ (bc j : Int) ≤ m)
  | 0 => ⟨fun h => Or.inl h, fun h => h.elim id fun ⟨j, hj, _⟩ => absurd hj (Nat.not_lt_zero j)⟩
  | n + 1 => by
    have ih := bN_iff np k left m n
    have e : bN W LW wd gd t np k left (n + 1) = (if (sN W LW wd gd t np k n (3 - k) : Int) ≤ left then min (bN W LW wd gd t np k left n) (bc n) else bN W LW wd gd t np k left n) := rfl
    rw [e]
    by_cases q : (sN W LW wd gd t np k n (3 - k) : Int) ≤ left
    · rw [if_pos q]
      have hm : ((min (bN W LW wd gd t np k left n) (bc n) : Nat) : Int) ≤ m ↔ (bN W LW wd gd t np k left n : Int) ≤ m ∨ (bc n : Int) ≤ m := by omega
      rw [hm, ih]
      constructor
      · rintro ((h | ⟨j, h1, h2⟩) | h)
        · exact Or.inl h
        · exact Or.inr ⟨j, Nat.lt_succ_of_lt h1, h2⟩
        · exact Or.inr ⟨n, Nat.lt_succ_self n, q, h⟩
      · rintro (h | ⟨j, h1, h2, h3⟩)
        · exact Or.inl (Or.inl h)
        · rcases Nat.lt_or_ge j n with z | z
          · exact Or.inl (Or.inr ⟨j, z, h2, h3⟩)
          · have : j = n := by omega
            subst this
            exact Or.inr h3
    · rw [if_neg q, ih]
      constructor
      · exact fun h => h.imp id fun ⟨j, h1, h2⟩ => ⟨j, Nat.lt_succ_of_lt h1, h2⟩
      · refine fun h => h.imp id fun ⟨j, h1, h2, h3⟩ => ⟨j, ?_, h2, h3⟩
        rcases Nat.lt_or_ge j n with z | z
        · exact z
        · have : j = n := by omega
          subst this
          exact absurd h2 q
theorem bc_half (j : Nat) (hj : j < 8) : bc j = j % 2 + bc (j / 2) := by
  unfold bc
  omega
theorem sets_Cm (np : Nat) : ∀ (d : Nat), d ≤ 3 → ∀ (left m : Int), left ≤ 9999 → ((∃ j, j < 2 ^ d ∧ (sN W LW wd gd t np (3 - d) j d : Int) ≤ left ∧ (bc j : Int) ≤ m) ↔ Cm (nV W LW wd gd t) np d left m)
  | 0, _, left, m, _ => by
    constructor
    · rintro ⟨j, h1, h2, h3⟩
      have : j = 0 := by omega
      subst this
      exact ⟨h2, h3⟩
    · exact fun h => ⟨0, by decide, h.1, h.2⟩
  | d + 1, hd, left, m, hl => by
    have k1 : 3 - (d + 1) + 1 = 3 - d := by omega
    have k2 : 3 - (d + 1) = 2 - d := by omega
    have hp8 : 2 ^ (d + 1) ≤ 8 := by
      have : d = 0 ∨ d = 1 ∨ d = 2 := by omega
      rcases this with rfl | rfl | rfl <;> decide
    have hpp : 2 ^ (d + 1) = 2 * 2 ^ d := by rw [Nat.pow_succ, Nat.mul_comm]
    have ih := sets_Cm np d (by omega)
    constructor
    · rintro ⟨j, h1, h2, h3⟩
      rw [sN_first, k1, k2] at h2
      have hbc := bc_half j (by omega)
      have hj2 : j / 2 < 2 ^ d := by omega
      by_cases hb : j.testBit 0 = true
      · rw [if_pos hb] at h2
        have hmod : j % 2 = 1 := by
          rw [Nat.testBit_zero] at hb
          simpa using hb
        rcases lsN_or (W := W) (LW := LW) (wd := wd) (gd := gd) (t := t) (2 - d) np with q | ⟨p, hp, q⟩
        · omega
        · refine ⟨p + 1, by omega, (ih _ _ (by omega)).mp ⟨j / 2, hj2, ?_, ?_⟩⟩
          · omega
          · show (bc (j / 2) : Int) ≤ m - (if p + 1 = 0 then 0 else 1)
            rw [if_neg (by omega)]
            omega
      · rw [if_neg hb] at h2
        have hmod : j % 2 = 0 := by
          rw [Nat.testBit_zero] at hb
          have : ¬ j % 2 = 1 := by simpa using hb
          omega
        refine ⟨0, Nat.zero_le _, (ih _ _ (by omega)).mp ⟨j / 2, hj2, ?_, ?_⟩⟩
        · omega
        · show (bc (j / 2) : Int) ≤ m - (if 0 = 0 then 0 else 1)
          rw [if_pos rfl]
          omega
    · rintro ⟨o, ho, h⟩
      have hleft := Cm_left h
      cases o with
      | zero =>
        obtain ⟨j, h1, h2, h3⟩ := (ih _ _ (by omega)).mpr h
        have h3' : (bc j : Int) ≤ m - (if 0 = 0 then 0 else 1) := h3
        rw [if_pos rfl] at h3'
        have hb0 : ¬ (2 * j).testBit 0 = true := by
          rw [Nat.testBit_zero]
          simp
        refine ⟨2 * j, by omega, ?_, ?_⟩
        · rw [sN_first, k1, k2, if_neg hb0, show 2 * j / 2 = j by omega]
          omega
        · rw [bc_half (2 * j) (by omega), show 2 * j / 2 = j by omega]
          omega
      | succ p =>
        have hmin := lsN_min (W := W) (LW := LW) (wd := wd) (gd := gd) (t := t) (2 - d) np p (by omega)
        have h9 : Cm (nV W LW wd gd t) np d (left - lsN W LW wd gd t (2 - d) np) (m - 1) := Cm_mono h (by omega) (by
          show m - (if p + 1 = 0 then 0 else 1) ≤ m - 1
          rw [if_neg (by omega)]
          exact Int.le_refl _)
        obtain ⟨j, h1, h2, h3⟩ := (ih _ _ (by omega)).mpr h9
        have hb0 : (2 * j + 1).testBit 0 = true := by
          rw [Nat.testBit_zero]
          simp
        refine ⟨2 * j + 1, by omega, ?_, ?_⟩
        · rw [sN_first, k1, k2, if_pos hb0, show (2 * j + 1) / 2 = j by omega]
          omega
        · rw [bc_half (2 * j + 1) (by omega), show (2 * j + 1) / 2 = j by omega]
          omega
/-- the reference's count and what can be chosen -/
theorem bN_Cm (np k : Nat) (hk : k ≤ 3) {left m : Int} (hl : left ≤ 9999) (hm : m < 1000000) : ((bN W LW wd gd t np k left (2 ^ (3 - k)) : Int) ≤ m ↔ Cm (nV W LW wd gd t) np (3 - k) left m) := by
  rw [bN_iff, ← sets_Cm np (3 - k) (by omega) left m hl, show 3 - (3 - k) = k by omega]
  constructor
  · exact fun h => h.elim (fun q => absurd q (by omega)) id
  · exact Or.inr
/-- three ways that do -/
def fe (V : Nat → Nat → Nat) (np : Nat) (lim : Int) (a b c : Nat) : Prop := a ≤ np ∧ b ≤ np ∧ c ≤ np ∧ (V 0 a : Int) + V 1 b + V 2 c ≤ lim
theorem Cm3 {V : Nat → Nat → Nat} {np : Nat} {lim m : Int} : Cm V np 3 lim m ↔ ∃ a b c, fe V np lim a b c ∧ cs1 a + cs1 b + cs1 c ≤ m := by
  constructor
  · rintro ⟨a, ha, b, hb, c, hc, h1, h2⟩
    have h1' : 0 ≤ lim - V 0 a - V 1 b - V 2 c := h1
    exact ⟨a, b, c, ⟨ha, hb, hc, by omega⟩, by omega⟩
  · rintro ⟨a, b, c, ⟨ha, hb, hc, h⟩, h2⟩
    exact ⟨a, ha, b, hb, c, hc, show 0 ≤ lim - V 0 a - V 1 b - V 2 c by omega, by omega⟩
end CM
