/-! CELL: serving, the days of an order -/
def sv (p : Nat → Bool) : Nat → Nat → Nat → Nat
  | 0, d, _ => d
  | F + 1, d, l => if l = 0 then d else sv p F (d + 1) (if p d = true then l else l - 1)
def dv (p : Nat → Bool) : Nat → Nat → Nat → Nat
  | 0, d, _ => d
  | F + 1, d, l => if l = 0 then d else if 64 < d then d else dv p F (d + 1) (if p d = true then l else l - 1)
theorem sv_ge (p : Nat → Bool) : ∀ F d l, d ≤ sv p F d l ∧ sv p F d l ≤ d + F
  | 0, d, _ => ⟨Nat.le_refl _, Nat.le_refl _⟩
  | F + 1, d, l => by
    show d ≤ (if l = 0 then d else sv p F (d + 1) (if p d = true then l else l - 1)) ∧ (if l = 0 then d else sv p F (d + 1) (if p d = true then l else l - 1)) ≤ d + (F + 1)
    split
    · exact ⟨Nat.le_refl _, by omega⟩
    · have := sv_ge p F (d + 1) (if p d = true then l else l - 1)
      omega
theorem sv_sum {p : Nat → Bool} (hp : ∀ d, 32 ≤ d → p d = false) : ∀ F d l, l + (32 - d) ≤ F → d + l ≤ sv p F d l
  | 0, d, l, h => by
    show d + l ≤ d
    omega
  | F + 1, d, l, h => by
    show d + l ≤ (if l = 0 then d else sv p F (d + 1) (if p d = true then l else l - 1))
    by_cases e : l = 0
    · rw [if_pos e]
      omega
    rw [if_neg e]
    by_cases q : p d = true
    · rw [if_pos q]
      have h32 : d < 32 := by
        rcases Nat.lt_or_ge d 32 with z | z
        · exact z
        · rw [hp d z] at q
          nomatch q
      have := sv_sum hp F (d + 1) l (by omega)
      omega
    · rw [if_neg q]
      have := sv_sum hp F (d + 1) (l - 1) (by omega)
      omega
theorem dv_sv (p : Nat → Bool) : ∀ F d l, (sv p F d l ≤ 64 → dv p F d l = sv p F d l) ∧ (64 < sv p F d l → 64 < dv p F d l)
  | 0, d, _ => ⟨fun _ => rfl, id⟩
  | F + 1, d, l => by
    show ((if l = 0 then d else sv p F (d + 1) (if p d = true then l else l - 1)) ≤ 64 → (if l = 0 then d else if 64 < d then d else dv p F (d + 1) (if p d = true then l else l - 1)) = (if l = 0 then d else sv p F (d + 1) (if p d = true then l else l - 1))) ∧ (64 < (if l = 0 then d else sv p F (d + 1) (if p d = true then l else l - 1)) → 64 < (if l = 0 then d else if 64 < d then d else dv p F (d + 1) (if p d = true then l else l - 1)))
    by_cases e : l = 0
    · rw [if_pos e, if_pos e]
      exact ⟨fun _ => rfl, id⟩
    rw [if_neg e, if_neg e]
    by_cases q : 64 < d
    · rw [if_pos q]
      have := (sv_ge p F (d + 1) (if p d = true then l else l - 1)).1
      exact ⟨fun z => by omega, fun _ => q⟩
    · rw [if_neg q]
      exact dv_sv p F (d + 1) _
theorem dv_le (p : Nat → Bool) : ∀ F d l, d ≤ 65 → d ≤ dv p F d l ∧ dv p F d l ≤ 65
  | 0, d, _, h => ⟨Nat.le_refl _, h⟩
  | F + 1, d, l, h => by
    show d ≤ (if l = 0 then d else if 64 < d then d else dv p F (d + 1) (if p d = true then l else l - 1)) ∧ (if l = 0 then d else if 64 < d then d else dv p F (d + 1) (if p d = true then l else l - 1)) ≤ 65
    split
    · exact ⟨Nat.le_refl _, h⟩
    · split
      · exact ⟨Nat.le_refl _, h⟩
      · have := dv_le p F (d + 1) (if p d = true then l else l - 1) (by omega)
        omega
theorem dv_stay (p : Nat → Bool) {d : Nat} (h : 64 < d) : ∀ F l, dv p F d l = d
  | 0, _ => rfl
  | F + 1, l => by
    show (if l = 0 then d else if 64 < d then d else dv p F (d + 1) (if p d = true then l else l - 1)) = d
    by_cases e : l = 0
    · rw [if_pos e]
    · rw [if_neg e, if_pos h]
/-- is the tool needed on that day -/
def ndB (W : Nat → Int32) (t d : Nat) : Bool := decide (d < 32) && bt (W (141 + 4 * t + 3)) d
theorem ndB_32 (W : Nat → Int32) (t : Nat) : ∀ d, 32 ≤ d → ndB W t d = false := fun d h => by
  unfold ndB
  rw [decide_eq_false (by omega)]
  rfl
def sen (W : Nat → Int32) (t : Nat) : Nat := ((wans W t).toNatClampNeg + 9) / 10
def svN (W : Nat → Int32) (l : List Nat) : Nat → Nat
  | 0 => 0
  | i + 1 => sv (ndB W (gt l i)) (sen W (gt l i) + 32) (svN W l i) (sen W (gt l i))
def clN (W : Nat → Int32) (l : List Nat) : Nat → Nat
  | 0 => 0
  | i + 1 => dv (ndB W (gt l i)) (sen W (gt l i) + 32) (clN W l i) (sen W (gt l i))
theorem clN_svN (W : Nat → Int32) (l : List Nat) : ∀ i, (svN W l i ≤ 64 → clN W l i = svN W l i) ∧ (64 < svN W l i → 64 < clN W l i) ∧ clN W l i ≤ 65
  | 0 => ⟨fun _ => rfl, id, Nat.zero_le _⟩
  | i + 1 => by
    obtain ⟨h1, h2, h3⟩ := clN_svN W l i
    have g := sv_ge (ndB W (gt l i)) (sen W (gt l i) + 32) (svN W l i) (sen W (gt l i))
    have c := dv_le (ndB W (gt l i)) (sen W (gt l i) + 32) (clN W l i) (sen W (gt l i)) h3
    show (sv _ _ (svN W l i) _ ≤ 64 → dv _ _ (clN W l i) _ = sv _ _ (svN W l i) _) ∧ (64 < sv _ _ (svN W l i) _ → 64 < dv _ _ (clN W l i) _) ∧ dv _ _ (clN W l i) _ ≤ 65
    rcases Nat.lt_or_ge 64 (svN W l i) with q | q
    · have e := dv_stay (ndB W (gt l i)) (h2 q) (sen W (gt l i) + 32) (sen W (gt l i))
      rw [e]
      exact ⟨fun z => by omega, fun _ => h2 q, h3⟩
    · rw [h1 q]
      have := dv_sv (ndB W (gt l i)) (sen W (gt l i) + 32) (svN W l i) (sen W (gt l i))
      rw [h1 q] at c
      exact ⟨this.1, this.2, c.2⟩
def senS (W : Nat → Int32) (l : List Nat) : Nat := (l.map (sen W)).sum
def senN (W : Nat → Int32) (l : List Nat) : Nat → Nat
  | 0 => 0
  | i + 1 => senN W l i + sen W (gt l i)
theorem senN_le (W : Nat → Int32) (l : List Nat) : ∀ i, senN W l i ≤ svN W l i
  | 0 => Nat.le_refl 0
  | i + 1 => by
    have ih := senN_le W l i
    have := sv_sum (ndB_32 W (gt l i)) (sen W (gt l i) + 32) (svN W l i) (sen W (gt l i)) (by omega)
    show senN W l i + sen W (gt l i) ≤ sv (ndB W (gt l i)) (sen W (gt l i) + 32) (svN W l i) (sen W (gt l i))
    omega
theorem senN_take (W : Nat → Int32) (l : List Nat) : ∀ i, i ≤ l.length → senN W l i = senS W (l.take i)
  | 0, _ => rfl
  | i + 1, h => by
    show senN W l i + sen W (gt l i) = _
    rw [senN_take W l i (by omega), List.take_succ_eq_append_getElem (by omega)]
    unfold senS gt
    rw [List.map_append, List.sum_append, List.getD_eq_getElem?_getD, List.getElem?_eq_getElem (by omega)]
    simp
theorem senN_all (W : Nat → Int32) (l : List Nat) : senN W l l.length = senS W l := by
  rw [senN_take W l _ (Nat.le_refl _), List.take_length]
theorem sum_perm {l m : List Nat} (h : l.Perm m) : l.sum = m.sum := by
  induction h with
  | nil => rfl
  | cons x _ ih => rw [List.sum_cons, List.sum_cons, ih]
  | swap x y l =>
    rw [List.sum_cons, List.sum_cons, List.sum_cons, List.sum_cons]
    omega
  | trans _ _ a b => rw [a, b]
theorem senS_perm (W : Nat → Int32) {l m : List Nat} (h : l.Perm m) : senS W l = senS W m := sum_perm (h.map _)
