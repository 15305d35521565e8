/-! RUNNING THE COMPUTATIONS: what each step answers where the heap is known -/
theorem bnd_ok {α β : Type} {m : MM α} {f : α → MM β} {s s' : aS} {v : α} (h : m s = some (.inl v, s')) : mbnd m f s = f v s' := by
  unfold mbnd
  rw [h]
/-- an object, an array of numbers stands there -/
def hasO (s : aS) (a ci : Nat) (fs : List Value) : Prop := s.1 a = .inl (ci, fs) ∧ a < s.2.1
def hasI (s : aS) (a t n : Nat) (f : Nat → Int32) : Prop := s.1 a = .inr (.inl (t, n, f)) ∧ a < s.2.1
/-- the heap with another entry at a -/
def sup (s : aS) (a : Nat) (e : AE) : aS := (hup s.1 a e, s.2)
theorem hasO_sup {s : aS} {a b ci : Nat} {fs : List Value} {e : AE} (h : hasO s a ci fs) (hab : a ≠ b) : hasO (sup s b e) a ci fs := ⟨(if_neg hab).trans h.1, h.2⟩
theorem hasI_sup {s : aS} {a b t n : Nat} {f : Nat → Int32} {e : AE} (h : hasI s a t n f) (hab : a ≠ b) : hasI (sup s b e) a t n f := ⟨(if_neg hab).trans h.1, h.2⟩
theorem hasO_put {s : aS} {a ci : Nat} {fs : List Value} (h : a < s.2.1) : hasO (sup s a (.inl (ci, fs))) a ci fs := ⟨if_pos rfl, h⟩
theorem hasI_put {s : aS} {a t n : Nat} {f : Nat → Int32} (h : a < s.2.1) : hasI (sup s a (.inr (.inl (t, n, f)))) a t n f := ⟨if_pos rfl, h⟩
theorem OI_ne {s : aS} {a b ci t n : Nat} {fs : List Value} {f : Nat → Int32} (h : hasO s a ci fs) (g : hasI s b t n f) : a ≠ b := fun e => by
  subst e
  have := h.1.symm.trans g.1
  cases this
section RU
variable {s s' : aS} {a ci k t n : Nat} {fs : List Value} {f : Nat → Int32} {α β : Type}
theorem onC_ok {m : MM α} (h : hasO s a ci fs) : onC ci a m s = m s := by
  unfold onC
  rw [h.1]
  exact if_pos ⟨rfl, h.2⟩
theorem gF_ok {v : Value} (h : hasO s a ci fs) (hk : fs[k]? = some v) : gF ci k a s = some (.inl v, s) := by
  unfold gF
  rw [h.1]
  show (if ci = ci ∧ a < s.2.1 then _ else none) = _
  rw [if_pos ⟨rfl, h.2⟩, hk]
theorem gI_ok {x : Int32} (h : hasO s a ci fs) (hk : fs[k]? = some (.int x)) : gI ci k a s = some (.inl x, s) := bnd_ok (gF_ok h hk)
theorem gR_ok {r : Nat} (h : hasO s a ci fs) (hk : fs[k]? = some (.ref r)) : gR ci k a s = some (.inl r, s) := bnd_ok (gF_ok h hk)
theorem gQ_ok {r : Option Nat} (h : hasO s a ci fs) (hk : fs[k]? = some (va_rf r)) : gQ ci k a s = some (.inl r, s) := by
  refine (bnd_ok (gF_ok h hk)).trans ?_
  cases r <;> rfl
theorem pF_ok {v : Value} (h : hasO s a ci fs) (hk : k < fs.length) : pF ci k a v s = some (.inl (), sup s a (.inl (ci, fs.set k v))) := by
  unfold pF
  rw [h.1]
  exact if_pos ⟨rfl, h.2, hk⟩
theorem ldI_ok {i : Int32} (h : hasI s a t n f) (h0 : ¬ i < 0) (h1 : i.toNatClampNeg < n) : ldI t a i s = some (.inl (f i.toNatClampNeg), s) := by
  unfold ldI
  rw [h.1]
  show (if t = t ∧ a < s.2.1 then (if i < 0 ∨ n ≤ i.toNatClampNeg then none else _) else none) = _
  rw [if_pos ⟨rfl, h.2⟩, if_neg (fun q => q.elim h0 (fun q => absurd h1 (Nat.not_lt.mpr q)))]
theorem stI_ok {i x : Int32} (h : hasI s a t n f) (h0 : ¬ i < 0) (h1 : i.toNatClampNeg < n) : stI t a i x s = some (.inl (), sup s a (.inr (.inl (t, n, upd f i.toNatClampNeg x)))) := by
  unfold stI
  rw [h.1]
  show (if t = t ∧ a < s.2.1 then (if i < 0 ∨ n ≤ i.toNatClampNeg then none else _) else none) = _
  rw [if_pos ⟨rfl, h.2⟩, if_neg (fun q => q.elim h0 (fun q => absurd h1 (Nat.not_lt.mpr q)))]
  rfl
theorem lenI_ok (h : hasI s a t n f) : lenI t a s = some (.inl (Int32.ofNat n), s) := by
  unfold lenI
  rw [h.1]
  exact if_pos ⟨rfl, h.2⟩
theorem nox_ok {m : MM α} {v : α} (h : m s = some (.inl v, s')) : nox m s = some (.inl v, s') := by
  unfold nox
  rw [h]
/-- a loop whose rounds are known -/
theorem loop_steps {σ ε : Type} {b : σ → MM (σ ⊕ ε)} {e : ε} (N : Nat) (X : Nat → σ) (S : Nat → aS) (hs : ∀ j, j < N → b (X j) (S j) = some (.inl (.inl (X (j + 1))), S (j + 1))) (he : b (X N) (S N) = some (.inl (.inr e), s')) : loopM b (X 0) (S 0) = some (.inl e, s') := by
  have key : ∀ m, m ≤ N → loopM b (X (N - m)) (S (N - m)) = some (.inl e, s') := by
    intro m
    induction m with
    | zero =>
      intro _
      rw [loopM_eq, Nat.sub_zero]
      exact bnd_ok he
    | succ m ih =>
      intro hm
      rw [loopM_eq]
      have h := hs (N - (m + 1)) (by omega)
      rw [show N - (m + 1) + 1 = N - m by omega] at h
      exact (bnd_ok h).trans (ih (by omega))
  have h := key N (Nat.le_refl N)
  rwa [Nat.sub_self] at h
end RU
/-! numbers -/
theorem ofN_toInt {n : Nat} (h : n < 2 ^ 31) : (Int32.ofNat n).toInt = (n : Int) := Int32.toInt_ofNat_of_lt h
theorem ofN_cl {n : Nat} (h : n < 2 ^ 31) : (Int32.ofNat n).toNatClampNeg = n := by
  show (Int32.ofNat n).toInt.toNat = n
  rw [ofN_toInt h]
  exact Int.toNat_natCast n
theorem i32_nn {x : Int32} (h : ¬ x < 0) : x.toInt = (x.toNatClampNeg : Int) := by
  have h3 := Int32.le_iff_toInt_le.mp (Int32.not_lt.mp h)
  have h4 : (0 : Int) ≤ x.toInt := h3
  show x.toInt = (x.toInt.toNat : Int)
  omega
theorem i32_of {x : Int32} (h : ¬ x < 0) : x = Int32.ofNat x.toNatClampNeg := by
  apply Int32.toInt_inj.mp
  have hb : x.toInt < 2 ^ 31 := Int32.toInt_lt x
  have h1 := i32_nn h
  rw [ofN_toInt (by omega), h1]
theorem ofN_nn {n : Nat} (h : n < 2 ^ 31) : ¬ Int32.ofNat n < 0 := fun q => by
  have := Int32.lt_iff_toInt_lt.mp q
  rw [ofN_toInt h] at this
  have h0 : (0 : Int32).toInt = 0 := rfl
  omega
theorem ofN_lt {n m : Nat} (hn : n < 2 ^ 31) (hm : m < 2 ^ 31) : Int32.ofNat n < Int32.ofNat m ↔ n < m := by
  rw [Int32.lt_iff_toInt_lt, ofN_toInt hn, ofN_toInt hm]
  omega
theorem ofN_le {n m : Nat} (hn : n < 2 ^ 31) (hm : m < 2 ^ 31) : Int32.ofNat n ≤ Int32.ofNat m ↔ n ≤ m := by
  rw [Int32.le_iff_toInt_le, ofN_toInt hn, ofN_toInt hm]
  omega
theorem ofN_add (n m : Nat) : Int32.ofNat n + Int32.ofNat m = Int32.ofNat (n + m) := (Int32.ofNat_add n m).symm
theorem ofN_mul (n m : Nat) : Int32.ofNat n * Int32.ofNat m = Int32.ofNat (n * m) := (Int32.ofNat_mul n m).symm
