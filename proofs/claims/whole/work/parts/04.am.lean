/-! THE ABSTRACT MACHINE: a heap of cells by the order of their making; computations over it; how the real heap holds it -/
abbrev AE : Type := (Nat × List Value) ⊕ ((Nat × Nat × (Nat → Int32)) ⊕ ((Nat × Nat × (Nat → Option Nat)) ⊕ (Nat × (Nat → Int64))))
/-- the heap, how many cells it has, and what was used of the room: cells, slots -/
abbrev aS : Type := (Nat → AE) × Nat × Nat × Nat
abbrev MM (α : Type) : Type := aS → Option ((α ⊕ Nat) × aS)
def mret {α : Type} (x : α) : MM α := fun s => some (.inl x, s)
def mbnd {α β : Type} (m : MM α) (f : α → MM β) : MM β := fun s => match m s with
  | some (.inl x, s') => f x s'
  | some (.inr e, s') => some (.inr e, s')
  | none => none
def mthr {α : Type} (e : Nat) : MM α := fun s => some (.inr e, (s.1, s.2.1, s.2.2.1 + 1, s.2.2.2 + 6))
def mfail {α : Type} : MM α := fun _ => none
def hup (h : Nat → AE) (a : Nat) (e : AE) : Nat → AE := fun b => if b = a then e else h b
/-- an object's field -/
def gF (ci k a : Nat) : MM Value := fun s => match s.1 a with
  | .inl (c, fs) => if c = ci ∧ a < s.2.1 then (match fs[k]? with
    | some v => some (.inl v, s)
    | none => none) else none
  | _ => none
def gI (ci k a : Nat) : MM Int32 := mbnd (gF ci k a) fun v => match v with
  | .int x => mret x
  | _ => mfail
def gR (ci k a : Nat) : MM Nat := mbnd (gF ci k a) fun v => match v with
  | .ref r => mret r
  | _ => mfail
def gQ (ci k a : Nat) : MM (Option Nat) := mbnd (gF ci k a) fun v => match v with
  | .ref r => mret (some r)
  | .null => mret none
  | _ => mfail
def pF (ci k a : Nat) (v : Value) : MM Unit := fun s => match s.1 a with
  | .inl (c, fs) => if c = ci ∧ a < s.2.1 ∧ k < fs.length then some (.inl (), (hup s.1 a (.inl (c, fs.set k v)), s.2)) else none
  | _ => none
def pI (ci k a : Nat) (x : Int32) : MM Unit := pF ci k a (.int x)
def pR (ci k a r : Nat) : MM Unit := pF ci k a (.ref r)
def pQ (ci k a : Nat) (r : Option Nat) : MM Unit := pF ci k a (va_rf r)
/-- arrays of numbers: t 0 int, 1 byte; of references: t 2 rows of ints, 3 courts; of longs -/
def ldI (t a : Nat) (i : Int32) : MM Int32 := fun s => match s.1 a with
  | .inr (.inl (t', n, f)) => if t' = t ∧ a < s.2.1 then (if i < 0 ∨ n ≤ i.toNatClampNeg then none else some (.inl (f i.toNatClampNeg), s)) else none
  | _ => none
def stI (t a : Nat) (i x : Int32) : MM Unit := fun s => match s.1 a with
  | .inr (.inl (t', n, f)) => if t' = t ∧ a < s.2.1 then (if i < 0 ∨ n ≤ i.toNatClampNeg then none else some (.inl (), (hup s.1 a (.inr (.inl (t', n, upd f i.toNatClampNeg x))), s.2))) else none
  | _ => none
def ldQ (t a : Nat) (i : Int32) : MM (Option Nat) := fun s => match s.1 a with
  | .inr (.inr (.inl (t', n, f))) => if t' = t ∧ a < s.2.1 then (if i < 0 ∨ n ≤ i.toNatClampNeg then none else some (.inl (f i.toNatClampNeg), s)) else none
  | _ => none
def ldR (t a : Nat) (i : Int32) : MM Nat := mbnd (ldQ t a i) fun v => match v with
  | some r => mret r
  | none => mfail
def stQ (t a : Nat) (i : Int32) (r : Nat) : MM Unit := fun s => match s.1 a with
  | .inr (.inr (.inl (t', n, f))) => if t' = t ∧ a < s.2.1 then (if i < 0 ∨ n ≤ i.toNatClampNeg then none else some (.inl (), (hup s.1 a (.inr (.inr (.inl (t', n, va_up f i.toNatClampNeg (some r))))), s.2))) else none
  | _ => none
def ldL (a : Nat) (i : Int32) : MM Int64 := fun s => match s.1 a with
  | .inr (.inr (.inr (n, f))) => if a < s.2.1 then (if i < 0 ∨ n ≤ i.toNatClampNeg then none else some (.inl (f i.toNatClampNeg), s)) else none
  | _ => none
def stL (a : Nat) (i : Int32) (x : Int64) : MM Unit := fun s => match s.1 a with
  | .inr (.inr (.inr (n, f))) => if a < s.2.1 then (if i < 0 ∨ n ≤ i.toNatClampNeg then none else some (.inl (), (hup s.1 a (.inr (.inr (.inr (n, vp_updL f i.toNatClampNeg x)))), s.2))) else none
  | _ => none
def lenI (t a : Nat) : MM Int32 := fun s => match s.1 a with
  | .inr (.inl (t', n, _)) => if t' = t ∧ a < s.2.1 then some (.inl (Int32.ofNat n), s) else none
  | _ => none
def lenQ (t a : Nat) : MM Int32 := fun s => match s.1 a with
  | .inr (.inr (.inl (t', n, _))) => if t' = t ∧ a < s.2.1 then some (.inl (Int32.ofNat n), s) else none
  | _ => none
def push (s : aS) (e : AE) (k : Nat) : aS := (hup s.1 s.2.1 e, s.2.1 + 1, s.2.2.1 + 1, s.2.2.2 + k)
/-- a new object of N slots -/
def nw (ci N : Nat) (fs : List Value) : MM Nat := fun s => some (.inl s.2.1, push s (.inl (ci, fs)) N)
def nwI (t : Nat) (n : Int32) : MM Nat := fun s => if n < 0 ∨ 100000 < n.toNatClampNeg then none else some (.inl s.2.1, push s (.inr (.inl (t, n.toNatClampNeg, fun _ => 0))) n.toNatClampNeg)
def nwQ (t : Nat) (n : Int32) : MM Nat := fun s => if n < 0 ∨ 100000 < n.toNatClampNeg then none else some (.inl s.2.1, push s (.inr (.inr (.inl (t, n.toNatClampNeg, fun _ => none)))) n.toNatClampNeg)
def nwL (n : Int32) : MM Nat := fun s => if n < 0 ∨ 100000 < n.toNatClampNeg then none else some (.inl s.2.1, push s (.inr (.inr (.inr (n.toNatClampNeg, fun _ => 0)))) n.toNatClampNeg)
/-- System.arraycopy of ints -/
def cpI (t a0 : Nat) (sp : Int32) (a : Nat) (dp n : Int32) : MM Unit := fun s => match s.1 a0, s.1 a with
  | .inr (.inl (t0, n0, f)), .inr (.inl (t1, n1, g)) => if t0 = t ∧ t1 = t ∧ a0 < s.2.1 ∧ a < s.2.1 then (if sp < 0 ∨ dp < 0 ∨ n < 0 ∨ n0 < sp.toNatClampNeg + n.toNatClampNeg ∨ n1 < dp.toNatClampNeg + n.toNatClampNeg then none else
      some (.inl (), (hup s.1 a (.inr (.inl (t1, n1, va_cpy f g sp.toNatClampNeg dp.toNatClampNeg n.toNatClampNeg))), s.2))) else none
  | _, _ => none
/-- the receiver is of that class -/
def onC {α : Type} (ci a : Nat) (k : MM α) : MM α := fun s => match s.1 a with
  | .inl (c, _) => if c = ci ∧ a < s.2.1 then k s else none
  | _ => none
/-- a divisor that isn't 0 -/
def nz {α : Type} (y : Int32) (k : MM α) : MM α := fun s => if y = 0 then none else k s
/-! loops: a step gives the next locals, or the end -/
def loopN {σ ε : Type} (b : σ → MM (σ ⊕ ε)) : Nat → σ → MM ε
  | 0, _ => fun _ => none
  | n + 1, x => mbnd (b x) fun r => match r with
    | .inl y => loopN b n y
    | .inr e => mret e
noncomputable def loopM {σ ε : Type} (b : σ → MM (σ ⊕ ε)) (x : σ) : MM ε := fun s => @dite _ (∃ n, (loopN b n x s).isSome = true) (Classical.propDecidable _) (fun h => loopN b h.choose x s) (fun _ => none)
theorem mret_mbnd {α β : Type} (x : α) (f : α → MM β) : mbnd (mret x) f = f x := rfl
theorem mbnd_mret {α : Type} (m : MM α) : mbnd m mret = m := by
  funext s
  unfold mbnd
  cases h : m s with
  | none => rfl
  | some r =>
    obtain ⟨o, s'⟩ := r
    cases o <;> rfl
theorem mbnd_assoc {α β γ : Type} (m : MM α) (f : α → MM β) (g : β → MM γ) : mbnd (mbnd m f) g = mbnd m (fun x => mbnd (f x) g) := by
  funext s
  unfold mbnd
  cases h : m s with
  | none => rfl
  | some r =>
    obtain ⟨o, s'⟩ := r
    cases o <;> rfl
theorem mbnd_some {α β : Type} {m : MM α} {f : α → MM β} {s s' : aS} {o : β ⊕ Nat} (h : mbnd m f s = some (o, s')) : (∃ x s1, m s = some (.inl x, s1) ∧ f x s1 = some (o, s')) ∨ ∃ e, m s = some (.inr e, s') ∧ o = .inr e := by
  unfold mbnd at h
  cases hm : m s with
  | none => rw [hm] at h; cases h
  | some r =>
    obtain ⟨q, s1⟩ := r
    rw [hm] at h
    cases q with
    | inl x => exact Or.inl ⟨x, s1, rfl, h⟩
    | inr e => cases h; exact Or.inr ⟨e, rfl, rfl⟩
theorem loopN_mono {σ ε : Type} {b : σ → MM (σ ⊕ ε)} : ∀ (n : Nat) (x : σ) (s : aS) (r : (ε ⊕ Nat) × aS), loopN b n x s = some r → ∀ m, n ≤ m → loopN b m x s = some r := by
  intro n
  induction n with
  | zero => intro x s r h; cases h
  | succ n ih =>
    intro x s r h m hm
    obtain ⟨m', rfl⟩ : ∃ m', m = m' + 1 := ⟨m - 1, by omega⟩
    obtain ⟨o, s'⟩ := r
    show mbnd (b x) _ s = _
    rcases mbnd_some (show mbnd (b x) _ s = some (o, s') from h) with ⟨y, s1, h1, h2⟩ | ⟨e, h1, h2⟩
    · unfold mbnd
      rw [h1]
      cases y with
      | inl y => exact ih y s1 _ h2 m' (by omega)
      | inr e => exact h2
    · unfold mbnd
      rw [h1, h2]
theorem loopM_of {σ ε : Type} {b : σ → MM (σ ⊕ ε)} {n : Nat} {x : σ} {s : aS} {r : (ε ⊕ Nat) × aS} (h : loopN b n x s = some r) : loopM b x s = some r := by
  have hex : ∃ n, (loopN b n x s).isSome = true := ⟨n, by rw [h]; rfl⟩
  unfold loopM
  rw [dif_pos hex]
  cases h2 : loopN b hex.choose x s with
  | none => have := hex.choose_spec; rw [h2] at this; cases this
  | some r2 =>
    have h3 := loopN_mono _ x s r2 h2 (n + hex.choose) (by omega)
    have h4 := loopN_mono _ x s r h (n + hex.choose) (by omega)
    exact h3.symm.trans h4
theorem loopM_some {σ ε : Type} {b : σ → MM (σ ⊕ ε)} {x : σ} {s : aS} {r : (ε ⊕ Nat) × aS} (h : loopM b x s = some r) : ∃ n, loopN b n x s = some r := by
  unfold loopM at h
  split at h
  · next hex => exact ⟨_, h⟩
  · cases h
/-- a loop's equation -/
theorem loopM_eq {σ ε : Type} (b : σ → MM (σ ⊕ ε)) (x : σ) : loopM b x = mbnd (b x) fun r => match r with
    | .inl y => loopM b y
    | .inr e => mret e := by
  funext s
  cases hm : b x s with
  | none =>
    have h2 : loopM b x s = none := by
      cases h : loopM b x s with
      | none => rfl
      | some r =>
        obtain ⟨n, hn⟩ := loopM_some h
        cases n with
        | zero => cases hn
        | succ n =>
          have : mbnd (b x) _ s = some r := hn
          unfold mbnd at this
          rw [hm] at this
          cases this
    rw [h2]
    unfold mbnd
    rw [hm]
  | some r =>
    obtain ⟨q, s1⟩ := r
    cases q with
    | inr e =>
      have h1 : loopN b 1 x s = some (.inr e, s1) := by
        show mbnd (b x) _ s = _
        unfold mbnd
        rw [hm]
      rw [loopM_of h1]
      unfold mbnd
      rw [hm]
    | inl y =>
      cases y with
      | inr e =>
        have h1 : loopN b 1 x s = some (.inl e, s1) := by
          show mbnd (b x) _ s = _
          unfold mbnd
          rw [hm]
          rfl
        rw [loopM_of h1]
        unfold mbnd
        rw [hm]
        rfl
      | inl y =>
        have e1 : mbnd (b x) (fun r => match r with
          | .inl y => loopM b y
          | .inr e => mret e) s = loopM b y s1 := by
          unfold mbnd
          rw [hm]
        rw [e1]
        cases h2 : loopM b y s1 with
        | some r =>
          obtain ⟨n, hn⟩ := loopM_some h2
          refine loopM_of (n := n + 1) ?_
          show mbnd (b x) _ s = _
          unfold mbnd
          rw [hm]
          exact hn
        | none =>
          cases h3 : loopM b x s with
          | none => rfl
          | some r =>
            obtain ⟨n, hn⟩ := loopM_some h3
            cases n with
            | zero => cases hn
            | succ n =>
              have : mbnd (b x) _ s = some r := hn
              unfold mbnd at this
              rw [hm] at this
              rw [loopM_of (show loopN b n y s1 = some r from this)] at h2
              cases h2
