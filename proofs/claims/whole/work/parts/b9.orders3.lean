/-! CELL: the orders are at most 720, each of the same tools -/
def chk (base : List Nat) : Nat → List Nat → Bool
  | 0, _ => false
  | F + 1, l => l.isPerm base && (match nx l with
    | none => true
    | some l' => chk base F l')
def gl6 (b0 b1 b2 b3 b4 b5 : Bool) : List Nat := ((((([] ++ (if b0 then [0] else [])) ++ (if b1 then [1] else [])) ++ (if b2 then [2] else [])) ++ (if b3 then [3] else [])) ++ (if b4 then [4] else [])) ++ (if b5 then [5] else [])
theorem chk_all : ∀ b0 b1 b2 b3 b4 b5 : Bool, chk (gl6 b0 b1 b2 b3 b4 b5) 720 (gl6 b0 b1 b2 b3 b4 b5) = true := by decide +kernel
/-- the tools that a test holds of, in their order -/
def gl (p : Nat → Bool) : Nat → List Nat
  | 0 => []
  | t + 1 => gl p t ++ (if p t then [t] else [])
theorem gl_6 (p : Nat → Bool) : ∀ n, n ≤ 6 → ∃ b0 b1 b2 b3 b4 b5, gl p n = gl6 b0 b1 b2 b3 b4 b5
  | 0, _ => ⟨false, false, false, false, false, false, rfl⟩
  | 1, _ => ⟨p 0, false, false, false, false, false, by cases h0 : p 0 <;> simp [gl, gl6, h0]⟩
  | 2, _ => ⟨p 0, p 1, false, false, false, false, by simp [gl, gl6]⟩
  | 3, _ => ⟨p 0, p 1, p 2, false, false, false, by simp [gl, gl6]⟩
  | 4, _ => ⟨p 0, p 1, p 2, p 3, false, false, by simp [gl, gl6]⟩
  | 5, _ => ⟨p 0, p 1, p 2, p 3, p 4, false, by simp [gl, gl6]⟩
  | 6, _ => ⟨p 0, p 1, p 2, p 3, p 4, p 5, by simp [gl, gl6]⟩
  | n + 7, h => absurd h (by omega)
theorem gl_chk (p : Nat → Bool) {n : Nat} (h : n ≤ 6) : chk (gl p n) 720 (gl p n) = true := by
  obtain ⟨b0, b1, b2, b3, b4, b5, e⟩ := gl_6 p n h
  rw [e]
  exact chk_all _ _ _ _ _ _
theorem gl_mem (p : Nat → Bool) : ∀ n t, t ∈ gl p n → t < n ∧ p t = true
  | 0, _, h => nomatch h
  | n + 1, t, h => by
    rcases List.mem_append.mp (show t ∈ gl p n ++ (if p n then [n] else []) from h) with q | q
    · have := gl_mem p n t q
      exact ⟨by omega, this.2⟩
    · by_cases e : p n = true
      · rw [if_pos e] at q
        have : t = n := List.mem_singleton.mp q
        subst this
        exact ⟨Nat.lt_succ_self _, e⟩
      · rw [if_neg e] at q
        nomatch q
theorem gl_len (p : Nat → Bool) : ∀ n, (gl p n).length ≤ n
  | 0 => Nat.le_refl 0
  | n + 1 => by
    show (gl p n ++ (if p n then [n] else [])).length ≤ _
    have := gl_len p n
    rw [List.length_append]
    split
    · show _ + 1 ≤ _
      omega
    · show _ + 0 ≤ _
      omega
