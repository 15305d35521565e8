/-! WHO IS FIRST, WHO IS MOST: loops that keep more than a sum -/
def wclock (W : Nat → Int32) (p : Nat) (g last : Int32) : Nat → Int32
  | 0 => -1
  | d + 1 => if bt (W (171 + 7 * d + 6)) p = true then (if W (171 + 7 * d + 5) = g then (if wclock W p g last d < 0 then W (171 + 7 * d) else if last = 0 then wclock W p g last d else W (171 + 7 * d)) else wclock W p g last d) else wclock W p g last d
def wheir (W : Nat → Int32) : Nat → Int32
  | 0 => -1
  | p + 1 => if W (13 + 8 * p + 7) ≤ 0 then wheir W p else if wheir W p < 0 then Int32.ofNat p else if W (13 + 8 * p + 7) ≤ W (13 + 8 * (wheir W p).toNatClampNeg + 7) then wheir W p else Int32.ofNat p
def wworstM (W : Nat → Int32) (n : Nat) : Nat → Int32
  | 0 => -1
  | m + 1 => if wharm W (Int32.ofNat m) n ≤ 0 then wworstM W n m else if wworstM W n m < 0 then Int32.ofNat m else if wharm W (Int32.ofNat m) n ≤ wharm W (wworstM W n m) n then wworstM W n m else Int32.ofNat m
def wjury (W : Nat → Int32) (x : Int32) (t : Nat) (n : Nat) : Int32 := sumI (fun j => if bt x j = true then (if wans W t ≤ wans W j then -1 else 1) else 0) n
def wmarks (W : Nat → Int32) (v : Int32) (n : Nat) : Int32 := orI (fun t => if wmark W t = v then 1 <<< (Int32.ofNat t &&& (31 : Int32)) else 0) n
section WH
variable {W : Nat → Int32}
theorem wheir_or (W : Nat → Int32) : ∀ n, wheir W n = -1 ∨ ∃ p, p < n ∧ wheir W n = Int32.ofNat p ∧ ¬ W (13 + 8 * p + 7) ≤ 0
  | 0 => Or.inl rfl
  | n + 1 => by
    have ih := wheir_or W n
    have up : wheir W n = -1 ∨ ∃ p, p < n + 1 ∧ wheir W n = Int32.ofNat p ∧ ¬ W (13 + 8 * p + 7) ≤ 0 := ih.imp id fun ⟨p, h1, h2⟩ => ⟨p, Nat.lt_succ_of_lt h1, h2⟩
    have e : wheir W (n + 1) = (if W (13 + 8 * n + 7) ≤ 0 then wheir W n else if wheir W n < 0 then Int32.ofNat n else if W (13 + 8 * n + 7) ≤ W (13 + 8 * (wheir W n).toNatClampNeg + 7) then wheir W n else Int32.ofNat n) := rfl
    rw [e]
    by_cases h : W (13 + 8 * n + 7) ≤ 0
    · rw [if_pos h]
      exact up
    · rw [if_neg h]
      have new : Int32.ofNat n = -1 ∨ ∃ p, p < n + 1 ∧ Int32.ofNat n = Int32.ofNat p ∧ ¬ W (13 + 8 * p + 7) ≤ 0 := Or.inr ⟨n, Nat.lt_succ_self n, rfl, h⟩
      split
      · exact new
      · split
        · exact up
        · exact new
theorem wworstM_or (W : Nat → Int32) (n : Nat) : ∀ k, wworstM W n k = -1 ∨ ∃ p, p < k ∧ wworstM W n k = Int32.ofNat p ∧ ¬ wharm W (Int32.ofNat p) n ≤ 0
  | 0 => Or.inl rfl
  | k + 1 => by
    have ih := wworstM_or W n k
    have up : wworstM W n k = -1 ∨ ∃ p, p < k + 1 ∧ wworstM W n k = Int32.ofNat p ∧ ¬ wharm W (Int32.ofNat p) n ≤ 0 := ih.imp id fun ⟨p, h1, h2⟩ => ⟨p, Nat.lt_succ_of_lt h1, h2⟩
    have e : wworstM W n (k + 1) = (if wharm W (Int32.ofNat k) n ≤ 0 then wworstM W n k else if wworstM W n k < 0 then Int32.ofNat k else if wharm W (Int32.ofNat k) n ≤ wharm W (wworstM W n k) n then wworstM W n k else Int32.ofNat k) := rfl
    rw [e]
    by_cases h : wharm W (Int32.ofNat k) n ≤ 0
    · rw [if_pos h]
      exact up
    · rw [if_neg h]
      have new : Int32.ofNat k = -1 ∨ ∃ p, p < k + 1 ∧ Int32.ofNat k = Int32.ofNat p ∧ ¬ wharm W (Int32.ofNat p) n ≤ 0 := Or.inr ⟨k, Nat.lt_succ_self k, rfl, h⟩
      split
      · exact new
      · split
        · exact up
        · exact new
theorem wclock_or {p : Nat} {g last : Int32} : ∀ n, (∀ d, d < n → ¬ W (171 + 7 * d) < 0) → wclock W p g last n = -1 ∨ ¬ wclock W p g last n < 0
  | 0, _ => Or.inl rfl
  | n + 1, h => by
    have ih := wclock_or (p := p) (g := g) (last := last) n (fun d hd => h d (Nat.lt_succ_of_lt hd))
    have hn := h n (Nat.lt_succ_self n)
    show (if _ then _ else _) = _ ∨ ¬ (if _ then _ else _) < (0 : Int32)
    split
    · split
      · split
        · exact Or.inr hn
        · split
          · exact ih
          · exact Or.inr hn
      · exact ih
    · exact ih
end WH
