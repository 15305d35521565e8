/-! TOKENS: what the class's readers make of the tape's bytes -/
def wl : List (List Nat) := [[104, 97, 110, 100, 108, 101], [104, 101, 97, 100], [106, 111, 105, 110, 116], [110, 97, 105, 108, 101, 100], [101, 100, 103, 101], [119, 101, 97, 114], [103, 117, 105, 108, 116], [104, 97, 114, 109], [104, 97, 114, 100], [109, 97, 115, 116, 101, 114], [100, 97, 121], [116, 111, 111, 108], [97, 110, 115, 119, 101, 114], [112, 108, 101, 97, 100], [104, 101, 105, 114], [98, 108, 117, 110, 116], [105, 102], [97, 110, 100], [111, 114], [110, 111, 116], [112, 97, 114, 116], [110, 97, 105, 108], [100, 97, 109, 112], [110, 101, 101, 100], [108, 105, 109, 105, 116]]
def wix (w : List Nat) : List (List Nat) → Nat → Nat
  | [], _ => 257
  | x :: r, k => if w = x then k else wix w r (k + 1)
/-- the number that a word has -/
def wcode (w : List Nat) : Nat := wix w wl 300
theorem wix_ge (w : List Nat) : ∀ l k, 300 ≤ k → wix w l k = 257 ∨ k ≤ wix w l k := by
  intro l
  induction l with
  | nil => exact fun k _ => Or.inl rfl
  | cons x r ih =>
    intro k hk
    unfold wix
    split
    · exact Or.inr (Nat.le_refl _)
    · rcases ih (k + 1) (by omega) with h | h
      · exact Or.inl h
      · exact Or.inr (by omega)
theorem wix_lt (w : List Nat) : ∀ l k, wix w l k = 257 ∨ wix w l k < k + l.length := by
  intro l
  induction l with
  | nil => exact fun k => Or.inl rfl
  | cons x r ih =>
    intro k
    unfold wix
    rw [List.length_cons]
    split
    · exact Or.inr (by omega)
    · rcases ih (k + 1) with h | h
      · exact Or.inl h
      · exact Or.inr (by omega)
theorem wix_at (w : List Nat) : ∀ l k j x, 300 ≤ k → l.Nodup → l[j]? = some x → (wix w l k = k + j ↔ w = x) := by
  intro l
  induction l with
  | nil => exact fun k j x _ _ h => by cases h
  | cons y r ih =>
    intro k j x hk hn hx
    obtain ⟨n1, n2⟩ := List.nodup_cons.mp hn
    unfold wix
    match j, hx with
    | 0, hx =>
      cases hx
      by_cases h : w = y
      · rw [if_pos h]
        exact ⟨fun _ => h, fun _ => rfl⟩
      · rw [if_neg h]
        refine ⟨fun q => ?_, fun q => absurd q h⟩
        rcases wix_ge w r (k + 1) (by omega) with h' | h' <;> omega
    | j + 1, hx =>
      have hx : r[j]? = some x := hx
      by_cases h : w = y
      · rw [if_pos h]
        refine ⟨fun q => by omega, fun q => ?_⟩
        have := List.mem_of_getElem? hx
        rw [← q, h] at this
        exact absurd this n1
      · rw [if_neg h, ← ih (k + 1) j x (by omega) n2 hx]
        omega
theorem wl_nodup : wl.Nodup := by decide +kernel
/-- a word has the number of a word of the list just if it is that word -/
theorem wcode_at (w : List Nat) {j : Nat} {x : List Nat} (h : wl[j]? = some x) : wcode w = 300 + j ↔ w = x := wix_at w wl 300 j x (Nat.le_refl _) wl_nodup h
theorem wcode_lt (w : List Nat) : wcode w = 257 ∨ (300 ≤ wcode w ∧ wcode w < 325) := by
  rcases wix_ge w wl 300 (Nat.le_refl _) with h | h
  · exact Or.inl h
  · rcases wix_lt w wl 300 with h' | h'
    · exact Or.inl h'
    · exact Or.inr ⟨h, h'⟩
/-- where the token at p ends, and what it is -/
def tend (B : Nat → Nat) (n p : Nat) : Nat := if pL B p = true then wend B n p else if pD B p = true then dend B n p else p + 1
def thg (B : Nat → Nat) (n p : Nat) : Int32 := if pL B p = true then Int32.ofNat (wcode (wd B p (wend B n p))) else if pD B p = true then 256 else Int32.ofNat (B p)
def tdig (B : Nat → Nat) (n p : Nat) : Int32 := if pL B p = true then 0 else if pD B p = true then Int32.ofNat (dend B n p - p) else 0
def tnum (B : Nat → Nat) (n p : Nat) : Int32 := if pL B p = true then 0 else if pD B p = true then Int32.ofNat (nv B p (min (dend B n p - p) 5)) else 0
/-- where the tokens begin; n behind the last one -/
def tb (B : Nat → Nat) (n : Nat) : Nat → Nat
  | 0 => nxt B n 0
  | k + 1 => if tb B n k < n then nxt B n (tend B n (tb B n k)) else n
def thing (B : Nat → Nat) (n p : Nat) : Int32 := if p < n then thg B n p else -1
theorem run_next {p : Nat → Bool} {n i : Nat} (hi : i < n) (h : p i = true) : run p n i = run p n (i + 1) ∧ i < run p n i := by
  obtain ⟨h1, h2, h3, h4⟩ := run_spec p (n := n) (i := i + 1) (by omega)
  have e : run p n i = run p n (i + 1) := run_uniq p (by omega) h2 (fun k a b => by
    rcases Nat.eq_or_lt_of_le a with rfl | a
    · exact h
    · exact h3 k a b) h4
  exact ⟨e, by omega⟩
theorem run_stop {p : Nat → Bool} {n i : Nat} (hi : i ≤ n) (h : i < n → p i = false) : run p n i = i := run_uniq p (Nat.le_refl i) hi (fun k a b => absurd a (by omega)) h
theorem tend_spec (B : Nat → Nat) {n p : Nat} (h : p < n) : p < tend B n p ∧ tend B n p ≤ n := by
  unfold tend
  split
  · next hl => exact ⟨(run_next h hl).2, (run_spec (pL B) (Nat.le_of_lt h)).2.1⟩
  · split
    · next hd => exact ⟨(run_next h hd).2, (run_spec (pD B) (Nat.le_of_lt h)).2.1⟩
    · exact ⟨by omega, by omega⟩
theorem tb_le (B : Nat → Nat) (n : Nat) : ∀ k, tb B n k ≤ n := by
  intro k
  match k with
  | 0 => exact (run_spec (pB B) (Nat.zero_le n)).2.1
  | k + 1 =>
    unfold tb
    split
    · next h => exact (run_spec (pB B) (tend_spec B h).2).2.1
    · exact Nat.le_refl n
theorem tb_nxt (B : Nat → Nat) (n : Nat) : ∀ k, nxt B n (tb B n k) = tb B n k := by
  intro k
  match k with
  | 0 => exact nxt_idem B (Nat.zero_le n)
  | k + 1 =>
    unfold tb
    split
    · next h => exact nxt_idem B (tend_spec B h).2
    · exact run_stop (Nat.le_refl n) fun h => absurd h (by omega)
/-- the class's tape -/
def Tc (s : aS) (n : Nat) (B : Nat → Nat) : Prop := ∃ f, Tpc s n f ∧ n ≤ 400 ∧ ∀ k, k < n → B k < 256 ∧ f k = Int32.ofNat (B k)
section CLS
variable {s s' : aS} {n : Nat} {B : Nat → Nat}
theorem Tc.off {lo hi : Nat} (T : Tc s n B) (o : Off s s' lo hi) (h : 2 < lo) : Tc s' n B := by
  obtain ⟨f, ⟨h1, h2⟩, h3⟩ := T
  exact ⟨f, ⟨hasO_off h1 o (by omega), hasI_off h2 o (by omega)⟩, h3⟩
theorem Tc.len (T : Tc s n B) : gI 9 1 1 s = some (.inl (Int32.ofNat n), s) := by
  obtain ⟨f, ⟨h1, h2⟩, h3⟩ := T
  exact gI_ok h1 rfl
theorem Tc.byte (T : Tc s n B) {i : Nat} (hi : i < n) : mX9_byteAt 1 (Int32.ofNat i) s = some (.inl (Int32.ofNat (B i)), s) := by
  have tl := T.len
  obtain ⟨f, ⟨h1, h2⟩, h3, h4⟩ := T
  have ld := ldI_ok (i := Int32.ofNat i) h2 (ofN_nn (by omega)) (by rw [ofN_cl (by omega)]; omega)
  rw [ofN_cl (by omega), (h4 i hi).2] at ld
  unfold mX9_byteAt
  rw [onC_ok h1, if_neg (ofN_nn (by omega)), bnd_ok tl, if_neg (nle hi (by omega)), bnd_ok (gR_ok h1 (show _ = some (Value.ref 2) from rfl)), bnd_ok (lenI_ok h2), if_neg (show ¬ Int32.ofNat 400 ≤ Int32.ofNat i from nle (by omega) (by decide)), bnd_ok (gR_ok h1 (show _ = some (Value.ref 2) from rfl)), bnd_ok ld]
  rfl
theorem c_isLetter {k : Nat} (h : B k < 256) : mX10_isLetter (Int32.ofNat (B k)) s = some (.inl (if pL B k = true then (1 : Int32) else 0), s) := by
  unfold mX10_isLetter
  by_cases h1 : B k < 97
  · rw [if_pos (show Int32.ofNat (B k) < (97 : Int32) from (ofN_lt (by omega) (by decide)).mpr h1), if_neg (fun q => by have := of_decide_eq_true q; omega)]
    rfl
  · rw [if_neg (show ¬ Int32.ofNat (B k) < (97 : Int32) from fun q => h1 ((ofN_lt (m := 97) (by omega) (by decide)).mp q))]
    by_cases h2 : 122 < B k
    · rw [if_pos (show (122 : Int32) < Int32.ofNat (B k) from (ofN_lt (by decide) (by omega)).mpr h2), if_neg (fun q => by have := of_decide_eq_true q; omega)]
      rfl
    · rw [if_neg (show ¬ (122 : Int32) < Int32.ofNat (B k) from fun q => h2 ((ofN_lt (n := 122) (by decide) (by omega)).mp q)), if_pos (show pL B k = true from decide_eq_true ⟨by omega, by omega⟩)]
      rfl
theorem c_isDigit {k : Nat} (h : B k < 256) : mX10_isDigit (Int32.ofNat (B k)) s = some (.inl (if pD B k = true then (1 : Int32) else 0), s) := by
  unfold mX10_isDigit
  by_cases h1 : B k < 48
  · rw [if_pos (show Int32.ofNat (B k) < (48 : Int32) from (ofN_lt (by omega) (by decide)).mpr h1), if_neg (fun q => by have := of_decide_eq_true q; omega)]
    rfl
  · rw [if_neg (show ¬ Int32.ofNat (B k) < (48 : Int32) from fun q => h1 ((ofN_lt (m := 48) (by omega) (by decide)).mp q))]
    by_cases h2 : 57 < B k
    · rw [if_pos (show (57 : Int32) < Int32.ofNat (B k) from (ofN_lt (by decide) (by omega)).mpr h2), if_neg (fun q => by have := of_decide_eq_true q; omega)]
      rfl
    · rw [if_neg (show ¬ (57 : Int32) < Int32.ofNat (B k) from fun q => h2 ((ofN_lt (n := 57) (by decide) (by omega)).mp q)), if_pos (show pD B k = true from decide_eq_true ⟨by omega, by omega⟩)]
      rfl
/-- the signs of the words' text from a place on -/
def txt (i : Nat) (r : List Nat) : Prop := i ≤ 131 ∧ (strB.getD 0 []).drop i = r.map Int32.ofNat
theorem txt_len : (strB.getD 0 []).length = 131 := by decide +kernel
theorem txt_next {i c : Nat} {r : List Nat} (h : txt i (c :: r)) : i < 131 ∧ ¬ slen 0 ≤ Int32.ofNat i ∧ schar 0 (Int32.ofNat i) s = some (.inl (Int32.ofNat c), s) ∧ txt (i + 1) r := by
  have hlen := txt_len
  have h' : (strB.getD 0 []).drop i = Int32.ofNat c :: r.map Int32.ofNat := h.2
  have hi : i < (strB.getD 0 []).length := by
    by_cases q : i < (strB.getD 0 []).length
    · exact q
    · rw [List.drop_eq_nil_of_le (by omega)] at h'
      cases h'
  have hg : (strB.getD 0 [])[i]? = some (Int32.ofNat c) := by
    rw [← List.head?_drop, h']
    rfl
  refine ⟨by omega, ?_, ?_, by omega, ?_⟩
  · unfold slen
    exact nle hi (by omega)
  · unfold schar
    rw [ofN_cl (by omega), if_neg (fun q => q.elim (ofN_nn (by omega)) (fun q => by omega)), List.getD_eq_getElem?_getD, hg]
    rfl
  · rw [← List.drop_drop, h']
    rfl
theorem txt_end {i : Nat} (h : txt i []) : slen 0 ≤ Int32.ofNat i := by
  have hlen := txt_len
  obtain ⟨hi, h'⟩ := h
  have h' : (strB.getD 0 []).drop i = [] := h'
  unfold slen
  exact (ofN_le (by omega) (by omega)).mpr (List.drop_eq_nil_iff.mp h')
theorem txt_all : txt 0 (wl.flatMap fun w => w ++ [32]) := by
  unfold txt
  decide +kernel
theorem wl_chars : ∀ w ∈ wl, ∀ c ∈ w, c ≠ 32 ∧ c < 256 := by decide +kernel
theorem tb_end {c : Nat} (h : tb B n c = n) : ∀ k, c ≤ k → tb B n k = n := by
  intro k
  induction k with
  | zero => exact fun hk => by rwa [show c = 0 by omega] at h
  | succ k ih =>
    intro hk
    rcases Nat.eq_or_lt_of_le hk with rfl | hk
    · exact h
    · show (if tb B n k < n then _ else n) = n
      rw [if_neg (by have := ih (by omega); omega)]
theorem thing_num (B : Nat → Nat) (n p : Nat) (hp : p ≤ n) (hb : ∀ p, p < n → B p < 256) : (¬ thing B n p = 256 ∧ dend B n p = p) ∨ (thing B n p = 256 ∧ p < n ∧ pD B p = true ∧ ¬ pL B p = true) := by
  unfold thing
  by_cases h : p < n
  · rw [if_pos h]
    unfold thg
    by_cases hl : pL B p = true
    · have hl' := of_decide_eq_true hl
      rw [if_pos hl]
      have hd : pD B p = false := decide_eq_false fun q => by omega
      refine Or.inl ⟨fun q => ?_, run_stop hp fun _ => hd⟩
      have := wcode_lt (wd B p (wend B n p))
      have q' : Int32.ofNat (wcode (wd B p (wend B n p))) = Int32.ofNat 256 := q
      rw [ofN_inj (by omega) (by decide)] at q'
      omega
    · rw [if_neg hl]
      cases hd : pD B p with
      | true =>
        rw [if_pos rfl]
        exact Or.inr ⟨rfl, h, rfl, hl⟩
      | false =>
        rw [if_neg (by decide)]
        refine Or.inl ⟨fun q => ?_, run_stop hp fun _ => hd⟩
        have q' : Int32.ofNat (B p) = Int32.ofNat 256 := q
        have := hb p h
        rw [ofN_inj (by omega) (by decide)] at q'
        omega
  · rw [if_neg h]
    exact Or.inl ⟨by decide, run_stop hp fun q => absurd q h⟩
end CLS
