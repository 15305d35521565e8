/-! LAUNDERING: the first of the best ways, by looking at all in order -/
def cs (o : Nat) : Nat := if o = 0 then 0 else 1
def cb : Nat → Int32
  | 0 => 0
  | p + 1 => 1 <<< (Int32.ofNat p &&& (31 : Int32))
abbrev St2 : Type := Int32 × Int32
/-- one look: g what is answered, w how many swaps, k who comes -/
def lookS (lim : Int32) (st : St2) (g : Int32) (w : Nat) (k : Int32) : St2 := if lim < g then st else if st.1 = -1 then (Int32.ofNat w, k) else if st.1 ≤ Int32.ofNat w then st else (Int32.ofNat w, k)
/-- (x, y, z) stands ahead of (a, b, c) -/
def bf (a b c x y z : Nat) : Prop := x < a ∨ (x = a ∧ (y < b ∨ (y = b ∧ z < c)))
def co (x y z : Nat) : Nat := cs x + cs y + cs z
def Bst (V : Nat → Nat → Nat) (np : Nat) (lim : Int) (a b c : Nat) (st : St2) : Prop :=
  (st = (-1, -1) ∧ ∀ x y z, fe V np lim x y z → ¬ bf a b c x y z) ∨
  (∃ x y z, fe V np lim x y z ∧ bf a b c x y z ∧ st = (Int32.ofNat (co x y z), cb x ||| cb y ||| cb z) ∧ ∀ x' y' z', fe V np lim x' y' z' → bf a b c x' y' z' → co x y z ≤ co x' y' z' ∧ (bf x y z x' y' z' → co x y z < co x' y' z'))
theorem cs_le (o : Nat) : cs o ≤ 1 := by
  unfold cs
  split <;> omega
theorem co_le (x y z : Nat) : co x y z ≤ 3 := by
  have h1 := cs_le x
  have h2 := cs_le y
  have h3 := cs_le z
  unfold co
  omega
section BS
variable {V : Nat → Nat → Nat} {np : Nat} {lim : Int} {a b c : Nat} {st : St2}
theorem Bst.same {a' b' c' : Nat} (h : Bst V np lim a b c st) (hb : ∀ x y z, fe V np lim x y z → (bf a' b' c' x y z ↔ bf a b c x y z)) : Bst V np lim a' b' c' st := by
  rcases h with ⟨h1, h2⟩ | ⟨x, y, z, h1, h2, h3, h4⟩
  · exact Or.inl ⟨h1, fun x y z hf q => h2 x y z hf ((hb x y z hf).mp q)⟩
  · exact Or.inr ⟨x, y, z, h1, (hb x y z h1).mpr h2, h3, fun x' y' z' hf q => h4 x' y' z' hf ((hb x' y' z' hf).mp q)⟩
theorem Bst.c_end (h : Bst V np lim a b (np + 1) st) : Bst V np lim a (b + 1) 0 st := h.same fun x y z hf => by
  have := hf.2.2.1
  unfold bf
  omega
theorem Bst.b_end (h : Bst V np lim a (np + 1) 0 st) : Bst V np lim (a + 1) 0 0 st := h.same fun x y z hf => by
  have := hf.2.1
  unfold bf
  omega
theorem Bst.c_no (h : Bst V np lim a b c st) (hl : lim ≤ 9999) (hv : V 2 c = 1000000) : Bst V np lim a b (c + 1) st := h.same fun x y z hf => by
  have h4 := hf.2.2.2
  have : z ≠ c := fun q => by
    subst q
    omega
  unfold bf
  omega
theorem Bst.b_no (h : Bst V np lim a b 0 st) (hl : lim ≤ 9999) (hv : V 1 b = 1000000) : Bst V np lim a (b + 1) 0 st := h.same fun x y z hf => by
  have h4 := hf.2.2.2
  have : y ≠ b := fun q => by
    subst q
    omega
  unfold bf
  omega
theorem Bst.a_no (h : Bst V np lim a 0 0 st) (hl : lim ≤ 9999) (hv : V 0 a = 1000000) : Bst V np lim (a + 1) 0 0 st := h.same fun x y z hf => by
  have h4 := hf.2.2.2
  have : x ≠ a := fun q => by
    subst q
    omega
  unfold bf
  omega
/-- a look at the next three -/
theorem Bst.look {L : Int32} {g : Int32} (h : Bst V np lim a b c st) (ha : a ≤ np) (hb : b ≤ np) (hc : c ≤ np) (hg : (L < g) ↔ ¬ (V 0 a : Int) + V 1 b + V 2 c ≤ lim) : Bst V np lim a b (c + 1) (lookS L st g (co a b c) (cb a ||| cb b ||| cb c)) := by
  have hbf : ∀ x y z, bf a b (c + 1) x y z ↔ bf a b c x y z ∨ (x = a ∧ y = b ∧ z = c) := fun x y z => by
    unfold bf
    omega
  have hco := co_le a b c
  by_cases q : L < g
  · have hno : ¬ fe V np lim a b c := fun hf => hg.mp q hf.2.2.2
    have e : lookS L st g (co a b c) (cb a ||| cb b ||| cb c) = st := if_pos q
    rw [e]
    refine h.same fun x y z hf => ?_
    rw [hbf]
    refine ⟨fun z9 => z9.elim id fun ⟨e1, e2, e3⟩ => ?_, Or.inl⟩
    subst e1
    subst e2
    subst e3
    exact absurd hf hno
  · have hf : fe V np lim a b c := ⟨ha, hb, hc, Classical.not_not.mp fun z => q (hg.mpr z)⟩
    have e0 : lookS L st g (co a b c) (cb a ||| cb b ||| cb c) = if st.1 = -1 then (Int32.ofNat (co a b c), cb a ||| cb b ||| cb c) else if st.1 ≤ Int32.ofNat (co a b c) then st else (Int32.ofNat (co a b c), cb a ||| cb b ||| cb c) := if_neg q
    rcases h with ⟨h1, h2⟩ | ⟨x, y, z, h1, h2, h3, h4⟩
    · rw [e0, if_pos (by rw [h1])]
      refine Or.inr ⟨a, b, c, hf, (hbf a b c).mpr (Or.inr ⟨rfl, rfl, rfl⟩), rfl, fun x' y' z' hf' hb' => ?_⟩
      rcases (hbf x' y' z').mp hb' with z9 | ⟨rfl, rfl, rfl⟩
      · exact absurd z9 (h2 x' y' z' hf')
      · exact ⟨Nat.le_refl _, fun z9 => by unfold bf at z9; omega⟩
    · have hco2 := co_le x y z
      have hne : ¬ st.1 = -1 := by
        rw [h3]
        exact ofN_ne1 (by omega)
      rw [e0, if_neg hne]
      by_cases q2 : st.1 ≤ Int32.ofNat (co a b c)
      · rw [if_pos q2]
        have hle : co x y z ≤ co a b c := by
          rw [h3] at q2
          exact (ofN_le (by omega) (by omega)).mp q2
        refine Or.inr ⟨x, y, z, h1, (hbf x y z).mpr (Or.inl h2), h3, fun x' y' z' hf' hb' => ?_⟩
        rcases (hbf x' y' z').mp hb' with z9 | ⟨rfl, rfl, rfl⟩
        · exact h4 x' y' z' hf' z9
        · refine ⟨hle, fun z9 => ?_⟩
          unfold bf at z9 h2
          omega
      · rw [if_neg q2]
        have hlt : co a b c < co x y z := by
          rw [h3] at q2
          exact Nat.lt_of_not_le fun z9 => q2 ((ofN_le (by omega) (by omega)).mpr z9)
        refine Or.inr ⟨a, b, c, hf, (hbf a b c).mpr (Or.inr ⟨rfl, rfl, rfl⟩), rfl, fun x' y' z' hf' hb' => ?_⟩
        rcases (hbf x' y' z').mp hb' with z9 | ⟨rfl, rfl, rfl⟩
        · have := (h4 x' y' z' hf' z9).1
          exact ⟨by omega, fun _ => by omega⟩
        · exact ⟨Nat.le_refl _, fun z9 => by unfold bf at z9; omega⟩
end BS
/-- the ways of a sort in their order -/
def wLst (can : Nat → Bool) : Nat → List Nat
  | 0 => [0]
  | p + 1 => wLst can p ++ (if can p = true then [p + 1] else [])
theorem fold_w {σ : Type} (can : Nat → Bool) (g : σ → Nat → σ) (P : Nat → σ → Prop) {st : σ} (h0 : P 0 st) (np : Nat) (hg : ∀ o x, o ≤ np → (o = 0 ∨ ∃ p, o = p + 1 ∧ can p = true) → P o x → P (o + 1) (g x o)) (hn : ∀ p x, p < np → ¬ can p = true → P (p + 1) x → P (p + 1 + 1) x) : ∀ n, n ≤ np → P (n + 1) ((wLst can n).foldl g st)
  | 0, _ => hg 0 st (Nat.zero_le _) (Or.inl rfl) h0
  | p + 1, hp => by
    have ih := fold_w can g P h0 np hg hn p (by omega)
    show P (p + 1 + 1) ((wLst can p ++ (if can p = true then [p + 1] else [])).foldl g st)
    rw [List.foldl_append]
    by_cases q : can p = true
    · rw [if_pos q]
      exact hg (p + 1) _ hp (Or.inr ⟨p, rfl, q⟩) ih
    · rw [if_neg q]
      exact hn p _ (by omega) q ih
/-- all looks -/
def looks (can : Nat → Nat → Bool) (v : Nat → Nat → Int32) (L : Int32) (np : Nat) : St2 := (wLst (can 0) np).foldl (fun st a => (wLst (can 1) np).foldl (fun st b => (wLst (can 2) np).foldl (fun st c => lookS L st ((v 0 a + v 1 b) + v 2 c) (co a b c) (cb a ||| cb b ||| cb c)) st) st) (-1, -1)
theorem looks_best {can : Nat → Nat → Bool} {v : Nat → Nat → Int32} {V : Nat → Nat → Nat} {L : Int32} {np : Nat} (hV : ∀ k, k < 3 → ∀ o, o ≤ np → v k o = Int32.ofNat (V k o) ∧ V k o ≤ 1000000) (hc : ∀ k, k < 3 → ∀ p, p < np → ¬ can k p = true → V k (p + 1) = 1000000) (hL : isN L 9999) : Bst V np L.toInt (np + 1) 0 0 (looks can v L np) := by
  obtain ⟨l, hl, rfl⟩ := hL
  have hl2 : (Int32.ofNat l).toInt ≤ 9999 := by rw [ofN_toInt (by omega)]; omega
  have start : Bst V np (Int32.ofNat l).toInt 0 0 0 (-1, -1) := Or.inl ⟨rfl, fun x y z _ q => by unfold bf at q; omega⟩
  refine fold_w (can 0) _ (fun m x => Bst V np (Int32.ofNat l).toInt m 0 0 x) start np (fun a st ha _ h => ?_) (fun p x hp q h => h.a_no hl2 (hc 0 (by decide) p hp q)) np (Nat.le_refl np)
  refine Bst.b_end (fold_w (can 1) _ (fun m x => Bst V np (Int32.ofNat l).toInt a m 0 x) h np (fun b st hb _ h => ?_) (fun p x hp q h => h.b_no hl2 (hc 1 (by decide) p hp q)) np (Nat.le_refl np))
  refine Bst.c_end (fold_w (can 2) _ (fun m x => Bst V np (Int32.ofNat l).toInt a b m x) h np (fun c st hcc _ h => ?_) (fun p x hp q h => h.c_no hl2 (hc 2 (by decide) p hp q)) np (Nat.le_refl np))
  have e0 := hV 0 (by decide) a ha
  have e1 := hV 1 (by decide) b hb
  have e2 := hV 2 (by decide) c hcc
  refine h.look ha hb hcc ?_
  rw [e0.1, e1.1, e2.1, ofN_add, ofN_add, i32_lt, ofN_toInt (by omega), ofN_toInt (by omega)]
  omega
