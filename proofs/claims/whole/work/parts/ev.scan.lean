/-! SCANNING OF THE TAPE'S BYTES, and the reference's point -/
def runF (p : Nat → Bool) (n : Nat) : Nat → Nat → Nat
  | 0, i => i
  | f + 1, i => if i < n ∧ p i = true then runF p n f (i + 1) else i
/-- the first place from i on, below n, where p does not hold; n, if there is none -/
def run (p : Nat → Bool) (n i : Nat) : Nat := runF p n (n - i) i
theorem runF_spec (p : Nat → Bool) (n : Nat) : ∀ f i, n - i ≤ f → i ≤ n → i ≤ runF p n f i ∧ runF p n f i ≤ n ∧ (∀ k, i ≤ k → k < runF p n f i → p k = true) ∧ (runF p n f i < n → p (runF p n f i) = false) := by
  intro f
  induction f with
  | zero =>
    intro i h hi
    show i ≤ i ∧ i ≤ n ∧ (∀ k, i ≤ k → k < i → p k = true) ∧ (i < n → p i = false)
    exact ⟨Nat.le_refl i, hi, fun k h1 h2 => by omega, fun h1 => by omega⟩
  | succ f ih =>
    intro i h hi
    unfold runF
    by_cases hc : i < n ∧ p i = true
    · rw [if_pos hc]
      obtain ⟨h1, h2, h3, h4⟩ := ih (i + 1) (by omega) (by omega)
      refine ⟨by omega, h2, fun k hk hk2 => ?_, h4⟩
      rcases Nat.eq_or_lt_of_le hk with rfl | hlt
      · exact hc.2
      · exact h3 k hlt hk2
    · rw [if_neg hc]
      refine ⟨Nat.le_refl i, hi, fun k h1 h2 => by omega, fun h1 => ?_⟩
      cases hp : p i with
      | true => exact absurd ⟨h1, hp⟩ hc
      | false => rfl
theorem run_spec (p : Nat → Bool) {n i : Nat} (hi : i ≤ n) : i ≤ run p n i ∧ run p n i ≤ n ∧ (∀ k, i ≤ k → k < run p n i → p k = true) ∧ (run p n i < n → p (run p n i) = false) := runF_spec p n (n - i) i (Nat.le_refl _) hi
theorem run_uniq (p : Nat → Bool) {n i e : Nat} (h1 : i ≤ e) (h2 : e ≤ n) (h3 : ∀ k, i ≤ k → k < e → p k = true) (h4 : e < n → p e = false) : run p n i = e := by
  obtain ⟨g1, g2, g3, g4⟩ := run_spec p (n := n) (i := i) (by omega)
  rcases Nat.lt_trichotomy (run p n i) e with h | h | h
  · have a := g4 (by omega)
    rw [h3 _ g1 h] at a
    cases a
  · exact h
  · have a := g3 e h1 h
    rw [h4 (by omega)] at a
    cases a
def pB (B : Nat → Nat) (k : Nat) : Bool := decide (B k = 32)
def pL (B : Nat → Nat) (k : Nat) : Bool := decide (97 ≤ B k ∧ B k ≤ 122)
def pD (B : Nat → Nat) (k : Nat) : Bool := decide (48 ≤ B k ∧ B k ≤ 57)
/-- the next place that is no blank -/
def nxt (B : Nat → Nat) (n i : Nat) : Nat := run (pB B) n i
def wend (B : Nat → Nat) (n i : Nat) : Nat := run (pL B) n i
def dend (B : Nat → Nat) (n i : Nat) : Nat := run (pD B) n i
theorem nxt_idem (B : Nat → Nat) {n i : Nat} (hi : i ≤ n) : nxt B n (nxt B n i) = nxt B n i := by
  obtain ⟨h1, h2, h3, h4⟩ := run_spec (pB B) hi
  exact run_uniq (pB B) (Nat.le_refl _) h2 (fun k a b => absurd a (by omega)) h4
theorem sb_int {b : Nat} (h : b < 256) : (sb b).toInt = if b < 128 then (b : Int) else (b : Int) - 256 := by
  unfold sb
  by_cases hb : b < 128
  · rw [if_pos hb, if_pos hb, ofN_toInt (by omega)]
  · rw [if_neg hb, if_neg hb]
    have key : ∀ b : Fin 256, (Int32.ofNat b.1 - 256).toInt = (b.1 : Int) - 256 := by decide +kernel
    exact key ⟨b, h⟩
theorem sb_lt {b c : Nat} (h : b < 256) (hc : c < 128) : (sb b < Int32.ofNat c) ↔ ¬ (c ≤ b ∧ b < 128) := by
  rw [Int32.lt_iff_toInt_lt, sb_int h, ofN_toInt (by omega)]
  split <;> omega
theorem lt_sb {b c : Nat} (h : b < 256) (hc : c < 128) : (Int32.ofNat c < sb b) ↔ (c < b ∧ b < 128) := by
  rw [Int32.lt_iff_toInt_lt, sb_int h, ofN_toInt (by omega)]
  split <;> omega
theorem sb_eq {b c : Nat} (h : b < 256) (hc : c < 128) : (sb b = Int32.ofNat c) ↔ b = c := by
  rw [← Int32.toInt_inj, sb_int h, ofN_toInt (by omega)]
  split <;> omega
/-- the reference's object with point and begin put anew -/
def mcur (M : MK) (i b : Nat) : MK := ((fun j => if j = 10 then Int32.ofNat i else if j = 12 then Int32.ofNat b else M.1 j), M.2)
theorem mcur_p (M : MK) (i b i' : Nat) : mint (mcur M i b) 10 (Int32.ofNat i') = mcur M i' b := by
  unfold mint mcur
  refine Prod.ext (funext fun j => ?_) rfl
  show (if j = 10 then _ else if j = 10 then _ else _) = (if j = 10 then _ else _)
  by_cases h : j = 10
  · rw [if_pos h, if_pos h]
  · rw [if_neg h, if_neg h, if_neg h]
theorem mcur_b (M : MK) (i b b' : Nat) : mint (mcur M i b) 12 (Int32.ofNat b') = mcur M i b' := by
  unfold mint mcur
  refine Prod.ext (funext fun j => ?_) rfl
  show (if j = 12 then _ else if j = 10 then _ else if j = 12 then _ else _) = (if j = 10 then _ else if j = 12 then _ else _)
  by_cases h : j = 12
  · rw [if_pos h, if_neg (by omega), if_pos h]
  · rw [if_neg h, if_neg h, if_neg h]
/-- the reference's tape: the first n bytes -/
def Byt (M : MK) (n : Nat) (B : Nat → Nat) : Prop := M.1 11 = Int32.ofNat n ∧ n ≤ 400 ∧ ∀ k, k < n → B k < 256 ∧ M.2 6 k = sb (B k)
section SCAN
variable {s : aS} {M : MK} {n i b : Nat} {B : Nat → Nat}
theorem m_isAt (T : Byt M n B) (D : Mdl s 66 (mcur M i b)) (hi : i ≤ n) {lo hi' : Nat} (h1 : lo < 128) (h2 : hi' < 128) : mX12_isAt 66 (Int32.ofNat lo) (Int32.ofNat hi') s = some (.inl (if i < n ∧ lo ≤ B i ∧ B i ≤ hi' then 1 else 0), s) := by
  obtain ⟨t1, t2, t3⟩ := T
  have g10 : gI 11 10 66 s = some (.inl (Int32.ofNat i), s) := gI_ok D.1 rfl
  have g11 : gI 11 11 66 s = some (.inl (Int32.ofNat n), s) := by
    rw [← t1]
    exact gI_ok D.1 rfl
  unfold mX12_isAt
  rw [onC_ok D.1, bnd_ok g10, bnd_ok g11]
  by_cases h : i < n
  · obtain ⟨hb, he⟩ := t3 i h
    have gr : gR 11 8 66 s = some (.inl 72, s) := gR_ok D.1 rfl
    have ld : ldI 1 72 (Int32.ofNat i) s = some (.inl (sb (B i)), s) := by
      have hh := ldI_ok (i := Int32.ofNat i) (D.2 6 (by decide) (by decide)) (ofN_nn (by omega)) (by rw [ofN_cl (by omega)]; show i < 400; omega)
      rw [ofN_cl (by omega)] at hh
      exact hh.trans (by rw [← he]; rfl)
    rw [if_neg (nle h (by omega)), bnd_ok gr, bnd_ok g10, bnd_ok ld]
    by_cases h3 : lo ≤ B i ∧ B i < 128
    · rw [if_neg (fun q => (sb_lt hb h1).mp q h3), bnd_ok gr, bnd_ok g10, bnd_ok ld]
      by_cases h4 : B i ≤ hi'
      · rw [if_neg (fun q => by have := (lt_sb hb h2).mp q; omega), if_pos ⟨h, h3.1, h4⟩]
        rfl
      · rw [if_pos ((lt_sb hb h2).mpr ⟨by omega, h3.2⟩), if_neg (fun q => h4 q.2.2)]
        rfl
    · rw [if_pos ((sb_lt hb h1).mpr h3), if_neg (fun q => h3 ⟨q.2.1, by omega⟩)]
      rfl
  · rw [if_pos ((ofN_le (by omega) (by omega)).mpr (by omega)), if_neg (fun q => h q.1)]
    rfl
/-- the point goes over a run of bytes -/
theorem m_run {L : Unit → MM (Unit ⊕ Unit)} {lo hi' : Nat} (hL : L = fun _ => mbnd (mX12_isAt 66 (Int32.ofNat lo) (Int32.ofNat hi')) fun v5 => if v5 = 0 then mret (.inr ()) else mbnd (gI 11 10 66) fun v7 => mbnd (pI 11 10 66 (v7 + 1)) fun _ => mret (.inl ())) (h1 : lo < 128) (h2 : hi' < 128) (T : Byt M n B) (D : Mdl s 66 (mcur M i b)) (hi : i ≤ n) : MRun (loopM L ()) s 66 () (mcur M (run (fun k => decide (lo ≤ B k ∧ B k ≤ hi')) n i) b) := by
  obtain ⟨r1, r2, r3, r4⟩ := run_spec (fun k => decide (lo ≤ B k ∧ B k ≤ hi')) hi
  generalize run (fun k => decide (lo ≤ B k ∧ B k ≤ hi')) n i = e at r1 r2 r3 r4
  subst hL
  have D0 : Mdl s 66 ((fun k => mcur M (i + k) b) 0) := D
  refine MRun.loop (e - i) (fun _ => ()) (fun k => mcur M (i + k) b) (fun k s' hk D' => ?_) (fun s' D' => ?_) D0
  · have c := of_decide_eq_true (r3 (i + k) (by omega) (by omega))
    have is := m_isAt T D' (by omega) h1 h2
    rw [if_pos ⟨by omega, c⟩] at is
    refine MRun.get is ?_
    rw [if_neg (by decide)]
    refine MRun.get (gI_ok D'.1 rfl) ?_
    show MRun (mbnd (pI 11 10 66 (Int32.ofNat (i + k) + 1)) fun _ => (mret (.inl ()) : MM (Unit ⊕ Unit))) s' 66 (Sum.inl () : Unit ⊕ Unit) (mcur M (i + (k + 1)) b)
    rw [ofN_succ, ← Nat.add_assoc]
    refine MRun.bnd (mint_run D' rfl) fun s2 D2 => ?_
    rw [mcur_p] at D2
    exact MRun.ret D2
  · rw [show i + (e - i) = e by omega] at D'
    have D'' : Mdl s' 66 (mcur M e b) := D'
    have is := m_isAt T D'' r2 h1 h2
    rw [if_neg (fun q => by
      have a := r4 q.1
      have c := of_decide_eq_false a
      exact c q.2)] at is
    refine MRun.get is ?_
    rw [if_pos rfl]
    exact MRun.ret D''
theorem m_blanks (T : Byt M n B) (D : Mdl s 66 (mcur M i b)) (hi : i ≤ n) : MRun (mX12_blanks 66) s 66 () (mcur M (nxt B n i) (nxt B n i)) := by
  have e : nxt B n i = run (fun k => decide (32 ≤ B k ∧ B k ≤ 32)) n i := by
    unfold nxt
    congr 1
    funext k
    exact decide_eq_decide.mpr (by omega)
  unfold mX12_blanks
  refine MRun.onC D (MRun.bnd (m_run (lo := 32) (hi' := 32) rfl (by decide) (by decide) T D hi) fun s1 D1 => ?_)
  rw [← e] at D1
  refine MRun.get (gI_ok D1.1 rfl) (MRun.bnd (mint_run D1 rfl) fun s2 D2 => ?_)
  have D2' : Mdl s2 66 (mint (mcur M (nxt B n i) b) 12 (Int32.ofNat (nxt B n i))) := D2
  rw [mcur_b] at D2'
  exact MRun.ret D2'
theorem m_letters (T : Byt M n B) (D : Mdl s 66 (mcur M i b)) (hi : i ≤ n) : MRun (mX12_letters 66) s 66 () (mcur M (wend B n (nxt B n i)) (nxt B n i)) := by
  unfold mX12_letters
  refine MRun.onC D (MRun.bnd (m_blanks T D hi) fun s1 D1 => MRun.bnd (m_run (lo := 97) (hi' := 122) rfl (by decide) (by decide) T D1 (run_spec (pB B) hi).2.1) fun s2 D2 => MRun.ret D2)
end SCAN
