/-! COURTS: six tables, the law, six numbers -/
abbrev CK : Type := (Nat → Nat) × (Nat → Nat → Int32) × (Nat → Int32) × Nat
def tM : Nat → Nat
  | 0 => 16
  | 1 => 6
  | 2 => 6
  | 3 => 60
  | 4 => 60
  | _ => 30
def tW : Nat → Nat
  | 0 => 8
  | 1 => 4
  | 2 => 1
  | 3 => 7
  | 4 => 5
  | _ => 6
abbrev cF (a : Nat) (K : CK) : List Value := [.ref (a + 1), .ref (a + 3), .ref (a + 5), .ref (a + 7), .ref (a + 9), .ref (a + 11), .ref K.2.2.2, .int (K.2.2.1 7), .int (K.2.2.1 8), .int (K.2.2.1 9), .int (K.2.2.1 10), .int (K.2.2.1 11), .int (K.2.2.1 12)]
/-- a Court at a: its tables and their numbers behind it -/
def Crt (s : aS) (a : Nat) (K : CK) : Prop := hasO s a 1 (cF a K) ∧ ∀ k, k < 6 → Tb s (a + 1 + 2 * k) (a + 2 + 2 * k) (tM k) (tW k) (K.1 k) (K.2.1 k)
theorem Crt.frame {s : aS} {a b : Nat} {K : CK} {e : AE} (C : Crt s a K) (h : b < a ∨ a + 12 < b) : Crt (sup s b e) a K := ⟨hasO_sup C.1 (by omega), fun k hk => (C.2 k hk).frame (by omega) (by omega)⟩
def kset (F : Nat → Nat → Int32) (t : Nat) (g : Nat → Int32) : Nat → Nat → Int32 := fun k => if k = t then g else F k
/-- other numbers in table t -/
theorem Crt.cells {s : aS} {a t : Nat} {K : CK} {g : Nat → Int32} (C : Crt s a K) (ht : t < 6) : Crt (sup s (a + 2 + 2 * t) (tE (tM t) (tW t) g)) a (K.1, kset K.2.1 t g, K.2.2) := by
  refine ⟨hasO_sup C.1 (by omega), fun k hk => ?_⟩
  show Tb _ _ _ _ _ (K.1 k) (kset K.2.1 t g k)
  unfold kset
  by_cases h : k = t
  · subst h
    rw [if_pos rfl]
    exact (C.2 k hk).with
  · rw [if_neg h]
    exact (C.2 k hk).frame (by omega) (by omega)
def kget (K : CK) (t : Nat) (i j : Int32) : Int32 := tget (tW t) (K.1 t) (K.2.1 t) i j
def kguilt (K : CK) (p : Int32) : Int32 := if p < 0 ∨ Int32.ofNat (K.1 0) ≤ p then 0 else kget K 0 p 3
def sumI (f : Nat → Int32) : Nat → Int32
  | 0 => 0
  | n + 1 => sumI f n + f n
def kans (K : CK) (t : Int32) : Int32 := sumI (fun k => kguilt K (kget K 1 t (Int32.ofNat k))) 3
def kmark (K : CK) (t : Int32) : Int32 := if kget K 1 t 1 = -1 then -1 else kget K 0 (kget K 1 t 1) 1 * 10 + kget K 0 (kget K 1 t 1) 2 / 10
def orI (f : Nat → Int32) : Nat → Int32
  | 0 => 0
  | n + 1 => orI f n ||| f n
def kguilty (K : CK) : Int32 := orI (fun t => if kans K (Int32.ofNat t) ≤ K.2.2.1 10 then 0 else 1 <<< (Int32.ofNat t &&& (31 : Int32))) (K.1 1)
section CR
variable {s : aS} {a : Nat} {K : CK} {i : Int32}
theorem Crt.t0 (C : Crt s a K) : Tb s (a + 1) (a + 2) 16 8 (K.1 0) (K.2.1 0) := C.2 0 (by decide)
theorem Crt.t1 (C : Crt s a K) : Tb s (a + 3) (a + 4) 6 4 (K.1 1) (K.2.1 1) := C.2 1 (by decide)
theorem Crt.t2 (C : Crt s a K) : Tb s (a + 5) (a + 6) 6 1 (K.1 2) (K.2.1 2) := C.2 2 (by decide)
theorem Crt.t3 (C : Crt s a K) : Tb s (a + 7) (a + 8) 60 7 (K.1 3) (K.2.1 3) := C.2 3 (by decide)
theorem Crt.t4 (C : Crt s a K) : Tb s (a + 9) (a + 10) 60 5 (K.1 4) (K.2.1 4) := C.2 4 (by decide)
theorem Crt.t5 (C : Crt s a K) : Tb s (a + 11) (a + 12) 30 6 (K.1 5) (K.2.1 5) := C.2 5 (by decide)
theorem isSpare_run (C : Crt s a K) : mX1_isSpare a i s = some (.inl (if kget K 0 i 6 = -1 then 1 else 0), s) := by
  unfold mX1_isSpare
  rw [onC_ok C.1, bnd_ok (gR_ok C.1 rfl), bnd_ok (get_ok C.t0)]
  show (if kget K 0 i 6 = -1 then _ else _ : MM Int32) s = _
  split <;> rfl
theorem isNailed_run (C : Crt s a K) : mX1_isNailed a i s = some (.inl (if kget K 0 i 4 = 1 then 1 else 0), s) := by
  unfold mX1_isNailed
  rw [onC_ok C.1, bnd_ok (gR_ok C.1 rfl), bnd_ok (get_ok C.t0)]
  show (if kget K 0 i 4 = 1 then _ else _ : MM Int32) s = _
  split <;> rfl
theorem guiltOf_run (C : Crt s a K) : mX1_guiltOf a i s = some (.inl (kguilt K i), s) := by
  unfold mX1_guiltOf kguilt
  rw [onC_ok C.1, bnd_ok (gR_ok C.1 rfl), bnd_ok (has_ok C.t0)]
  by_cases h : i < 0 ∨ Int32.ofNat (K.1 0) ≤ i
  · rw [if_pos h, if_pos h]; rfl
  · rw [if_neg h, if_neg h, if_neg (by decide), bnd_ok (gR_ok C.1 rfl), bnd_ok (get_ok C.t0)]
    rfl
theorem answered_run (C : Crt s a K) : mX1_answered a i s = some (.inl (kans K i), s) := by
  unfold mX1_answered
  rw [onC_ok C.1]
  have hl : loopM (mX1_answered_L4 a i) (sumI (fun k => kguilt K (kget K 1 i (Int32.ofNat k))) 0, Int32.ofNat 0) s = some (.inl (kans K i), s) := by
    refine loop_steps 3 (fun j => (sumI (fun k => kguilt K (kget K 1 i (Int32.ofNat k))) j, Int32.ofNat j)) (fun _ => s) (fun j hj => ?_) ?_
    · show mX1_answered_L4 a i (_, Int32.ofNat j) s = _
      unfold mX1_answered_L4
      have hn : ¬ (3 : Int32) ≤ Int32.ofNat j := fun q => absurd ((ofN_le (n := 3) (m := j) (by omega) (by omega)).mp q) (by omega)
      rw [if_neg hn, bnd_ok (gR_ok C.1 rfl), bnd_ok (get_ok C.t1), bnd_ok (guiltOf_run C), mret_mbnd, ofN_succ]
      rfl
    · rfl
  exact bnd_ok hl
theorem sentence_run (C : Crt s a K) : mX1_sentence a i s = some (.inl ((kans K i + 10 - 1) / 10), s) := by
  unfold mX1_sentence
  rw [onC_ok C.1, bnd_ok (answered_run C)]
  rfl
theorem markOf_run (C : Crt s a K) : mX1_markOf a i s = some (.inl (kmark K i), s) := by
  unfold mX1_markOf kmark
  rw [onC_ok C.1, bnd_ok (gR_ok C.1 rfl), bnd_ok (get_ok C.t1)]
  show (if kget K 1 i 1 = -1 then _ else _ : MM Int32) s = _
  by_cases h : kget K 1 i 1 = -1
  · rw [if_pos h, if_pos h]; rfl
  · rw [if_neg h, if_neg h, bnd_ok (gR_ok C.1 rfl)]
    refine (bnd_ok (get_ok C.t0)).trans ?_
    rw [bnd_ok (gR_ok C.1 rfl)]
    exact bnd_ok (get_ok C.t0)
theorem guiltySet_run (C : Crt s a K) : mX1_guiltySet a s = some (.inl (kguilty K), s) := by
  unfold mX1_guiltySet
  rw [onC_ok C.1]
  have hr : K.1 1 ≤ 6 := C.t1.2.2.1
  have hl : loopM (mX1_guiltySet_L4 a) (orI (fun t => if kans K (Int32.ofNat t) ≤ K.2.2.1 10 then 0 else 1 <<< (Int32.ofNat t &&& (31 : Int32))) 0, Int32.ofNat 0) s = some (.inl (kguilty K), s) := by
    refine loop_steps (K.1 1) (fun j => (orI (fun t => if kans K (Int32.ofNat t) ≤ K.2.2.1 10 then 0 else 1 <<< (Int32.ofNat t &&& (31 : Int32))) j, Int32.ofNat j)) (fun _ => s) (fun j hj => ?_) ?_
    · show mX1_guiltySet_L4 a (_, Int32.ofNat j) s = _
      unfold mX1_guiltySet_L4
      rw [bnd_ok (gR_ok C.1 rfl), bnd_ok (gI_ok C.t1.1 rfl), if_neg (fun q => absurd ((ofN_le (by omega) (by omega)).mp q) (by omega)), bnd_ok (answered_run C), bnd_ok (gI_ok C.1 rfl)]
      show mbnd (if kans K (Int32.ofNat j) ≤ K.2.2.1 10 then _ else _ : MM Int32) _ s = some (Sum.inl (Sum.inl (_ ||| (if kans K (Int32.ofNat j) ≤ K.2.2.1 10 then _ else _), Int32.ofNat (j + 1))), s)
      rw [← ofN_succ]
      split <;> rfl
    · show mX1_guiltySet_L4 a (_, Int32.ofNat (K.1 1)) s = _
      unfold mX1_guiltySet_L4
      rw [bnd_ok (gR_ok C.1 rfl), bnd_ok (gI_ok C.t1.1 rfl), if_pos (Int32.le_refl _)]
      rfl
  exact bnd_ok hl
end CR
