/-! COURTS THAT CHANGE: a DAY -/
def kwear (K : CK) (p m : Int32) : CK := kput K 0 p 2 (imin 99 (kget K 0 p 2 + m))
/-- heads rust: what came, and the Court, behind the first n parts -/
def krust (K : CK) : Nat → Int32 × CK
  | 0 => (0, K)
  | n + 1 =>
    let K1 := (krust K n).2
    if kget K1 0 (Int32.ofNat n) 0 = 1 then ((krust K n).1 + (imin 99 (kget K1 0 (Int32.ofNat n) 2 + 1) - kget K1 0 (Int32.ofNat n) 2), kwear K1 (Int32.ofNat n) 1) else ((krust K n).1, K1)
theorem krust_rows (K : CK) : ∀ n, (krust K n).2.1 = K.1
  | 0 => rfl
  | n + 1 => by
    show (if _ then _ else _ : Int32 × CK).2.1 = _
    split
    · exact krust_rows K n
    · exact krust_rows K n
/-- marks are noted, needs go on: behind the first n tools (sheet q) -/
def kmarks (K : CK) (q : Int32) : Nat → CK
  | 0 => K
  | n + 1 =>
    let K1 := kput (kmarks K q n) 5 q (Int32.ofNat n) (kmark (kmarks K q n) (Int32.ofNat n))
    kput K1 1 (Int32.ofNat n) 3 (iushr (kget K1 1 (Int32.ofNat n) 3) 1)
theorem kmarks_rows (K : CK) (q : Int32) : ∀ n, (kmarks K q n).1 = K.1
  | 0 => rfl
  | n + 1 => kmarks_rows K q n
def kseed (x : Int32) : Int32 := 1103515245 * x + 12345
def kdamp (K : CK) (x : Int32) : Int32 := if K.2.2.1 9 ≤ ((iushr x 16) &&& 32767) - ((iushr x 16) &&& 32767) / 100 * 100 then 0 else 1
/-- the day itself: sheet, marks, needs, seed, day -/
def kday0 (K : CK) : CK :=
  let K1 := kmarks (klast K 5 (-1)) (klastR K 5) (K.1 1)
  kint (kint K1 11 (kseed (K1.2.2.1 11))) 8 (K1.2.2.1 8 + 1)
def kday (K : CK) : Int32 × CK := if kdamp (kday0 K) ((kday0 K).2.2.1 11) = 0 then (0, kday0 K) else krust (kday0 K) ((kday0 K).1 0)
section DY
variable {s : aS} {a t r : Nat} {K K' : CK} {i j v d f : Int32}
theorem rust_run (C : Crt s a K) : CRun (mX1_rust a) s a (krust K (K.1 0)).1 (krust K (K.1 0)).2 := by
  unfold mX1_rust
  have h16 : K.1 0 ≤ 16 := C.t0.2.2.1
  refine CRun.onC C (CRun.bnd (K := (krust K (K.1 0)).2) (x := (krust K (K.1 0)).1) (CRun.loop (K.1 0) (fun n => ((krust K n).1, Int32.ofNat n)) (fun n => (krust K n).2) (fun n s' hn C' => ?_) (fun s' C' => ?_) C) fun s1 C1 => CRun.ret C1)
  · show CRun (mX1_rust_L4 a (_, Int32.ofNat n)) s' a _ _
    have hr : (krust K n).2.1 0 = K.1 0 := by rw [krust_rows]
    unfold mX1_rust_L4
    refine CRun.get (gR_ok C'.1 rfl) (CRun.get (gI_ok C'.t0.1 rfl) ?_)
    rw [hr, if_neg (fun q => absurd ((ofN_le (by omega) (by omega)).mp q) (by omega)), ← ofN_succ]
    refine CRun.get (gR_ok C'.1 rfl) (CRun.get (get_ok C'.t0) ?_)
    show CRun (mbnd (if kget (krust K n).2 0 (Int32.ofNat n) 0 = 1 then _ else _ : MM Int32) _) s' a (Sum.inl ((if kget (krust K n).2 0 (Int32.ofNat n) 0 = 1 then _ else _ : Int32 × CK).1, Int32.ofNat n + 1)) (if kget (krust K n).2 0 (Int32.ofNat n) 0 = 1 then _ else _ : Int32 × CK).2
    by_cases h : kget (krust K n).2 0 (Int32.ofNat n) 0 = 1
    · rw [if_pos h, if_pos h]
      exact CRun.bnd (CRun.bnd (wearOff_run C') fun s2 C2 => CRun.get (m := mret _) rfl (CRun.ret C2)) fun s2 C2 => CRun.ret C2
    · rw [if_neg h, if_neg h]
      exact CRun.get (m := mret _) rfl (CRun.ret C')
  · show CRun (mX1_rust_L4 a (_, Int32.ofNat (K.1 0))) s' a _ _
    have hr : (krust K (K.1 0)).2.1 0 = K.1 0 := by rw [krust_rows]
    unfold mX1_rust_L4
    refine CRun.get (gR_ok C'.1 rfl) (CRun.get (gI_ok C'.t0.1 rfl) ?_)
    rw [hr, if_pos (Int32.le_refl _)]
    exact CRun.ret C'
theorem klast_rows1 (K : CK) (v : Int32) : (klast K 5 v).1 1 = K.1 1 := by
  unfold klast
  split <;> rfl
theorem passDay_run (C : Crt s a K) : CRun (mX1_passDay a) s a (kday K).1 (kday K).2 := by
  unfold mX1_passDay
  have h6 : K.1 1 ≤ 6 := C.t1.2.2.1
  refine CRun.onC C (CRun.get (gR_ok C.1 rfl) (CRun.bnd (clast (t := 5) C (by decide) (by decide)) fun s1 C1 => ?_))
  refine CRun.bnd (K := kmarks (klast K 5 (-1)) (klastR K 5) (K.1 1)) (x := ()) (CRun.loop (K.1 1) (fun n => Int32.ofNat n) (fun n => kmarks (klast K 5 (-1)) (klastR K 5) n) (fun n s' hn C' => ?_) (fun s' C' => ?_) C1) fun s2 C2 => ?_
  · show CRun (mX1_passDay_L11 a (klastR K 5) (Int32.ofNat n)) s' a _ _
    have hr : (kmarks (klast K 5 (-1)) (klastR K 5) n).1 1 = K.1 1 := by rw [kmarks_rows, klast_rows1]
    unfold mX1_passDay_L11
    refine CRun.get (gR_ok C'.1 rfl) (CRun.get (gI_ok C'.t1.1 rfl) ?_)
    rw [hr, if_neg (fun q => absurd ((ofN_le (by omega) (by omega)).mp q) (by omega)), ← ofN_succ]
    exact CRun.get (gR_ok C'.1 rfl) (CRun.get (markOf_run C') (CRun.bnd (cput5 C') fun s3 C3 => CRun.get (gR_ok C3.1 rfl) (CRun.get (gR_ok C3.1 rfl) (CRun.get (get_ok C3.t1) (CRun.bnd (cput1 C3) fun s4 C4 => CRun.ret C4)))))
  · show CRun (mX1_passDay_L11 a (klastR K 5) (Int32.ofNat (K.1 1))) s' a _ _
    have hr : (kmarks (klast K 5 (-1)) (klastR K 5) (K.1 1)).1 1 = K.1 1 := by rw [kmarks_rows, klast_rows1]
    unfold mX1_passDay_L11
    refine CRun.get (gR_ok C'.1 rfl) (CRun.get (gI_ok C'.t1.1 rfl) ?_)
    rw [hr, if_pos (Int32.le_refl _)]
    exact CRun.ret C'
  · refine CRun.get (gI_ok C2.1 rfl) (CRun.get (m := mX1_nextSeed _) rfl (CRun.bnd (cint (k := 11) C2 (by decide) (by decide)) fun s3 C3 => CRun.get (gI_ok C3.1 rfl) (CRun.bnd (cint (k := 8) C3 (by decide) (by decide)) fun s4 C4 => CRun.get (gI_ok C4.1 rfl) (CRun.get (isDamp_run C4) ?_))))
    show CRun (if kdamp (kday0 K) ((kday0 K).2.2.1 11) = 0 then _ else _ : MM Int32) s4 a (if kdamp (kday0 K) ((kday0 K).2.2.1 11) = 0 then _ else _ : Int32 × CK).1 (if kdamp (kday0 K) ((kday0 K).2.2.1 11) = 0 then _ else _ : Int32 × CK).2
    by_cases h : kdamp (kday0 K) ((kday0 K).2.2.1 11) = 0
    · rw [if_pos h, if_pos h]
      exact CRun.ret C4
    · rw [if_neg h, if_neg h]
      exact CRun.bnd (rust_run C4) fun s5 C5 => CRun.ret C5
end DY
