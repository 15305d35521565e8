/-! COURTS THAT CHANGE: GUILT that passes on, work done, a DAY -/
def kpass (K : CK) (p q g : Int32) : CK := if g ≤ 0 then K else
  let K1 := kput K 0 p 3 (kget K 0 p 3 + -g)
  kblame (kput K1 0 q 7 (kget K1 0 q 7 + g)) q g (-1) p
/-- work done by the first n sorts: what is left, and the Court -/
def kwork (K : CK) (t m : Int32) : Nat → Int32 × CK
  | 0 => (m, K)
  | n + 1 =>
    let K1 := (kwork K t m n).2
    let p := kget K1 1 t (Int32.ofNat n)
    let l := imin (kwork K t m n).1 (kguilt K1 p)
    ((kwork K t m n).1 - l, kput K1 0 p 3 (kget K1 0 p 3 + -l))
section PS
variable {s : aS} {a t r : Nat} {K K' : CK} {i j v d f : Int32} {α β σ ε : Type}
theorem passOn_run (C : Crt s a K) : CRun (mX1_passOn a i j v) s a () (kpass K i j v) := by
  unfold mX1_passOn kpass
  refine CRun.onC C ?_
  by_cases h : v ≤ 0
  · rw [if_pos h, if_pos h]
    exact CRun.ret C
  · rw [if_neg h, if_neg h]
    exact CRun.get (gR_ok C.1 rfl) (CRun.bnd (cadd0 C) fun s1 C1 => CRun.get (gR_ok C1.1 rfl) (CRun.bnd (cadd0 C1) fun s2 C2 => CRun.bnd (blame_run C2) fun s3 C3 => CRun.ret C3))
/-- a loop over one Court whose rounds are known -/
theorem CRun.loop {b : σ → MM (σ ⊕ ε)} {e : ε} (N : Nat) (X : Nat → σ) (Q : Nat → CK) (hs : ∀ n s', n < N → Crt s' a (Q n) → CRun (b (X n)) s' a (.inl (X (n + 1))) (Q (n + 1))) (he : ∀ s', Crt s' a (Q N) → CRun (b (X N)) s' a (.inr e) K') (C : Crt s a (Q 0)) : CRun (loopM b (X 0)) s a e K' := by
  have key : ∀ m, m ≤ N → ∀ s', Crt s' a (Q (N - m)) → CRun (loopM b (X (N - m))) s' a e K' := by
    intro m
    induction m with
    | zero =>
      intro _ s' C'
      rw [loopM_eq]
      exact CRun.bnd (he s' C') fun s2 C2 => CRun.ret C2
    | succ m ih =>
      intro hm s' C'
      rw [loopM_eq]
      have h := hs (N - (m + 1)) s' (by omega) C'
      rw [show N - (m + 1) + 1 = N - m by omega] at h
      exact CRun.bnd h fun s2 C2 => ih (by omega) s2 C2
  have h := key N (Nat.le_refl N) s (by rw [Nat.sub_self]; exact C)
  rwa [Nat.sub_self] at h
theorem workOff_run (C : Crt s a K) : CRun (mX1_workOff a i v) s a (v - (kwork K i v 3).1) (kint (kwork K i v 3).2 12 ((kwork K i v 3).2.2.2.1 12 + (v - (kwork K i v 3).1))) := by
  unfold mX1_workOff
  refine CRun.onC C (CRun.bnd (K := (kwork K i v 3).2) (x := (kwork K i v 3).1) (CRun.loop 3 (fun n => ((kwork K i v n).1, Int32.ofNat n)) (fun n => (kwork K i v n).2) (fun n s' hn C' => ?_) (fun s' C' => CRun.ret C') C) fun s1 C1 => CRun.get (gI_ok C1.1 rfl) (CRun.bnd (cint (k := 12) C1 (by decide) (by decide)) fun s2 C2 => CRun.ret C2))
  show CRun (mX1_workOff_L5 a i (_, Int32.ofNat n)) s' a _ _
  unfold mX1_workOff_L5
  have h3 : ¬ (3 : Int32) ≤ Int32.ofNat n := fun q => absurd ((ofN_le (n := 3) (m := n) (by omega) (by omega)).mp q) (by omega)
  rw [if_neg h3, ← ofN_succ]
  exact CRun.get (gR_ok C'.1 rfl) (CRun.get (get_ok C'.t1) (CRun.get (guiltOf_run C') (CRun.get (m := mret _) rfl (CRun.get (gR_ok C'.1 rfl) (CRun.bnd (cadd0 C') fun s2 C2 => CRun.get (m := mret _) rfl (CRun.ret C2))))))
end PS
