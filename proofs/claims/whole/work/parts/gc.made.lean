/-! A NEW LAW of the class -/
def nob (_ : Nat) : Prop := False
theorem push_fr {s : aS} {e : AE} {k : Nat} : Fr nob s (push s e k) := ⟨Nat.le_succ _, fun q hq _ => if_neg (Nat.ne_of_lt hq)⟩
theorem sup_fr {s s0 : aS} {a : Nat} {e : AE} (h0 : s0.2.1 ≤ a) (h : Fr nob s0 s) : Fr nob s0 (sup s a e) := ⟨h.1, fun q hq hn => (if_neg (by omega)).trans (h.2 q hq hn)⟩
section MD
variable {s : aS} {f : Nat → Int32} {N : Nat}
theorem copyOf_run (h : hasI s 64 0 400 f) (hN : N ≤ 400) : ∃ s1 code, mJ7_copyOf_59c91 64 (imax 0 (Int32.ofNat N)) s = some (.inl s.2.1, s1) ∧ hasI s1 s.2.1 0 N code ∧ (∀ j, j < N → code j = f j) ∧ Fr nob s s1 ∧ s1.2.1 = s.2.1 + 1 ∧ s1.2.2.1 = s.2.2.1 + 1 ∧ s1.2.2.2 = s.2.2.2 + N := by
  have em : imax 0 (Int32.ofNat N) = Int32.ofNat N := by
    have := imax_of (n := 0) (k := N) (by omega) (by omega)
    rwa [Nat.zero_max] at this
  rw [em]
  unfold mJ7_copyOf_59c91
  rw [bnd_ok (lenI_ok h)]
  by_cases h4 : N = 400
  · subst h4
    rw [if_pos rfl]
    refine ⟨push s (.inr (.inl (0, 400, f))) 400, f, ?_, hasI_new, fun _ _ => rfl, push_fr, rfl, rfl, rfl⟩
    have e1 : cln 64 s = some (.inl s.2.1, push s (.inr (.inl (0, 400, f))) 400) := by
      unfold cln
      rw [h.1]
      exact if_pos h.2
    have e2 : isI0 s.2.1 (push s (.inr (.inl (0, 400, f))) 400) = some (.inl (), push s (.inr (.inl (0, 400, f))) 400) := by
      have hh : hasI (push s (.inr (.inl (0, 400, f))) 400) s.2.1 0 400 f := hasI_new
      unfold isI0
      rw [hh.1]
      exact if_pos hh.2
    rw [bnd_ok e1, bnd_ok e2]
    rfl
  · rw [if_neg (fun q => h4 (by rwa [ofN_inj (by omega) (by decide)] at q)), bnd_ok (nwI_ok (by omega))]
    have h2 : hasI (push s (.inr (.inl (0, N, fun _ => 0))) N) 64 0 400 f := hasI_push h
    have h3 : hasI (push s (.inr (.inl (0, N, fun _ => 0))) N) s.2.1 0 N (fun _ => 0) := hasI_new
    have en : imin (Int32.ofNat 400) (Int32.ofNat N) = Int32.ofNat N := by
      unfold imin
      rw [if_pos ((ofN_lt (by omega) (by decide)).mpr (by omega))]
    refine ⟨sup (push s (.inr (.inl (0, N, fun _ => 0))) N) s.2.1 (.inr (.inl (0, N, va_cpy f (fun _ => 0) 0 0 N))), va_cpy f (fun _ => 0) 0 0 N, ?_, ⟨up_self, h3.2⟩, fun j hj => ?_, sup_fr (Nat.le_refl _) push_fr, rfl, rfl, rfl⟩
    · rw [bnd_ok (lenI_ok h2), en, bnd_ok (show cpI 0 64 0 s.2.1 0 (Int32.ofNat N) (push s (.inr (.inl (0, N, fun _ => 0))) N) = _ from cpI_ok (sp := 0) (dp := 0) h2 h3 (by omega) (by omega) (by omega) (by omega))]
      rfl
    · unfold va_cpy
      rw [if_pos (by omega)]
      exact congrArg f (by omega)
theorem made_run {x : Nat → Int32} {F : Nat → Nat → Int32} (R : RdL s x F) (hN : N ≤ 400) (h14 : x 14 = Int32.ofNat N) : ∃ s1 code, mX5_made 59 s = some (.inl s.2.1, s1) ∧ LawAt s1 s.2.1 (x 10) N code ∧ (∀ j, j < N → code j = F 4 j) ∧ (∃ g, hasI s1 (s.2.1 + 2) 0 40 g) ∧ Fr nob s s1 ∧ s1.2.2.1 = s.2.2.1 + 3 ∧ s1.2.2.2 = s.2.2.2 + 3 + N + 40 := by
  unfold mX5_made
  rw [R.o]
  have f1 : Fr nob s (push s (.inl (4, [.int 0, .null, .null])) 3) := push_fr
  refine ?_
  rw [show ∀ (g : Nat → MM Nat), (mbnd (nw 4 3 [.int 0, .null, .null]) g) s = g s.2.1 (push s (.inl (4, [.int 0, .null, .null])) 3) from fun g => rfl]
  have O1 : hasO (push s (.inl (4, [.int 0, .null, .null])) 3) s.2.1 4 [.int 0, .null, .null] := hasO_new
  have R1 : RdL (push s (.inl (4, [.int 0, .null, .null])) 3) x F := ⟨hasO_push R.1, fun q hq => hasI_push (R.2.1 q hq), hasI_push R.2.2⟩
  have n1 : (push s (.inl (4, [.int 0, .null, .null])) 3).2.1 = s.2.1 + 1 := rfl
  have c1 : (push s (.inl (4, [.int 0, .null, .null])) 3).2.2.1 = s.2.2.1 + 1 := rfl
  have z1 : (push s (.inl (4, [.int 0, .null, .null])) 3).2.2.2 = s.2.2.2 + 3 := rfl
  generalize push s (.inl (4, [.int 0, .null, .null])) 3 = s2 at f1 O1 R1 n1 c1 z1
  obtain ⟨s3, code, e3, I3, hc, f3, n3, c3, z3⟩ := copyOf_run (R1.2.1 4 (by decide)) hN
  rw [n1] at I3 e3 n3
  have g14 : gI 5 14 59 s2 = some (.inl (Int32.ofNat N), s2) := by
    rw [← h14]
    exact get4 R1 (by decide) (by decide)
  have O3 : hasO s3 s.2.1 4 [.int 0, .null, .null] := hasO_fr O1 f3 (fun h => h)
  -- the constructor
  have O4 : hasO (push s3 (.inr (.inl (0, 40, fun _ => 0))) 40) s.2.1 4 [.int 0, .null, .null] := hasO_push O3
  have I4 : hasI (push s3 (.inr (.inl (0, 40, fun _ => 0))) 40) s3.2.1 0 40 (fun _ => 0) := hasI_new
  have I4' : hasI (push s3 (.inr (.inl (0, 40, fun _ => 0))) 40) (s.2.1 + 1) 0 N code := hasI_push I3
  have f4 : Fr nob s3 (push s3 (.inr (.inl (0, 40, fun _ => 0))) 40) := push_fr
  have n4 : (push s3 (.inr (.inl (0, 40, fun _ => 0))) 40).2 = (s3.2.1 + 1, s3.2.2.1 + 1, s3.2.2.2 + 40) := rfl
  have w4 : nwI 0 40 s3 = some (.inl s3.2.1, push s3 (.inr (.inl (0, 40, fun _ => 0))) 40) := nwI_ok (t := 0) (n := 40) (by decide)
  rw [n3] at I4 w4
  generalize push s3 (.inr (.inl (0, 40, fun _ => 0))) 40 = s4 at O4 I4 I4' f4 n4 w4
  have p5 : pR 4 2 s.2.1 (s.2.1 + 1 + 1) s4 = some (.inl (), sup s4 s.2.1 (.inl (4, [.int 0, .null, .ref (s.2.1 + 1 + 1)]))) := pF_ok O4 (Nat.le_of_ble_eq_true rfl)
  have O5 : hasO (sup s4 s.2.1 (.inl (4, [.int 0, .null, .ref (s.2.1 + 1 + 1)]))) s.2.1 4 [.int 0, .null, .ref (s.2.1 + 1 + 1)] := hasO_put O4.2
  have p6 : pI 4 0 s.2.1 (x 10) (sup s4 s.2.1 (.inl (4, [.int 0, .null, .ref (s.2.1 + 1 + 1)]))) = some (.inl (), sup (sup s4 s.2.1 (.inl (4, [.int 0, .null, .ref (s.2.1 + 1 + 1)]))) s.2.1 (.inl (4, [.int (x 10), .null, .ref (s.2.1 + 1 + 1)]))) := pF_ok O5 (Nat.le_of_ble_eq_true rfl)
  have O6 : hasO (sup (sup s4 s.2.1 (.inl (4, [.int 0, .null, .ref (s.2.1 + 1 + 1)]))) s.2.1 (.inl (4, [.int (x 10), .null, .ref (s.2.1 + 1 + 1)]))) s.2.1 4 [.int (x 10), .null, .ref (s.2.1 + 1 + 1)] := hasO_put O4.2
  have p7 : pR 4 1 s.2.1 (s.2.1 + 1) (sup (sup s4 s.2.1 (.inl (4, [.int 0, .null, .ref (s.2.1 + 1 + 1)]))) s.2.1 (.inl (4, [.int (x 10), .null, .ref (s.2.1 + 1 + 1)]))) = some (.inl (), sup (sup (sup s4 s.2.1 (.inl (4, [.int 0, .null, .ref (s.2.1 + 1 + 1)]))) s.2.1 (.inl (4, [.int (x 10), .null, .ref (s.2.1 + 1 + 1)]))) s.2.1 (.inl (4, [.int (x 10), .ref (s.2.1 + 1), .ref (s.2.1 + 1 + 1)]))) := pF_ok O6 (Nat.le_of_ble_eq_true rfl)
  have fr : Fr nob s s4 := f1.tr (f3.tr f4)
  refine ⟨sup (sup (sup s4 s.2.1 (.inl (4, [.int 0, .null, .ref (s.2.1 + 1 + 1)]))) s.2.1 (.inl (4, [.int (x 10), .null, .ref (s.2.1 + 1 + 1)]))) s.2.1 (.inl (4, [.int (x 10), .ref (s.2.1 + 1), .ref (s.2.1 + 1 + 1)])), code, ?_, ⟨hasO_put O4.2, hasI_sup (hasI_sup (hasI_sup I4' (by omega)) (by omega)) (by omega)⟩, hc, ⟨_, hasI_sup (hasI_sup (hasI_sup I4 (by omega)) (by omega)) (by omega)⟩, sup_fr (Nat.le_refl _) (sup_fr (Nat.le_refl _) (sup_fr (Nat.le_refl _) fr)), ?_, ?_⟩
  · have init : mX4_init s.2.1 (x 10) (s.2.1 + 1) s3 = some (.inl (), sup (sup (sup s4 s.2.1 (.inl (4, [.int 0, .null, .ref (s.2.1 + 1 + 1)]))) s.2.1 (.inl (4, [.int (x 10), .null, .ref (s.2.1 + 1 + 1)]))) s.2.1 (.inl (4, [.int (x 10), .ref (s.2.1 + 1), .ref (s.2.1 + 1 + 1)]))) := by
      unfold mX4_init
      rw [onC_ok O3, bnd_ok w4, bnd_ok p5, bnd_ok p6, bnd_ok p7]
      rfl
    rw [bnd_ok (rgil R1 (k := 10) (by decide) (by decide)), bnd_ok (show gR 5 12 59 s2 = some (.inl 64, s2) from gR_ok R1.1 rfl), bnd_ok g14, bnd_ok e3, bnd_ok (nox_ok init)]
    rfl
  · show s4.2.2.1 = _
    rw [n4]
    show s3.2.2.1 + 1 = _
    omega
  · show s4.2.2.2 = _
    rw [n4]
    show s3.2.2.2 + 40 = _
    omega
end MD
