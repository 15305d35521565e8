/-! TABLES: a new one -/
theorem push_hup {s : aS} {a k : Nat} {e e' : AE} (h : a ≠ s.2.1) : sup (push s e' k) a e = push (sup s a e) e' k := by
  obtain ⟨hh, n0, c0, z0⟩ := s
  unfold sup push
  congr 1
  funext b
  show (if b = a then e else (if b = n0 then e' else hh b)) = if b = n0 then e' else (if b = a then e else hh b)
  by_cases h1 : b = a
  · rw [if_pos h1, if_neg (fun q => h (h1.symm.trans q)), if_pos h1]
  · rw [if_neg h1, if_neg h1]
theorem nwI_ok {s : aS} {t n : Nat} (h : n ≤ 100000) : nwI t (Int32.ofNat n) s = some (.inl s.2.1, push s (.inr (.inl (t, n, fun _ => 0))) n) := by
  unfold nwI
  rw [ofN_cl (by omega), if_neg (fun q => q.elim (ofN_nn (by omega)) (fun q => absurd h (by omega)))]
theorem hasO_push {s : aS} {a ci k : Nat} {fs : List Value} {e : AE} (h : hasO s a ci fs) : hasO (push s e k) a ci fs := ⟨(if_neg (Nat.ne_of_lt h.2)).trans h.1, Nat.lt_succ_of_lt h.2⟩
theorem hasI_push {s : aS} {a t n k : Nat} {f : Nat → Int32} {e : AE} (h : hasI s a t n f) : hasI (push s e k) a t n f := ⟨(if_neg (Nat.ne_of_lt h.2)).trans h.1, Nat.lt_succ_of_lt h.2⟩
theorem hasI_new {s : aS} {t n k : Nat} {f : Nat → Int32} : hasI (push s (.inr (.inl (t, n, f))) k) s.2.1 t n f := ⟨if_pos rfl, Nat.lt_succ_self _⟩
theorem hasO_new {s : aS} {ci k : Nat} {fs : List Value} : hasO (push s (.inl (ci, fs)) k) s.2.1 ci fs := ⟨if_pos rfl, Nat.lt_succ_self _⟩
theorem init_run {s : aS} {a m w : Nat} (h : hasO s a 8 [.null, .int 0, .int 0, .int 0]) (hm : m ≤ 1000) (hw : w ≤ 1000) (hb : m * w ≤ 1000) : mX8_init a (Int32.ofNat m) (Int32.ofNat w) s = some (.inl (), sup (push s (tE m w fun _ => 0) (m * w)) a (tO s.2.1 m w 0)) := by
  unfold mX8_init
  rw [onC_ok h]
  have e0 : ∀ n, n < 2 ^ 31 → imax 0 (Int32.ofNat n) = Int32.ofNat n := fun n hn => by
    have := imax_of (n := 0) (k := n) (by omega) hn
    rwa [Nat.zero_max] at this
  rw [e0 m (by omega), e0 w (by omega)]
  rw [bnd_ok (show pI 8 1 a _ s = some (.inl (), sup s a (.inl (8, [.null, .int (Int32.ofNat m), .int 0, .int 0]))) from pF_ok h (Nat.le_of_ble_eq_true rfl))]
  have h1 : hasO (sup s a (.inl (8, [.null, .int (Int32.ofNat m), .int 0, .int 0]))) a 8 [.null, .int (Int32.ofNat m), .int 0, .int 0] := hasO_put h.2
  rw [bnd_ok (show pI 8 2 a _ _ = some (.inl (), sup (sup s a (.inl (8, [.null, .int (Int32.ofNat m), .int 0, .int 0]))) a (.inl (8, [.null, .int (Int32.ofNat m), .int (Int32.ofNat w), .int 0]))) from pF_ok h1 (Nat.le_of_ble_eq_true rfl)), sup_sup]
  have h2 : hasO (sup s a (.inl (8, [.null, .int (Int32.ofNat m), .int (Int32.ofNat w), .int 0]))) a 8 [.null, .int (Int32.ofNat m), .int (Int32.ofNat w), .int 0] := hasO_put h.2
  rw [bnd_ok (gI_ok h2 rfl), bnd_ok (gI_ok h2 rfl), ofN_mul, e0 (m * w) (by omega), bnd_ok (nwI_ok (by omega))]
  have h3 := hasO_push (e := tE m w fun _ => 0) (k := m * w) h2
  refine (bnd_ok (show pR 8 0 a s.2.1 (push (sup s a (.inl (8, [.null, .int (Int32.ofNat m), .int (Int32.ofNat w), .int 0]))) (tE m w fun _ => 0) (m * w)) = some (.inl (), sup (push (sup s a (.inl (8, [.null, .int (Int32.ofNat m), .int (Int32.ofNat w), .int 0]))) (tE m w fun _ => 0) (m * w)) a (tO s.2.1 m w 0)) from pF_ok h3 (Nat.le_of_ble_eq_true rfl))).trans ?_
  rw [← push_hup (Nat.ne_of_lt h.2), sup_sup]
  rfl
