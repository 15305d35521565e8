/-! WHAT STANDS OUTSIDE STAYS -/
def Fr (P : Nat → Prop) (s s' : aS) : Prop := s.2.1 ≤ s'.2.1 ∧ ∀ k, k < s.2.1 → ¬ P k → s'.1 k = s.1 k
theorem Fr.rf {P : Nat → Prop} {s : aS} : Fr P s s := ⟨Nat.le_refl _, fun _ _ _ => rfl⟩
theorem Fr.tr {P : Nat → Prop} {s s1 s2 : aS} (h : Fr P s s1) (g : Fr P s1 s2) : Fr P s s2 := ⟨Nat.le_trans h.1 g.1, fun k hk hp => (g.2 k (Nat.lt_of_lt_of_le hk h.1) hp).trans (h.2 k hk hp)⟩
theorem Fr.mono {P Q : Nat → Prop} {s s' : aS} (h : Fr P s s') (q : ∀ k, P k → Q k) : Fr Q s s' := ⟨h.1, fun k hk hp => h.2 k hk fun z => hp (q k z)⟩
theorem Off.fr {s s' : aS} {lo hi : Nat} (h : Off s s' lo hi) : Fr (fun k => lo ≤ k ∧ k ≤ hi) s s' := ⟨by rw [h.1]; exact Nat.le_refl _, fun k _ hp => h.2 k (by
  have hp' : ¬ (lo ≤ k ∧ k ≤ hi) := hp
  omega)⟩
theorem ScR.fr {s s' : aS} {l : Nat} (h : ScR l s s') : Fr (scr l) s s' := ⟨by rw [h.1]; exact Nat.le_refl _, fun k _ hp => h.2.1 k hp⟩
theorem thS_fr {P : Nat → Prop} {s : aS} : Fr P s (thS s) := ⟨Nat.le_refl _, fun _ _ _ => rfl⟩
theorem Fr.sup {s : aS} {a : Nat} {e : AE} : Fr (fun q => q = a) s (sup s a e) := ⟨Nat.le_refl _, fun k _ hp => if_neg hp⟩
section FR
variable {P : Nat → Prop} {s s' : aS} {a ci t n : Nat} {fs : List Value} {f : Nat → Int32} {K : CK} {M : MK}
theorem hasO_fr (h : hasO s a ci fs) (r : Fr P s s') (hn : ¬ P a) : hasO s' a ci fs := ⟨(r.2 a h.2 hn).trans h.1, Nat.lt_of_lt_of_le h.2 r.1⟩
theorem hasI_fr (h : hasI s a t n f) (r : Fr P s s') (hn : ¬ P a) : hasI s' a t n f := ⟨(r.2 a h.2 hn).trans h.1, Nat.lt_of_lt_of_le h.2 r.1⟩
theorem Tb.fr {c m w r : Nat} (T : Tb s a c m w r f) (h : Fr P s s') (h1 : ¬ P a) (h2 : ¬ P c) : Tb s' a c m w r f := ⟨hasO_fr T.1 h h1, hasI_fr T.2.1 h h2, T.2.2⟩
theorem Crt.fr (C : Crt s a K) (r : Fr P s s') (ha : ∀ k, a ≤ k → k ≤ a + 12 → ¬ P k) : Crt s' a K := ⟨hasO_fr C.1 r (ha a (Nat.le_refl a) (by omega)), fun k hk => (C.2 k hk).fr r (ha _ (by omega) (by omega)) (ha _ (by omega) (by omega))⟩
theorem Crt.lt (C : Crt s a K) : a + 12 < s.2.1 := C.t5.2.1.2
theorem Mdl.fr (C : Mdl s a M) (r : Fr P s s') (ha : ∀ k, a ≤ k → k ≤ a + 12 → ¬ P k) : Mdl s' a M := ⟨hasO_fr C.1 r (ha a (Nat.le_refl a) (by omega)), fun q h1 h2 => hasI_fr (C.2 q h1 h2) r (ha _ (by omega) (by omega))⟩
theorem CC.fr {x : Int32} (C : CC s x K) (r : Fr P s s') (h0 : ¬ P 0) (ha : ∀ k, 28 ≤ k → k ≤ 40 → ¬ P k) : CC s' x K := ⟨hasO_fr C.1 r h0, C.2.fr r ha⟩
end FR
/-! A NEW COURT -/
theorem tab_new {s : aS} {a b k m w : Nat} {fs : List Value} (h : hasO s a 1 fs) (hb : s.2.1 = b) (hk : k < fs.length) (hm : m ≤ 1000) (hw : w ≤ 1000) (hmw : m * w ≤ 1000) : ∃ s', (∀ (β : Type) (g : MM β), (mbnd (nw 8 4 [.null, .int 0, .int 0, .int 0]) fun (v1 : Nat) => mbnd (nox (mX8_init v1 (Int32.ofNat m) (Int32.ofNat w))) fun _ => mbnd (pR 1 k a v1) fun _ => g) s = g s') ∧ hasO s' a 1 (fs.set k (.ref b)) ∧ Tb s' b (b + 1) m w 0 (fun _ => 0) ∧ s'.2.1 = b + 2 ∧ Fr (fun q => q = a) s s' ∧ s'.2.2.1 = s.2.2.1 + 2 ∧ s'.2.2.2 = s.2.2.2 + (4 + m * w) := by
  subst hb
  have hab : a ≠ s.2.1 := Nat.ne_of_lt h.2
  have hab1 : a ≠ s.2.1 + 1 := fun e => by
    have := h.2
    omega
  have h1 : hasO (push s (.inl (8, [.null, .int 0, .int 0, .int 0])) 4) s.2.1 8 [.null, .int 0, .int 0, .int 0] := hasO_new
  have h2 := init_run h1 hm hw hmw
  have h3 : hasO (sup (push (push s (.inl (8, [.null, .int 0, .int 0, .int 0])) 4) (tE m w fun _ => 0) (m * w)) s.2.1 (tO (s.2.1 + 1) m w 0)) a 1 fs := hasO_sup (hasO_push (hasO_push h)) hab
  refine ⟨sup (sup (push (push s (.inl (8, [.null, .int 0, .int 0, .int 0])) 4) (tE m w fun _ => 0) (m * w)) s.2.1 (tO (s.2.1 + 1) m w 0)) a (.inl (1, fs.set k (.ref s.2.1))), fun β g => ?_, hasO_put h3.2, ⟨?_, ?_, Nat.zero_le _, hmw, hm, hw⟩, rfl, ⟨?_, fun q hq hp => ?_⟩, rfl, Nat.add_assoc _ _ _⟩
  · refine (bnd_ok (show nw 8 4 [.null, .int 0, .int 0, .int 0] s = some (.inl s.2.1, push s (.inl (8, [.null, .int 0, .int 0, .int 0])) 4) from rfl)).trans ?_
    rw [bnd_ok (nox_ok h2)]
    exact bnd_ok (show pR 1 k a s.2.1 _ = _ from pF_ok h3 hk)
  · exact hasO_sup (hasO_put (Nat.lt_succ_of_lt (Nat.lt_succ_self _))) (Ne.symm hab)
  · exact hasI_sup (hasI_sup (hasI_new (s := push s (.inl (8, [.null, .int 0, .int 0, .int 0])) 4)) (by show s.2.1 + 1 ≠ s.2.1; omega)) (Ne.symm hab1)
  · show s.2.1 ≤ s.2.1 + 1 + 1
    omega
  · show (if q = a then _ else if q = s.2.1 then _ else if q = s.2.1 + 1 then _ else if q = s.2.1 then _ else s.1 q) = s.1 q
    rw [if_neg hp, if_neg (by omega), if_neg (by omega), if_neg (by omega)]
def kNew (l : Nat) : CK := ((fun _ => 0), (fun _ _ => 0), (fun j => if j = 11 then 1 else 0), l)
theorem court_init {s : aS} {a l : Nat} (h : hasO s a 1 [.null, .null, .null, .null, .null, .null, .null, .int 0, .int 0, .int 0, .int 0, .int 0, .int 0]) (ha : s.2.1 = a + 1) : ∃ s', mX1_init a l s = some (.inl (), s') ∧ Crt s' a (kNew l) ∧ s'.2.1 = a + 13 ∧ Fr (fun q => q = a) s s' ∧ s'.2.2.1 = s.2.2.1 + 12 ∧ s'.2.2.2 = s.2.2.2 + 1082 := by
  obtain ⟨s1, e1, h1, T1, n1, f1, r1, q1⟩ := tab_new (k := 0) (m := 16) (w := 8) h ha (Nat.le_of_ble_eq_true rfl) (by decide) (by decide) (by decide)
  obtain ⟨s2, e2, h2, T2, n2, f2, r2, q2⟩ := tab_new (k := 1) (m := 6) (w := 4) h1 n1 (Nat.le_of_ble_eq_true rfl) (by decide) (by decide) (by decide)
  obtain ⟨s3, e3, h3, T3, n3, f3, r3, q3⟩ := tab_new (k := 2) (m := 6) (w := 1) h2 n2 (Nat.le_of_ble_eq_true rfl) (by decide) (by decide) (by decide)
  obtain ⟨s4, e4, h4, T4, n4, f4, r4, q4⟩ := tab_new (k := 3) (m := 60) (w := 7) h3 n3 (Nat.le_of_ble_eq_true rfl) (by decide) (by decide) (by decide)
  obtain ⟨s5, e5, h5, T5, n5, f5, r5, q5⟩ := tab_new (k := 4) (m := 60) (w := 5) h4 n4 (Nat.le_of_ble_eq_true rfl) (by decide) (by decide) (by decide)
  obtain ⟨s6, e6, h6, T6, n6, f6, r6, q6⟩ := tab_new (k := 5) (m := 30) (w := 6) h5 n5 (Nat.le_of_ble_eq_true rfl) (by decide) (by decide) (by decide)
  have h6' : hasO s6 a 1 [.ref (a + 1), .ref (a + 3), .ref (a + 5), .ref (a + 7), .ref (a + 9), .ref (a + 11), .null, .int 0, .int 0, .int 0, .int 0, .int 0, .int 0] := h6
  have i1 : pI 1 11 a 1 s6 = some (.inl (), sup s6 a (.inl (1, [.ref (a + 1), .ref (a + 3), .ref (a + 5), .ref (a + 7), .ref (a + 9), .ref (a + 11), .null, .int 0, .int 0, .int 0, .int 0, .int 1, .int 0]))) := pF_ok h6' (Nat.le_of_ble_eq_true rfl)
  have h7 : hasO (sup s6 a (.inl (1, [.ref (a + 1), .ref (a + 3), .ref (a + 5), .ref (a + 7), .ref (a + 9), .ref (a + 11), .null, .int 0, .int 0, .int 0, .int 0, .int 1, .int 0]))) a 1 [.ref (a + 1), .ref (a + 3), .ref (a + 5), .ref (a + 7), .ref (a + 9), .ref (a + 11), .null, .int 0, .int 0, .int 0, .int 0, .int 1, .int 0] := hasO_put h6.2
  have i2 : pR 1 6 a l (sup s6 a (.inl (1, [.ref (a + 1), .ref (a + 3), .ref (a + 5), .ref (a + 7), .ref (a + 9), .ref (a + 11), .null, .int 0, .int 0, .int 0, .int 0, .int 1, .int 0]))) = some (.inl (), sup (sup s6 a (.inl (1, [.ref (a + 1), .ref (a + 3), .ref (a + 5), .ref (a + 7), .ref (a + 9), .ref (a + 11), .null, .int 0, .int 0, .int 0, .int 0, .int 1, .int 0]))) a (.inl (1, cF a (kNew l)))) := pF_ok h7 (Nat.le_of_ble_eq_true rfl)
  have h8 : hasO (sup (sup s6 a (.inl (1, [.ref (a + 1), .ref (a + 3), .ref (a + 5), .ref (a + 7), .ref (a + 9), .ref (a + 11), .null, .int 0, .int 0, .int 0, .int 0, .int 1, .int 0]))) a (.inl (1, cF a (kNew l)))) a 1 (cF a (kNew l)) := hasO_put h7.2
  have g6 : Fr (fun q => q = a) s6 (sup (sup s6 a (.inl (1, [.ref (a + 1), .ref (a + 3), .ref (a + 5), .ref (a + 7), .ref (a + 9), .ref (a + 11), .null, .int 0, .int 0, .int 0, .int 0, .int 1, .int 0]))) a (.inl (1, cF a (kNew l)))) := Fr.tr Fr.sup Fr.sup
  have hne : ∀ j, 0 < j → ¬ (fun q => q = a) (a + j) := fun j hj (e : a + j = a) => by omega
  refine ⟨_, ?_, ⟨h8, fun k hk => ?_⟩, ?_, f1.tr (f2.tr (f3.tr (f4.tr (f5.tr (f6.tr g6))))), ?_, ?_⟩
  · unfold mX1_init
    rw [onC_ok h]
    refine (e1 _ _).trans ((e2 _ _).trans ((e3 _ _).trans ((e4 _ _).trans ((e5 _ _).trans ((e6 _ _).trans ?_)))))
    exact (bnd_ok i1).trans ((bnd_ok i2).trans rfl)
  · match k, hk with
    | 0, _ => exact T1.fr (f2.tr (f3.tr (f4.tr (f5.tr (f6.tr g6))))) (hne 1 (by decide)) (hne 2 (by decide))
    | 1, _ => exact T2.fr (f3.tr (f4.tr (f5.tr (f6.tr g6)))) (hne 3 (by decide)) (hne 4 (by decide))
    | 2, _ => exact T3.fr (f4.tr (f5.tr (f6.tr g6))) (hne 5 (by decide)) (hne 6 (by decide))
    | 3, _ => exact T4.fr (f5.tr (f6.tr g6)) (hne 7 (by decide)) (hne 8 (by decide))
    | 4, _ => exact T5.fr (f6.tr g6) (hne 9 (by decide)) (hne 10 (by decide))
    | 5, _ => exact T6.fr g6 (hne 11 (by decide)) (hne 12 (by decide))
    | k + 6, h => exact absurd h (by omega)
  · show s6.2.1 = _
    omega
  · show s6.2.2.1 = _
    omega
  · show s6.2.2.2 = _
    omega
/-- a copy: what is used is the same -/
def Cpy (K1 K : CK) : Prop := (∀ t, t < 6 → K1.1 t = K.1 t) ∧ (∀ t, t < 6 → ∀ i, i < K.1 t * tW t → K1.2.1 t i = K.2.1 t i) ∧ (∀ k, 7 ≤ k → k ≤ 12 → K1.2.2.1 k = K.2.2.1 k) ∧ K1.2.2.2 = K.2.2.2
theorem kcopy_cpy (K K2 : CK) : Cpy (kcopy K K2) K2 := by
  refine ⟨fun t ht => ?_, fun t ht i hi => ?_, fun k h7 h12 => ?_, rfl⟩
  · match t, ht with
    | 0, _ => rfl
    | 1, _ => rfl
    | 2, _ => rfl
    | 3, _ => rfl
    | 4, _ => rfl
    | 5, _ => rfl
    | t + 6, h => exact absurd h (by omega)
  · have key : ∀ f g : Nat → Int32, va_cpy f g 0 0 (K2.1 t * tW t) i = f i := fun f g => by
      unfold va_cpy
      rw [if_pos ⟨Nat.zero_le _, by omega⟩]
      congr 1
      omega
    match t, ht with
    | 0, _ => exact key _ _
    | 1, _ => exact key _ _
    | 2, _ => exact key _ _
    | 3, _ => exact key _ _
    | 4, _ => exact key _ _
    | 5, _ => exact key _ _
    | t + 6, h => exact absurd h (by omega)
  · have : k = 7 ∨ k = 8 ∨ k = 9 ∨ k = 10 ∨ k = 11 ∨ k = 12 := by omega
    rcases this with rfl | rfl | rfl | rfl | rfl | rfl <;> rfl
theorem copied_run {s : aS} {K : CK} (C : Crt s 28 K) (q : Option (Nat × CK)) (hq : ∀ a K0, q = some (a, K0) → 41 ≤ a ∧ Crt s a K0) : ∃ s' a K1, mX6_copied 28 (q.map Prod.fst) s = some (.inl a, s') ∧ Crt s' a K1 ∧ Cpy K1 K ∧ Fr (fun k => a ≤ k ∧ k ≤ a + 12) s s' ∧ ((q = none ∧ a = s.2.1) ∨ ∃ K0, q = some (a, K0)) ∧ s'.2.2.1 ≤ s.2.2.1 + 13 ∧ s'.2.2.2 ≤ s.2.2.2 + 1095 := by
  match q, hq with
  | some (a, K0), hq =>
    obtain ⟨h41, D⟩ := hq a K0 rfl
    obtain ⟨s', h1, h2, h3⟩ := copy_run D C (by omega)
    refine ⟨s', a, _, ?_, h2, kcopy_cpy K0 K, h3.fr, Or.inr ⟨K0, rfl⟩, by rw [h3.1]; omega, by rw [h3.1]; omega⟩
    unfold mX6_copied
    exact (bnd_ok (v := a) (s' := s) rfl).trans ((bnd_ok h1).trans rfl)
  | none, _ =>
    have h40 := C.lt
    have hn : hasO (push s (.inl (1, [.null, .null, .null, .null, .null, .null, .null, .int 0, .int 0, .int 0, .int 0, .int 0, .int 0])) 13) s.2.1 1 [.null, .null, .null, .null, .null, .null, .null, .int 0, .int 0, .int 0, .int 0, .int 0, .int 0] := hasO_new
    have pf : ∀ P : Nat → Prop, Fr P s (push s (.inl (1, [.null, .null, .null, .null, .null, .null, .null, .int 0, .int 0, .int 0, .int 0, .int 0, .int 0])) 13) := fun P => ⟨Nat.le_succ _, fun k hk _ => if_neg (Nat.ne_of_lt hk)⟩
    have C0 := C.fr (pf fun _ => False) (fun _ _ _ => id)
    obtain ⟨s1, e1, D1, n1, f1, r1, q1⟩ := court_init (l := K.2.2.2) hn rfl
    have C1 := C0.fr f1 (fun k h1 h2 (e : k = s.2.1) => by omega)
    obtain ⟨s2, h1, h2, h3⟩ := copy_run D1 C1 (by omega)
    refine ⟨s2, s.2.1, _, ?_, h2, kcopy_cpy _ K, Fr.tr (pf _) (Fr.tr (f1.mono fun k (e : k = s.2.1) => by omega) h3.fr), Or.inl ⟨rfl, rfl⟩, ?_, ?_⟩
    · unfold mX6_copied
      refine (bnd_ok (v := s.2.1) (s' := s1) ?_).trans ((bnd_ok h1).trans rfl)
      refine (bnd_ok (show nw 1 13 _ s = some (.inl s.2.1, _) from rfl)).trans ?_
      rw [bnd_ok (show gR 1 6 28 _ = some (.inl K.2.2.2, _) from gR_ok C0.1 rfl), bnd_ok (nox_ok e1)]
      rfl
    · rw [h3.1, r1]
      show s.2.2.1 + 1 + 12 ≤ _
      omega
    · rw [h3.1, q1]
      show s.2.2.2 + 13 + 1082 ≤ _
      omega
