/-! ATOMS, ANDS, ORS of a law's text on both sides -/
def CBad (m : MM (Unit ⊕ Unit)) (s : aS) (n : Nat) (B : Nat → Nat) (c0 : Nat) (li fa : Int32) (z : Nat) : Prop := ∃ s1, Off s s1 59 65 ∧ ((m s = some (.inl (.inl ()), s1) ∧ LFl s1 z) ∨ (m s = some (.inl (.inr ()), s1) ∧ ∃ k C R S d b nu, LSt s1 n B c0 k C (R ++ S) d (b + 1) nu li fa ∧ b < 100 ∧ tb B n k = z ∧ C.length + R.length ≤ 400 ∧ (∀ v, v ∈ R → lets 1035 v) ∧ ∀ v r, S = v :: r → ¬ lets 1035 v))
def OutC (okR : List Nat → Prop) (stop : Nat → Prop) (w : Nat) (m : MM (Unit ⊕ Unit)) (mr : MM Int32) (s sm : aS) (M : MK) (W0 : Nat → Int32) (n : Nat) (B : Nat → Nat) (c0 k : Nat) (C S : List Nat) (P : List It) (d b : Nat) (li fa : Int32) : Prop :=
  (∃ z, CBad m s n B c0 li fa z ∧ NRun mr sm 0 fun s' => RBad s' M W0 z) ∨
  ∃ k' Q R C' nu' i' j' s1, m s = clC i' j' s1 ∧ Off s s1 59 65 ∧ LSt s1 n B c0 k' C' (R ++ S) d b nu' li fa ∧ C' ++ R = C ++ Q.map encI ∧ okR R ∧ (NRun mr sm 1 fun s' => RSt s' M n B W0 (P ++ Q) d k') ∧ stop k' ∧ k < k' ∧ tb B n k + Q.length ≤ tb B n k' ∧ i' + 1 ≤ k' ∧ j' + 1 ≤ k' ∧ (∀ i, i ∈ Q → itOk i) ∧ ∀ T, T.length ≤ w → tyP Q T = some (true :: T)
noncomputable def binL (t : Nat) (e : Int32) (r : MM Int32) (_ : Unit) : MM (Unit ⊕ (Unit ⊕ Unit)) :=
  mbnd (mX12_passes 66 t) fun (v7 : Int32) =>
  if v7 = 0 then (
    mret (.inr ((.inr ())))
  ) else (
    mbnd r fun (v9 : Int32) =>
    if v9 = 0 then (
      mret (.inr ((.inl ())))
    ) else (
      mbnd (mX12_emits 66 e 0) fun _ =>
      mret (.inl ())
    )
  )
noncomputable def lQ (e : Unit ⊕ Unit) : MM Int32 := match e with
  | .inl _ => mret 0
  | .inr _ => mret 1
noncomputable def binR (t : Nat) (e : Int32) (r : MM Int32) : MM Int32 := mbnd r fun (v1 : Int32) => if v1 = 0 then mret 0 else mbnd (loopM (binL t e r) ()) lQ
section AT
variable {M : MK} {W0 : Nat → Int32} {n c0 : Nat} {B : Nat → Nat} {li fa : Int32}
theorem CBad.pre {m m' : MM (Unit ⊕ Unit)} {s s1 : aS} {z : Nat} (e : m s = m' s1) (o : Off s s1 59 65) (h : CBad m' s1 n B c0 li fa z) : CBad m s n B c0 li fa z := by
  obtain ⟨s2, o2, h⟩ := h
  exact ⟨s2, o.trans o2, h.imp (fun ⟨a, r⟩ => ⟨e.trans a, r⟩) (fun ⟨a, r⟩ => ⟨e.trans a, r⟩)⟩
/-- what one side of an operator comes to, wherever it stands -/
def Side (okR : List Nat → Prop) (stop : Nat → Prop) (top : List Nat → Prop) (w sl d : Nat) (r : MM Int32) (M : MK) (W0 : Nat → Int32) (n : Nat) (B : Nat → Nat) (c0 : Nat) (li fa : Int32) : Prop :=
  ∀ (i j k : Nat) (C S : List Nat) (P : List It) (b : Nat) (nu : Int32) (s sm : aS), LSt s n B c0 k C S d b nu li fa → RSt sm M n B W0 P d k → C.length + S.length ≤ tb B n k → P.length + 3 ≤ tb B n k → S.length ≤ sl → top S → b ≤ d → i + 1 ≤ k → j + 1 ≤ k → OutC okR stop w (opC i j) r s sm M W0 n B c0 k C S P d b li fa
theorem bin_rest {okI okO : List Nat → Prop} {stI : Nat → Prop} {topI topO : List Nat → Prop} {w sl d a op t ti : Nat} {wd' : List Nat} {r : MM Int32} (TB : Byt M n B) (ha : (a = 1034 ∧ op = 317) ∨ (a = 1035 ∧ op = 318)) (ht : isText t wd') (hti : wl[ti]? = some wd') (hop : op = 300 + ti)
    (I : Side okI stI topI (w + 1) (sl + 1) d r M W0 n B c0 li fa) (hd : d ≤ 6)
    (hl : ∀ R, okO R → ∀ v, v ∈ R → lets a v) (hs : ∀ R, okI R → okO (R ++ [a])) (tI : ∀ S, topO S → topI (a :: S)) (tO : ∀ S, topO S → ∀ v x, S = v :: x → v ≠ 1033 ∧ ¬ lets a v)
    {k0 : Nat} {C S : List Nat} {P : List It} {b : Nat} (hC : C.length + S.length ≤ tb B n k0) (hP : P.length + 3 ≤ tb B n k0) (hS : S.length ≤ sl) (hsl : sl < 40) (htop : topO S) (hbd : b ≤ d) :
    ∀ m k (Q : List It) (R C' : List Nat) (nu : Int32) (i j : Nat) (s sm : aS), c0 - k ≤ m → LSt s n B c0 k C' (R ++ S) d b nu li fa → C' ++ R = C ++ Q.map encI → okO R → stI k → RSt sm M n B W0 (P ++ Q) d k → k0 < k → tb B n k0 + Q.length ≤ tb B n k → i + 1 ≤ k → j + 1 ≤ k → (∀ i, i ∈ Q → itOk i) → (∀ T, T.length ≤ w → tyP Q T = some (true :: T)) →
    OutC okO (fun k' => stI k' ∧ ¬ thing B n (tb B n k') = Int32.ofNat op) w (clC i j) (mbnd (loopM (binL t (Int32.ofNat (a - 1019)) r) ()) lQ) s sm M W0 n B c0 k0 C S P d b li fa := by
  intro m
  induction m with
  | zero =>
    intro k Q R C' nu i j s sm hm L hCR hR hst H hk hQ hi hj hok hty
    have hkc := L.bd.2.2.1
    have hno : ¬ thing B n (tb B n k) = Int32.ofNat op := fun q => by
      rw [hop] at q
      have := L.more (word_next L.bd.2.2.2.1 q (List.getElem?_eq_some_iff.mp hti).1).1
      omega
    obtain ⟨m1, f1, R1, p1⟩ := (H.passes TB ht hti).2 (by rw [← hop]; exact hno)
    refine Or.inr ⟨k, Q, R, C', nu, i, j, s, rfl, Off.rf, L, hCR, hR, ⟨m1, ?_, R1.here, p1⟩, ⟨hst, hno⟩, hk, hQ, hi, hj, hok, hty⟩
    refine (bnd_ok (loop_end (e := .inr ()) ?_)).trans rfl
    unfold binL
    rw [bnd_ok f1, if_pos rfl]
    rfl
  | succ m ih =>
    intro k Q R C' nu i j s sm hm L hCR hR hst H hk hQ hi hj hok hty
    have hkc := L.bd.2.2.1
    have hcn := L.bd.2.1
    have hn := L.bd.1
    have hb := L.bd.2.2.2.1
    have hti25 := (List.getElem?_eq_some_iff.mp hti).1
    by_cases hth : thing B n (tb B n k) = Int32.ofNat op
    · have hth' : thing B n (tb B n k) = Int32.ofNat (300 + ti) := by rw [← hop]; exact hth
      have hlt := (word_next hb hth' hti25).1
      have hk1 := L.more hlt
      have hst1 := tb_step hlt
      have ht1 := tb_le B n (k + 1)
      have lCR : C'.length + R.length = C.length + Q.length := by
        have := congrArg List.length hCR
        rw [List.length_append, List.length_append, List.length_map] at this
        exact this
      have lPQ : (P ++ Q).length = P.length + Q.length := List.length_append
      obtain ⟨s1, e1, L1, o1⟩ := close_join (i := i) (j := j) (a := a) L (by omega) (by omega) hk1 (ha.imp (fun q => ⟨q.1, by rw [hth, q.2]; rfl⟩) (fun q => ⟨q.1, by rw [hth, q.2]; rfl⟩)) (hl R hR) (tO S htop) (by omega) (by omega)
      obtain ⟨m1, f1, ⟨i1, hi1, hx1, R1⟩, p1⟩ := (H.passes TB ht hti).1 hth'
      have H1 : RSt m1 M n B W0 (P ++ Q) d (k + 1) := ⟨i1, _, hi1, hx1, R1⟩
      have lC' : (C' ++ R).length = C.length + Q.length := by rw [List.length_append]; exact lCR
      rcases I (i + 1) 0 (k + 1) (C' ++ R) (a :: S) (P ++ Q) b nu s1 m1 L1 H1 (by rw [lC', List.length_cons]; omega) (by omega) (by rw [List.length_cons]; omega) (tI S htop) hbd (by omega) (by omega) with ⟨z, cb, ⟨m2, f2, R2, p2⟩⟩ | ⟨k2, Q2, R2, C2, nu2, i2, j2, s2, e2, o2, L2, hCR2, hR2, ⟨m2, f2, H2, p2⟩, hst2, hk2, hQ2, hi2, hj2, hok2, hty2⟩
      · refine Or.inl ⟨z, cb.pre e1 o1, m2, ?_, R2, p1.trans p2⟩
        refine (bnd_ok (loop_end (e := .inl ()) ?_)).trans rfl
        unfold binL
        rw [bnd_ok f1, if_neg (show ¬ (1 : Int32) = 0 by decide), bnd_ok f2, if_pos rfl]
        rfl
      · have ht2 := tb_le B n k2
        have lPQ2 : (P ++ Q ++ Q2).length = P.length + Q.length + Q2.length := by rw [List.length_append, lPQ]
        have ea : encI (a - 1019, 0) = a := by rcases ha with ⟨rfl, -⟩ | ⟨rfl, -⟩ <;> rfl
        obtain ⟨m3, f3, H3, p3⟩ := H2.emits (by omega) (a - 1019, 0) (a := Int32.ofNat (a - 1019)) (v := 0) rfl (fun q => by
          have q' : a - 1019 = 8 ∨ a - 1019 = 10 := q
          omega)
        have eP : P ++ Q ++ Q2 ++ [(a - 1019, 0)] = P ++ (Q ++ (Q2 ++ [(a - 1019, 0)])) := by rw [List.append_assoc, List.append_assoc]
        rw [eP] at H3
        have fl : binL t (Int32.ofNat (a - 1019)) r () sm = some (.inl (.inl ()), m3) := by
          unfold binL
          rw [bnd_ok f1, if_neg (show ¬ (1 : Int32) = 0 by decide), bnd_ok f2, if_neg (show ¬ (1 : Int32) = 0 by decide), bnd_ok f3]
          rfl
        have L2' : LSt s2 n B c0 k2 C2 ((R2 ++ [a]) ++ S) d b nu2 li fa := by
          rw [List.append_assoc]
          exact L2
        have hCR2' : C2 ++ (R2 ++ [a]) = C ++ (Q ++ (Q2 ++ [(a - 1019, 0)])).map encI := by
          rw [← List.append_assoc, hCR2, hCR, List.map_append, List.map_append, List.append_assoc, List.append_assoc]
          show _ = C ++ (Q.map encI ++ (Q2.map encI ++ [encI (a - 1019, 0)]))
          rw [ea]
        rcases ih k2 (Q ++ (Q2 ++ [(a - 1019, 0)])) (R2 ++ [a]) C2 nu2 i2 j2 s2 m3 (by omega) L2' hCR2' (hs R2 hR2) hst2 H3 (by omega) (by
            rw [List.length_append, List.length_append]
            show _ + (Q.length + (Q2.length + 1)) ≤ _
            omega) hi2 hj2 (fun i hi => by
            rcases List.mem_append.mp hi with hi | hi
            · exact hok i hi
            · rcases List.mem_append.mp hi with hi | hi
              · exact hok2 i hi
              · rw [List.mem_singleton.mp hi]
                exact itOk_op (by omega) (by omega)) (fun T hT => by
            rw [tyP_app _ _ _ _ (hty T hT), tyP_app _ _ _ _ (hty2 (true :: T) (by show T.length + 1 ≤ w + 1; omega))]
            rcases ha with ⟨rfl, -⟩ | ⟨rfl, -⟩
            · exact tyP_one (ty_and T) []
            · exact tyP_one (ty_or T) []) with ⟨z, cb, ⟨m4, f4, R4, p4⟩⟩ | ⟨k4, Q4, R4, C4, nu4, i4, j4, s4, e4, o4, L4, hCR4, hR4, ⟨m4, f4, H4, p4⟩, r4⟩
        · exact Or.inl ⟨z, (cb.pre e2 o2).pre e1 o1, m4, (mbnd_eq (loop_go fl)).trans f4, R4, p1.trans (p2.trans (p3.trans p4))⟩
        · exact Or.inr ⟨k4, Q4, R4, C4, nu4, i4, j4, s4, e1.trans (e2.trans e4), o1.trans (o2.trans o4), L4, hCR4, hR4, ⟨m4, (mbnd_eq (loop_go fl)).trans f4, H4, p1.trans (p2.trans (p3.trans p4))⟩, r4⟩
    · obtain ⟨m1, f1, R1, p1⟩ := (H.passes TB ht hti).2 (by rw [← hop]; exact hth)
      refine Or.inr ⟨k, Q, R, C', nu, i, j, s, rfl, Off.rf, L, hCR, hR, ⟨m1, ?_, R1.here, p1⟩, ⟨hst, hth⟩, hk, hQ, hi, hj, hok, hty⟩
      refine (bnd_ok (loop_end (e := .inr ()) ?_)).trans rfl
      unfold binL
      rw [bnd_ok f1, if_pos rfl]
      rfl
theorem bin_both {okI okO : List Nat → Prop} {stI : Nat → Prop} {topI topO : List Nat → Prop} {w sl d a op t ti : Nat} {wd' : List Nat} {r : MM Int32} (TB : Byt M n B) (ha : (a = 1034 ∧ op = 317) ∨ (a = 1035 ∧ op = 318)) (ht : isText t wd') (hti : wl[ti]? = some wd') (hop : op = 300 + ti)
    (I : Side okI stI topI (w + 1) (sl + 1) d r M W0 n B c0 li fa) (hd : d ≤ 6) (hl : ∀ R, okO R → ∀ v, v ∈ R → lets a v) (h0 : ∀ R, okI R → okO R) (hs : ∀ R, okI R → okO (R ++ [a])) (t0 : ∀ S, topO S → topI S) (tI : ∀ S, topO S → topI (a :: S)) (tO : ∀ S, topO S → ∀ v x, S = v :: x → v ≠ 1033 ∧ ¬ lets a v) (hsl : sl < 40) :
    Side okO (fun k' => stI k' ∧ ¬ thing B n (tb B n k') = Int32.ofNat op) topO w sl d (binR t (Int32.ofNat (a - 1019)) r) M W0 n B c0 li fa := by
  intro i j k C S P b nu s sm L H hC hP hS htop hbd hi hj
  rcases I i j k C S P b nu s sm L H hC hP (by omega) (t0 S htop) hbd hi hj with ⟨z, cb, ⟨m2, f2, R2, p2⟩⟩ | ⟨k2, Q2, R2, C2, nu2, i2, j2, s2, e2, o2, L2, hCR2, hR2, ⟨m2, f2, H2, p2⟩, hst2, hk2, hQ2, hi2, hj2, hok2, hty2⟩
  · refine Or.inl ⟨z, cb, m2, ?_, R2, p2⟩
    unfold binR
    rw [bnd_ok f2, if_pos rfl]
    rfl
  · rcases bin_rest TB ha ht hti hop I hd hl hs tI tO hC hP hS hsl htop hbd (c0 - k2) k2 Q2 R2 C2 nu2 i2 j2 s2 m2 (Nat.le_refl _) L2 hCR2 (h0 R2 hR2) hst2 H2 hk2 hQ2 hi2 hj2 hok2 (fun T hT => hty2 T (by omega)) with ⟨z, cb, ⟨m4, f4, R4, p4⟩⟩ | ⟨k4, Q4, R4, C4, nu4, i4, j4, s4, e4, o4, L4, hCR4, hR4, ⟨m4, f4, H4, p4⟩, r4⟩
    · refine Or.inl ⟨z, cb.pre e2 o2, m4, ?_, R4, p2.trans p4⟩
      unfold binR
      rw [bnd_ok f2, if_neg (show ¬ (1 : Int32) = 0 by decide)]
      exact f4
    · refine Or.inr ⟨k4, Q4, R4, C4, nu4, i4, j4, s4, e2.trans e4, o2.trans o4, L4, hCR4, hR4, ⟨m4, ?_, H4, p2.trans p4⟩, r4⟩
      unfold binR
      rw [bnd_ok f2, if_neg (show ¬ (1 : Int32) = 0 by decide)]
      exact f4
end AT
