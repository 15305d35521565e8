/-! A LAW'S LINE: the class's reader between lines, and a whole condition -/
def LS0 (s : aS) (n : Nat) (B : Nat → Nat) (c0 k : Nat) (C : List Nat) (nu li fa : Int32) : Prop := Tc s n B ∧ k ≤ c0 ∧ ∃ x F, RdL s x F ∧ Atl x F n B c0 k ∧ Cod (F 4) C ∧ x 14 = Int32.ofNat C.length ∧ x 9 = nu ∧ x 10 = li ∧ x 11 = fa ∧ C.length ≤ 400
section L0
variable {α β : Type} {s s' : aS} {n c0 k d b : Nat} {B : Nat → Nat} {C S : List Nat} {nu li fa : Int32} {Q : aS → Prop}
theorem LSt.weak (L : LSt s n B c0 k C S d b nu li fa) : LS0 s n B c0 k C nu li fa := by
  obtain ⟨T, h, x, F, R, A, c1, c2, c3, c4, c5, c6, c7, c8, c9, c10, c11⟩ := L
  exact ⟨T, h, x, F, R, A, c1, c3, c7, c8, c9, c10⟩
theorem LS0.oC {m : MM α} (L : LS0 s n B c0 k C nu li fa) : onC 5 59 m s = m s := by
  obtain ⟨-, -, x, F, R, -⟩ := L
  exact onC_ok R.1
theorem LS0.o {m : MM α} {v : α} (L : LS0 s n B c0 k C nu li fa) (h : LRun m s v Q) : LRun (onC 5 59 m) s v Q := by
  obtain ⟨s2, g1, g2⟩ := h
  exact ⟨s2, L.oC.trans g1, g2⟩
theorem LS0.g7 (L : LS0 s n B c0 k C nu li fa) : gI 5 7 59 s = some (.inl (thing B n (tb B n k)), s) := by
  obtain ⟨-, -, x, F, R, A, -⟩ := L
  rw [← A.2.2.2.1]
  exact rgil R (by decide) (by decide)
theorem LS0.g8 (L : LS0 s n B c0 k C nu li fa) : gI 5 8 59 s = some (.inl (Int32.ofNat (tb B n k)), s) := by
  obtain ⟨-, -, x, F, R, A, -⟩ := L
  rw [← A.2.2.2.2]
  exact rgil R (by decide) (by decide)
theorem LS0.g9 (L : LS0 s n B c0 k C nu li fa) : gI 5 9 59 s = some (.inl nu, s) := by
  obtain ⟨-, -, x, F, R, A, -, -, e, -⟩ := L
  rw [← e]
  exact rgil R (by decide) (by decide)
theorem LS0.g10 (L : LS0 s n B c0 k C nu li fa) : gI 5 10 59 s = some (.inl li, s) := by
  obtain ⟨-, -, x, F, R, A, -, -, -, e, -⟩ := L
  rw [← e]
  exact rgil R (by decide) (by decide)
theorem LS0.g14 (L : LS0 s n B c0 k C nu li fa) : gI 5 14 59 s = some (.inl (Int32.ofNat C.length), s) := by
  obtain ⟨-, -, x, F, R, A, -, e, -⟩ := L
  rw [← e]
  exact get4 R (by decide) (by decide)
theorem LS0.r12 (L : LS0 s n B c0 k C nu li fa) : gR 5 12 59 s = some (.inl 64, s) := by
  obtain ⟨-, -, x, F, R, -⟩ := L
  exact gR_ok R.1 rfl
theorem LS0.l64 (L : LS0 s n B c0 k C nu li fa) : lenI 0 64 s = some (.inl (Int32.ofNat 400), s) := by
  obtain ⟨-, -, x, F, R, -⟩ := L
  exact lenI_ok (R.2.1 4 (by decide))
theorem LS0.bd (L : LS0 s n B c0 k C nu li fa) : n ≤ 400 ∧ c0 ≤ n ∧ k ≤ c0 ∧ (∀ q, q < n → B q < 256) ∧ tb B n c0 = n ∧ C.length ≤ 400 := by
  obtain ⟨T, h, x, F, R, A, -, -, -, -, -, h1⟩ := L
  exact ⟨T.choose_spec.2.1, A.1.2.1, h, fun q hq => (T.choose_spec.2.2 q hq).1, A.1.2.2.2, h1⟩
theorem LS0.more (L : LS0 s n B c0 k C nu li fa) (h : tb B n k < n) : k < c0 := by
  obtain ⟨-, -, x, F, R, A, -⟩ := L
  exact A.more h
theorem LS0.write (L : LS0 s n B c0 k C nu li fa) (hC : C.length < 400) {v : Nat} {u : Int32} (hu : u = Int32.ofNat v) : LRun (mX5_write 59 u) s 1 fun s' => LS0 s' n B c0 k (C ++ [v]) nu li fa := by
  subst hu
  unfold mX5_write
  refine LS0.o L (LRun.get L.g14 ?_)
  rw [if_neg (ofN_nn (by omega))]
  refine LRun.get L.g14 (LRun.get L.r12 (LRun.get L.l64 ?_))
  rw [if_neg (nle hC (by decide))]
  refine LRun.get L.r12 (LRun.get L.g14 ?_)
  obtain ⟨T, h, x, F, R, A, c1, c3, c7, c8, c9, c10⟩ := L
  obtain ⟨s1, e1, R1, o1⟩ := st4 R hC (Int32.ofNat v)
  obtain ⟨s2, e2, R2, o2⟩ := put4 R1 (k := 14) (by decide) (by decide) (Int32.ofNat (C.length + 1))
  have g : gI 5 14 59 s1 = some (.inl (Int32.ofNat C.length), s1) := by
    rw [← c3]
    exact get4 R1 (by decide) (by decide)
  refine ⟨s2, ?_, ⟨T.off (o1.trans o2) (by decide), h, _, _, R2, A.rows (fun q h1 h2 => if_neg (by omega)) (fun q hq => mrow_ne _ _ (by omega)), ?_, ?_, c7, c8, c9, ?_⟩, o1.trans o2⟩
  · rw [bnd_ok e1, bnd_ok g, ofN_succ, bnd_ok e2]
    rfl
  · rw [mrow_at]
    exact c1.push v
  · rw [List.length_append]
    rfl
  · rw [List.length_append]
    exact hC
theorem LS0.go (L : LS0 s n B c0 k C nu li fa) (hk : k < c0) : LRun (nox (mX10_goOnl 59)) s () fun s' => LS0 s' n B c0 (k + 1) C nu li fa := by
  obtain ⟨T, h, x, F, R, A, c1, c3, c7, c8, c9, c10⟩ := L
  obtain ⟨s1, e1, R1, o1⟩ := gol T R A
  exact ⟨s1, e1, ⟨T.off o1 (by decide), hk, _, F, R1, A.next h (fun _ _ _ => rfl), c1, c3, c7, c8, c9, c10⟩, o1⟩
theorem LS0.wrong (L : LS0 s n B c0 k C nu li fa) : LRun (mbnd (gI 5 8 59) fun (v : Int32) => mbnd (nox (mX10_wrongl 59 v)) fun (w : Int32) => mbool w) s 0 fun s' => LFl s' (tb B n k) := by
  have g := L.g8
  obtain ⟨T, h, x, F, R, -⟩ := L
  obtain ⟨s1, e1, R1, o1⟩ := wrongBl R (Int32.ofNat (tb B n k))
  exact LRun.get g ⟨s1, e1, ⟨_, F, R1, if_pos rfl⟩, o1⟩
theorem LS0.take (L : LS0 s n B c0 k C nu li fa) {m : Nat} (hm : m ≤ 5) (h : Int32) : (figv B n (tb B n k) m h = -1 ∧ LRun (nox (mX10_takeNumberl 59 (Int32.ofNat m) h)) s 0 fun s' => LFl s' (tb B n k)) ∨ ∃ u, u < 100000 ∧ figv B n (tb B n k) m h = Int32.ofNat u ∧ Int32.ofNat u ≤ h ∧ tb B n k < n ∧ LRun (nox (mX10_takeNumberl 59 (Int32.ofNat m) h)) s 1 fun s' => LS0 s' n B c0 (k + 1) C (Int32.ofNat u) li fa := by
  have mo := L.more
  obtain ⟨T, hk, x, F, R, A, c1, c3, c7, c8, c9, c10⟩ := L
  rcases takeNumberl T R A hm h with ⟨a1, s1, e1, R1, o1⟩ | ⟨u, hu, a1, a2, a3, s1, e1, R1, o1⟩
  · exact Or.inl ⟨a1, s1, e1, ⟨_, F, R1, (if_pos rfl).trans A.2.2.2.2⟩, o1⟩
  · exact Or.inr ⟨u, hu, a1, a2, a3, s1, e1, ⟨T.off o1 (by decide), mo a3, _, F, R1, A.next hk (fun q h1 h2 => if_neg (by omega)), c1, c3, rfl, c8, c9, c10⟩, o1⟩
/-- the three numbers of a condition are laid anew -/
theorem LS0.fresh (L : LS0 s n B c0 k C nu li fa) {β : Type} (g : Unit → MM β) : ∃ s1, (mbnd (pI 5 15 59 0) fun _ => mbnd (pI 5 16 59 0) fun _ => mbnd (pI 5 17 59 0) g) s = g () s1 ∧ LSt s1 n B c0 k C [] 0 0 nu li fa ∧ Off s s1 59 65 := by
  obtain ⟨T, h, x, F, R, A, c1, c3, c7, c8, c9, c10⟩ := L
  obtain ⟨s1, e1, R1, o1⟩ := put4 R (k := 15) (by decide) (by decide) 0
  obtain ⟨s2, e2, R2, o2⟩ := put4 R1 (k := 16) (by decide) (by decide) 0
  obtain ⟨s3, e3, R3, o3⟩ := put4 R2 (k := 17) (by decide) (by decide) 0
  have oo := o1.trans (o2.trans o3)
  refine ⟨s3, by rw [bnd_ok e1, bnd_ok e2, bnd_ok e3], ⟨T.off oo (by decide), h, _, F, R3, A.keep fun q h1 h2 => (if_neg (by omega)).trans ((if_neg (by omega)).trans (if_neg (by omega))), c1, trivial, c3, rfl, rfl, rfl, c7, c8, c9, c10, Nat.zero_le _⟩, oo⟩
end L0
section CB
variable {M : MK} {W0 : Nat → Int32} {n c0 : Nat} {B : Nat → Nat} {li fa : Int32}
/-- a whole condition, from the word if on -/
theorem cond_both {s sm : aS} {k : Nat} {C : List Nat} {P : List It} {nu : Int32} (TB : Byt M n B) (L : LS0 s n B c0 k C nu li fa) (hk : k < c0) (H : RSt sm M n B W0 P 0 (k + 1)) (hC : C.length ≤ tb B n (k + 1)) (hP : P.length + 3 ≤ tb B n (k + 1)) :
    (∃ z, (LRun (mX5_readCondition 59) s 0 fun s' => LFl s' z) ∧ NRun (mRC 8 66) sm 0 fun s' => RBad s' M W0 z) ∨
    ∃ k' Q nu', (LRun (mX5_readCondition 59) s 1 fun s' => LS0 s' n B c0 k' (C ++ Q.map encI) nu' li fa) ∧ (NRun (mRC 8 66) sm 1 fun s' => RSt s' M n B W0 (P ++ Q) 0 k') ∧ k + 1 < k' ∧ tb B n (k + 1) + Q.length ≤ tb B n k' ∧ (∀ i, i ∈ Q → itOk i) ∧ tyP Q [] = some [true] := by
  have hn := L.bd.1
  obtain ⟨s1, e1, L1, o1⟩ := L.fresh fun _ => mbnd (loopM (mX5_readCondition_L19 59) (1, 0)) fun (e27 : Unit ⊕ Unit) => match e27 with
    | .inl e27 => (
      mret (0 : Int32)
      )
    | .inr e27 => (
      mbnd (mX5_writeWaiting 59 1035) fun _ =>
      mbnd (gI 5 16 59) fun (v28 : Int32) =>
      if v28 = 0 then (
        mret 1
      ) else (
        mbnd (gI 5 8 59) fun (v30 : Int32) =>
        mbnd (nox (mX10_wrongl 59 v30)) fun (v31 : Int32) =>
        if v31 = 0 then (
          mret 0
        ) else (
          mret 1
        )
      )
      )
  obtain ⟨s2, e2, L2, o2⟩ := cond_next (i := 0) L1 (by decide) hk
  have run : ∀ {e : Unit ⊕ Unit} {s3 : aS}, opC 0 0 s2 = some (.inl e, s3) → mX5_readCondition 59 s = (match e with
    | .inl _ => (mret (0 : Int32) : MM Int32)
    | .inr _ => (
      mbnd (mX5_writeWaiting 59 1035) fun _ =>
      mbnd (gI 5 16 59) fun (v28 : Int32) =>
      if v28 = 0 then (
        mret 1
      ) else (
        mbnd (gI 5 8 59) fun (v30 : Int32) =>
        mbnd (nox (mX10_wrongl 59 v30)) fun (v31 : Int32) =>
        if v31 = 0 then (
          mret 0
        ) else (
          mret 1
        )
      )
      )) s3 := fun {e s3} h => by
    unfold mX5_readCondition
    rw [L.oC]
    refine e1.trans ?_
    refine (bnd_ok (e2.trans h)).trans ?_
    cases e <;> rfl
  have o12 := o1.trans o2
  rcases cond_side TB (f := 8) (d := 0) (by decide) (atom_side TB 8 0 rfl (by decide)) 0 0 (k + 1) C [] P 0 nu s2 sm L2 H (by show C.length + 0 ≤ _; omega) hP (Nat.le_refl 0) (fun v x e => by cases e) (Nat.le_refl 0) (by omega) (by omega) with ⟨z, ⟨s3, o3, cb⟩, rb⟩ | ⟨k3, Q, R, C3, nu3, i3, j3, s3, e3, o3, L3, hCR, hR, rk, hst3, hk3, hQ, hi3, hj3, hok, hty⟩
  · refine Or.inl ⟨z, ?_, rb⟩
    rcases cb with ⟨e3, L3⟩ | ⟨e3, k4, C4, R4, S4, d4, b4, nu4, L4, hb4, hz, hl4, hR4, hS4⟩
    · exact ⟨s3, (run e3).trans rfl, L3, o12.trans o3⟩
    · obtain ⟨s4, e4, L5, o4⟩ := L4.waits (a := 1035) (by decide) hS4 hR4 hl4 (u := 1035) rfl
      have g8 := L5.g8
      obtain ⟨T, h, x, F, R, -⟩ := id L5
      obtain ⟨s5, e5, R5, o5⟩ := wrongl R (Int32.ofNat (tb B n k4))
      refine ⟨s5, (run e3).trans ?_, ⟨_, F, R5, (if_pos rfl).trans (by rw [hz])⟩, o12.trans (o3.trans (o4.trans o5))⟩
      show (mbnd (mX5_writeWaiting 59 1035) fun _ => _) s3 = _
      rw [bnd_ok e4, bnd_ok L5.g16, if_neg (show ¬ Int32.ofNat (b4 + 1) = 0 from fun q => by
        have q' : Int32.ofNat (b4 + 1) = Int32.ofNat 0 := q
        rw [ofN_inj (by omega) (by decide)] at q'
        omega), bnd_ok g8, bnd_ok e5, if_pos rfl]
      rfl
  · have ht3 := tb_le B n k3
    have lCR : C3.length + R.length = C.length + Q.length := by
      have := congrArg List.length hCR
      rw [List.length_append, List.length_append, List.length_map] at this
      exact this
    have hkc3 := L3.bd.2.2.1
    have hcn := L3.bd.2.1
    have ce := close_end (i := i3) (j := j3) L3 (by omega) hst3.1.2 hst3.2 (fun _ => rfl) (fun v hv => (hR v hv).imp id And.left) (fun v r e => by cases e)
    obtain ⟨s4, e4, L4, o4⟩ := L3.waits (a := 1035) (by decide) (fun v r e => by cases e) hR (by omega) (u := 1035) rfl
    rw [hCR] at L4
    refine Or.inr ⟨k3, Q, nu3, ⟨s4, (run (e3.trans ce)).trans ?_, L4.weak, o12.trans (o3.trans o4)⟩, rk, hk3, hQ, hok, hty [] (Nat.le_refl 0)⟩
    show (mbnd (mX5_writeWaiting 59 1035) fun _ => _) s3 = _
    rw [bnd_ok e4, bnd_ok L4.g16, if_pos (show Int32.ofNat 0 = 0 from rfl)]
    rfl
end CB
