/-! SUMS, and what is plain, of a law's text on both sides -/
def itB (it : It) : Prop := it.1 ≤ 7 ∨ (it.1 = 10 ∧ it.2 ≤ 999)
theorem itB.ok {it : It} (h : itB it) : itOk it := by
  rcases h with h | ⟨h1, h2⟩
  · exact ⟨by omega, fun q => by omega, fun q => by omega⟩
  · exact ⟨by omega, fun q => by omega, fun _ => h2⟩
theorem itB.ty {it : It} (h : itB it) {T : List Bool} (hT : T.length < 30) : ty1 it T = some (false :: T) := by
  unfold ty1
  rw [if_pos (h.imp id And.left), if_pos hT]
theorem tyP_one {it : It} {T T1 : List Bool} (h : ty1 it T = some T1) (Q : List It) : tyP (it :: Q) T = tyP Q T1 := by
  show (match ty1 it T with | some T' => tyP Q T' | none => none) = _
  rw [h]
theorem ty_add (T : List Bool) : ty1 (11, 0) (false :: false :: T) = some (false :: T) := by
  unfold ty1
  rw [if_neg (by decide), if_neg (by decide)]
  rfl
theorem ty_less (T : List Bool) : ty1 (12, 0) (false :: false :: T) = some (true :: T) := by
  unfold ty1
  rw [if_neg (by decide), if_neg (by decide)]
  rfl
theorem ty_more (T : List Bool) : ty1 (13, 0) (false :: false :: T) = some (true :: T) := by
  unfold ty1
  rw [if_neg (by decide), if_neg (by decide)]
  rfl
theorem ty_not (T : List Bool) : ty1 (14, 0) (true :: T) = some (true :: T) := by
  unfold ty1
  rw [if_neg (by decide), if_neg (by decide)]
  rfl
theorem ty_and (T : List Bool) : ty1 (15, 0) (true :: true :: T) = some (true :: T) := by
  unfold ty1
  rw [if_neg (by decide), if_neg (by decide)]
  rfl
theorem ty_or (T : List Bool) : ty1 (16, 0) (true :: true :: T) = some (true :: T) := by
  unfold ty1
  rw [if_neg (by decide), if_neg (by decide)]
  rfl
/-- an operator as an item -/
theorem itOk_op {a : Nat} (h1 : 11 ≤ a) (h2 : a ≤ 16) : itOk (a, 0) := ⟨h2, fun q => absurd q (by show a ≠ 8; omega), fun q => absurd q (by show a ≠ 10; omega)⟩
section SU
variable {M : MK} {W0 : Nat → Int32} {dp n c0 d b : Nat} {B : Nat → Nat} {S : List Nat} {li fa : Int32}
theorem RRw.here {s : aS} {P : List It} {k : Nat} (H : RRw s M W0 P dp (tb B n k) (tb B n k)) : RSt s M n B W0 P dp k := H.at (tb_nxt B n k) (tb_le B n k)
theorem sum_rest (TB : Byt M n B) : ∀ m j k (C : List Nat) (P : List It) (nu : Int32) (s sm : aS), c0 - k ≤ m → j + 1 ≤ k → LSt s n B c0 k C S d b nu li fa → RSt sm M n B W0 P dp k → C.length + S.length ≤ tb B n k → P.length + 3 ≤ tb B n k →
    (∃ z s1, mbnd (tailC j) sC s = some (.inl (.inl ()), s1) ∧ LFl s1 z ∧ Off s s1 59 65 ∧ NRun (loopM (mX12_readSum_L9 66) ()) sm (.inl ()) fun s' => RBad s' M W0 z) ∨
    ∃ k' Q nu' s1, mbnd (tailC j) sC s = some (.inl (.inr (.inl ())), s1) ∧ LSt s1 n B c0 k' (C ++ Q.map encI) S d b nu' li fa ∧ Off s s1 59 65 ∧ (NRun (loopM (mX12_readSum_L9 66) ()) sm (.inr ()) fun s' => RSt s' M n B W0 (P ++ Q) dp k') ∧ k ≤ k' ∧ tb B n k + Q.length ≤ tb B n k' ∧ (∀ i, i ∈ Q → itOk i) ∧ ∀ T, T.length ≤ 28 → tyP Q (false :: T) = some (false :: T) := by
  intro m
  induction m with
  | zero =>
    intro j k C P nu s sm hm hjk L H hC hP
    have hkc := L.bd.2.2.1
    have ht : ¬ thing B n (tb B n k) = Int32.ofNat 43 := fun q => by
      have hlt := ((sign_thing L.bd.2.2.2.1 (ch := 43) (by decide)).mp q).1
      have := L.more hlt
      omega
    refine Or.inr ⟨k, [], nu, s, ?_, by rw [List.map_nil, List.append_nil]; exact L, Off.rf, ?_, Nat.le_refl k, Nat.le_refl _, fun i hi => (List.not_mem_nil hi).elim, fun T hT => rfl⟩
    · refine (bnd_ok (v := .inr (.inr (.inl ()))) (s' := s) ?_).trans rfl
      unfold tailC
      rw [bnd_ok L.g7, if_neg (show ¬ thing B n (tb B n k) = 43 from ht)]
      rfl
    · obtain ⟨s2, e2, R2, o2⟩ := (H.sign TB (c := 43) (Or.inl (by decide)) (u := 43) rfl).2 ht
      refine ⟨s2, loop_end ?_, by rw [List.append_nil]; exact R2.here, o2⟩
      unfold mX12_readSum_L9
      rw [bnd_ok e2, if_pos rfl]
      rfl
  | succ m ih =>
    intro j k C P nu s sm hm hjk L H hC hP
    have hb := L.bd.2.2.2.1
    have hn := L.bd.1
    have hcn := L.bd.2.1
    by_cases ht : thing B n (tb B n k) = Int32.ofNat 43
    · have hlt := ((sign_thing hb (ch := 43) (by decide)).mp ht).1
      have hkc := L.more hlt
      have hst := tb_step hlt
      obtain ⟨s1, e1, L1, o1⟩ := L.go hkc
      obtain ⟨m1, f1, ⟨i1, hi1, hx1, R1⟩, p1⟩ := (H.sign TB (c := 43) (Or.inl (by decide)) (u := 43) rfl).1 ht
      have H1 : RSt m1 M n B W0 P dp (k + 1) := ⟨i1, _, hi1, hx1, R1⟩
      have ct : mbnd (tailC j) sC s = loopM (mX5_readSum_L2 59) (Int32.ofNat (j + 1)) s1 := by
        refine (bnd_ok (v := .inl (Int32.ofNat (j + 1))) (s' := s1) ?_).trans rfl
        unfold tailC
        rw [bnd_ok L.g7, if_pos (show thing B n (tb B n k) = 43 from ht), bnd_ok e1, ofN_succ]
        rfl
      rcases piece (j := j + 1) TB L1 H1 (by omega) (by omega) (by omega) with ⟨s2, e2, L2, o2, m2, f2, R2, p2⟩ | ⟨it, nu', s2, hit, hk1, e2, L2, o2, m2, f2, R2, p2⟩
      · refine Or.inl ⟨tb B n (k + 1), s2, ct.trans (loop_end e2), L2, o1.trans o2, m2, loop_end ?_, R2, p1.trans p2⟩
        unfold mX12_readSum_L9
        rw [bnd_ok f1, if_neg (show ¬ (1 : Int32) = 0 by decide), bnd_ok f2, if_pos rfl]
        rfl
      · have hst2 := tb_step (L1.lt hk1)
        have ht2 := tb_le B n (k + 1 + 1)
        have lC : (C ++ [encI it]).length = C.length + 1 := List.length_append
        have lP : (P ++ [it]).length = P.length + 1 := List.length_append
        obtain ⟨s3, e3, L3, o3⟩ := L2.write (v := 1030) (u := 1030) (by omega) rfl
        obtain ⟨m3, f3, R3, p3⟩ := R2.emits (by omega) (11, 0) (a := 11) (v := 0) rfl (fun q => by rcases q with q | q <;> cases q)
        have lC2 : (C ++ [encI it] ++ [1030]).length = C.length + 1 + 1 := by rw [List.length_append, lC]; rfl
        have lP2 : (P ++ [it] ++ [(11, 0)]).length = P.length + 1 + 1 := by rw [List.length_append, lP]; rfl
        have c2 : loopM (mX5_readSum_L2 59) (Int32.ofNat (j + 1)) s1 = mbnd (tailC (j + 1)) sC s3 := by
          rw [loopM_eq]
          refine (congrFun (congrArg (mbnd _) (funext fun r => by cases r <;> rfl)) s1 : _ = mbnd (mX5_readSum_L2 59 (Int32.ofNat (j + 1))) sC s1).trans ?_
          refine (mbnd_eq e2).trans ?_
          rw [mbnd_assoc]
          refine bnd_ok (v := ()) (s' := s3) ?_
          unfold adds
          rw [if_neg (len_pos (by omega) (by omega)), bnd_ok e3]
          rfl
        have fl : mX12_readSum_L9 66 () sm = some (.inl (.inl ()), m3) := by
          unfold mX12_readSum_L9
          rw [bnd_ok f1, if_neg (show ¬ (1 : Int32) = 0 by decide), bnd_ok f2, if_neg (show ¬ (1 : Int32) = 0 by decide), bnd_ok f3]
          rfl
        rcases ih (j + 1) (k + 1 + 1) (C ++ [encI it] ++ [1030]) (P ++ [it] ++ [(11, 0)]) nu' s3 m3 (by omega) (by omega) L3 R3 (by omega) (by omega) with ⟨z, s4, e4, L4, o4, m4, f4, R4, p4⟩ | ⟨k', Q, nu2, s4, e4, L4, o4, ⟨m4, f4, R4, p4⟩, hk', hQ, hok, hty⟩
        · exact Or.inl ⟨z, s4, ct.trans (c2.trans e4), L4, o1.trans (o2.trans (o3.trans o4)), m4, (loop_go fl).trans f4, R4, p1.trans (p2.trans (p3.trans p4))⟩
        · refine Or.inr ⟨k', it :: (11, 0) :: Q, nu2, s4, ct.trans (c2.trans e4), ?_, o1.trans (o2.trans (o3.trans o4)), ⟨m4, (loop_go fl).trans f4, ?_, p1.trans (p2.trans (p3.trans p4))⟩, by omega, ?_, fun i hi => ?_, fun T hT => ?_⟩
          · rw [List.append_assoc, List.append_assoc] at L4
            exact L4
          · rw [List.append_assoc, List.append_assoc] at R4
            exact R4
          · show _ + (Q.length + 1 + 1) ≤ _
            omega
          · rcases List.mem_cons.mp hi with rfl | hi
            · exact itB.ok hit
            · rcases List.mem_cons.mp hi with rfl | hi
              · exact itOk_op (by decide) (by decide)
              · exact hok i hi
          · rw [tyP_one (itB.ty hit (by show T.length + 1 < 30; omega)), tyP_one (ty_add T)]
            exact hty T hT
    · refine Or.inr ⟨k, [], nu, s, ?_, by rw [List.map_nil, List.append_nil]; exact L, Off.rf, ?_, Nat.le_refl k, Nat.le_refl _, fun i hi => (List.not_mem_nil hi).elim, fun T hT => rfl⟩
      · refine (bnd_ok (v := .inr (.inr (.inl ()))) (s' := s) ?_).trans rfl
        unfold tailC
        rw [bnd_ok L.g7, if_neg (show ¬ thing B n (tb B n k) = 43 from ht)]
        rfl
      · obtain ⟨s2, e2, R2, o2⟩ := (H.sign TB (c := 43) (Or.inl (by decide)) (u := 43) rfl).2 ht
        refine ⟨s2, loop_end ?_, by rw [List.append_nil]; exact R2.here, o2⟩
        unfold mX12_readSum_L9
        rw [bnd_ok e2, if_pos rfl]
        rfl
/-- what both sides make of a sum, of what is plain -/
def BothP (ty : Bool) (w : Nat) (mc mr : MM Int32) (s sm : aS) (M : MK) (W0 : Nat → Int32) (n : Nat) (B : Nat → Nat) (c0 k : Nat) (C S : List Nat) (P : List It) (d b dp : Nat) (li fa : Int32) : Prop :=
  (∃ z, (LRun mc s 0 fun s' => LFl s' z) ∧ NRun mr sm 0 fun s' => RBad s' M W0 z) ∨
  ∃ k' Q nu', (LRun mc s 1 fun s' => LSt s' n B c0 k' (C ++ Q.map encI) S d b nu' li fa) ∧ (NRun mr sm 1 fun s' => RSt s' M n B W0 (P ++ Q) dp k') ∧ k < k' ∧ tb B n k + Q.length ≤ tb B n k' ∧ (∀ i, i ∈ Q → itOk i) ∧ ∀ T, T.length ≤ w → tyP Q T = some (ty :: T)
theorem sum_both {s sm : aS} {k : Nat} {C : List Nat} {P : List It} {nu : Int32} (TB : Byt M n B) (L : LSt s n B c0 k C S d b nu li fa) (H : RSt sm M n B W0 P dp k) (hC : C.length + S.length ≤ tb B n k) (hP : P.length + 3 ≤ tb B n k) : BothP false 28 (mX5_readSum 59) (mX12_readSum 66) s sm M W0 n B c0 k C S P d b dp li fa := by
  have c1 : mX5_readSum 59 s = (mbnd (mbnd (mX5_readSum_L2 59 (Int32.ofNat 0)) sC) fun (e41 : Unit ⊕ Unit ⊕ Unit) => match e41 with
    | .inl e41 => (
      mret (0 : Int32)
      )
    | .inr (.inl e41) => (
      mret 1
      )
    | .inr (.inr e41) => (
      mbnd (gI 5 8 59) fun (v42 : Int32) =>
      mbnd (nox (mX10_wrongl 59 v42)) fun (v43 : Int32) =>
      mbool v43
      )) s := by
    unfold mX5_readSum
    rw [L.oC]
    refine mbnd_eq ?_
    show loopM (mX5_readSum_L2 59) (Int32.ofNat 0) s = _
    rw [loopM_eq]
    exact congrFun (congrArg (mbnd _) (funext fun r => by cases r <;> rfl)) s
  have hn := L.bd.1
  rcases piece (j := 0) TB L H hC hP (by decide) with ⟨s2, e2, L2, o2, m2, f2, R2, p2⟩ | ⟨it, nu', s2, hit, hk1, e2, L2, o2, m2, f2, R2, p2⟩
  · refine Or.inl ⟨tb B n k, ⟨s2, ?_, L2, o2⟩, ?_⟩
    · rw [c1]
      exact (bnd_ok (v := .inl ()) (s' := s2) ((bnd_ok e2).trans rfl)).trans rfl
    · unfold mX12_readSum
      refine H.o ⟨m2, ?_, R2, p2⟩
      rw [bnd_ok f2, if_pos rfl]
      rfl
  · have hst2 := tb_step (L.lt hk1)
    have lC : (C ++ [encI it]).length = C.length + 1 := List.length_append
    have lP : (P ++ [it]).length = P.length + 1 := List.length_append
    have c2 : mbnd (mX5_readSum_L2 59 (Int32.ofNat 0)) sC s = mbnd (tailC 0) sC s2 := by
      refine (mbnd_eq e2).trans ?_
      rw [mbnd_assoc]
      refine bnd_ok (v := ()) (s' := s2) ?_
      unfold adds
      rw [if_pos (show Int32.ofNat 0 ≤ 0 by decide)]
      rfl
    rcases sum_rest (c0 := c0) TB (c0 - (k + 1)) 0 (k + 1) (C ++ [encI it]) (P ++ [it]) nu' s2 m2 (Nat.le_refl _) (by omega) L2 R2 (by omega) (by omega) with ⟨z, s4, e4, L4, o4, m4, f4, R4, p4⟩ | ⟨k', Q, nu2, s4, e4, L4, o4, ⟨m4, f4, R4, p4⟩, hk', hQ, hok, hty⟩
    · refine Or.inl ⟨z, ⟨s4, ?_, L4, o2.trans o4⟩, ?_⟩
      · rw [c1]
        exact (bnd_ok (v := .inl ()) (s' := s4) (c2.trans e4)).trans rfl
      · unfold mX12_readSum
        refine H.o ⟨m4, ?_, R4, p2.trans p4⟩
        rw [bnd_ok f2, if_neg (show ¬ (1 : Int32) = 0 by decide), bnd_ok f4]
        rfl
    · refine Or.inr ⟨k', it :: Q, nu2, ⟨s4, ?_, ?_, o2.trans o4⟩, ?_, by omega, ?_, fun i hi => ?_, fun T hT => ?_⟩
      · rw [c1]
        exact (bnd_ok (v := .inr (.inl ())) (s' := s4) (c2.trans e4)).trans rfl
      · rw [List.append_assoc] at L4
        exact L4
      · unfold mX12_readSum
        refine H.o ⟨m4, ?_, ?_, p2.trans p4⟩
        · rw [bnd_ok f2, if_neg (show ¬ (1 : Int32) = 0 by decide), bnd_ok f4]
          rfl
        · rw [List.append_assoc] at R4
          exact R4
      · show _ + (Q.length + 1) ≤ _
        omega
      · rcases List.mem_cons.mp hi with rfl | hi
        · exact itB.ok hit
        · exact hok i hi
      · rw [tyP_one (itB.ty hit (by omega))]
        exact hty T hT
end SU
