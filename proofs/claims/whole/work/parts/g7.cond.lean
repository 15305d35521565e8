/-! ATOMS and CONDITIONS on both sides, by the depth that is left -/
section AC
variable {M : MK} {W0 : Nat → Int32} {n c0 : Nat} {B : Nat → Nat} {li fa : Int32}
theorem binL_and (f : Nat) : mX12_readAllOf_L9 (mRA f) 66 = binL 50 15 (mRA f 66) := rfl
theorem binL_or (f : Nat) : mX12_readCond_L9 (mRL f) 66 = binL 51 16 (mRL f 66) := rfl
/-- that a side is carried over to another computation of the reference -/
theorem OutC.ref {okR : List Nat → Prop} {stop : Nat → Prop} {w : Nat} {m : MM (Unit ⊕ Unit)} {mr mr' : MM Int32} {s sm sm' : aS} {k : Nat} {C S : List Nat} {P : List It} {d b : Nat} (e : mr sm = mr' sm') (o : Off sm sm' 66 (66 + 12)) (h : OutC okR stop w m mr' s sm' M W0 n B c0 k C S P d b li fa) : OutC okR stop w m mr s sm M W0 n B c0 k C S P d b li fa := by
  rcases h with ⟨z, cb, ⟨m4, f4, R4, p4⟩⟩ | ⟨k4, Q4, R4, C4, nu4, i4, j4, s4, e4, o4, L4, hCR4, hR4, ⟨m4, f4, H4, p4⟩, r4⟩
  · exact Or.inl ⟨z, cb, m4, e.trans f4, R4, o.trans p4⟩
  · exact Or.inr ⟨k4, Q4, R4, C4, nu4, i4, j4, s4, e4, o4, L4, hCR4, hR4, ⟨m4, e.trans f4, H4, o.trans p4⟩, r4⟩
theorem all_eq (f : Nat) {sm : aS} {P : List It} {d k : Nat} (H : RSt sm M n B W0 P d k) : mRL f 66 sm = binR 50 15 (mRA f 66) sm := by
  obtain ⟨i, b, -, -, W, D, -⟩ := H
  show mX12_readAllOf (mRA f) 66 sm = _
  unfold mX12_readAllOf binR
  rw [onC_ok D.1]
  refine congrFun (congrArg (mbnd (mRA f 66)) (funext fun v => ?_)) sm
  split
  · rfl
  · rw [binL_and]
    exact congrArg (mbnd _) (funext fun e => by cases e <;> rfl)
theorem cond_eq (f : Nat) {sm : aS} {P : List It} {d k : Nat} (H : RSt sm M n B W0 P d k) : mRC f 66 sm = binR 51 16 (mRL f 66) sm := by
  obtain ⟨i, b, -, -, W, D, -⟩ := H
  show mX12_readCond (mRL f) 66 sm = _
  unfold mX12_readCond binR
  rw [onC_ok D.1]
  refine congrFun (congrArg (mbnd (mRL f 66)) (funext fun v => ?_)) sm
  split
  · rfl
  · rw [binL_or]
    exact congrArg (mbnd _) (funext fun e => by cases e <;> rfl)
def okA (R : List Nat) : Prop := R = []
def okL (R : List Nat) : Prop := ∀ v, v ∈ R → lets 1034 v
def okC (R : List Nat) : Prop := ∀ v, v ∈ R → lets 1035 v
def topA (_ : List Nat) : Prop := True
def topL (S : List Nat) : Prop := ∀ v x, S = v :: x → v ≠ 1033 ∧ ¬ lets 1034 v
def topC (S : List Nat) : Prop := ∀ v x, S = v :: x → v ≠ 1033 ∧ ¬ lets 1035 v
def stA (_ : Nat) : Prop := True
theorem lets_up {v : Nat} (h : lets 1034 v) : lets 1035 v := h.imp id fun q => absurd q.2 (by decide)
theorem cond_side (TB : Byt M n B) {f d : Nat} (hd : d ≤ 6) (I : Side okA stA topA (2 * d + 2) (3 * d + 2) d (mRA f 66) M W0 n B c0 li fa) : Side okC (fun k => (stA k ∧ ¬ thing B n (tb B n k) = Int32.ofNat 317) ∧ ¬ thing B n (tb B n k) = Int32.ofNat 318) topC (2 * d) (3 * d) d (mRC f 66) M W0 n B c0 li fa := by
  have J := bin_both (okO := okL) (topO := topL) (sl := 3 * d + 1) (w := 2 * d + 1) (a := 1034) TB (Or.inl ⟨rfl, rfl⟩) tx_and (ti := 17) rfl rfl I hd (fun R h => h) (fun R h v hv => by
    rw [show R = [] from h] at hv
    exact (List.not_mem_nil hv).elim) (fun R h v hv => by
    rw [show R = [] from h] at hv
    rw [List.mem_singleton.mp hv]
    exact Or.inl rfl) (fun S _ => trivial) (fun S _ => trivial) (fun S h => h) (by omega)
  have J' : Side okL (fun k' => stA k' ∧ ¬ thing B n (tb B n k') = Int32.ofNat 317) topL (2 * d + 1) (3 * d + 1) d (mRL f 66) M W0 n B c0 li fa := fun i j k C S P b nu s sm L H hC hP hS htop hbd hi hj => OutC.ref (all_eq f H) Off.rf (J i j k C S P b nu s sm L H hC hP hS htop hbd hi hj)
  have J2 := bin_both (okO := okC) (topO := topC) (sl := 3 * d) (w := 2 * d) (a := 1035) TB (Or.inr ⟨rfl, rfl⟩) tx_or (ti := 18) rfl rfl J' hd (fun R h => h) (fun R h v hv => lets_up (h v hv)) (fun R h v hv => by
    rcases List.mem_append.mp hv with hv | hv
    · exact lets_up (h v hv)
    · rw [List.mem_singleton.mp hv]
      exact Or.inr ⟨rfl, rfl⟩) (fun S h v x e => ⟨(h v x e).1, fun q => (h v x e).2 (lets_up q)⟩) (fun S h v x e => by
    rw [← (List.cons.inj e).1]
    exact ⟨by decide, fun q => q.elim (by decide) (fun q => absurd q.2 (by decide))⟩) (fun S h => h) (by omega)
  exact fun i j k C S P b nu s sm L H hC hP hS htop hbd hi hj => OutC.ref (cond_eq f H) Off.rf (J2 i j k C S P b nu s sm L H hC hP hS htop hbd hi hj)
theorem atom_side (TB : Byt M n B) : ∀ f d, d + f = 8 → d ≤ 6 → Side okA stA topA (2 * d + 2) (3 * d + 2) d (mRA f 66) M W0 n B c0 li fa := by
  intro f
  induction f with
  | zero => exact fun d h1 h2 => by omega
  | succ f ih =>
    intro d hdf hd i j k C S P b nu s sm L H hC hP hS _ hbd hi hj
    have hb := L.bd.2.2.2.1
    have hn := L.bd.1
    have hkc := L.bd.2.2.1
    have hcn := L.bd.2.1
    have htk := tb_le B n k
    have hdeep : Int32.ofNat d = 6 ↔ d = 6 := by
      show Int32.ofNat d = Int32.ofNat 6 ↔ _
      exact Iff.of_eq (ofN_inj (show d < 2 ^ 31 by omega) (show 6 < 2 ^ 31 by decide))
    have ex : mRA (f + 1) 66 sm = (mbnd (mX12_sign 66 40) fun (v1 : Int32) =>
      if v1 = 0 then (
        mbnd (mX12_passes 66 44) fun (v3 : Int32) =>
        if v3 = 0 then pRA else (
          mbnd (gI 11 13 66) fun (v25 : Int32) =>
          if v25 = 6 then (
            mret 0
          ) else (
            mbnd (gI 11 13 66) fun (v27 : Int32) =>
            mbnd (pI 11 13 66 (v27 + 1)) fun _ =>
            mbnd (mRA f 66) fun (v28 : Int32) =>
            if v28 = 0 then (
              mret 0
            ) else (
              mbnd (gI 11 13 66) fun (v30 : Int32) =>
              mbnd (pI 11 13 66 (v30 - 1)) fun _ =>
              mbnd (mX12_emits 66 14 0) fun _ =>
              mret 1
            )
          )
        )
      ) else (
        mbnd (gI 11 13 66) fun (v31 : Int32) =>
        if v31 = 6 then (
          mret 0
        ) else (
          mbnd (gI 11 13 66) fun (v33 : Int32) =>
          mbnd (pI 11 13 66 (v33 + 1)) fun _ =>
          mbnd (mRC f 66) fun (v34 : Int32) =>
          if v34 = 0 then (
            mret 0
          ) else (
            mbnd (gI 11 13 66) fun (v36 : Int32) =>
            mbnd (pI 11 13 66 (v36 - 1)) fun _ =>
            mbnd (mX12_sign 66 41) fun (v37 : Int32) =>
            mbool v37
          )
        )
      )) sm := by
      obtain ⟨i, b, -, -, W, D, -⟩ := H
      show mX12_readAtom (mRA f) (fun x => mX12_readCond (fun y => mX12_readAllOf (mRA f) y) x) 66 sm = _
      unfold mX12_readAtom
      rw [onC_ok D.1]
      rfl
    by_cases h40 : thing B n (tb B n k) = Int32.ofNat 40
    · have hlt := ((sign_thing hb (ch := 40) (by decide)).mp h40).1
      have hk1 := L.more hlt
      have hst := tb_step hlt
      obtain ⟨m1, f1, ⟨i1, hi1, hx1, R1⟩, p1⟩ := (H.sign TB (c := 40) (Or.inl (by decide)) (u := 40) rfl).1 h40
      have H1 : RSt m1 M n B W0 P d (k + 1) := ⟨i1, _, hi1, hx1, R1⟩
      by_cases hd6 : d = 6
      · subst hd6
        obtain ⟨s1, e1, L1, o1⟩ := open_deep (i := i) (j := j) L (by omega) (Or.inl h40)
        refine Or.inl ⟨tb B n k, ⟨s1, o1, Or.inl ⟨e1, L1⟩⟩, m1, ?_, R1.bad, p1⟩
        rw [ex, bnd_ok f1, if_neg (show ¬ (1 : Int32) = 0 by decide), bnd_ok H1.deep, if_pos (show Int32.ofNat 6 = 6 from rfl)]
        rfl
      · obtain ⟨s1, e1, L1, o1⟩ := open_go (i := i) (j := j) L (by omega) (by omega) (by omega) hk1 (q := 1036) (Or.inl ⟨rfl, h40⟩)
        rw [if_pos rfl] at L1
        obtain ⟨m2, f2, H2, p2⟩ := H1.setd (d + 1)
        have pre : mRA (f + 1) 66 sm = (mbnd (mRC f 66) fun (v34 : Int32) =>
          if v34 = 0 then (
            mret 0
          ) else (
            mbnd (gI 11 13 66) fun (v36 : Int32) =>
            mbnd (pI 11 13 66 (v36 - 1)) fun _ =>
            mbnd (mX12_sign 66 41) fun (v37 : Int32) =>
            mbool v37
          )) m2 := by
          rw [ex, bnd_ok f1, if_neg (show ¬ (1 : Int32) = 0 by decide), bnd_ok H1.deep, if_neg (fun q => hd6 (hdeep.mp q)), bnd_ok H1.deep, ofN_succ, bnd_ok f2]
        rcases cond_side TB (d := d + 1) (by omega) (ih (d + 1) (by omega) (by omega)) i (j + 1) (k + 1) C (1036 :: S) P (b + 1) nu s1 m2 L1 H2 (by rw [List.length_cons]; omega) (by omega) (by rw [List.length_cons]; omega) (fun v x e => by
            rw [← (List.cons.inj e).1]
            exact ⟨by decide, fun q => q.elim (by decide) (fun q => absurd q.1 (by decide))⟩) (by omega) (by omega) (by omega) with ⟨z, cb, ⟨m3, f3, R3, p3⟩⟩ | ⟨k3, Q, R, C3, nu3, i3, j3, s3, e3, o3, L3, hCR, hR, ⟨m3, f3, H3, p3⟩, hst3, hk3, hQ, hi3, hj3, hok, hty⟩
        · refine Or.inl ⟨z, cb.pre e1 o1, m3, ?_, R3, p1.trans (p2.trans p3)⟩
          rw [pre, bnd_ok f3, if_pos rfl]
          rfl
        · have hkc3 := L3.bd.2.2.1
          have ht3 := tb_le B n k3
          have lCR : C3.length + R.length = C.length + Q.length := by
            have := congrArg List.length hCR
            rw [List.length_append, List.length_append, List.length_map] at this
            exact this
          obtain ⟨m4, f4, H4, p4⟩ := H3.setd d
          have hR' : ∀ v, v ∈ R → v = 1034 ∨ v = 1035 := fun v hv => (hR v hv).imp id And.left
          by_cases h41 : thing B n (tb B n k3) = Int32.ofNat 41
          · have hlt3 := ((sign_thing hb (ch := 41) (by decide)).mp h41).1
            have hk31 := L3.more hlt3
            have hst4 := tb_step hlt3
            obtain ⟨s5, e5, L5, o5⟩ := close_br (i := i3) (j := j3) L3 (by omega) (by omega) hk31 h41 hR' (by omega)
            obtain ⟨m5, f5, ⟨i5, hi5, hx5, R5⟩, p5⟩ := (H4.sign TB (c := 41) (Or.inl (by decide)) (u := 41) rfl).1 h41
            refine Or.inr ⟨k3 + 1, Q, [], C3 ++ R, nu3, i3, j3 + 1, s5, e1.trans (e3.trans e5), o1.trans (o3.trans o5), L5, ?_, rfl, ⟨m5, ?_, ⟨i5, _, hi5, hx5, R5⟩, p1.trans (p2.trans (p3.trans (p4.trans p5)))⟩, trivial, by omega, by omega, by omega, by omega, hok, fun T hT => hty T (by omega)⟩
            · rw [List.append_nil]
              exact hCR
            · rw [pre, bnd_ok f3, if_neg (show ¬ (1 : Int32) = 0 by decide), bnd_ok H3.deep, ofN_pred, bnd_ok f4, bnd_ok f5]
              exact mbool1 m5
          · obtain ⟨m5, f5, R5, p5⟩ := (H4.sign TB (c := 41) (Or.inl (by decide)) (u := 41) rfl).2 h41
            have ce := close_end (i := i3) (j := j3) L3 (by omega) hst3.1.2 hst3.2 (fun q => absurd q h41) hR' (fun v r e => by
              rw [← (List.cons.inj e).1]
              decide)
            refine Or.inl ⟨tb B n k3, ⟨s3, o1.trans o3, Or.inr ⟨e1.trans (e3.trans ce), k3, C3, R, 1036 :: S, d + 1, b, nu3, L3, by omega, rfl, by omega, hR, fun v r e => by
              rw [← (List.cons.inj e).1]
              exact fun q => q.elim (by decide) (fun q => absurd q.1 (by decide))⟩⟩, m5, ?_, R5.bad, p1.trans (p2.trans (p3.trans (p4.trans p5)))⟩
            rw [pre, bnd_ok f3, if_neg (show ¬ (1 : Int32) = 0 by decide), bnd_ok H3.deep, ofN_pred, bnd_ok f4, bnd_ok f5]
            exact mbool0 m5
    · obtain ⟨m1, f1, R1, p1⟩ := (H.sign TB (c := 40) (Or.inl (by decide)) (u := 40) rfl).2 h40
      have H1 := R1.here
      by_cases h319 : thing B n (tb B n k) = Int32.ofNat (300 + 19)
      · have hlt := (word_next hb h319 (by decide)).1
        have hk1 := L.more hlt
        have hst := tb_step hlt
        obtain ⟨m2, f2, ⟨i2, hi2, hx2, R2⟩, p2⟩ := (H1.passes TB tx_not (j := 19) rfl).1 h319
        have H2 : RSt m2 M n B W0 P d (k + 1) := ⟨i2, _, hi2, hx2, R2⟩
        by_cases hd6 : d = 6
        · subst hd6
          obtain ⟨s1, e1, L1, o1⟩ := open_deep (i := i) (j := j) L (by omega) (Or.inr h319)
          refine Or.inl ⟨tb B n k, ⟨s1, o1, Or.inl ⟨e1, L1⟩⟩, m2, ?_, R2.bad, p1.trans p2⟩
          rw [ex, bnd_ok f1, if_pos rfl, bnd_ok f2, if_neg (show ¬ (1 : Int32) = 0 by decide), bnd_ok H2.deep, if_pos (show Int32.ofNat 6 = 6 from rfl)]
          rfl
        · obtain ⟨s1, e1, L1, o1⟩ := open_go (i := i) (j := j) L (by omega) (by omega) (by omega) hk1 (q := 1033) (Or.inr ⟨rfl, h319⟩)
          rw [if_neg (by decide)] at L1
          obtain ⟨m3, f3, H3, p3⟩ := H2.setd (d + 1)
          have pre : mRA (f + 1) 66 sm = (mbnd (mRA f 66) fun (v28 : Int32) =>
            if v28 = 0 then (
              mret 0
            ) else (
              mbnd (gI 11 13 66) fun (v30 : Int32) =>
              mbnd (pI 11 13 66 (v30 - 1)) fun _ =>
              mbnd (mX12_emits 66 14 0) fun _ =>
              mret 1
            )) m3 := by
            rw [ex, bnd_ok f1, if_pos rfl, bnd_ok f2, if_neg (show ¬ (1 : Int32) = 0 by decide), bnd_ok H2.deep, if_neg (fun q => hd6 (hdeep.mp q)), bnd_ok H2.deep, ofN_succ, bnd_ok f3]
          rcases ih (d + 1) (by omega) (by omega) i (j + 1) (k + 1) C (1033 :: S) P b nu s1 m3 L1 H3 (by rw [List.length_cons]; omega) (by omega) (by rw [List.length_cons]; omega) trivial (by omega) (by omega) (by omega) with ⟨z, cb, ⟨m4, f4, R4, p4⟩⟩ | ⟨k4, Q, R, C4, nu4, i4, j4, s4, e4, o4, L4, hCR, hR, ⟨m4, f4, H4, p4⟩, -, hk4, hQ, hi4, hj4, hok, hty⟩
          · refine Or.inl ⟨z, cb.pre e1 o1, m4, ?_, R4, p1.trans (p2.trans (p3.trans p4))⟩
            rw [pre, bnd_ok f4, if_pos rfl]
            rfl
          · have hR : R = [] := hR
            subst hR
            rw [List.append_nil] at hCR
            have ht4 := tb_le B n k4
            have lC4 : C4.length = C.length + Q.length := by rw [hCR, List.length_append, List.length_map]
            have lPQ : (P ++ Q).length = P.length + Q.length := List.length_append
            obtain ⟨s5, e5, L5, o5⟩ := close_not (i := i4) (j := j4) L4 (by omega)
            obtain ⟨m5, f5, H5, p5⟩ := H4.setd d
            obtain ⟨m6, f6, H6, p6⟩ := H5.emits (by omega) (14, 0) (a := 14) (v := 0) rfl (fun q => by rcases q with q | q <;> cases q)
            refine Or.inr ⟨k4, Q ++ [(14, 0)], [], C4 ++ [1033], nu4, i4, j4, s5, e1.trans (e4.trans e5), o1.trans (o4.trans o5), L5, ?_, rfl, ⟨m6, ?_, ?_, p1.trans (p2.trans (p3.trans (p4.trans (p5.trans p6))))⟩, trivial, by omega, ?_, hi4, hj4, fun i hi => ?_, fun T hT => ?_⟩
            · rw [List.append_nil, hCR, List.map_append, List.append_assoc]
              rfl
            · rw [pre, bnd_ok f4, if_neg (show ¬ (1 : Int32) = 0 by decide), bnd_ok H4.deep, ofN_pred, bnd_ok f5, bnd_ok f6]
              rfl
            · rw [← List.append_assoc]
              exact H6
            · rw [List.length_append]
              show _ + (Q.length + 1) ≤ _
              omega
            · rcases List.mem_append.mp hi with hi | hi
              · exact hok i hi
              · rw [List.mem_singleton.mp hi]
                exact itOk_op (by decide) (by decide)
            · rw [tyP_app _ _ _ _ (hty T (by omega))]
              exact tyP_one (ty_not T) []
      · obtain ⟨m2, f2, R2, p2⟩ := (H1.passes TB tx_not (j := 19) rfl).2 h319
        have H2 := R2.here
        have pre : mRA (f + 1) 66 sm = pRA m2 := by
          rw [ex, bnd_ok f1, if_pos rfl, bnd_ok f2, if_pos rfl]
        have op := open_plain (i := i) (j := j) L (by omega) h40 h319
        rcases plain_both TB L H2 hC hP with ⟨z, ⟨s3, e3, L3, o3⟩, ⟨m3, f3, R3, p3⟩⟩ | ⟨k3, Q, nu3, ⟨s3, e3, L3, o3⟩, ⟨m3, f3, H3, p3⟩, hk3, hQ, hok, hty⟩
        · exact Or.inl ⟨z, ⟨s3, o3, Or.inl ⟨op.1 s3 e3, L3⟩⟩, m3, pre.trans f3, R3, p1.trans (p2.trans p3)⟩
        · refine Or.inr ⟨k3, Q, [], C ++ Q.map encI, nu3, i, 0, s3, (op.2 s3 _ e3 (fun m => L3.oC) rfl).symm, o3, L3, List.append_nil _, rfl, ⟨m3, pre.trans f3, H3, p1.trans (p2.trans p3)⟩, trivial, hk3, hQ, by omega, by omega, hok, fun T hT => hty T (by omega)⟩
end AC
