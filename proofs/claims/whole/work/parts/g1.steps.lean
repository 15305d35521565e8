/-! THE CLASS'S READER OF LAWS: what waits is written, brackets open and close -/
theorem len_pos {l : Nat} (h : 0 < l) (h2 : l ≤ 1000) : ¬ Int32.ofNat l ≤ 0 := fun q => by
  have q' : Int32.ofNat l ≤ Int32.ofNat 0 := q
  rw [ofN_le (by omega) (by omega)] at q'
  omega
section WN
variable {α β : Type} {s s' : aS} {n c0 k d b : Nat} {B : Nat → Nat} {C S : List Nat} {nu li fa : Int32}
theorem nots_stop (L : LSt s n B c0 k C S d b nu li fa) (h : ∀ v r, S = v :: r → v ≠ 1033) : mX5_writeNots 59 s = some (.inl (), s) := by
  unfold mX5_writeNots
  rw [L.oC]
  have e : mX5_writeNots_L0 59 () s = some (.inl (.inr ()), s) := by
    unfold mX5_writeNots_L0
    rw [bnd_ok L.g15]
    cases S with
    | nil =>
      rw [if_pos (show Int32.ofNat ([] : List Nat).length ≤ 0 by decide)]
      rfl
    | cons v r =>
      have hl : (v :: r).length ≤ 40 := L.bd.2.2.2.2.2.1
      have hv : v < 2000 := by
        obtain ⟨-, -, x, F, -, -, -, w, -⟩ := L
        exact w.2.1
      rw [if_neg (show ¬ Int32.ofNat (v :: r).length ≤ 0 from len_pos (by rw [List.length_cons]; omega) (by omega)), bnd_ok L.g15, bnd_ok L.r13, bnd_ok L.l65, if_neg (fun q => by rw [ofN_lt (by omega) (by omega)] at q; omega), bnd_ok L.r13, bnd_ok L.g15, bnd_ok L.top, if_neg (show ¬ Int32.ofNat v = 1033 from fun q => by
        have q' : Int32.ofNat v = Int32.ofNat 1033 := q
        rw [ofN_inj (by omega) (by decide)] at q'
        exact h v r rfl q')]
      rfl
  rw [bnd_ok (loop_end e)]
  rfl
theorem nots_go (L : LSt s n B c0 k C (1033 :: S) (d + 1) b nu li fa) (hC : C.length < 400) : ∃ s1, mX5_writeNots 59 s = mX5_writeNots 59 s1 ∧ LSt s1 n B c0 k (C ++ [1033]) S d b nu li fa ∧ Off s s1 59 65 := by
  have hl : (1033 :: S).length ≤ 40 := L.bd.2.2.2.2.2.1
  obtain ⟨s1, e1, L1, o1⟩ := L.write hC (v := 1033) (u := 1033) rfl
  obtain ⟨s2, e2, L2, o2⟩ := L1.setd d
  obtain ⟨s3, e3, L3, o3⟩ := L2.pop
  refine ⟨s3, ?_, L3, o1.trans (o2.trans o3)⟩
  have e : mX5_writeNots_L0 59 () s = some (.inl (.inl ()), s3) := by
    unfold mX5_writeNots_L0
    rw [bnd_ok L.g15, if_neg (show ¬ Int32.ofNat (1033 :: S).length ≤ 0 from len_pos (by rw [List.length_cons]; omega) (by omega)), bnd_ok L.g15, bnd_ok L.r13, bnd_ok L.l65, if_neg (fun q => by rw [ofN_lt (by omega) (by omega)] at q; omega), bnd_ok L.r13, bnd_ok L.g15, bnd_ok L.top, if_pos (show Int32.ofNat 1033 = 1033 from rfl), bnd_ok e1, bnd_ok L1.g17, ofN_pred, bnd_ok e2, bnd_ok L2.g15, bnd_ok e3]
    rfl
  unfold mX5_writeNots
  rw [L.oC, L3.oC]
  exact mbnd_eq (loop_go e)
/-- what a coming item lets be written -/
def lets (a v : Nat) : Prop := v = 1034 ∨ (v = 1035 ∧ a = 1035)
theorem ww_stop {a : Nat} (ha : a < 2000) (L : LSt s n B c0 k C S d b nu li fa) (h : ∀ v r, S = v :: r → ¬ lets a v) : loopM (mX5_writeWaiting_L0 59 (Int32.ofNat a)) () s = some (.inl (), s) := by
  have e : mX5_writeWaiting_L0 59 (Int32.ofNat a) () s = some (.inl (.inr ()), s) := by
    unfold mX5_writeWaiting_L0
    rw [bnd_ok L.g15]
    cases S with
    | nil =>
      rw [if_pos (show Int32.ofNat ([] : List Nat).length ≤ 0 by decide)]
      rfl
    | cons v r =>
      have hl : (v :: r).length ≤ 40 := L.bd.2.2.2.2.2.1
      have hv : v < 2000 := by
        obtain ⟨-, -, x, F, -, -, -, w, -⟩ := L
        exact w.2.1
      have nl := h v r rfl
      rw [if_neg (show ¬ Int32.ofNat (v :: r).length ≤ 0 from len_pos (by rw [List.length_cons]; omega) (by omega)), bnd_ok L.g15, bnd_ok L.r13, bnd_ok L.l65, if_neg (fun q => by rw [ofN_lt (by omega) (by omega)] at q; omega), bnd_ok L.r13, bnd_ok L.g15, bnd_ok L.top, if_neg (show ¬ Int32.ofNat v = 1034 from fun q => by
        have q' : Int32.ofNat v = Int32.ofNat 1034 := q
        rw [ofN_inj (by omega) (by decide)] at q'
        exact nl (Or.inl q')), bnd_ok L.r13, bnd_ok L.g15, bnd_ok L.top]
      by_cases q : Int32.ofNat v = 1035
      · have q' : Int32.ofNat v = Int32.ofNat 1035 := q
        rw [ofN_inj (by omega) (by decide)] at q'
        rw [if_pos q, if_neg (show ¬ Int32.ofNat a = 1035 from fun z => by
          have z' : Int32.ofNat a = Int32.ofNat 1035 := z
          rw [ofN_inj (by omega) (by decide)] at z'
          exact nl (Or.inr ⟨q', z'⟩))]
        rfl
      · rw [if_neg q]
        rfl
  exact loop_end e
theorem ww_go {a v : Nat} (ha : a < 2000) (L : LSt s n B c0 k C (v :: S) d b nu li fa) (hC : C.length < 400) (h : lets a v) : ∃ s1, loopM (mX5_writeWaiting_L0 59 (Int32.ofNat a)) () s = loopM (mX5_writeWaiting_L0 59 (Int32.ofNat a)) () s1 ∧ LSt s1 n B c0 k (C ++ [v]) S d b nu li fa ∧ Off s s1 59 65 := by
  have hl : (v :: S).length ≤ 40 := L.bd.2.2.2.2.2.1
  obtain ⟨s1, e1, L1, o1⟩ := L.write hC (v := v) rfl
  obtain ⟨s3, e3, L3, o3⟩ := L1.pop
  refine ⟨s3, ?_, L3, o1.trans o3⟩
  have e : mX5_writeWaiting_L0 59 (Int32.ofNat a) () s = some (.inl (.inl ()), s3) := by
    unfold mX5_writeWaiting_L0
    rw [bnd_ok L.g15, if_neg (show ¬ Int32.ofNat (v :: S).length ≤ 0 from len_pos (by rw [List.length_cons]; omega) (by omega)), bnd_ok L.g15, bnd_ok L.r13, bnd_ok L.l65, if_neg (fun q => by rw [ofN_lt (by omega) (by omega)] at q; omega), bnd_ok L.r13, bnd_ok L.g15, bnd_ok L.top]
    rcases h with rfl | ⟨rfl, rfl⟩
    · rw [if_pos (show Int32.ofNat 1034 = 1034 from rfl), bnd_ok L.r13, bnd_ok L.g15, bnd_ok L.top, bnd_ok e1, bnd_ok L1.g15, bnd_ok e3]
      rfl
    · rw [if_neg (show ¬ Int32.ofNat 1035 = 1034 by decide), bnd_ok L.r13, bnd_ok L.g15, bnd_ok L.top, if_pos (show Int32.ofNat 1035 = 1035 from rfl), if_pos (show Int32.ofNat 1035 = 1035 from rfl), bnd_ok L.r13, bnd_ok L.g15, bnd_ok L.top, bnd_ok e1, bnd_ok L1.g15, bnd_ok e3]
      rfl
  exact loop_go e
theorem ww_all {a : Nat} (ha : a < 2000) (h : ∀ v r, S = v :: r → ¬ lets a v) : ∀ (R : List Nat) (s : aS) (C : List Nat), LSt s n B c0 k C (R ++ S) d b nu li fa → (∀ v, v ∈ R → lets a v) → C.length + R.length ≤ 400 → ∃ s1, loopM (mX5_writeWaiting_L0 59 (Int32.ofNat a)) () s = some (.inl (), s1) ∧ LSt s1 n B c0 k (C ++ R) S d b nu li fa ∧ Off s s1 59 65 := by
  intro R
  induction R with
  | nil =>
    intro s C L _ _
    exact ⟨s, ww_stop ha L h, by rw [List.append_nil]; exact L, Off.rf⟩
  | cons v R ih =>
    intro s C L hR hC
    have hC' : C.length + (R.length + 1) ≤ 400 := hC
    obtain ⟨s1, e1, L1, o1⟩ := ww_go ha L (by omega) (hR v List.mem_cons_self)
    obtain ⟨s2, e2, L2, o2⟩ := ih s1 (C ++ [v]) L1 (fun w hw => hR w (List.mem_cons_of_mem _ hw)) (by rw [List.length_append]; show C.length + 1 + R.length ≤ 400; omega)
    refine ⟨s2, e1.trans e2, ?_, o1.trans o2⟩
    rw [List.append_assoc] at L2
    exact L2
theorem LSt.waits {a : Nat} (ha : a < 2000) {R : List Nat} (L : LSt s n B c0 k C (R ++ S) d b nu li fa) (h : ∀ v r, S = v :: r → ¬ lets a v) (hR : ∀ v, v ∈ R → lets a v) (hC : C.length + R.length ≤ 400) {u : Int32} (hu : u = Int32.ofNat a) : LRun (mX5_writeWaiting 59 u) s () fun s' => LSt s' n B c0 k (C ++ R) S d b nu li fa := by
  subst hu
  obtain ⟨s1, e1, L1, o1⟩ := ww_all ha h R s C L hR hC
  refine ⟨s1, ?_, L1, o1⟩
  unfold mX5_writeWaiting
  rw [L.oC, bnd_ok e1]
  rfl
theorem LSt.drop {v : Nat} (L : LSt s n B c0 k C (v :: S) d b nu li fa) : LRun (mX5_dropWaiting 59) s () fun s' => LSt s' n B c0 k C S d b nu li fa := by
  have hl : (v :: S).length ≤ 40 := L.bd.2.2.2.2.2.1
  unfold mX5_dropWaiting
  refine LRun.o L (LRun.get L.g15 ?_)
  rw [if_neg (show ¬ Int32.ofNat (v :: S).length ≤ 0 from len_pos (by rw [List.length_cons]; omega) (by omega))]
  exact LRun.get L.g15 (LRun.bnd L.pop fun s1 L1 => LRun.ret L1)
end WN
/-! THE CLASS'S READER OF LAWS goes on: behind what opens, and behind an atom -/
noncomputable def oK (e : Unit ⊕ Unit) : MM Int32 := match e with
  | .inl _ => mbnd (gI 5 8 59) fun (v39 : Int32) => mbnd (nox (mX10_wrongl 59 v39)) fun (v40 : Int32) => mbool v40
  | .inr _ => mret 1
noncomputable def oC (r : (Int32 × Int32) ⊕ (Unit ⊕ Unit)) : MM (Unit ⊕ Unit) := match r with
  | .inl y => loopM (mX5_readCondition_L19 59) y
  | .inr e => mret e
noncomputable def tC (i : Nat) : MM ((Int32 × Int32) ⊕ (Unit ⊕ Unit)) :=
  mbnd (gI 5 7 59) fun (v11 : Int32) =>
  mbnd (α := Int32) (
    if v11 = 317 then (
      mret 1
    ) else (
      mbnd (gI 5 7 59) fun (v16 : Int32) =>
      if v16 = 318 then (
        mret 1
      ) else (
        mret 0
      )
    )
  ) fun (x13 : Int32) =>
  mbnd (α := Unit) (
    if x13 = 0 then (
      mret ()
    ) else (
      mbnd (gI 5 7 59) fun (v22 : Int32) =>
      mbnd (α := Int32) (
        if v22 = 317 then (
          mret 1034
        ) else (
          mret 1035
        )
      ) fun (x24 : Int32) =>
      mbnd (mX5_join 59 x24) fun _ =>
      mret ()
    )
  ) fun (x19 : Unit) =>
  mret (.inl (x13, Int32.ofNat i + 1))
noncomputable def clI (j : Nat) : MM Unit := mbnd (mX5_writeNots 59) fun _ => mbnd (loopM (mX5_closeAtoms_L6 59) (Int32.ofNat j)) fun (_ : Unit) => mret ()
noncomputable def clC (i j : Nat) : MM (Unit ⊕ Unit) := mbnd (mbnd (clI j) fun _ => tC i) oC
noncomputable def opC (i j : Nat) : MM (Unit ⊕ Unit) := mbnd (mbnd (mbnd (loopM (mX5_readOpening_L2 59) (Int32.ofNat j)) oK) fun (v7 : Int32) =>
  if v7 = 0 then mret (.inr (.inl ())) else mbnd (mX5_readPlain 59) fun (v9 : Int32) =>
  if v9 = 0 then mret (.inr (.inl ())) else mbnd (mX5_closeAtoms 59) fun _ => tC i) oC
section ST
variable {s s1 : aS} {n c0 k d b i j : Nat} {B : Nat → Nat} {C S : List Nat} {nu li fa : Int32}
theorem cond_next (L : LSt s n B c0 k C S d b nu li fa) (hi : i < 400) (hk : k < c0) : ∃ s1, loopM (mX5_readCondition_L19 59) (1, Int32.ofNat i) s = opC i 0 s1 ∧ LSt s1 n B c0 (k + 1) C S d b nu li fa ∧ Off s s1 59 65 := by
  obtain ⟨s1, e1, L1, o1⟩ := L.go hk
  refine ⟨s1, ?_, L1, o1⟩
  rw [loopM_eq]
  refine (mbnd_eq (m' := mbnd (mbnd (loopM (mX5_readOpening_L2 59) (Int32.ofNat 0)) oK) fun (v7 : Int32) =>
    if v7 = 0 then mret (.inr (.inl ())) else mbnd (mX5_readPlain 59) fun (v9 : Int32) =>
    if v9 = 0 then mret (.inr (.inl ())) else mbnd (mX5_closeAtoms 59) fun _ => tC i) (s' := s1) ?_).trans ?_
  · unfold mX5_readCondition_L19
    rw [if_neg (show ¬ (400 : Int32) ≤ (1, Int32.ofNat i).2 from nle (n := 400) hi (by decide)), if_neg (show ¬ ((1 : Int32), Int32.ofNat i).1 = 0 from show ¬ (1 : Int32) = 0 by decide), bnd_ok e1]
    refine mbnd_eq ?_
    unfold mX5_readOpening
    rw [L1.oC]
    rfl
  · unfold opC
    exact congrFun (congrArg (mbnd _) (funext fun r => by cases r <;> rfl)) s1
/-- a bracket or a not that opens -/
theorem open_go (L : LSt s n B c0 k C S d b nu li fa) (hj : j < 400) (hd : d < 6) (hS : S.length < 40) (hk : k < c0) {q : Nat} (h : (q = 1036 ∧ thing B n (tb B n k) = 40) ∨ (q = 1033 ∧ thing B n (tb B n k) = 319)) : ∃ s1, opC i j s = opC i (j + 1) s1 ∧ LSt s1 n B c0 (k + 1) C (q :: S) (d + 1) (if q = 1036 then b + 1 else b) nu li fa ∧ Off s s1 59 65 := by
  have hb : b < 2 ^ 31 ∨ True := Or.inr trivial
  obtain ⟨s1, e1, L1, o1⟩ := L.setd (d + 1)
  obtain ⟨s2, e2, L2, o2⟩ := L1.setb (if q = 1036 then b + 1 else b)
  obtain ⟨s3, e3, L3, o3⟩ := L2.await hS (v := q) (by rcases h with ⟨rfl, -⟩ | ⟨rfl, -⟩ <;> decide) rfl
  obtain ⟨s4, e4, L4, o4⟩ := L3.go hk
  refine ⟨s4, ?_, L4, o1.trans (o2.trans (o3.trans o4))⟩
  have e : mX5_readOpening_L2 59 (Int32.ofNat j) s = some (.inl (.inl (Int32.ofNat (j + 1))), s4) := by
    unfold mX5_readOpening_L2
    rw [if_neg (show ¬ (400 : Int32) ≤ Int32.ofNat j from nle (n := 400) hj (by decide)), bnd_ok L.g7]
    rcases h with ⟨rfl, h⟩ | ⟨rfl, h⟩
    · rw [if_pos rfl] at e2
      rw [if_pos h, bnd_ok L.g17, if_pos (show Int32.ofNat d < 6 from (ofN_lt (m := 6) (by omega) (by decide)).mpr hd), bnd_ok L.g17, ofN_succ, bnd_ok e1, bnd_ok L1.g16, bnd_ok L1.g7, h]
      refine (bnd_ok (v := 1) (s' := s1) rfl).trans ?_
      rw [ofN_succ, bnd_ok e2, bnd_ok L2.g7, h]
      refine (bnd_ok (v := Int32.ofNat 1036) (s' := s2) rfl).trans ?_
      rw [bnd_ok e3, bnd_ok e4, ofN_succ]
      rfl
    · rw [if_neg (by decide)] at e2
      rw [if_neg (by rw [h]; decide), bnd_ok L.g7, if_pos h, bnd_ok L.g17, if_pos (show Int32.ofNat d < 6 from (ofN_lt (m := 6) (by omega) (by decide)).mpr hd), bnd_ok L.g17, ofN_succ, bnd_ok e1, bnd_ok L1.g16, bnd_ok L1.g7, h]
      refine (bnd_ok (v := 0) (s' := s1) rfl).trans ?_
      rw [show Int32.ofNat b + 0 = Int32.ofNat b from Int32.add_zero _, bnd_ok e2, bnd_ok L2.g7, h]
      refine (bnd_ok (v := Int32.ofNat 1033) (s' := s2) rfl).trans ?_
      rw [bnd_ok e3, bnd_ok e4, ofN_succ]
      rfl
  exact mbnd_eq (mbnd_eq (mbnd_eq (loop_go e)))
theorem open_deep (L : LSt s n B c0 k C S 6 b nu li fa) (hj : j < 400) (h : thing B n (tb B n k) = 40 ∨ thing B n (tb B n k) = 319) : ∃ s1, opC i j s = some (.inl (.inl ()), s1) ∧ LFl s1 (tb B n k) ∧ Off s s1 59 65 := by
  obtain ⟨s1, e1, L1, o1⟩ := L.wrong
  refine ⟨s1, ?_, L1, o1⟩
  have e : mX5_readOpening_L2 59 (Int32.ofNat j) s = some (.inl (.inr (.inl ())), s) := by
    unfold mX5_readOpening_L2
    rw [if_neg (show ¬ (400 : Int32) ≤ Int32.ofNat j from nle (n := 400) hj (by decide)), bnd_ok L.g7]
    rcases h with h | h
    · rw [if_pos h, bnd_ok L.g17, if_neg (show ¬ Int32.ofNat 6 < 6 by decide)]
      rfl
    · rw [if_neg (by rw [h]; decide), bnd_ok L.g7, if_pos h, bnd_ok L.g17, if_neg (show ¬ Int32.ofNat 6 < 6 by decide)]
      rfl
  unfold opC
  refine (bnd_ok (v := .inr (.inl ())) (s' := s1) ((bnd_ok (v := 0) (s' := s1) ((bnd_ok (loop_end e)).trans e1)).trans ?_)).trans rfl
  rw [if_pos rfl]
  rfl
/-- no bracket, no not: what is plain -/
theorem open_plain (L : LSt s n B c0 k C S d b nu li fa) (hj : j < 400) (h1 : ¬ thing B n (tb B n k) = 40) (h2 : ¬ thing B n (tb B n k) = 319) : (∀ s1, mX5_readPlain 59 s = some (.inl 0, s1) → opC i j s = some (.inl (.inl ()), s1)) ∧ ∀ s1 Q, mX5_readPlain 59 s = some (.inl 1, s1) → (∀ m : MM Unit, onC 5 59 m s1 = m s1) → opC i j s = Q → clC i 0 s1 = Q := by
  have e : mX5_readOpening_L2 59 (Int32.ofNat j) s = some (.inl (.inr (.inr ())), s) := by
    unfold mX5_readOpening_L2
    rw [if_neg (show ¬ (400 : Int32) ≤ Int32.ofNat j from nle (n := 400) hj (by decide)), bnd_ok L.g7, if_neg h1, bnd_ok L.g7, if_neg h2]
    rfl
  have eo : mbnd (loopM (mX5_readOpening_L2 59) (Int32.ofNat j)) oK s = some (.inl 1, s) := (bnd_ok (loop_end e)).trans rfl
  refine ⟨fun s1 hp => ?_, fun s1 Q hp ho hq => ?_⟩
  · unfold opC
    refine (bnd_ok (v := .inr (.inl ())) (s' := s1) ((bnd_ok eo).trans ?_)).trans rfl
    rw [if_neg (show ¬ (1 : Int32) = 0 by decide), bnd_ok hp, if_pos rfl]
    rfl
  · rw [← hq]
    unfold opC clC
    refine (mbnd_eq ?_).symm
    refine (bnd_ok eo).trans ?_
    rw [if_neg (show ¬ (1 : Int32) = 0 by decide), bnd_ok hp, if_neg (show ¬ (1 : Int32) = 0 by decide)]
    refine mbnd_eq ?_
    unfold mX5_closeAtoms
    exact ho _
/-- a not that waits is written -/
theorem close_not (L : LSt s n B c0 k C (1033 :: S) (d + 1) b nu li fa) (hC : C.length < 400) : ∃ s1, clC i j s = clC i j s1 ∧ LSt s1 n B c0 k (C ++ [1033]) S d b nu li fa ∧ Off s s1 59 65 := by
  obtain ⟨s1, e1, L1, o1⟩ := nots_go L hC
  exact ⟨s1, mbnd_eq (mbnd_eq (mbnd_eq e1)), L1, o1⟩
/-- a bracket that closes -/
theorem close_br {R : List Nat} (L : LSt s n B c0 k C (R ++ 1036 :: S) (d + 1) (b + 1) nu li fa) (hj : j < 400) (hb : b < 1000) (hk : k < c0) (ht : thing B n (tb B n k) = 41) (hR : ∀ v, v ∈ R → v = 1034 ∨ v = 1035) (hC : C.length + R.length ≤ 400) : ∃ s1, clC i j s = clC i (j + 1) s1 ∧ LSt s1 n B c0 (k + 1) (C ++ R) S d b nu li fa ∧ Off s s1 59 65 := by
  have st : mX5_writeNots 59 s = some (.inl (), s) := nots_stop L fun v r e => by
    cases R with
    | nil =>
      have e' := List.cons.inj e
      rw [← e'.1]
      decide
    | cons w R' =>
      have e' := List.cons.inj e
      rw [← e'.1]
      rcases hR w List.mem_cons_self with rfl | rfl <;> decide
  obtain ⟨s1, e1, L1, o1⟩ := L.waits (a := 1035) (by decide) (S := 1036 :: S) (fun v r e => by
    rw [← (List.cons.inj e).1]
    exact fun q => q.elim (by decide) (fun q => absurd q.1 (by decide))) (fun v hv => (hR v hv).imp id fun e => ⟨e, rfl⟩) hC (u := 1035) rfl
  obtain ⟨s2, e2, L2, o2⟩ := L1.drop
  obtain ⟨s3, e3, L3, o3⟩ := L2.setb b
  obtain ⟨s4, e4, L4, o4⟩ := L3.setd d
  obtain ⟨s5, e5, L5, o5⟩ := L4.go hk
  refine ⟨s5, ?_, L5, o1.trans (o2.trans (o3.trans (o4.trans o5)))⟩
  have e : mX5_closeAtoms_L6 59 (Int32.ofNat j) s = (mbnd (mX5_writeNots 59) fun _ => (mret (.inl (Int32.ofNat (j + 1))) : MM (Int32 ⊕ Unit))) s5 := by
    unfold mX5_closeAtoms_L6
    rw [if_neg (show ¬ (400 : Int32) ≤ Int32.ofNat j from nle (n := 400) hj (by decide)), bnd_ok L.g7, if_pos ht, bnd_ok L.g16, if_neg (show ¬ Int32.ofNat (b + 1) ≤ 0 from len_pos (by omega) (by omega)), bnd_ok e1, bnd_ok e2, bnd_ok L2.g16, ofN_pred, bnd_ok e3, bnd_ok L3.g17, ofN_pred, bnd_ok e4, bnd_ok e5, ofN_succ]
  refine mbnd_eq (mbnd_eq ?_)
  unfold clI
  rw [bnd_ok st]
  have lp : loopM (mX5_closeAtoms_L6 59) (Int32.ofNat j) s = (mbnd (mX5_writeNots 59) fun _ => loopM (mX5_closeAtoms_L6 59) (Int32.ofNat (j + 1))) s5 := by
    rw [loopM_eq]
    refine (mbnd_eq e).trans ?_
    rw [mbnd_assoc]
    rfl
  refine (mbnd_eq lp).trans ?_
  rw [mbnd_assoc]
/-- and, or -/
theorem close_join {R : List Nat} {a : Nat} (L : LSt s n B c0 k C (R ++ S) d b nu li fa) (hj : j < 400) (hi : i + 1 < 400) (hk : k < c0) (ha : (a = 1034 ∧ thing B n (tb B n k) = 317) ∨ (a = 1035 ∧ thing B n (tb B n k) = 318)) (hR : ∀ v, v ∈ R → lets a v) (hS : ∀ v r, S = v :: r → v ≠ 1033 ∧ ¬ lets a v) (hC : C.length + R.length ≤ 400) (hSl : S.length < 40) : ∃ s1, clC i j s = opC (i + 1) 0 s1 ∧ LSt s1 n B c0 (k + 1) (C ++ R) (a :: S) d b nu li fa ∧ Off s s1 59 65 := by
  have ha2 : a < 2000 := by rcases ha with ⟨rfl, -⟩ | ⟨rfl, -⟩ <;> decide
  have st : mX5_writeNots 59 s = some (.inl (), s) := nots_stop L fun v r e => by
    cases R with
    | nil => exact (hS v r e).1
    | cons w R' =>
      have e' := List.cons.inj e
      rw [← e'.1]
      rcases hR w List.mem_cons_self with rfl | ⟨rfl, -⟩ <;> decide
  have n41 : ¬ thing B n (tb B n k) = 41 := by rcases ha with ⟨-, q⟩ | ⟨-, q⟩ <;> rw [q] <;> decide
  have lp : loopM (mX5_closeAtoms_L6 59) (Int32.ofNat j) s = some (.inl (), s) := by
    refine loop_end ?_
    unfold mX5_closeAtoms_L6
    rw [if_neg (show ¬ (400 : Int32) ≤ Int32.ofNat j from nle (n := 400) hj (by decide)), bnd_ok L.g7, if_neg n41]
    rfl
  have ci : clI j s = some (.inl (), s) := by
    unfold clI
    rw [bnd_ok st, bnd_ok lp]
    rfl
  obtain ⟨s1, e1, L1, o1⟩ := L.waits ha2 (fun v r e => (hS v r e).2) hR hC (u := Int32.ofNat a) rfl
  obtain ⟨s2, e2, L2, o2⟩ := L1.await hSl ha2 (u := Int32.ofNat a) rfl
  have jn : mX5_join 59 (Int32.ofNat a) s = some (.inl (), s2) := by
    unfold mX5_join
    rw [L.oC, bnd_ok e1, bnd_ok e2]
    rfl
  have tc : tC i s = some (.inl (.inl (1, Int32.ofNat (i + 1))), s2) := by
    unfold tC
    rw [bnd_ok L.g7]
    have h1 : (if thing B n (tb B n k) = 317 then (mret 1 : MM Int32) else mbnd (gI 5 7 59) fun (v16 : Int32) => if v16 = 318 then mret 1 else mret 0) s = some (.inl 1, s) := by
      rcases ha with ⟨-, q⟩ | ⟨-, q⟩
      · rw [if_pos q]
        rfl
      · rw [if_neg (by rw [q]; decide), bnd_ok L.g7, if_pos q]
        rfl
    rw [bnd_ok h1]
    have h2 : (if thing B n (tb B n k) = 317 then (mret 1034 : MM Int32) else mret 1035) s = some (.inl (Int32.ofNat a), s) := by
      rcases ha with ⟨rfl, q⟩ | ⟨rfl, q⟩
      · rw [if_pos q]
        rfl
      · rw [if_neg (by rw [q]; decide)]
        rfl
    have h3 : (if (1 : Int32) = 0 then (mret () : MM Unit) else mbnd (gI 5 7 59) fun (v22 : Int32) => mbnd (if v22 = 317 then (mret 1034 : MM Int32) else mret 1035) fun (x24 : Int32) => mbnd (mX5_join 59 x24) fun _ => mret ()) s = some (.inl (), s2) := by
      rw [if_neg (show ¬ (1 : Int32) = 0 by decide), bnd_ok L.g7, bnd_ok h2, bnd_ok jn]
      rfl
    rw [bnd_ok h3, ofN_succ]
    rfl
  obtain ⟨s3, e3, L3, o3⟩ := cond_next L2 hi hk
  refine ⟨s3, ?_, L3, o1.trans (o2.trans o3)⟩
  unfold clC
  exact (bnd_ok (v := .inl (1, Int32.ofNat (i + 1))) (s' := s2) ((bnd_ok ci).trans tc)).trans (show oC (.inl (1, Int32.ofNat (i + 1))) s2 = _ from e3)
/-- neither and nor or, no bracket that closes: the condition ends -/
theorem close_end {R : List Nat} (L : LSt s n B c0 k C (R ++ S) d b nu li fa) (hj : j < 400) (h1 : ¬ thing B n (tb B n k) = 317) (h2 : ¬ thing B n (tb B n k) = 318) (h3 : thing B n (tb B n k) = 41 → b = 0) (hR : ∀ v, v ∈ R → v = 1034 ∨ v = 1035) (hS : ∀ v r, S = v :: r → v ≠ 1033) : clC i j s = some (.inl (.inr ()), s) := by
  have st : mX5_writeNots 59 s = some (.inl (), s) := nots_stop L fun v r e => by
    cases R with
    | nil => exact hS v r e
    | cons w R' =>
      have e' := List.cons.inj e
      rw [← e'.1]
      rcases hR w List.mem_cons_self with rfl | rfl <;> decide
  have lp : loopM (mX5_closeAtoms_L6 59) (Int32.ofNat j) s = some (.inl (), s) := by
    refine loop_end ?_
    unfold mX5_closeAtoms_L6
    rw [if_neg (show ¬ (400 : Int32) ≤ Int32.ofNat j from nle (n := 400) hj (by decide)), bnd_ok L.g7]
    by_cases q : thing B n (tb B n k) = 41
    · rw [if_pos q, bnd_ok L.g16, h3 q, if_pos (show Int32.ofNat 0 ≤ 0 by decide)]
      rfl
    · rw [if_neg q]
      rfl
  have ci : clI j s = some (.inl (), s) := by
    unfold clI
    rw [bnd_ok st, bnd_ok lp]
    rfl
  have tc : tC i s = some (.inl (.inl (0, Int32.ofNat (i + 1))), s) := by
    unfold tC
    rw [bnd_ok L.g7, if_neg h1]
    refine (bnd_ok (v := 0) (s' := s) ?_).trans ?_
    · rw [bnd_ok L.g7, if_neg h2]
      rfl
    · refine (bnd_ok (v := ()) (s' := s) rfl).trans ?_
      rw [ofN_succ]
      rfl
  unfold clC
  refine (bnd_ok ((bnd_ok ci).trans tc)).trans ?_
  refine loop_end ?_
  unfold mX5_readCondition_L19
  by_cases q : (400 : Int32) ≤ ((0 : Int32), Int32.ofNat (i + 1)).2
  · rw [if_pos q]
    rfl
  · rw [if_neg q, if_pos rfl]
    rfl
end ST
