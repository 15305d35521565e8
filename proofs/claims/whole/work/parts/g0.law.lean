/-! THE CLASS'S READER OF LAWS: its state, what it writes, what waits -/
def Cod (g : Nat → Int32) (C : List Nat) : Prop := ∀ j v, C[j]? = some v → g j = Int32.ofNat v
/-- what waits, the top first -/
def Wai (g : Nat → Int32) : List Nat → Prop
  | [] => True
  | v :: r => g r.length = Int32.ofNat v ∧ v < 2000 ∧ Wai g r
theorem Cod.push {g : Nat → Int32} {C : List Nat} (h : Cod g C) (v : Nat) : Cod (upd g C.length (Int32.ofNat v)) (C ++ [v]) := by
  intro j u hj
  rcases Nat.lt_trichotomy j C.length with q | q | q
  · rw [List.getElem?_append_left q] at hj
    exact (if_neg (by omega)).trans (h j u hj)
  · rw [q, List.getElem?_append_right (Nat.le_refl _), Nat.sub_self] at hj
    have e : v = u := Option.some.inj hj
    rw [q, ← e]
    exact if_pos rfl
  · rw [List.getElem?_eq_none (by rw [List.length_append]; exact q)] at hj
    cases hj
theorem wai_upd {g : Nat → Int32} {x : Int32} {n : Nat} : ∀ {S : List Nat}, Wai g S → S.length ≤ n → Wai (upd g n x) S
  | [], _, _ => trivial
  | v :: r, h, hn => by
    have hn' : r.length + 1 ≤ n := hn
    exact ⟨(if_neg (by omega)).trans h.1, h.2.1, wai_upd h.2.2 (by omega)⟩
theorem Wai.push {g : Nat → Int32} {S : List Nat} (h : Wai g S) {v : Nat} (hv : v < 2000) : Wai (upd g S.length (Int32.ofNat v)) (v :: S) := ⟨if_pos rfl, hv, wai_upd h (Nat.le_refl _)⟩
def LSt (s : aS) (n : Nat) (B : Nat → Nat) (c0 k : Nat) (C S : List Nat) (d b : Nat) (nu li fa : Int32) : Prop := Tc s n B ∧ k ≤ c0 ∧ ∃ x F, RdL s x F ∧ Atl x F n B c0 k ∧ Cod (F 4) C ∧ Wai (F 5) S ∧ x 14 = Int32.ofNat C.length ∧ x 15 = Int32.ofNat S.length ∧ x 16 = Int32.ofNat b ∧ x 17 = Int32.ofNat d ∧ x 9 = nu ∧ x 10 = li ∧ x 11 = fa ∧ C.length ≤ 400 ∧ S.length ≤ 40
/-- the text was found wrong there -/
def LFl (s : aS) (z : Nat) : Prop := ∃ x F, RdL s x F ∧ x 11 = Int32.ofNat z
def LRun {α : Type} (m : MM α) (s : aS) (v : α) (Q : aS → Prop) : Prop := ∃ s', m s = some (.inl v, s') ∧ Q s' ∧ Off s s' 59 65
section LB
variable {α β : Type} {s s' : aS} {x : Nat → Int32} {F : Nat → Nat → Int32} {n c0 k d b d' b' : Nat} {B : Nat → Nat} {C C' S S' : List Nat} {nu li fa nu' : Int32} {Q Q' : aS → Prop}
theorem LRun.bnd {m : MM α} {f : α → MM β} {v : α} {w : β} (h : LRun m s v Q) (g : ∀ s', Q s' → LRun (f v) s' w Q') : LRun (mbnd m f) s w Q' := by
  obtain ⟨s1, h1, h2, h3⟩ := h
  obtain ⟨s2, g1, g2, g3⟩ := g s1 h2
  exact ⟨s2, (bnd_ok h1).trans g1, g2, h3.trans g3⟩
theorem LRun.get {m : MM α} {f : α → MM β} {v : α} {w : β} (h : m s = some (.inl v, s)) (g : LRun (f v) s w Q') : LRun (mbnd m f) s w Q' := by
  obtain ⟨s2, g1, g2, g3⟩ := g
  exact ⟨s2, (bnd_ok h).trans g1, g2, g3⟩
theorem LRun.ret {v : α} (h : Q s) : LRun (mret v) s v Q := ⟨s, rfl, h, Off.rf⟩
theorem LRun.bool {v : Int32} (h : Q s) (hv : v = 0 ∨ v = 1) : LRun (mbool v) s v Q := ⟨s, if_pos hv, h, Off.rf⟩
theorem LRun.nox {m : MM α} {v : α} (h : LRun m s v Q) : LRun (nox m) s v Q := by
  obtain ⟨s2, g1, g2⟩ := h
  exact ⟨s2, nox_ok g1, g2⟩
theorem RdL.o {m : MM α} (R : RdL s x F) : onC 5 59 m s = m s := onC_ok R.1
theorem LRun.o {m : MM α} {v : α} (L : LSt s n B c0 k C S d b nu li fa) (h : LRun m s v Q) : LRun (onC 5 59 m) s v Q := by
  obtain ⟨-, -, x, F, R, -⟩ := L
  obtain ⟨s2, g1, g2⟩ := h
  exact ⟨s2, (onC_ok R.1).trans g1, g2⟩
theorem LSt.oC {m : MM α} (L : LSt s n B c0 k C S d b nu li fa) : onC 5 59 m s = m s := by
  obtain ⟨-, -, x, F, R, -⟩ := L
  exact onC_ok R.1
/-- other numbers behind the reader's own -/
theorem put4 (R : RdL s x F) {k : Nat} (h1 : 14 ≤ k) (h2 : k ≤ 17) (v : Int32) : RRl (pI 5 k 59 v) s () (xsetl x k v) F := by
  have h : k = 14 ∨ k = 15 ∨ k = 16 ∨ k = 17 := by omega
  obtain ⟨R1, R2⟩ := R
  refine ⟨_, pF_ok R1 (show k < List.length _ by rcases h with rfl | rfl | rfl | rfl <;> exact Nat.le_of_ble_eq_true rfl), ⟨?_, fun q hq => hasI_sup (R2.1 q hq) (by omega), hasI_sup R2.2 (by decide)⟩, Off.sup (by decide) (by decide)⟩
  rcases h with rfl | rfl | rfl | rfl <;> exact hasO_put R1.2
theorem get4 (R : RdL s x F) {k : Nat} (h1 : 14 ≤ k) (h2 : k ≤ 17) : gI 5 k 59 s = some (.inl (x k), s) := by
  have h : k = 14 ∨ k = 15 ∨ k = 16 ∨ k = 17 := by omega
  rcases h with rfl | rfl | rfl | rfl <;> exact gI_ok R.1 rfl
theorem st4 (R : RdL s x F) {i : Nat} (hi : i < 400) (v : Int32) : RRl (stI 0 64 (Int32.ofNat i) v) s () x (mrow F 4 (upd (F 4) i v)) := by
  have e := stI_ok (x := v) (R.2.1 4 (by decide)) (ofN_nn (show i < 2 ^ 31 by omega)) (by rw [ofN_cl (by omega)]; exact hi)
  rw [ofN_cl (by omega)] at e
  refine ⟨_, e, ⟨hasO_sup R.1 (by omega), fun q hq => ?_, ?_⟩, Off.sup (by decide) (by decide)⟩
  · by_cases h : q = 4
    · subst h
      rw [mrow_at]
      exact ⟨up_self, (R.2.1 4 (by decide)).2⟩
    · rw [mrow_ne _ _ h]
      exact hasI_sup (R.2.1 q hq) (by omega)
  · rw [mrow_ne _ _ (show (5 : Nat) ≠ 4 by decide)]
    exact hasI_sup R.2.2 (by decide)
theorem st5 (R : RdL s x F) {i : Nat} (hi : i < 40) (v : Int32) : RRl (stI 0 65 (Int32.ofNat i) v) s () x (mrow F 5 (upd (F 5) i v)) := by
  have e := stI_ok (x := v) R.2.2 (ofN_nn (show i < 2 ^ 31 by omega)) (by rw [ofN_cl (by omega)]; exact hi)
  rw [ofN_cl (by omega)] at e
  refine ⟨_, e, ⟨hasO_sup R.1 (by omega), fun q hq => ?_, ?_⟩, Off.sup (by decide) (by decide)⟩
  · rw [mrow_ne _ _ (show q ≠ 5 by omega)]
    exact hasI_sup (R.2.1 q hq) (by omega)
  · rw [mrow_at]
    exact ⟨up_self, R.2.2.2⟩
theorem Atl.rows {F' : Nat → Nat → Int32} {x' : Nat → Int32} (A : Atl x F n B c0 k) (e : ∀ j, 5 ≤ j → j ≤ 8 → x' j = x j) (f : ∀ q, q < 4 → F' q = F q) : Atl x' F' n B c0 k := by
  obtain ⟨⟨a1, a2, a3, a4⟩, a5, a6, a7, a8⟩ := A
  refine ⟨⟨(e 5 (by decide) (by decide)).trans a1, a2, fun j hj => ?_, a4⟩, a5, (e 6 (by decide) (by decide)).trans a6, (e 7 (by decide) (by decide)).trans a7, (e 8 (by decide) (by decide)).trans a8⟩
  obtain ⟨t1, t2, t3, t4, t5⟩ := a3 j hj
  rw [f 0 (by decide), f 1 (by decide), f 2 (by decide), f 3 (by decide)]
  exact ⟨t1, t2, t3, t4, t5⟩
theorem LSt.g7 (L : LSt s n B c0 k C S d b nu li fa) : gI 5 7 59 s = some (.inl (thing B n (tb B n k)), s) := by
  obtain ⟨-, -, x, F, R, A, -⟩ := L
  rw [← A.2.2.2.1]
  exact rgil R (by decide) (by decide)
theorem LSt.g8 (L : LSt s n B c0 k C S d b nu li fa) : gI 5 8 59 s = some (.inl (Int32.ofNat (tb B n k)), s) := by
  obtain ⟨-, -, x, F, R, A, -⟩ := L
  rw [← A.2.2.2.2]
  exact rgil R (by decide) (by decide)
theorem LSt.g9 (L : LSt s n B c0 k C S d b nu li fa) : gI 5 9 59 s = some (.inl nu, s) := by
  obtain ⟨-, -, x, F, R, A, -, -, -, -, -, -, e, -⟩ := L
  rw [← e]
  exact rgil R (by decide) (by decide)
theorem LSt.g14 (L : LSt s n B c0 k C S d b nu li fa) : gI 5 14 59 s = some (.inl (Int32.ofNat C.length), s) := by
  obtain ⟨-, -, x, F, R, A, -, -, e, -⟩ := L
  rw [← e]
  exact get4 R (by decide) (by decide)
theorem LSt.g15 (L : LSt s n B c0 k C S d b nu li fa) : gI 5 15 59 s = some (.inl (Int32.ofNat S.length), s) := by
  obtain ⟨-, -, x, F, R, A, -, -, -, e, -⟩ := L
  rw [← e]
  exact get4 R (by decide) (by decide)
theorem LSt.g16 (L : LSt s n B c0 k C S d b nu li fa) : gI 5 16 59 s = some (.inl (Int32.ofNat b), s) := by
  obtain ⟨-, -, x, F, R, A, -, -, -, -, e, -⟩ := L
  rw [← e]
  exact get4 R (by decide) (by decide)
theorem LSt.g17 (L : LSt s n B c0 k C S d b nu li fa) : gI 5 17 59 s = some (.inl (Int32.ofNat d), s) := by
  obtain ⟨-, -, x, F, R, A, -, -, -, -, -, e, -⟩ := L
  rw [← e]
  exact get4 R (by decide) (by decide)
theorem LSt.r12 (L : LSt s n B c0 k C S d b nu li fa) : gR 5 12 59 s = some (.inl 64, s) := by
  obtain ⟨-, -, x, F, R, -⟩ := L
  exact gR_ok R.1 rfl
theorem LSt.r13 (L : LSt s n B c0 k C S d b nu li fa) : gR 5 13 59 s = some (.inl 65, s) := by
  obtain ⟨-, -, x, F, R, -⟩ := L
  exact gR_ok R.1 rfl
theorem LSt.l64 (L : LSt s n B c0 k C S d b nu li fa) : lenI 0 64 s = some (.inl (Int32.ofNat 400), s) := by
  obtain ⟨-, -, x, F, R, -⟩ := L
  exact lenI_ok (R.2.1 4 (by decide))
theorem LSt.l65 (L : LSt s n B c0 k C S d b nu li fa) : lenI 0 65 s = some (.inl (Int32.ofNat 40), s) := by
  obtain ⟨-, -, x, F, R, -⟩ := L
  exact lenI_ok R.2.2
theorem LSt.top {v : Nat} {r : List Nat} (L : LSt s n B c0 k C (v :: r) d b nu li fa) : ldI 0 65 (Int32.ofNat (v :: r).length - 1) s = some (.inl (Int32.ofNat v), s) := by
  obtain ⟨-, -, x, F, R, A, -, w, -, -, -, -, -, -, -, -, h⟩ := L
  have h' : r.length + 1 ≤ 40 := h
  rw [List.length_cons, ofN_pred]
  have e := ldI_ok (i := Int32.ofNat r.length) R.2.2 (ofN_nn (by omega)) (by rw [ofN_cl (by omega)]; omega)
  rw [ofN_cl (by omega), w.1] at e
  exact e
theorem LSt.bd (L : LSt s n B c0 k C S d b nu li fa) : n ≤ 400 ∧ c0 ≤ n ∧ k ≤ c0 ∧ (∀ q, q < n → B q < 256) ∧ tb B n c0 = n ∧ S.length ≤ 40 ∧ C.length ≤ 400 := by
  obtain ⟨T, h, x, F, R, A, -, -, -, -, -, -, -, -, -, h1, h2⟩ := L
  exact ⟨T.choose_spec.2.1, A.1.2.1, h, fun q hq => (T.choose_spec.2.2 q hq).1, A.1.2.2.2, h2, h1⟩
/-- one number of the reader's is put -/
theorem LSt.num (L : LSt s n B c0 k C S d b nu li fa) {j : Nat} {v : Int32} {C' S' : List Nat} {d' b' : Nat} (h1 : 14 ≤ j) (h2 : j ≤ 17) (g : ∀ x F, Atl x F n B c0 k → Cod (F 4) C → Wai (F 5) S → x 14 = Int32.ofNat C.length → x 15 = Int32.ofNat S.length → x 16 = Int32.ofNat b → x 17 = Int32.ofNat d → x 9 = nu → x 10 = li → x 11 = fa → k ≤ c0 ∧ Cod (F 4) C' ∧ Wai (F 5) S' ∧ xsetl x j v 14 = Int32.ofNat C'.length ∧ xsetl x j v 15 = Int32.ofNat S'.length ∧ xsetl x j v 16 = Int32.ofNat b' ∧ xsetl x j v 17 = Int32.ofNat d' ∧ C'.length ≤ 400 ∧ S'.length ≤ 40) : LRun (pI 5 j 59 v) s () fun s' => LSt s' n B c0 k C' S' d' b' nu li fa := by
  obtain ⟨T, h, x, F, R, A, c1, c2, c3, c4, c5, c6, c7, c8, c9, -, -⟩ := L
  obtain ⟨s1, e1, R1, o1⟩ := put4 R h1 h2 v
  obtain ⟨a1, a2, a3, a4, a5, a6, a7, a8, a9⟩ := g x F A c1 c2 c3 c4 c5 c6 c7 c8 c9
  exact ⟨s1, e1, ⟨T.off o1 (by decide), h, _, F, R1, A.keep fun q h1 h2 => if_neg (by omega), a2, a3, a4, a5, a6, a7, (if_neg (by omega)).trans c7, (if_neg (by omega)).trans c8, (if_neg (by omega)).trans c9, a8, a9⟩, o1⟩
theorem LSt.setb (L : LSt s n B c0 k C S d b nu li fa) (b' : Nat) : LRun (pI 5 16 59 (Int32.ofNat b')) s () fun s' => LSt s' n B c0 k C S d b' nu li fa :=
  L.num (by decide) (by decide) fun x F _ h2 h3 h4 h5 h6 h7 _ _ _ => ⟨L.2.1, h2, h3, h4, h5, rfl, h7, L.bd.2.2.2.2.2.2, L.bd.2.2.2.2.2.1⟩
theorem LSt.setd (L : LSt s n B c0 k C S d b nu li fa) (d' : Nat) : LRun (pI 5 17 59 (Int32.ofNat d')) s () fun s' => LSt s' n B c0 k C S d' b nu li fa :=
  L.num (by decide) (by decide) fun x F _ h2 h3 h4 h5 h6 h7 _ _ _ => ⟨L.2.1, h2, h3, h4, h5, h6, rfl, L.bd.2.2.2.2.2.2, L.bd.2.2.2.2.2.1⟩
theorem LSt.pop {v : Nat} (L : LSt s n B c0 k C (v :: S) d b nu li fa) : LRun (pI 5 15 59 (Int32.ofNat (v :: S).length - 1)) s () fun s' => LSt s' n B c0 k C S d b nu li fa := by
  rw [List.length_cons, ofN_pred]
  exact L.num (by decide) (by decide) fun x F _ h2 h3 h4 h5 h6 h7 _ _ _ => ⟨L.2.1, h2, h3.2.2, h4, rfl, h6, h7, L.bd.2.2.2.2.2.2, by have h8 : S.length + 1 ≤ 40 := L.bd.2.2.2.2.2.1; omega⟩
theorem LSt.write (L : LSt s n B c0 k C S d b nu li fa) (hC : C.length < 400) {v : Nat} {u : Int32} (hu : u = Int32.ofNat v) : LRun (mX5_write 59 u) s 1 fun s' => LSt s' n B c0 k (C ++ [v]) S d b nu li fa := by
  subst hu
  unfold mX5_write
  refine LRun.o L (LRun.get L.g14 ?_)
  rw [if_neg (ofN_nn (by omega))]
  refine LRun.get L.g14 (LRun.get L.r12 (LRun.get L.l64 ?_))
  rw [if_neg (nle hC (by decide))]
  refine LRun.get L.r12 (LRun.get L.g14 ?_)
  have L' := L
  obtain ⟨T, h, x, F, R, A, c1, c2, c3, c4, c5, c6, c7, c8, c9, c10, c11⟩ := L'
  obtain ⟨s1, e1, R1, o1⟩ := st4 R hC (Int32.ofNat v)
  obtain ⟨s2, e2, R2, o2⟩ := put4 R1 (k := 14) (by decide) (by decide) (Int32.ofNat (C.length + 1))
  have g : gI 5 14 59 s1 = some (.inl (Int32.ofNat C.length), s1) := by
    rw [← c3]
    exact get4 R1 (by decide) (by decide)
  refine ⟨s2, ?_, ⟨T.off (o1.trans o2) (by decide), h, _, _, R2, A.rows (fun q h1 h2 => if_neg (by omega)) (fun q hq => mrow_ne _ _ (by omega)), ?_, ?_, ?_, c4, c5, c6, c7, c8, c9, ?_, c11⟩, o1.trans o2⟩
  · rw [bnd_ok e1, bnd_ok g, ofN_succ, bnd_ok e2]
    rfl
  · rw [mrow_at]
    exact c1.push v
  · rw [mrow_ne _ _ (show (5 : Nat) ≠ 4 by decide)]
    exact c2
  · rw [List.length_append]
    rfl
  · rw [List.length_append]
    exact hC
theorem LSt.await (L : LSt s n B c0 k C S d b nu li fa) (hS : S.length < 40) {v : Nat} (hv : v < 2000) {u : Int32} (hu : u = Int32.ofNat v) : LRun (mX5_await 59 u) s () fun s' => LSt s' n B c0 k C (v :: S) d b nu li fa := by
  subst hu
  unfold mX5_await
  refine LRun.o L (LRun.get L.g15 ?_)
  rw [if_neg (ofN_nn (by omega))]
  refine LRun.get L.g15 (LRun.get L.r13 (LRun.get L.l65 ?_))
  rw [if_neg (nle hS (by decide))]
  refine LRun.get L.r13 (LRun.get L.g15 ?_)
  have L' := L
  obtain ⟨T, h, x, F, R, A, c1, c2, c3, c4, c5, c6, c7, c8, c9, c10, c11⟩ := L'
  obtain ⟨s1, e1, R1, o1⟩ := st5 R hS (Int32.ofNat v)
  obtain ⟨s2, e2, R2, o2⟩ := put4 R1 (k := 15) (by decide) (by decide) (Int32.ofNat (S.length + 1))
  have g : gI 5 15 59 s1 = some (.inl (Int32.ofNat S.length), s1) := by
    rw [← c4]
    exact get4 R1 (by decide) (by decide)
  refine ⟨s2, ?_, ⟨T.off (o1.trans o2) (by decide), h, _, _, R2, A.rows (fun q h1 h2 => if_neg (by omega)) (fun q hq => mrow_ne _ _ (by omega)), ?_, ?_, c3, ?_, c5, c6, c7, c8, c9, c10, hS⟩, o1.trans o2⟩
  · rw [bnd_ok e1, bnd_ok g, ofN_succ, bnd_ok e2]
    rfl
  · rw [mrow_ne _ _ (show (4 : Nat) ≠ 5 by decide)]
    exact c1
  · rw [mrow_at]
    exact c2.push hv
  · rfl
theorem LSt.go (L : LSt s n B c0 k C S d b nu li fa) (hk : k < c0) : LRun (nox (mX10_goOnl 59)) s () fun s' => LSt s' n B c0 (k + 1) C S d b nu li fa := by
  obtain ⟨T, h, x, F, R, A, c1, c2, c3, c4, c5, c6, c7, c8, c9, c10, c11⟩ := L
  obtain ⟨s1, e1, R1, o1⟩ := gol T R A
  exact ⟨s1, e1, ⟨T.off o1 (by decide), hk, _, F, R1, A.next h (fun _ _ _ => rfl), c1, c2, c3, c4, c5, c6, c7, c8, c9, c10, c11⟩, o1⟩
theorem LSt.wrong (L : LSt s n B c0 k C S d b nu li fa) : LRun (mbnd (gI 5 8 59) fun (v : Int32) => mbnd (nox (mX10_wrongl 59 v)) fun (w : Int32) => mbool w) s 0 fun s' => LFl s' (tb B n k) := by
  have g := L.g8
  obtain ⟨T, h, x, F, R, -⟩ := L
  obtain ⟨s1, e1, R1, o1⟩ := wrongBl R (Int32.ofNat (tb B n k))
  exact LRun.get g ⟨s1, e1, ⟨_, F, R1, if_pos rfl⟩, o1⟩
theorem LSt.more (L : LSt s n B c0 k C S d b nu li fa) (h : tb B n k < n) : k < c0 := by
  obtain ⟨-, -, x, F, R, A, -⟩ := L
  exact A.more h
/-- a number taken, or not -/
theorem LSt.take (L : LSt s n B c0 k C S d b nu li fa) {m : Nat} (hm : m ≤ 5) (h : Int32) : (figv B n (tb B n k) m h = -1 ∧ LRun (nox (mX10_takeNumberl 59 (Int32.ofNat m) h)) s 0 fun s' => LFl s' (tb B n k)) ∨ ∃ u, u < 100000 ∧ figv B n (tb B n k) m h = Int32.ofNat u ∧ Int32.ofNat u ≤ h ∧ tb B n k < n ∧ LRun (nox (mX10_takeNumberl 59 (Int32.ofNat m) h)) s 1 fun s' => LSt s' n B c0 (k + 1) C S d b (Int32.ofNat u) li fa := by
  have mo := L.more
  obtain ⟨T, hk, x, F, R, A, c1, c2, c3, c4, c5, c6, c7, c8, c9, c10, c11⟩ := L
  rcases takeNumberl T R A hm h with ⟨a1, s1, e1, R1, o1⟩ | ⟨u, hu, a1, a2, a3, s1, e1, R1, o1⟩
  · exact Or.inl ⟨a1, s1, e1, ⟨_, F, R1, (if_pos rfl).trans A.2.2.2.2⟩, o1⟩
  · exact Or.inr ⟨u, hu, a1, a2, a3, s1, e1, ⟨T.off o1 (by decide), mo a3, _, F, R1, A.next hk (fun q h1 h2 => if_neg (by omega)), c1, c2, c3, c4, c5, c6, rfl, c8, c9, c10, c11⟩, o1⟩
end LB
