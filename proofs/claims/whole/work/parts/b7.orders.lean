/-! CELL: the orders, one after the other -/
def gt (l : List Nat) (i : Nat) : Nat := l.getD i 0
def eOf (l : List Nat) : Nat → Option Nat
  | 0 => none
  | x + 1 => if gt l x ≤ gt l (x + 1) then some x else eOf l x
def yOf (l : List Nat) (e : Nat) : Nat → Nat
  | 0 => 0
  | y + 1 => if gt l e ≤ gt l (y + 1) then y + 1 else yOf l e y
def sw (l : List Nat) (a b : Nat) : List Nat := (l.set a (gt l b)).set b (gt l a)
def rv : Nat → List Nat → Nat → Nat → List Nat
  | 0, l, _, _ => l
  | F + 1, l, a, b => if b ≤ a then l else rv F (sw l a b) (a + 1) (b - 1)
def nx (l : List Nat) : Option (List Nat) := match eOf l (l.length - 1) with
  | none => none
  | some e => some (rv 6 (sw l e (yOf l e (l.length - 1))) (e + 1) (l.length - 1))
theorem gt_set {l : List Nat} {a v i : Nat} (ha : a < l.length) : gt (l.set a v) i = if i = a then v else gt l i := by
  unfold gt
  rw [List.getD_eq_getElem?_getD, List.getD_eq_getElem?_getD, List.getElem?_set]
  by_cases h : i = a
  · subst h
    rw [if_pos rfl, if_pos ha, if_pos rfl]
    rfl
  · rw [if_neg (Ne.symm h), if_neg h]
theorem sw_len (l : List Nat) (a b : Nat) : (sw l a b).length = l.length := by unfold sw; rw [List.length_set, List.length_set]
theorem rv_len : ∀ (F : Nat) (l : List Nat) (a b : Nat), (rv F l a b).length = l.length
  | 0, _, _, _ => rfl
  | F + 1, l, a, b => by
    show (if b ≤ a then l else rv F (sw l a b) (a + 1) (b - 1)).length = _
    split
    · rfl
    · rw [rv_len F, sw_len]
theorem eOf_lt {l : List Nat} : ∀ {x e : Nat}, eOf l x = some e → e < x ∧ gt l e ≤ gt l (e + 1)
  | 0, _, h => nomatch h
  | x + 1, e, h => by
    have h' : (if gt l x ≤ gt l (x + 1) then some x else eOf l x) = some e := h
    split at h'
    · next q =>
      have : x = e := Option.some.inj h'
      subst this
      exact ⟨Nat.lt_succ_self _, q⟩
    · exact ⟨Nat.lt_succ_of_lt (eOf_lt h').1, (eOf_lt h').2⟩
theorem yOf_in {l : List Nat} {e : Nat} (h : gt l e ≤ gt l (e + 1)) : ∀ {y : Nat}, e + 1 ≤ y → e + 1 ≤ yOf l e y ∧ yOf l e y ≤ y
  | 0, h1 => absurd h1 (Nat.not_succ_le_zero _)
  | y + 1, h1 => by
    show e + 1 ≤ (if gt l e ≤ gt l (y + 1) then y + 1 else yOf l e y) ∧ (if gt l e ≤ gt l (y + 1) then y + 1 else yOf l e y) ≤ y + 1
    split
    · exact ⟨h1, Nat.le_refl _⟩
    · next q =>
      have : e + 1 ≤ y := by
        rcases Nat.lt_or_ge e y with z | z
        · exact z
        · have : e = y := by omega
          subst this
          exact absurd h q
      have := yOf_in h this
      omega
/-- the row holds the list -/
def OrdF (F : Nat → Int32) (l : List Nat) : Prop := ∀ i, i < l.length → F i = Int32.ofNat (gt l i)
def Lv (l : List Nat) : Prop := ∀ i, i < l.length → gt l i < 6
theorem OrdF.set {F : Nat → Int32} {l : List Nat} (h : OrdF F l) {a v : Nat} (ha : a < l.length) : OrdF (upd F a (Int32.ofNat v)) (l.set a v) := fun i hi => by
  rw [gt_set ha]
  show (if i = a then _ else _) = _
  by_cases e : i = a
  · rw [if_pos e, if_pos e]
  · rw [if_neg e, if_neg e]
    exact h i (by rwa [List.length_set] at hi)
theorem OrdF.sw {F : Nat → Int32} {l : List Nat} (h : OrdF F l) {a b : Nat} (ha : a < l.length) (hb : b < l.length) : OrdF (upd (upd F a (F b)) b (F a)) (sw l a b) := by
  rw [h a ha, h b hb]
  exact (h.set ha).set (by rw [List.length_set]; exact hb)
theorem Lv.set {l : List Nat} (h : Lv l) {a v : Nat} (ha : a < l.length) (hv : v < 6) : Lv (l.set a v) := fun i hi => by
  rw [gt_set ha]
  split
  · exact hv
  · exact h i (by rwa [List.length_set] at hi)
theorem Lv.sw {l : List Nat} (h : Lv l) {a b : Nat} (ha : a < l.length) (hb : b < l.length) : Lv (sw l a b) := (h.set ha (h b hb)).set (by rw [List.length_set]; exact hb) (h a ha)
def pd : Nat → Int32
  | 0 => -1
  | x + 1 => Int32.ofNat x
theorem pd_dec (x : Nat) : Int32.ofNat x + (-1) = pd x := by
  cases x with
  | zero => rfl
  | succ x =>
    show Int32.ofNat (x + 1) + (-1) = Int32.ofNat x
    rw [← ofN_succ]
    grind
theorem ord_le {F : Nat → Int32} {l : List Nat} (h : OrdF F l) (v : Lv l) {a b : Nat} (ha : a < l.length) (hb : b < l.length) : (F a ≤ F b) = (gt l a ≤ gt l b) := by
  have := v a ha
  have := v b hb
  rw [h a ha, h b hb]
  exact propext (ofN_le (by omega) (by omega))
section OC
variable {s : aS} {F : Nat → Int32} {l : List Nat} {y : Int32}
abbrev oc (n y : Int32) : List Value := [.ref 19, .ref 20, .ref 21, .ref 22, .int n, .int y]
theorem c_at {x : Int32} (O : hasO s 18 0 (oc x y)) (R : hasI s 19 0 6 F) {a : Nat} (ha : a < 6) : mX0_toolAt 18 (Int32.ofNat a) s = some (.inl (F a), s) := by
  have g0 : gR 0 0 18 s = some (.inl 19, s) := gR_ok O rfl
  have l1 : ldI 0 19 (Int32.ofNat a) s = some (.inl (F a), s) := by
    have := ldI_ok (i := Int32.ofNat a) R (ofN_nn (by omega)) (by rw [ofN_cl (by omega)]; omega)
    rwa [ofN_cl (by omega)] at this
  unfold mX0_toolAt
  rw [onC_ok O, if_neg (ofN_nn (by omega)), bnd_ok g0, bnd_ok (lenI_ok R), if_neg (nle ha (by omega)), bnd_ok g0, bnd_ok l1]
  rfl
theorem c_e (O : hasO s 18 0 (oc (Int32.ofNat l.length) y)) (R : hasI s 19 0 6 F) (hF : OrdF F l) (v : Lv l) (h6 : l.length ≤ 6) : ∀ x, x < l.length → loopM (mX0_nextOrder_L7 18) (pd x) s = some (.inl (match eOf l x with | none => -1 | some e => Int32.ofNat e), s)
  | 0, _ => by
    rw [loopM_eq]
    exact (bnd_ok (show mX0_nextOrder_L7 18 (-1) s = some (.inl (.inr (-1)), s) from rfl)).trans rfl
  | x + 1, h => by
    have l1 := c_at O R (a := x) (by omega)
    have l2 := c_at O R (a := x + 1) (by omega)
    have body : mX0_nextOrder_L7 18 (Int32.ofNat x) s = some (.inl (if gt l x ≤ gt l (x + 1) then .inr (Int32.ofNat x) else .inl (pd x)), s) := by
      unfold mX0_nextOrder_L7
      rw [if_neg (ofN_nn (by omega)), bnd_ok l1, ofN_succ, bnd_ok l2]
      by_cases q : gt l x ≤ gt l (x + 1)
      · rw [if_pos (by rw [ord_le hF v (by omega) (by omega)]; exact q), if_pos q]
        rfl
      · rw [if_neg (by rw [ord_le hF v (by omega) (by omega)]; exact q), if_neg q, pd_dec]
        rfl
    rw [show pd (x + 1) = Int32.ofNat x from rfl, loopM_eq, show eOf l (x + 1) = (if gt l x ≤ gt l (x + 1) then some x else eOf l x) from rfl]
    refine (bnd_ok body).trans ?_
    by_cases q : gt l x ≤ gt l (x + 1)
    · rw [if_pos q, if_pos q]
      rfl
    · rw [if_neg q, if_neg q]
      exact c_e O R hF v h6 x (by omega)
theorem c_y (O : hasO s 18 0 (oc (Int32.ofNat l.length) y)) (R : hasI s 19 0 6 F) (hF : OrdF F l) (v : Lv l) (h6 : l.length ≤ 6) {e : Nat} (he : gt l e ≤ gt l (e + 1)) : ∀ x, x < l.length → e + 1 ≤ x → loopM (mX0_nextOrder_L45 18 (Int32.ofNat e)) (Int32.ofNat x) s = some (.inl (Int32.ofNat (yOf l e x)), s)
  | 0, _, h => absurd h (Nat.not_succ_le_zero _)
  | x + 1, h, hx => by
    have l1 := c_at O R (a := e) (by omega)
    have l2 := c_at O R (a := x + 1) (by omega)
    have body : mX0_nextOrder_L45 18 (Int32.ofNat e) (Int32.ofNat (x + 1)) s = some (.inl (if gt l e ≤ gt l (x + 1) then .inr (Int32.ofNat (x + 1)) else .inl (Int32.ofNat x)), s) := by
      unfold mX0_nextOrder_L45
      rw [if_neg (nle (by omega) (by omega)), bnd_ok l2, bnd_ok l1]
      by_cases q : gt l e ≤ gt l (x + 1)
      · rw [if_pos (by rw [ord_le hF v (by omega) (by omega)]; exact q), if_pos q]
        rfl
      · rw [if_neg (by rw [ord_le hF v (by omega) (by omega)]; exact q), if_neg q, pd_dec]
        rfl
    rw [loopM_eq, show yOf l e (x + 1) = (if gt l e ≤ gt l (x + 1) then x + 1 else yOf l e x) from rfl]
    refine (bnd_ok body).trans ?_
    by_cases q : gt l e ≤ gt l (x + 1)
    · rw [if_pos q, if_pos q]
      rfl
    · rw [if_neg q, if_neg q]
      have : e + 1 ≤ x := by
        rcases Nat.lt_or_ge e x with z | z
        · exact z
        · have : e = x := by omega
          subst this
          exact absurd he q
      exact c_y O R hF v h6 he x (by omega) this
theorem c_sw {x : Int32} (O : hasO s 18 0 (oc x y)) (R : hasI s 19 0 6 F) {a b : Nat} (ha : a < 6) (hb : b < 6) : mX0_exchangeTurns 18 (Int32.ofNat a) (Int32.ofNat b) s = some (.inl (), sup s 19 (rwE 6 (upd (upd F a (F b)) b (F a)))) := by
  have g0 : ∀ e, gR 0 0 18 (sup s 19 e) = some (.inl 19, sup s 19 e) := fun e => gR_ok (hasO_sup O (by decide)) rfl
  have g1 : gR 0 0 18 s = some (.inl 19, s) := gR_ok O rfl
  have l1 : ldI 0 19 (Int32.ofNat a) s = some (.inl (F a), s) := by
    have := ldI_ok (i := Int32.ofNat a) R (ofN_nn (by omega)) (by rw [ofN_cl (by omega)]; omega)
    rwa [ofN_cl (by omega)] at this
  have l2 : ldI 0 19 (Int32.ofNat b) s = some (.inl (F b), s) := by
    have := ldI_ok (i := Int32.ofNat b) R (ofN_nn (by omega)) (by rw [ofN_cl (by omega)]; omega)
    rwa [ofN_cl (by omega)] at this
  have t1 : stI 0 19 (Int32.ofNat a) (F b) s = some (.inl (), sup s 19 (rwE 6 (upd F a (F b)))) := by
    have := stI_ok (i := Int32.ofNat a) (x := F b) R (ofN_nn (by omega)) (by rw [ofN_cl (by omega)]; omega)
    rwa [ofN_cl (by omega)] at this
  have t2 : stI 0 19 (Int32.ofNat b) (F a) (sup s 19 (rwE 6 (upd F a (F b)))) = some (.inl (), sup s 19 (rwE 6 (upd (upd F a (F b)) b (F a)))) := by
    have := stI_ok (i := Int32.ofNat b) (x := F a) (hasI_put (t := 0) (n := 6) (f := upd F a (F b)) R.2) (ofN_nn (by omega)) (by rw [ofN_cl (by omega)]; omega)
    rwa [ofN_cl (by omega), sup_sup] at this
  unfold mX0_exchangeTurns
  rw [onC_ok O, if_neg (ofN_nn (by omega)), bnd_ok g1, bnd_ok (lenI_ok R), if_neg (nle ha (by omega)), if_neg (ofN_nn (by omega)), bnd_ok g1, bnd_ok (lenI_ok R), if_neg (nle hb (by omega)), bnd_ok g1, bnd_ok l1, bnd_ok g1, bnd_ok g1, bnd_ok l2, bnd_ok t1, bnd_ok (g0 _), bnd_ok t2]
  rfl
theorem c_rv {n : Nat} (h6 : n ≤ 6) : ∀ (d : Nat) (s : aS) (L : List Nat) (F : Nat → Int32) (a b : Nat), hasO s 18 0 (oc (Int32.ofNat n) y) → L.length = n → a ≤ n → b ≤ a + d → b < n → OrdF F L → hasI s 19 0 6 F → ∃ F', loopM (mX0_nextOrder_L87 18) (Int32.ofNat a, Int32.ofNat b) s = some (.inl (), sup s 19 (rwE 6 F')) ∧ OrdF F' (rv d L a b) := by
  intro d
  have stop : ∀ (s : aS) (F : Nat → Int32) (a b : Nat), a ≤ n → b ≤ a → b < n → hasI s 19 0 6 F → loopM (mX0_nextOrder_L87 18) (Int32.ofNat a, Int32.ofNat b) s = some (.inl (), sup s 19 (rwE 6 F)) := fun s F a b h1 h2 h3 R => by
    rw [loopM_eq, show sup s 19 (rwE 6 F) = s from sup_same R]
    refine (bnd_ok (v := .inr ()) (s' := s) ?_).trans rfl
    unfold mX0_nextOrder_L87
    dsimp only
    rw [if_pos ((ofN_le (by omega) (by omega)).mpr h2)]
    rfl
  induction d with
  | zero =>
    intro s L F a b O hL ha hd hb hF R
    exact ⟨F, stop s F a b ha (by omega) hb R, hF⟩
  | succ d ih =>
    intro s L F a b O hL ha hd hb hF R
    show ∃ F', _ ∧ OrdF F' (if b ≤ a then L else rv d (sw L a b) (a + 1) (b - 1))
    by_cases q : b ≤ a
    · rw [if_pos q]
      exact ⟨F, stop s F a b ha q hb R, hF⟩
    rw [if_neg q]
    have R2 : hasI (sup s 19 (rwE 6 (upd (upd F a (F b)) b (F a)))) 19 0 6 (upd (upd F a (F b)) b (F a)) := hasI_put R.2
    obtain ⟨F', e1, e2⟩ := ih (sup s 19 (rwE 6 (upd (upd F a (F b)) b (F a)))) (sw L a b) _ (a + 1) (b - 1) (hasO_sup O (by decide)) (by rw [sw_len]; exact hL) (by omega) (by omega) (by omega) (hF.sw (by omega) (by omega)) R2
    refine ⟨F', ?_, e2⟩
    rw [sup_sup] at e1
    rw [loopM_eq]
    refine (bnd_ok (v := (.inl (Int32.ofNat (a + 1), Int32.ofNat (b - 1)) : (Int32 × Int32) ⊕ Unit)) (s' := sup s 19 (rwE 6 (upd (upd F a (F b)) b (F a)))) ?_).trans e1
    unfold mX0_nextOrder_L87
    dsimp only
    have eb : Int32.ofNat b + (-1) = Int32.ofNat (b - 1) := by
      rw [pd_dec]
      cases b with
      | zero => omega
      | succ b => rfl
    rw [if_neg (nle (by omega) (by omega)), bnd_ok (c_sw O R (by omega) (by omega)), ofN_succ, eb]
    rfl
theorem c_next {n : Nat} (h6 : n ≤ 6) (O : hasO s 18 0 (oc (Int32.ofNat n) y)) (hn : l.length = n) (R : hasI s 19 0 6 F) (hF : OrdF F l) (v : Lv l) : (nx l = none ∧ mX0_nextOrder 18 s = some (.inl 0, s)) ∨ (∃ l' F', nx l = some l' ∧ mX0_nextOrder 18 s = some (.inl 1, sup s 19 (rwE 6 F')) ∧ OrdF F' l') := by
  subst hn
  have g4 : gI 0 4 18 s = some (.inl (Int32.ofNat l.length), s) := gI_ok O rfl
  unfold nx
  cases hl : l.length with
  | zero =>
    refine Or.inl ⟨rfl, ?_⟩
    rw [hl] at g4
    unfold mX0_nextOrder
    rw [onC_ok O, bnd_ok g4, mret_mbnd, bnd_ok (show loopM (mX0_nextOrder_L7 18) (Int32.ofNat 0 - 2) s = some (.inl (-2), s) by
      rw [loopM_eq]
      exact (bnd_ok (show mX0_nextOrder_L7 18 (-2) s = some (.inl (.inr (-2)), s) from rfl)).trans rfl), if_neg (by decide)]
    rfl
  | succ m =>
    have h1 := c_e O R hF v h6 m (by omega)
    rw [hl] at g4
    have es : Int32.ofNat (m + 1) - 2 = pd m := by
      cases m with
      | zero => rfl
      | succ m =>
        show Int32.ofNat (m + 1 + 1) - 2 = Int32.ofNat m
        rw [← ofN_succ, ← ofN_succ]
        grind
    have es1 : Int32.ofNat (m + 1) - 1 = Int32.ofNat m := by
      rw [← ofN_succ]
      grind
    rw [Nat.add_sub_cancel]
    cases he : eOf l m with
    | none =>
      refine Or.inl ⟨rfl, ?_⟩
      rw [he] at h1
      unfold mX0_nextOrder
      rw [onC_ok O, bnd_ok g4, mret_mbnd, es, bnd_ok h1, if_neg (show ¬ (0 : Int32) ≤ -1 by decide)]
      rfl
    | some e =>
      obtain ⟨e1, e2⟩ := eOf_lt he
      rw [he] at h1
      have h2 := c_y O R hF v h6 e2 m (by omega) (by omega)
      obtain ⟨y1, y2⟩ := yOf_in e2 (y := m) (by omega)
      have h3 := c_sw O R (a := e) (b := yOf l e m) (by omega) (by omega)
      have O2 := hasO_sup (b := 19) (e := rwE 6 (upd (upd F e (F (yOf l e m))) (yOf l e m) (F e))) O (by decide)
      have R2 : hasI (sup s 19 (rwE 6 (upd (upd F e (F (yOf l e m))) (yOf l e m) (F e)))) 19 0 6 (upd (upd F e (F (yOf l e m))) (yOf l e m) (F e)) := hasI_put R.2
      obtain ⟨F', r1, r2⟩ := c_rv h6 6 _ (sw l e (yOf l e m)) _ (e + 1) m O2 (sw_len _ _ _) (by omega) (by omega) (by omega) (hF.sw (by omega) (by omega)) R2
      rw [sup_sup] at r1
      refine Or.inr ⟨_, F', rfl, ?_, r2⟩
      have g4' : gI 0 4 18 (sup s 19 (rwE 6 (upd (upd F e (F (yOf l e m))) (yOf l e m) (F e)))) = some (.inl (Int32.ofNat (m + 1)), sup s 19 (rwE 6 (upd (upd F e (F (yOf l e m))) (yOf l e m) (F e)))) := by
        rw [← hl]
        exact gI_ok O2 rfl
      unfold mX0_nextOrder
      rw [onC_ok O, bnd_ok g4, mret_mbnd, es, bnd_ok h1]
      dsimp only
      rw [if_pos (le0_ofN (by omega)), bnd_ok g4, mret_mbnd, es1, bnd_ok h2, bnd_ok h3, mret_mbnd, bnd_ok g4', mret_mbnd, es1, ofN_succ, bnd_ok r1]
      rfl
end OC
