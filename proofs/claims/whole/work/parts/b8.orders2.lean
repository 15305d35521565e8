/-! CELL: the reference's nextOrder -/
section OM
variable {s : aS} {F : Nat → Int32} {l : List Nat} {M : MK}
theorem m_e (O : hasO s 66 11 (mF 66 M)) (R : hasI s 77 0 6 F) (hF : OrdF F l) (v : Lv l) (h6 : l.length ≤ 6) : ∀ x, x < l.length → loopM (mX12_nextOrder_L4 66) (pd x) s = some (.inl (match eOf l x with | none => -1 | some e => Int32.ofNat e), s)
  | 0, _ => by
    rw [loopM_eq]
    exact (bnd_ok (show mX12_nextOrder_L4 66 (-1) s = some (.inl (.inr (-1)), s) from rfl)).trans rfl
  | x + 1, h => by
    have g0 : gR 11 25 66 s = some (.inl 77, s) := gR_ok O rfl
    have l1 : ldI 0 77 (Int32.ofNat x) s = some (.inl (F x), s) := by
      have := ldI_ok (i := Int32.ofNat x) R (ofN_nn (by omega)) (by rw [ofN_cl (by omega)]; omega)
      rwa [ofN_cl (by omega)] at this
    have l2 : ldI 0 77 (Int32.ofNat (x + 1)) s = some (.inl (F (x + 1)), s) := by
      have := ldI_ok (i := Int32.ofNat (x + 1)) R (ofN_nn (by omega)) (by rw [ofN_cl (by omega)]; omega)
      rwa [ofN_cl (by omega)] at this
    have body : mX12_nextOrder_L4 66 (Int32.ofNat x) s = some (.inl (if gt l x ≤ gt l (x + 1) then .inr (Int32.ofNat x) else .inl (pd x)), s) := by
      unfold mX12_nextOrder_L4
      rw [if_neg (ofN_nn (by omega)), bnd_ok g0, bnd_ok l1, bnd_ok g0, ofN_succ, bnd_ok l2]
      by_cases q : gt l x ≤ gt l (x + 1)
      · rw [if_pos (by rw [ord_le hF v (by omega) (by omega)]; exact q), if_pos q]
        rfl
      · rw [if_neg (by rw [ord_le hF v (by omega) (by omega)]; exact q), if_neg q, pd_dec]
        rfl
    rw [show pd (x + 1) = Int32.ofNat x from rfl, loopM_eq, show eOf l (x + 1) = (if gt l x ≤ gt l (x + 1) then some x else eOf l x) from rfl]
    refine (bnd_ok body).trans ?_
    by_cases q : gt l x ≤ gt l (x + 1)
    · rw [if_pos q, if_pos q]
      rfl
    · rw [if_neg q, if_neg q]
      exact m_e O R hF v h6 x (by omega)
theorem m_y (O : hasO s 66 11 (mF 66 M)) (R : hasI s 77 0 6 F) (hF : OrdF F l) (v : Lv l) (h6 : l.length ≤ 6) {e : Nat} (he : gt l e ≤ gt l (e + 1)) : ∀ x, x < l.length → e + 1 ≤ x → loopM (mX12_nextOrder_L41 66 (Int32.ofNat e)) (Int32.ofNat x) s = some (.inl (Int32.ofNat (yOf l e x)), s)
  | 0, _, h => absurd h (Nat.not_succ_le_zero _)
  | x + 1, h, hx => by
    have g0 : gR 11 25 66 s = some (.inl 77, s) := gR_ok O rfl
    have l1 : ldI 0 77 (Int32.ofNat e) s = some (.inl (F e), s) := by
      have := ldI_ok (i := Int32.ofNat e) R (ofN_nn (by omega)) (by rw [ofN_cl (by omega)]; omega)
      rwa [ofN_cl (by omega)] at this
    have l2 : ldI 0 77 (Int32.ofNat (x + 1)) s = some (.inl (F (x + 1)), s) := by
      have := ldI_ok (i := Int32.ofNat (x + 1)) R (ofN_nn (by omega)) (by rw [ofN_cl (by omega)]; omega)
      rwa [ofN_cl (by omega)] at this
    have body : mX12_nextOrder_L41 66 (Int32.ofNat e) (Int32.ofNat (x + 1)) s = some (.inl (if gt l e ≤ gt l (x + 1) then .inr (Int32.ofNat (x + 1)) else .inl (Int32.ofNat x)), s) := by
      unfold mX12_nextOrder_L41
      rw [bnd_ok g0, bnd_ok l2, bnd_ok g0, bnd_ok l1]
      by_cases q : gt l e ≤ gt l (x + 1)
      · rw [if_pos (by rw [ord_le hF v (by omega) (by omega)]; exact q), if_pos q]
        rfl
      · rw [if_neg (by rw [ord_le hF v (by omega) (by omega)]; exact q), if_neg q, pd_dec]
        rfl
    rw [loopM_eq, show yOf l e (x + 1) = (if gt l e ≤ gt l (x + 1) then x + 1 else yOf l e x) from rfl]
    refine (bnd_ok body).trans ?_
    by_cases q : gt l e ≤ gt l (x + 1)
    · rw [if_pos q, if_pos q]
      rfl
    · rw [if_neg q, if_neg q]
      have : e + 1 ≤ x := by
        rcases Nat.lt_or_ge e x with z | z
        · exact z
        · have : e = x := by omega
          subst this
          exact absurd he q
      exact m_y O R hF v h6 he x (by omega) this
theorem m_sw (O : hasO s 66 11 (mF 66 M)) (R : hasI s 77 0 6 F) {a b : Nat} (ha : a < 6) (hb : b < 6) : mX12_trades 66 (Int32.ofNat a) (Int32.ofNat b) s = some (.inl (), sup s 77 (rwE 6 (upd (upd F a (F b)) b (F a)))) := by
  have g0 : ∀ e, gR 11 25 66 (sup s 77 e) = some (.inl 77, sup s 77 e) := fun e => gR_ok (hasO_sup O (by decide)) rfl
  have g1 : gR 11 25 66 s = some (.inl 77, s) := gR_ok O rfl
  have l1 : ldI 0 77 (Int32.ofNat a) s = some (.inl (F a), s) := by
    have := ldI_ok (i := Int32.ofNat a) R (ofN_nn (by omega)) (by rw [ofN_cl (by omega)]; omega)
    rwa [ofN_cl (by omega)] at this
  have l2 : ldI 0 77 (Int32.ofNat b) s = some (.inl (F b), s) := by
    have := ldI_ok (i := Int32.ofNat b) R (ofN_nn (by omega)) (by rw [ofN_cl (by omega)]; omega)
    rwa [ofN_cl (by omega)] at this
  have t1 : stI 0 77 (Int32.ofNat a) (F b) s = some (.inl (), sup s 77 (rwE 6 (upd F a (F b)))) := by
    have := stI_ok (i := Int32.ofNat a) (x := F b) R (ofN_nn (by omega)) (by rw [ofN_cl (by omega)]; omega)
    rwa [ofN_cl (by omega)] at this
  have t2 : stI 0 77 (Int32.ofNat b) (F a) (sup s 77 (rwE 6 (upd F a (F b)))) = some (.inl (), sup s 77 (rwE 6 (upd (upd F a (F b)) b (F a)))) := by
    have := stI_ok (i := Int32.ofNat b) (x := F a) (hasI_put (t := 0) (n := 6) (f := upd F a (F b)) R.2) (ofN_nn (by omega)) (by rw [ofN_cl (by omega)]; omega)
    rwa [ofN_cl (by omega), sup_sup] at this
  unfold mX12_trades
  rw [onC_ok O, bnd_ok g1, bnd_ok l1, bnd_ok g1, bnd_ok g1, bnd_ok l2, bnd_ok t1, bnd_ok (g0 _), bnd_ok t2]
  rfl
theorem m_rv {n : Nat} (h6 : n ≤ 6) : ∀ (d : Nat) (s : aS) (L : List Nat) (F : Nat → Int32) (a b : Nat), hasO s 66 11 (mF 66 M) → L.length = n → a ≤ n → b ≤ a + d → b < n → OrdF F L → hasI s 77 0 6 F → ∃ F', loopM (mX12_nextOrder_L78 66) (Int32.ofNat a, Int32.ofNat b) s = some (.inl (), sup s 77 (rwE 6 F')) ∧ OrdF F' (rv d L a b) := by
  intro d
  have stop : ∀ (s : aS) (F : Nat → Int32) (a b : Nat), a ≤ n → b ≤ a → b < n → hasI s 77 0 6 F → loopM (mX12_nextOrder_L78 66) (Int32.ofNat a, Int32.ofNat b) s = some (.inl (), sup s 77 (rwE 6 F)) := fun s F a b h1 h2 h3 R => by
    rw [loopM_eq, show sup s 77 (rwE 6 F) = s from sup_same R]
    refine (bnd_ok (v := .inr ()) (s' := s) ?_).trans rfl
    unfold mX12_nextOrder_L78
    dsimp only
    rw [if_pos ((ofN_le (by omega) (by omega)).mpr h2)]
    rfl
  induction d with
  | zero =>
    intro s L F a b O hL ha hd hb hF R
    exact ⟨F, stop s F a b ha (by omega) hb R, hF⟩
  | succ d ih =>
    intro s L F a b O hL ha hd hb hF R
    show ∃ F', _ ∧ OrdF F' (if b ≤ a then L else rv d (sw L a b) (a + 1) (b - 1))
    by_cases q : b ≤ a
    · rw [if_pos q]
      exact ⟨F, stop s F a b ha q hb R, hF⟩
    rw [if_neg q]
    have R2 : hasI (sup s 77 (rwE 6 (upd (upd F a (F b)) b (F a)))) 77 0 6 (upd (upd F a (F b)) b (F a)) := hasI_put R.2
    obtain ⟨F', e1, e2⟩ := ih (sup s 77 (rwE 6 (upd (upd F a (F b)) b (F a)))) (sw L a b) _ (a + 1) (b - 1) (hasO_sup O (by decide)) (by rw [sw_len]; exact hL) (by omega) (by omega) (by omega) (hF.sw (by omega) (by omega)) R2
    refine ⟨F', ?_, e2⟩
    rw [sup_sup] at e1
    rw [loopM_eq]
    refine (bnd_ok (v := (.inl (Int32.ofNat (a + 1), Int32.ofNat (b - 1)) : (Int32 × Int32) ⊕ Unit)) (s' := sup s 77 (rwE 6 (upd (upd F a (F b)) b (F a)))) ?_).trans e1
    unfold mX12_nextOrder_L78
    dsimp only
    have eb : Int32.ofNat b + (-1) = Int32.ofNat (b - 1) := by
      rw [pd_dec]
      cases b with
      | zero => omega
      | succ b => rfl
    rw [if_neg (nle (by omega) (by omega)), bnd_ok (m_sw O R (by omega) (by omega)), ofN_succ, eb]
    rfl
theorem m_next {n : Nat} (h6 : n ≤ 6) (O : hasO s 66 11 (mF 66 M)) (hn : l.length = n) (R : hasI s 77 0 6 F) (hF : OrdF F l) (v : Lv l) : (nx l = none ∧ mX12_nextOrder 66 (Int32.ofNat n) s = some (.inl 0, s)) ∨ (∃ l' F', nx l = some l' ∧ mX12_nextOrder 66 (Int32.ofNat n) s = some (.inl 1, sup s 77 (rwE 6 F')) ∧ OrdF F' l') := by
  subst hn
  unfold nx
  cases hl : l.length with
  | zero =>
    refine Or.inl ⟨rfl, ?_⟩
    unfold mX12_nextOrder
    rw [onC_ok O, mret_mbnd, bnd_ok (show loopM (mX12_nextOrder_L4 66) (Int32.ofNat 0 - 2) s = some (.inl (-2), s) by
      rw [loopM_eq]
      exact (bnd_ok (show mX12_nextOrder_L4 66 (-2) s = some (.inl (.inr (-2)), s) from rfl)).trans rfl), if_neg (by decide)]
    rfl
  | succ m =>
    have h1 := m_e O R hF v h6 m (by omega)
    have es : Int32.ofNat (m + 1) - 2 = pd m := by
      cases m with
      | zero => rfl
      | succ m =>
        show Int32.ofNat (m + 1 + 1) - 2 = Int32.ofNat m
        rw [← ofN_succ, ← ofN_succ]
        grind
    have es1 : Int32.ofNat (m + 1) - 1 = Int32.ofNat m := by
      rw [← ofN_succ]
      grind
    rw [Nat.add_sub_cancel]
    cases he : eOf l m with
    | none =>
      refine Or.inl ⟨rfl, ?_⟩
      rw [he] at h1
      unfold mX12_nextOrder
      rw [onC_ok O, mret_mbnd, es, bnd_ok h1, if_neg (show ¬ (0 : Int32) ≤ -1 by decide)]
      rfl
    | some e =>
      obtain ⟨e1, e2⟩ := eOf_lt he
      rw [he] at h1
      have h2 := m_y O R hF v h6 e2 m (by omega) (by omega)
      obtain ⟨y1, y2⟩ := yOf_in e2 (y := m) (by omega)
      have h3 := m_sw O R (a := e) (b := yOf l e m) (by omega) (by omega)
      have O2 := hasO_sup (b := 77) (e := rwE 6 (upd (upd F e (F (yOf l e m))) (yOf l e m) (F e))) O (by decide)
      have R2 : hasI (sup s 77 (rwE 6 (upd (upd F e (F (yOf l e m))) (yOf l e m) (F e)))) 77 0 6 (upd (upd F e (F (yOf l e m))) (yOf l e m) (F e)) := hasI_put R.2
      obtain ⟨F', r1, r2⟩ := m_rv h6 6 _ (sw l e (yOf l e m)) _ (e + 1) m O2 (sw_len _ _ _) (by omega) (by omega) (by omega) (hF.sw (by omega) (by omega)) R2
      rw [sup_sup] at r1
      refine Or.inr ⟨_, F', rfl, ?_, r2⟩
      unfold mX12_nextOrder
      rw [onC_ok O, mret_mbnd, es, bnd_ok h1]
      dsimp only
      rw [if_pos (le0_ofN (by omega)), mret_mbnd, es1, bnd_ok h2, bnd_ok h3, mret_mbnd, mret_mbnd, ofN_succ, bnd_ok r1]
      rfl
end OM
