/-! CELL: the class calls up the guilty tools, and arranges them -/
theorem ord_app {F : Nat → Int32} {l : List Nat} (h : OrdF F l) (t : Nat) : OrdF (upd F l.length (Int32.ofNat t)) (l ++ [t]) := fun i hi => by
  rw [List.length_append] at hi
  have hi' : i < l.length + 1 := hi
  unfold gt
  rw [List.getD_eq_getElem?_getD]
  show (if i = l.length then _ else _) = _
  by_cases e : i = l.length
  · subst e
    rw [if_pos rfl, List.getElem?_append_right (Nat.le_refl _), Nat.sub_self]
    rfl
  · rw [if_neg e, List.getElem?_append_left (by omega), ← List.getD_eq_getElem?_getD]
    exact h i (by omega)
theorem senS_app (W : Nat → Int32) (l : List Nat) (t : Nat) : senS W (l ++ [t]) = senS W l + sen W t := by
  unfold senS
  rw [List.map_append, List.sum_append]
  simp
/-- is the tool guilty -/
def pG (W : Nat → Int32) (t : Nat) : Bool := !decide (wans W t ≤ W 7)
theorem nox_in (x k : Int32) (s : aS) : nox (mX11_inSet x k) s = some (.inl (inSet x k), s) := by
  rw [nox_app, inSet_app]
  rfl
section CU
variable {s : aS} {f : Int32} {K : CK} {W : Nat → Int32} {LW : Option (List Ln)} {c : Nat} {y gs : Int32}
theorem c_call (S : Sm K W) (hk : kOk K) (hw : wOk K W c) (hgs : ∀ t, t < K.1 1 → (bt gs t = true ↔ pG W t = true)) : ∀ (d t : Nat) (s : aS) (F G H : Nat → Int32), d + t = K.1 1 → CL s f K LW → hasO s 18 0 (oc (Int32.ofNat (gl (pG W) t).length) y) → hasI s 19 0 6 F → hasI s 21 0 6 G → hasI s 22 0 6 H → OrdF F (gl (pG W) t) → (∀ u, u < t → G u = Int32.ofNat (sen W u)) → (∀ u, u < t → H u = W (141 + 4 * u + 3)) → ∃ s1 F' G' H', loopM (mX0_callUp_L15 18 28 gs) (Int32.ofNat (senS W (gl (pG W) t)), Int32.ofNat t) s = some (.inl (Int32.ofNat (senS W (gl (pG W) (K.1 1)))), s1) ∧ ScR K.2.2.2 s s1 ∧ hasO s1 18 0 (oc (Int32.ofNat (gl (pG W) (K.1 1)).length) y) ∧ hasI s1 19 0 6 F' ∧ hasI s1 21 0 6 G' ∧ hasI s1 22 0 6 H' ∧ OrdF F' (gl (pG W) (K.1 1)) ∧ (∀ u, u < K.1 1 → G' u = Int32.ofNat (sen W u)) ∧ (∀ u, u < K.1 1 → H' u = W (141 + 4 * u + 3)) := by
  have hb1 : K.1 1 ≤ 6 := hk 1 (by decide)
  intro d
  induction d with
  | zero =>
    intro t s F G H e C O R R1 R2 hF hG hH
    have et : t = K.1 1 := by omega
    subst et
    refine ⟨s, F, G, H, ?_, ScR.rf, O, R, R1, R2, hF, hG, hH⟩
    rw [loopM_eq]
    refine (bnd_ok (v := .inr (Int32.ofNat (senS W (gl (pG W) (K.1 1))))) (s' := s) ?_).trans rfl
    unfold mX0_callUp_L15
    dsimp only
    rw [bnd_ok (show gR 1 1 28 s = some (.inl 31, s) from gR_ok C.1.2.1 rfl), bnd_ok (CC.tabs C.1).2.1, if_pos (Int32.le_refl _)]
    rfl
  | succ d ih =>
    intro t s F G H e C O R R1 R2 hF hG hH
    have ht : t < K.1 1 := by omega
    have hl := C.2.2.2.1
    have hlen := gl_len (pG W) t
    have hs : mX1_sentence 28 (Int32.ofNat t) s = some (.inl (Int32.ofNat (sen W t)), s) := by
      rw [← (sen_le hw ht).2, ← ans_same S hk ht (hw.2.1 t ht).toolIn]
      exact sentence_run C.1.2
    have t1 : stI 0 21 (Int32.ofNat t) (Int32.ofNat (sen W t)) s = some (.inl (), sup s 21 (rwE 6 (upd G t (Int32.ofNat (sen W t))))) := by
      have := stI_ok (i := Int32.ofNat t) (x := Int32.ofNat (sen W t)) R1 (ofN_nn (by omega)) (by rw [ofN_cl (by omega)]; omega)
      rwa [ofN_cl (by omega)] at this
    have s1 : ScR K.2.2.2 s (sup s 21 (rwE 6 (upd G t (Int32.ofNat (sen W t))))) := ScR.put (b := 21) (n := 6) hl rfl
    have C1 := C.scR s1
    have R2a : hasI (sup s 21 (rwE 6 (upd G t (Int32.ofNat (sen W t))))) 22 0 6 H := hasI_sup R2 (by decide)
    have t2 : stI 0 22 (Int32.ofNat t) (W (141 + 4 * t + 3)) (sup s 21 (rwE 6 (upd G t (Int32.ofNat (sen W t))))) = some (.inl (), sup (sup s 21 (rwE 6 (upd G t (Int32.ofNat (sen W t))))) 22 (rwE 6 (upd H t (W (141 + 4 * t + 3))))) := by
      have := stI_ok (i := Int32.ofNat t) (x := W (141 + 4 * t + 3)) R2a (ofN_nn (by omega)) (by rw [ofN_cl (by omega)]; omega)
      rwa [ofN_cl (by omega)] at this
    have s2 : ScR K.2.2.2 s (sup (sup s 21 (rwE 6 (upd G t (Int32.ofNat (sen W t))))) 22 (rwE 6 (upd H t (W (141 + 4 * t + 3))))) := s1.tr (ScR.put (b := 22) (n := 6) hl rfl)
    generalize eB : sup (sup s 21 (rwE 6 (upd G t (Int32.ofNat (sen W t))))) 22 (rwE 6 (upd H t (W (141 + 4 * t + 3)))) = sB at t2 s2
    have C2 := C.scR s2
    have O2 : hasO sB 18 0 (oc (Int32.ofNat (gl (pG W) t).length) y) := by rw [← eB]; exact hasO_sup (hasO_sup O (by decide)) (by decide)
    have Ra : hasI sB 19 0 6 F := by rw [← eB]; exact hasI_sup (hasI_sup R (by decide)) (by decide)
    have Rb : hasI sB 21 0 6 (upd G t (Int32.ofNat (sen W t))) := by rw [← eB]; exact hasI_sup (hasI_put R1.2) (by decide)
    have Rc : hasI sB 22 0 6 (upd H t (W (141 + 4 * t + 3))) := by rw [← eB]; exact hasI_put R2a.2
    have hG' : ∀ u, u < t + 1 → upd G t (Int32.ofNat (sen W t)) u = Int32.ofNat (sen W u) := fun u hu => by
      show (if u = t then _ else _) = _
      by_cases q : u = t
      · rw [if_pos q, q]
      · rw [if_neg q]
        exact hG u (by omega)
    have hH' : ∀ u, u < t + 1 → upd H t (W (141 + 4 * t + 3)) u = W (141 + 4 * u + 3) := fun u hu => by
      show (if u = t then _ else _) = _
      by_cases q : u = t
      · rw [if_pos q, q]
      · rw [if_neg q]
        exact hH u (by omega)
    have g3 : mX8_get 31 (Int32.ofNat t) 3 (sup s 21 (rwE 6 (upd G t (Int32.ofNat (sen W t))))) = some (.inl (W (141 + 4 * t + 3)), sup s 21 (rwE 6 (upd G t (Int32.ofNat (sen W t))))) := by
      rw [← (Sm.cols S hk).2.2.2.2.2.2.2.2.2.2.2.2.1 t ht]
      exact (CC.tabs C1.1).2.2.2.2.2.2.2.1 _ _
    have pre : ∀ {α : Type} (k : Int32 → MM α), (mbnd (gR 0 2 18) fun (v10 : Nat) => mbnd (mX1_sentence 28 (Int32.ofNat t)) fun (v11 : Int32) => mbnd (stI 0 v10 (Int32.ofNat t) v11) fun _ => mbnd (gR 0 3 18) fun (v12 : Nat) => mbnd (gR 1 1 28) fun (v13 : Nat) => mbnd (mX8_get v13 (Int32.ofNat t) 3) fun (v14 : Int32) => mbnd (stI 0 v12 (Int32.ofNat t) v14) fun _ => mbnd (nox (mX11_inSet gs (Int32.ofNat t))) k) s = k (inSet gs (Int32.ofNat t)) sB := fun k => by
      rw [bnd_ok (show gR 0 2 18 s = some (.inl 21, s) from gR_ok O rfl), bnd_ok hs, bnd_ok t1, bnd_ok (show gR 0 3 18 _ = some (.inl 22, _) from gR_ok (hasO_sup O (by decide)) rfl), bnd_ok (show gR 1 1 28 _ = some (.inl 31, _) from gR_ok C1.1.2.1 rfl), bnd_ok g3, bnd_ok t2, bnd_ok (nox_in _ _ _)]
    have n1 : ¬ Int32.ofNat (K.1 1) ≤ Int32.ofNat t := nle ht (by omega)
    have n6 : ¬ (6 : Int32) ≤ Int32.ofNat t := nle (n := 6) (by omega) (by decide)
    by_cases q : pG W t = true
    · have hbt : ¬ inSet gs (Int32.ofNat t) = 0 := fun z => by
        rw [inSet_0 gs (by omega)] at z
        exact z ((hgs t ht).mpr q)
      have eg : gl (pG W) (t + 1) = gl (pG W) t ++ [t] := by
        show gl (pG W) t ++ (if pG W t then [t] else []) = _
        rw [if_pos q]
      have t3 : stI 0 19 (Int32.ofNat (gl (pG W) t).length) (Int32.ofNat t) sB = some (.inl (), sup sB 19 (rwE 6 (upd F (gl (pG W) t).length (Int32.ofNat t)))) := by
        have := stI_ok (i := Int32.ofNat (gl (pG W) t).length) (x := Int32.ofNat t) Ra (ofN_nn (by omega)) (by rw [ofN_cl (by omega)]; omega)
        rwa [ofN_cl (by omega)] at this
      have O3 : hasO (sup sB 19 (rwE 6 (upd F (gl (pG W) t).length (Int32.ofNat t)))) 18 0 (oc (Int32.ofNat (gl (pG W) t).length) y) := hasO_sup O2 (by decide)
      have p4 : pI 0 4 18 (Int32.ofNat (gl (pG W) t).length + 1) (sup sB 19 (rwE 6 (upd F (gl (pG W) t).length (Int32.ofNat t)))) = some (.inl (), sup (sup sB 19 (rwE 6 (upd F (gl (pG W) t).length (Int32.ofNat t)))) 18 (.inl (0, oc (Int32.ofNat (gl (pG W) (t + 1)).length) y))) := by
        rw [eg, List.length_append, ofN_succ]
        exact pF_ok O3 (show 4 < 6 by decide)
      have O4 : hasO (sup (sup sB 19 (rwE 6 (upd F (gl (pG W) t).length (Int32.ofNat t)))) 18 (.inl (0, oc (Int32.ofNat (gl (pG W) (t + 1)).length) y))) 18 0 (oc (Int32.ofNat (gl (pG W) (t + 1)).length) y) := hasO_put O3.2
      have s4 : ScR K.2.2.2 sB (sup (sup sB 19 (rwE 6 (upd F (gl (pG W) t).length (Int32.ofNat t)))) 18 (.inl (0, oc (Int32.ofNat (gl (pG W) (t + 1)).length) y))) := (ScR.put (b := 19) (n := 6) hl rfl).tr (ScR.o18 hl)
      obtain ⟨s5, F5, G5, H5, r1, r2, r3⟩ := ih (t + 1) _ (upd F (gl (pG W) t).length (Int32.ofNat t)) _ _ (by omega) (C2.scR s4) O4 (hasI_sup (hasI_put Ra.2) (by decide)) (hasI_sup (hasI_sup Rb (by decide)) (by decide)) (hasI_sup (hasI_sup Rc (by decide)) (by decide)) (by rw [eg]; exact ord_app hF t) hG' hH'
      refine ⟨s5, F5, G5, H5, ?_, s2.tr (s4.tr r2), r3⟩
      have lt : ldI 0 21 (Int32.ofNat t) (sup (sup sB 19 (rwE 6 (upd F (gl (pG W) t).length (Int32.ofNat t)))) 18 (.inl (0, oc (Int32.ofNat (gl (pG W) (t + 1)).length) y))) = some (.inl (Int32.ofNat (sen W t)), sup (sup sB 19 (rwE 6 (upd F (gl (pG W) t).length (Int32.ofNat t)))) 18 (.inl (0, oc (Int32.ofNat (gl (pG W) (t + 1)).length) y))) := by
        rw [← hG' t (Nat.lt_succ_self t)]
        have := ldI_ok (i := Int32.ofNat t) (hasI_sup (e := .inl (0, oc (Int32.ofNat (gl (pG W) (t + 1)).length) y)) (hasI_sup (e := rwE 6 (upd F (gl (pG W) t).length (Int32.ofNat t))) Rb (show 21 ≠ 19 by decide)) (show 21 ≠ 18 by decide)) (ofN_nn (by omega)) (by rw [ofN_cl (by omega)]; omega)
        rwa [ofN_cl (by omega)] at this
      have es : senS W (gl (pG W) (t + 1)) = senS W (gl (pG W) t) + sen W t := by rw [eg, senS_app]
      rw [loopM_eq]
      refine (bnd_ok (v := (.inl (Int32.ofNat (senS W (gl (pG W) (t + 1))), Int32.ofNat (t + 1)) : (Int32 × Int32) ⊕ Int32)) (s' := sup (sup sB 19 (rwE 6 (upd F (gl (pG W) t).length (Int32.ofNat t)))) 18 (.inl (0, oc (Int32.ofNat (gl (pG W) (t + 1)).length) y))) ?_).trans r1
      unfold mX0_callUp_L15
      dsimp only
      rw [bnd_ok (show gR 1 1 28 s = some (.inl 31, s) from gR_ok C.1.2.1 rfl), bnd_ok (CC.tabs C.1).2.1, if_neg n1, if_neg n6, pre, if_neg hbt]
      have g4 : ∀ s, hasO s 18 0 (oc (Int32.ofNat (gl (pG W) t).length) y) → gI 0 4 18 s = some (.inl (Int32.ofNat (gl (pG W) t).length), s) := fun s O => gI_ok O rfl
      have g0 : ∀ s, hasO s 18 0 (oc (Int32.ofNat (gl (pG W) t).length) y) → gR 0 0 18 s = some (.inl 19, s) := fun s O => gR_ok O rfl
      have nl : ¬ Int32.ofNat 6 ≤ Int32.ofNat (gl (pG W) t).length := nle (by omega) (by decide)
      have inner : (mbnd (gI 0 4 18) fun (v20 : Int32) => mbnd (gR 0 0 18) fun (v21 : Nat) => mbnd (lenI 0 v21) fun (v22 : Int32) => if v22 ≤ v20 then (mret (Int32.ofNat (senS W (gl (pG W) t)))) else (mbnd (gR 0 0 18) fun (v24 : Nat) => mbnd (gI 0 4 18) fun (v25 : Int32) => mbnd (stI 0 v24 v25 (Int32.ofNat t)) fun _ => mbnd (gI 0 4 18) fun (v26 : Int32) => mbnd (pI 0 4 18 (v26 + 1)) fun _ => mbnd (gR 0 2 18) fun (v27 : Nat) => mbnd (ldI 0 v27 (Int32.ofNat t)) fun (v28 : Int32) => mbnd (mret (Int32.ofNat (senS W (gl (pG W) t)) + v28)) fun (v29 : Int32) => (mret v29 : MM Int32))) sB = some (.inl (Int32.ofNat (senS W (gl (pG W) (t + 1)))), sup (sup sB 19 (rwE 6 (upd F (gl (pG W) t).length (Int32.ofNat t)))) 18 (.inl (0, oc (Int32.ofNat (gl (pG W) (t + 1)).length) y))) := by
        rw [bnd_ok (g4 _ O2), bnd_ok (g0 _ O2), bnd_ok (lenI_ok Ra), if_neg nl, bnd_ok (g0 _ O2), bnd_ok (g4 _ O2), bnd_ok t3, bnd_ok (g4 _ O3), bnd_ok p4, bnd_ok (show gR 0 2 18 _ = some (.inl 21, _) from gR_ok O4 rfl), bnd_ok lt, mret_mbnd, es, ofN_add]
        rfl
      rw [bnd_ok inner, ofN_succ]
      rfl
    · have hbt : inSet gs (Int32.ofNat t) = 0 := by
        rw [inSet_0 gs (by omega)]
        exact fun z => q ((hgs t ht).mp z)
      have eg : gl (pG W) (t + 1) = gl (pG W) t := by
        show gl (pG W) t ++ (if pG W t then [t] else []) = _
        rw [if_neg q, List.append_nil]
      obtain ⟨s5, F5, G5, H5, r1, r2, r3⟩ := ih (t + 1) sB F _ _ (by omega) C2 (by rw [eg]; exact O2) Ra Rb Rc (by rw [eg]; exact hF) hG' hH'
      refine ⟨s5, F5, G5, H5, ?_, s2.tr r2, r3⟩
      rw [loopM_eq]
      refine (bnd_ok (v := (.inl (Int32.ofNat (senS W (gl (pG W) (t + 1))), Int32.ofNat (t + 1)) : (Int32 × Int32) ⊕ Int32)) (s' := sB) ?_).trans r1
      unfold mX0_callUp_L15
      dsimp only
      rw [bnd_ok (show gR 1 1 28 s = some (.inl 31, s) from gR_ok C.1.2.1 rfl), bnd_ok (CC.tabs C.1).2.1, if_neg n1, if_neg n6, pre, if_pos hbt, eg, mret_mbnd, ofN_succ]
      rfl
end CU
