/-! LAUNDERING, the class: its rows of ways -/
/-- sort k's ways stand in the laundry's rows -/
def WS (s : aS) (v : Nat → Nat → Int32) (k : Nat) (L : List Nat) : Prop :=
  (∃ g, hasI s (10 + k) 0 17 g ∧ ∀ i (h : i < L.length), g i = v k L[i]) ∧ (∃ g, hasI s (14 + k) 0 17 g ∧ ∀ i (h : i < L.length), g i = cb L[i]) ∧ ∃ w, hasI s 17 0 3 w ∧ w k = Int32.ofNat L.length
theorem lau_st {l : Nat} {s : aS} (S : ScOk l s) : (∀ (α : Type) (m : MM α), onC 3 8 m s = m s) ∧ gR 3 0 8 s = some (.inl 9, s) ∧ gR 3 1 8 s = some (.inl 13, s) ∧ gR 3 2 8 s = some (.inl 17, s) ∧ (∀ k, k < 3 → ldR 2 9 (Int32.ofNat k) s = some (.inl (10 + k), s)) ∧ (∀ k, k < 3 → ldR 2 13 (Int32.ofNat k) s = some (.inl (14 + k), s)) ∧ lenQ 2 9 s = some (.inl (Int32.ofNat 3), s) ∧ lenQ 2 13 s = some (.inl (Int32.ofNat 3), s) := by
  obtain ⟨-, ⟨x, y, h8⟩, ⟨h9, h13, h22⟩, -, -⟩ := S
  have q9 : ∀ k, k < 3 → ldQ 2 9 (Int32.ofNat k) s = some (.inl (some (10 + k)), s) := fun k hk => by
    unfold ldQ
    rw [h9]
    show (if 2 = 2 ∧ 9 < s.2.1 then (if Int32.ofNat k < 0 ∨ 3 ≤ (Int32.ofNat k).toNatClampNeg then none else some (Sum.inl (if (Int32.ofNat k).toNatClampNeg < 3 then some (10 + (Int32.ofNat k).toNatClampNeg) else none), s)) else none) = _
    rw [if_pos ⟨rfl, by omega⟩, ofN_cl (by omega), if_neg (fun q => q.elim (ofN_nn (by omega)) (fun q => absurd q (by omega))), if_pos hk]
  have q13 : ∀ k, k < 3 → ldQ 2 13 (Int32.ofNat k) s = some (.inl (some (14 + k)), s) := fun k hk => by
    unfold ldQ
    rw [h13]
    show (if 2 = 2 ∧ 13 < s.2.1 then (if Int32.ofNat k < 0 ∨ 3 ≤ (Int32.ofNat k).toNatClampNeg then none else some (Sum.inl (if (Int32.ofNat k).toNatClampNeg < 3 then some (14 + (Int32.ofNat k).toNatClampNeg) else none), s)) else none) = _
    rw [if_pos ⟨rfl, by omega⟩, ofN_cl (by omega), if_neg (fun q => q.elim (ofN_nn (by omega)) (fun q => absurd q (by omega))), if_pos hk]
  refine ⟨fun _ _ => onC_ok h8, gR_ok h8 rfl, gR_ok h8 rfl, gR_ok h8 rfl, fun k hk => ?_, fun k hk => ?_, ?_, ?_⟩
  · unfold ldR
    rw [bnd_ok (q9 k hk)]
    rfl
  · unfold ldR
    rw [bnd_ok (q13 k hk)]
    rfl
  · unfold lenQ
    rw [h9]
    exact if_pos ⟨rfl, by omega⟩
  · unfold lenQ
    rw [h13]
    exact if_pos ⟨rfl, by omega⟩
section AW
variable {s : aS} {l : Nat} {v : Nat → Nat → Int32}
theorem scN_a {k : Nat} (hk : k < 3) : scN l (10 + k) = some 17 := by
  have : k = 0 ∨ k = 1 ∨ k = 2 := by omega
  rcases this with rfl | rfl | rfl <;> rfl
theorem scN_b {k : Nat} (hk : k < 3) : scN l (14 + k) = some 17 := by
  have : k = 0 ∨ k = 1 ∨ k = 2 := by omega
  rcases this with rfl | rfl | rfl <;> rfl
theorem get_app {α : Type} {L : List α} {x : α} {i : Nat} (h : i < (L ++ [x]).length) : (L ++ [x])[i] = if h2 : i < L.length then L[i] else x := by
  rw [List.getElem_append]
  split
  · rfl
  · simp
theorem addWay_run (S : ScOk l s) (hl : lOk l) {k : Nat} (hk : k < 3) {L : List Nat} (H : WS s v k L) (hL : L.length < 17) (o : Nat) : ∃ s1, mX3_addWay 8 (Int32.ofNat k) (v k o) (cb o) s = some (.inl (), s1) ∧ ScR l s s1 ∧ WS s1 v k (L ++ [o]) ∧ ∀ j, j < 3 → j ≠ k → ∀ L', WS s v j L' → WS s1 v j L' := by
  obtain ⟨⟨gA, a1, a2⟩, ⟨gB, b1, b2⟩, w, w1, w2⟩ := H
  have k3 : ¬ (3 : Int32) ≤ Int32.ofNat k := nle (n := 3) hk (by decide)
  have k0 : ¬ Int32.ofNat k < 0 := ofN_nn (by omega)
  have n0 : ¬ Int32.ofNat L.length < 0 := ofN_nn (by omega)
  have hcl : (Int32.ofNat L.length).toNatClampNeg = L.length := ofN_cl (by omega)
  have kcl : (Int32.ofNat k).toNatClampNeg = k := ofN_cl (by omega)
  have nl : ¬ Int32.ofNat 17 ≤ Int32.ofNat L.length := nle hL (by decide)
  -- the three states
  have A1 := S.put (g := upd gA L.length (v k o)) hl (scN_a (l := l) hk)
  have c1 := ScR.put (s := s) (g := upd gA L.length (v k o)) hl (scN_a (l := l) hk)
  have B1 : hasI (sup s (10 + k) (rwE 17 (upd gA L.length (v k o)))) (14 + k) 0 17 gB := hasI_sup b1 (by omega)
  have W1 : hasI (sup s (10 + k) (rwE 17 (upd gA L.length (v k o)))) 17 0 3 w := hasI_sup w1 (by omega)
  have A2 := A1.put (g := upd gB L.length (cb o)) hl (scN_b (l := l) hk)
  have c2 := ScR.put (s := sup s (10 + k) (rwE 17 (upd gA L.length (v k o)))) (g := upd gB L.length (cb o)) hl (scN_b (l := l) hk)
  have W2 : hasI (sup (sup s (10 + k) (rwE 17 (upd gA L.length (v k o)))) (14 + k) (rwE 17 (upd gB L.length (cb o)))) 17 0 3 w := hasI_sup W1 (by omega)
  have c3 := ScR.put (s := sup (sup s (10 + k) (rwE 17 (upd gA L.length (v k o)))) (14 + k) (rwE 17 (upd gB L.length (cb o)))) (g := upd w k (Int32.ofNat (L.length + 1))) hl (show scN l 17 = some 3 from rfl)
  have ldw : ∀ {s' : aS}, hasI s' 17 0 3 w → ldI 0 17 (Int32.ofNat k) s' = some (.inl (Int32.ofNat L.length), s') := fun h => by
    rw [ldI_ok h k0 (by rw [kcl]; exact hk), kcl, w2]
  have stA : stI 0 (10 + k) (Int32.ofNat L.length) (v k o) s = some (.inl (), sup s (10 + k) (rwE 17 (upd gA L.length (v k o)))) := by
    rw [stI_ok a1 n0 (by rw [hcl]; exact hL), hcl]
  have stB : stI 0 (14 + k) (Int32.ofNat L.length) (cb o) (sup s (10 + k) (rwE 17 (upd gA L.length (v k o)))) = some (.inl (), sup (sup s (10 + k) (rwE 17 (upd gA L.length (v k o)))) (14 + k) (rwE 17 (upd gB L.length (cb o)))) := by
    rw [stI_ok B1 n0 (by rw [hcl]; exact hL), hcl]
  have stW : stI 0 17 (Int32.ofNat k) (Int32.ofNat (L.length + 1)) (sup (sup s (10 + k) (rwE 17 (upd gA L.length (v k o)))) (14 + k) (rwE 17 (upd gB L.length (cb o)))) = some (.inl (), sup (sup (sup s (10 + k) (rwE 17 (upd gA L.length (v k o)))) (14 + k) (rwE 17 (upd gB L.length (cb o)))) 17 (rwE 3 (upd w k (Int32.ofNat (L.length + 1))))) := by
    rw [stI_ok W2 k0 (by rw [kcl]; exact hk), kcl]
  refine ⟨_, ?_, c1.tr (c2.tr c3), ?_, ?_⟩
  · unfold mX3_addWay
    simp only [lau_st S, lau_st A1, lau_st A2, if_neg k0, if_neg k3, mbnd_app, kx_in, ldw w1, ldw W1, ldw W2, hk, lenI_ok a1, lenI_ok b1, if_neg nl, stA, stB, ofN_succ, stW, mret_app]
  · refine ⟨⟨upd gA L.length (v k o), hasI_sup (hasI_sup (hasI_put a1.2) (by omega)) (by omega), fun i hi => ?_⟩, ⟨upd gB L.length (cb o), hasI_sup (hasI_put B1.2) (by omega), fun i hi => ?_⟩, upd w k (Int32.ofNat (L.length + 1)), hasI_put W2.2, ?_⟩
    · rw [get_app hi]
      show (if i = L.length then v k o else gA i) = _
      have hi2 : i < L.length + 1 := by simpa using hi
      by_cases q : i < L.length
      · rw [dif_pos q, if_neg (by omega), a2 i q]
      · rw [dif_neg q, if_pos (by omega)]
    · rw [get_app hi]
      show (if i = L.length then cb o else gB i) = _
      have hi2 : i < L.length + 1 := by simpa using hi
      by_cases q : i < L.length
      · rw [dif_pos q, if_neg (by omega), b2 i q]
      · rw [dif_neg q, if_pos (by omega)]
    · show (if k = k then _ else _) = _
      rw [if_pos rfl]
      simp
  · rintro j hj hjk L' ⟨⟨gA', p1, p2⟩, ⟨gB', q1, q2⟩, w', r1, r2⟩
    have hw' : w' = w := by
      have := r1.1.symm.trans w1.1
      injection this with e
      injection e with e
      injection e with e1 e
      injection e with e2 e3
    subst hw'
    refine ⟨⟨gA', hasI_sup (hasI_sup (hasI_sup p1 (by omega)) (by omega)) (by omega), p2⟩, ⟨gB', hasI_sup (hasI_sup (hasI_sup q1 (by omega)) (by omega)) (by omega), q2⟩, upd w' k (Int32.ofNat (L.length + 1)), hasI_put W2.2, ?_⟩
    show (if j = k then _ else w' j) = _
    rw [if_neg hjk, r2]
end AW
