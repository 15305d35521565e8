/-! LAUNDERING, the class: all ways are looked at in their order -/
abbrev o8 (st : St2) : AE := .inl (3, [.ref 9, .ref 13, .ref 17, .int st.1, .int st.2])
theorem wLst_cons {can : Nat → Bool} : ∀ n, ∃ r, wLst can n = 0 :: r ∧ ∀ x, x ∈ r → x ≠ 0
  | 0 => ⟨[], rfl, fun x h => nomatch h⟩
  | n + 1 => by
    obtain ⟨r, h1, h2⟩ := wLst_cons (can := can) n
    refine ⟨r ++ (if can n = true then [n + 1] else []), ?_, fun x hx => ?_⟩
    · show wLst can n ++ _ = _
      rw [h1]
      rfl
    · rcases List.mem_append.mp hx with h | h
      · exact h2 x h
      · split at h
        · have := List.mem_singleton.mp h
          omega
        · exact nomatch h
theorem wLst_cs {can : Nat → Bool} {n i : Nat} (hn : n ≤ 1000) (h : i < (wLst can n).length) : imin 1 (Int32.ofNat i) = Int32.ofNat (cs (wLst can n)[i]) := by
  have hlen := wLst_len (can := can) n
  obtain ⟨r, h1, h2⟩ := wLst_cons (can := can) n
  have key : ∀ (L : List Nat) (hL : L = 0 :: r) (h : i < L.length), L[i] = 0 ↔ i = 0 := by
    rintro L rfl h
    cases i with
    | zero => exact ⟨fun _ => rfl, fun _ => rfl⟩
    | succ i =>
      have hm : (0 :: r)[i + 1] ∈ r := by
        rw [List.getElem_cons_succ]
        exact List.getElem_mem _
      exact ⟨fun q => absurd q (h2 _ hm), fun q => absurd q (by omega)⟩
  have hk := key _ h1 h
  unfold cs
  rw [show (1 : Int32) = Int32.ofNat 1 from rfl, imin_of (by decide) (by omega)]
  congr 1
  by_cases q : i = 0
  · rw [if_pos (hk.mpr q), q]
    rfl
  · rw [if_neg (fun z => q (hk.mp z)), Nat.min_eq_left (by omega)]
section LK
variable {s : aS} {f : Int32} {K : CK} {W : Nat → Int32} {LW : Option (List Ln)} {c t : Nat} {hr sh : Int32} {v : Nat → Nat → Int32}
theorem wayA {l k : Nat} {L : List Nat} (S : ScOk l s) (h3 : k < 3) (H : WS s v k L) (hL : L.length ≤ 17) {i : Nat} (h : i < L.length) : mX3_wayOf 9 (Int32.ofNat k) (Int32.ofNat i) s = some (.inl (v k L[i]), s) := by
  obtain ⟨⟨g, a1, a2⟩, -, -⟩ := H
  have hi : ldI 0 (10 + k) (Int32.ofNat i) s = some (.inl (v k L[i]), s) := by
    rw [ldI_ok a1 (ofN_nn (by omega)) (by rw [ofN_cl (by omega)]; omega), ofN_cl (by omega), a2 i h]
  unfold mX3_wayOf
  simp only [mbnd_app, kx_in, mite_app, if_neg (ofN_nn (n := k) (by omega)), lau_st S, if_neg (nle (n := 3) h3 (by decide)), if_neg (ofN_nn (n := i) (by omega)), h3, lenI_ok a1, if_neg (nle (n := 17) (j := i) (by omega) (by decide)), mret_app, one_ne0, if_false, hi]
theorem wayB {l k : Nat} {L : List Nat} (S : ScOk l s) (h3 : k < 3) (H : WS s v k L) (hL : L.length ≤ 17) {i : Nat} (h : i < L.length) : mX3_wayOf 13 (Int32.ofNat k) (Int32.ofNat i) s = some (.inl (cb L[i]), s) := by
  obtain ⟨-, ⟨g, a1, a2⟩, -⟩ := H
  have hi : ldI 0 (14 + k) (Int32.ofNat i) s = some (.inl (cb L[i]), s) := by
    rw [ldI_ok a1 (ofN_nn (by omega)) (by rw [ofN_cl (by omega)]; omega), ofN_cl (by omega), a2 i h]
  unfold mX3_wayOf
  simp only [mbnd_app, kx_in, mite_app, if_neg (ofN_nn (n := k) (by omega)), lau_st S, if_neg (nle (n := 3) h3 (by decide)), if_neg (ofN_nn (n := i) (by omega)), h3, lenI_ok a1, if_neg (nle (n := 17) (j := i) (by omega) (by decide)), mret_app, one_ne0, if_false, hi]
theorem pI8 {st : St2} (h : ∃ x y, hasO s 8 3 [.ref 9, .ref 13, .ref 17, .int x, .int y]) (x : Int32) : pI 3 3 8 x (sup s 8 (o8 st)) = some (.inl (), sup s 8 (o8 (x, st.2))) ∧ pI 3 4 8 x (sup s 8 (o8 st)) = some (.inl (), sup s 8 (o8 (st.1, x))) ∧ gI 3 3 8 (sup s 8 (o8 st)) = some (.inl st.1, sup s 8 (o8 st)) ∧ gI 3 4 8 (sup s 8 (o8 st)) = some (.inl st.2, sup s 8 (o8 st)) := by
  obtain ⟨x0, y0, h⟩ := h
  have h8 : hasO (sup s 8 (o8 st)) 8 3 [.ref 9, .ref 13, .ref 17, .int st.1, .int st.2] := hasO_put h.2
  refine ⟨?_, ?_, gI_ok h8 rfl, gI_ok h8 rfl⟩
  · refine (show pI 3 3 8 x _ = _ from pF_ok h8 (Nat.le_of_ble_eq_true rfl)).trans ?_
    rw [sup_sup]
    rfl
  · refine (show pI 3 4 8 x _ = _ from pF_ok h8 (Nat.le_of_ble_eq_true rfl)).trans ?_
    rw [sup_sup]
    rfl
/-- a row of ways looked through -/
theorem idx_loop {L : List Nat} {g : St2 → Nat → St2} {b : Int32 → MM (Int32 ⊕ Unit)} (hs : ∀ i (h : i < L.length) st, b (Int32.ofNat i) (sup s 8 (o8 st)) = some (.inl (.inl (Int32.ofNat i + 1)), sup s 8 (o8 (g st L[i])))) (he : ∀ st, b (Int32.ofNat L.length) (sup s 8 (o8 st)) = some (.inl (.inr ()), sup s 8 (o8 st))) : ∀ st, loopM b 0 (sup s 8 (o8 st)) = some (.inl (), sup s 8 (o8 (L.foldl g st))) := by
  have key : ∀ (R : List Nat) (i : Nat) (st : St2), i ≤ L.length → L.drop i = R → loopM b (Int32.ofNat i) (sup s 8 (o8 st)) = some (.inl (), sup s 8 (o8 (R.foldl g st))) := by
    intro R
    induction R with
    | nil =>
      intro i st hi hd
      have : L.length ≤ i := List.drop_eq_nil_iff.mp hd
      have e : i = L.length := by omega
      subst e
      rw [loopM_eq]
      exact (bnd_ok (he st)).trans rfl
    | cons r R ih =>
      intro i st hi hd
      have hlt : i < L.length := by
        rcases Nat.lt_or_ge i L.length with q | q
        · exact q
        · rw [List.drop_eq_nil_iff.mpr q] at hd
          cases hd
      have hc := List.drop_eq_getElem_cons hlt
      rw [hd] at hc
      injection hc with h1 h2
      rw [loopM_eq]
      refine (bnd_ok (hs i hlt st)).trans ?_
      rw [← h1, ofN_succ]
      exact ih (i + 1) (g st r) (by omega) h2.symm
  exact fun st => key L 0 st (Nat.zero_le _) rfl
end LK
