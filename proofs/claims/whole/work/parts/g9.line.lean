/-! A LAW'S LINE on both sides -/
def codeL : List Ln → List Nat
  | [] => []
  | x :: r => x.1 :: x.2.1 :: x.2.2.length :: (x.2.2.map encI ++ codeL r)
def itemsL : List Ln → List It
  | [] => []
  | x :: r => x.2.2 ++ itemsL r
theorem codeL_snoc (x : Ln) : ∀ L : List Ln, codeL (L ++ [x]) = codeL L ++ (x.1 :: x.2.1 :: x.2.2.length :: x.2.2.map encI)
  | [] => by
    show x.1 :: x.2.1 :: x.2.2.length :: (x.2.2.map encI ++ []) = _
    rw [List.append_nil]
    rfl
  | y :: r => by
    show y.1 :: y.2.1 :: y.2.2.length :: (y.2.2.map encI ++ codeL (r ++ [x])) = y.1 :: y.2.1 :: y.2.2.length :: (y.2.2.map encI ++ codeL r) ++ _
    rw [codeL_snoc x r, List.cons_append, List.cons_append, List.cons_append, List.append_assoc]
theorem itemsL_snoc (x : Ln) : ∀ L : List Ln, itemsL (L ++ [x]) = itemsL L ++ x.2.2
  | [] => List.append_nil _
  | y :: r => by
    show y.2.2 ++ itemsL (r ++ [x]) = y.2.2 ++ itemsL r ++ _
    rw [itemsL_snoc x r, List.append_assoc]
theorem itemsL_len : ∀ L : List Ln, (itemsL L).length = psize L
  | [] => rfl
  | y :: r => by
    show (y.2.2 ++ itemsL r).length = y.2.2.length + psize r
    rw [List.length_append, itemsL_len r]
theorem codeL_len : ∀ L : List Ln, (codeL L).length = lsize L
  | [] => rfl
  | y :: r => by
    show (y.2.2.map encI ++ codeL r).length + 1 + 1 + 1 = 3 + y.2.2.length + lsize r
    rw [List.length_append, List.length_map, codeL_len r]
    omega
theorem lsize_ps : ∀ L : List Ln, lsize L = 3 * L.length + psize L
  | [] => rfl
  | y :: r => by
    show 3 + y.2.2.length + lsize r = 3 * (r.length + 1) + (y.2.2.length + psize r)
    rw [lsize_ps r]
    omega
def Hd (W : Nat → Int32) (L : List Ln) : Prop := ∀ j x, L[j]? = some x → W (1921 + 4 * j) = Int32.ofNat x.1 ∧ W (1921 + 4 * j + 1) = Int32.ofNat x.2.1 ∧ W (1921 + 4 * j + 2) = Int32.ofNat (psize (L.take j)) ∧ W (1921 + 4 * j + 3) = Int32.ofNat (psize (L.take j) + x.2.2.length)
theorem Hd.snoc {W W' : Nat → Int32} {L : List Ln} (h : Hd W L) (x : Ln) (e : ∀ j, j < 1921 + 4 * L.length → W' j = W j) (e0 : W' (1921 + 4 * L.length) = Int32.ofNat x.1) (e1 : W' (1921 + 4 * L.length + 1) = Int32.ofNat x.2.1) (e2 : W' (1921 + 4 * L.length + 2) = Int32.ofNat (psize L)) (e3 : W' (1921 + 4 * L.length + 3) = Int32.ofNat (psize L + x.2.2.length)) : Hd W' (L ++ [x]) := by
  intro j y hj
  rcases Nat.lt_trichotomy j L.length with q | q | q
  · rw [List.getElem?_append_left q] at hj
    obtain ⟨h0, h1, h2, h3⟩ := h j y hj
    rw [List.take_append_of_le_length (Nat.le_of_lt q)]
    exact ⟨(e _ (by omega)).trans h0, (e _ (by omega)).trans h1, (e _ (by omega)).trans h2, (e _ (by omega)).trans h3⟩
  · rw [q, List.getElem?_append_right (Nat.le_refl _), Nat.sub_self] at hj
    have ex : x = y := Option.some.inj hj
    rw [q, ← ex, List.take_left]
    exact ⟨e0, e1, e2, e3⟩
  · rw [List.getElem?_eq_none (by rw [List.length_append]; exact q)] at hj
    cases hj
theorem Cod.patch {g : Nat → Int32} {A D : List Nat} {w : Nat} (h : Cod g (A ++ w :: D)) (v : Nat) : Cod (upd g A.length (Int32.ofNat v)) (A ++ v :: D) := by
  intro j u hj
  rcases Nat.lt_trichotomy j A.length with q | q | q
  · rw [List.getElem?_append_left q] at hj
    refine (if_neg (by omega)).trans (h j u ?_)
    rw [List.getElem?_append_left q]
    exact hj
  · rw [q, List.getElem?_append_right (Nat.le_refl _), Nat.sub_self] at hj
    have e : v = u := Option.some.inj hj
    rw [q, ← e]
    exact if_pos rfl
  · refine (if_neg (by omega)).trans (h j u ?_)
    rw [List.getElem?_append_right (by omega)] at hj ⊢
    match hjj : j - A.length, hj with
    | 0, _ => omega
    | i + 1, hj =>
      exact hj
theorem LS0.patch {s : aS} {n c0 k : Nat} {B : Nat → Nat} {A D : List Nat} {w : Nat} {nu li fa : Int32} (L : LS0 s n B c0 k (A ++ w :: D) nu li fa) (v : Nat) : LRun (stI 0 64 (Int32.ofNat A.length) (Int32.ofNat v)) s () fun s' => LS0 s' n B c0 k (A ++ v :: D) nu li fa := by
  obtain ⟨T, h, x, F, R, A', c1, c3, c7, c8, c9, c10⟩ := L
  have hl : (A ++ w :: D).length = A.length + (D.length + 1) := List.length_append
  have hl2 : (A ++ v :: D).length = A.length + (D.length + 1) := List.length_append
  obtain ⟨s1, e1, R1, o1⟩ := st4 R (i := A.length) (by omega) (Int32.ofNat v)
  refine ⟨s1, e1, ⟨T.off o1 (by decide), h, _, _, R1, A'.rows (fun q h1 h2 => rfl) (fun q hq => mrow_ne _ _ (by omega)), ?_, ?_, c7, c8, c9, by omega⟩, o1⟩
  · rw [mrow_at]
    exact c1.patch v
  · rw [hl2, ← hl]
    exact c3
/-- the line's end: how many items it has -/
theorem LS0.close {s : aS} {n c0 k : Nat} {B : Nat → Nat} {A D : List Nat} {nu li fa : Int32} (L : LS0 s n B c0 k (A ++ 0 :: D) nu li fa) : LRun (if Int32.ofNat A.length < 0 then (
              mret (1 : Int32)
            ) else (
              mbnd (gR 5 12 59) fun (v23 : Nat) =>
              mbnd (lenI 0 v23) fun (v24 : Int32) =>
              if v24 ≤ Int32.ofNat A.length then (
                mret 1
              ) else (
                mbnd (gR 5 12 59) fun (v26 : Nat) =>
                mbnd (gI 5 14 59) fun (v27 : Int32) =>
                mbnd (stI 0 v26 (Int32.ofNat A.length) ((v27 - Int32.ofNat A.length) - 1)) fun _ =>
                mret 1
              )
            )) s 1 fun s' => LS0 s' n B c0 k (A ++ D.length :: D) nu li fa := by
  have hl : (A ++ 0 :: D).length = A.length + (D.length + 1) := List.length_append
  have hc := L.bd.2.2.2.2.2
  rw [if_neg (ofN_nn (by omega))]
  refine LRun.get L.r12 (LRun.get L.l64 ?_)
  rw [if_neg (nle (show A.length < 400 by omega) (by decide))]
  refine LRun.get L.r12 (LRun.get L.g14 ?_)
  rw [ofN_sub (by omega), show (A ++ 0 :: D).length - A.length = D.length + 1 by omega, ofN_pred]
  exact LRun.bnd (L.patch D.length) fun s1 L1 => LRun.ret L1
noncomputable def kchain : MM Int32 :=
  mbnd (mX12_isWord 66 39) fun (v3 : Int32) =>
  if v3 = 0 then (
    mbnd (mX12_isWord 66 40) fun (v8 : Int32) =>
    if v8 = 0 then (
      mbnd (mX12_isWord 66 41) fun (v10 : Int32) =>
      if v10 = 0 then (
        mbnd (mX12_isWord 66 42) fun (v12 : Int32) =>
        if v12 = 0 then (
          mret (-1)
        ) else (
          mret 3
        )
      ) else (
        mret 2
      )
    ) else (
      mret 1
    )
  ) else (
    mret 0
  )
section KD
variable {s sm : aS} {M : MK} {W0 Wb : Nat → Int32} {P : List It} {dp n c0 k : Nat} {B : Nat → Nat} {C : List Nat} {nu li fa : Int32}
theorem kchain_run (TB : Byt M n B) (R1 : RRw s M W0 P dp (wend B n (tb B n k)) (tb B n k)) : (∀ q, q < 4 → thing B n (tb B n k) = Int32.ofNat (312 + q) → kchain s = some (.inl (Int32.ofNat q), s)) ∧ ((∀ q, q < 4 → ¬ thing B n (tb B n k) = Int32.ofNat (312 + q)) → kchain s = some (.inl (-1), s)) := by
  have ne : ∀ {a c : Nat}, a < 8 → c < 8 → a ≠ c → thing B n (tb B n k) = Int32.ofNat (312 + a) → ¬ thing B n (tb B n k) = Int32.ofNat (312 + c) := fun h1 h2 h e1 e2 => by
    have := e1.symm.trans e2
    rw [ofN_inj (by omega) (by omega)] at this
    omega
  refine ⟨fun q hq h => ?_, fun h => ?_⟩
  · have hq' : q = 0 ∨ q = 1 ∨ q = 2 ∨ q = 3 := by omega
    unfold kchain
    rcases hq' with rfl | rfl | rfl | rfl
    · rw [bnd_ok ((R1.word TB tx_answer (j := 12) rfl).1 h), if_neg (show ¬ (1 : Int32) = 0 by decide)]
      rfl
    · rw [bnd_ok ((R1.word TB tx_answer (j := 12) rfl).2 (ne (a := 1) (c := 0) (by decide) (by decide) (by decide) h)), if_pos rfl, bnd_ok ((R1.word TB tx_plead (j := 13) rfl).1 h), if_neg (show ¬ (1 : Int32) = 0 by decide)]
      rfl
    · rw [bnd_ok ((R1.word TB tx_answer (j := 12) rfl).2 (ne (a := 2) (c := 0) (by decide) (by decide) (by decide) h)), if_pos rfl, bnd_ok ((R1.word TB tx_plead (j := 13) rfl).2 (ne (a := 2) (c := 1) (by decide) (by decide) (by decide) h)), if_pos rfl, bnd_ok ((R1.word TB tx_heir (j := 14) rfl).1 h), if_neg (show ¬ (1 : Int32) = 0 by decide)]
      rfl
    · rw [bnd_ok ((R1.word TB tx_answer (j := 12) rfl).2 (ne (a := 3) (c := 0) (by decide) (by decide) (by decide) h)), if_pos rfl, bnd_ok ((R1.word TB tx_plead (j := 13) rfl).2 (ne (a := 3) (c := 1) (by decide) (by decide) (by decide) h)), if_pos rfl, bnd_ok ((R1.word TB tx_heir (j := 14) rfl).2 (ne (a := 3) (c := 2) (by decide) (by decide) (by decide) h)), if_pos rfl, bnd_ok ((R1.word TB tx_blunt (j := 15) rfl).1 h), if_neg (show ¬ (1 : Int32) = 0 by decide)]
      rfl
  · unfold kchain
    rw [bnd_ok ((R1.word TB tx_answer (j := 12) rfl).2 (h 0 (by decide))), if_pos rfl, bnd_ok ((R1.word TB tx_plead (j := 13) rfl).2 (h 1 (by decide))), if_pos rfl, bnd_ok ((R1.word TB tx_heir (j := 14) rfl).2 (h 2 (by decide))), if_pos rfl, bnd_ok ((R1.word TB tx_blunt (j := 15) rfl).2 (h 3 (by decide))), if_pos rfl]
    rfl
theorem kind_cases (hb : ∀ q, q < n → B q < 256) (p : Nat) : (∃ q, q < 4 ∧ thing B n p = Int32.ofNat (312 + q)) ∨ ((∀ q, q < 4 → ¬ thing B n p = Int32.ofNat (312 + q)) ∧ (thing B n p - 312 < 0 ∨ (¬ thing B n p - 312 < 0 ∧ ¬ thing B n p - 312 < 4))) := by
  have key : ∀ v : Fin 325, v.1 < 312 → Int32.ofNat v.1 - 312 < 0 := by decide +kernel
  rcases thing_lt hb p with e | ⟨v, hv, e⟩
  · refine Or.inr ⟨fun q hq z => ?_, Or.inl (by rw [e]; decide)⟩
    exact absurd (z.symm.trans e) (neg1_ofN (by omega))
  · rcases Nat.lt_or_ge v 312 with h | h
    · refine Or.inr ⟨fun q hq z => ?_, Or.inl (by rw [e]; exact key ⟨v, hv⟩ h)⟩
      have := e.symm.trans z
      rw [ofN_inj (by omega) (by omega)] at this
      omega
    · rcases Nat.lt_or_ge v 316 with h2 | h2
      · exact Or.inl ⟨v - 312, by omega, e.trans (congrArg Int32.ofNat (by omega))⟩
      · have ee : thing B n p - 312 = Int32.ofNat (v - 312) := by
          rw [e]
          exact ofN_sub h
        refine Or.inr ⟨fun q hq z => ?_, Or.inr ⟨by rw [ee]; exact ofN_nn (by omega), by
          rw [ee]
          intro z
          have z' : Int32.ofNat (v - 312) < Int32.ofNat 4 := z
          rw [ofN_lt (by omega) (by decide)] at z'
          omega⟩⟩
        have := e.symm.trans z
        rw [ofN_inj (by omega) (by omega)] at this
        omega
/-- the reference between lines -/
def RLn (sm : aS) (M : MK) (n : Nat) (B : Nat → Nat) (Wb : Nat → Int32) (L : List Ln) (k : Nat) : Prop := ∃ W dp i b, i ≤ n ∧ nxt B n i = tb B n k ∧ Mdl sm 66 (mcur (mw (mnm M (Int32.ofNat (psize L)) dp) W) i b) ∧ Its W (itemsL L) ∧ Hd W L ∧ ∀ j, j < 1920 → W j = Wb j
def RBd (sm : aS) (M : MK) (Wb : Nat → Int32) (z : Nat) : Prop := ∃ W st dp i, Mdl sm 66 (mcur (mw (mnm M st dp) W) i z) ∧ ∀ j, j < 1920 → W j = Wb j
theorem kword {q : Nat} (hq : q < 4) (hb : ∀ q, q < n → B q < 256) (h : thing B n (tb B n k) = Int32.ofNat (312 + q)) : tb B n k + 4 ≤ tb B n (k + 1) := by
  have h' : thing B n (tb B n k) = Int32.ofNat (300 + (12 + q)) := h.trans (congrArg Int32.ofNat (by omega))
  obtain ⟨hlt, hx, hle, -⟩ := word_next hb h' (by omega)
  have hw : ∃ w, wl[12 + q]? = some w ∧ 4 ≤ w.length := by
    have hq' : q = 0 ∨ q = 1 ∨ q = 2 ∨ q = 3 := by omega
    rcases hq' with rfl | rfl | rfl | rfl <;> exact ⟨_, rfl, by decide⟩
  obtain ⟨w, hw1, hw2⟩ := hw
  have e := (word_thing (tb_le B n k) hb hw1).mp h'
  have l := congrArg List.length e
  rw [wd_len] at l
  have := (run_spec (pB B) hle).1
  change wend B n (tb B n k) ≤ nxt B n (wend B n (tb B n k)) at this
  omega
end KD
