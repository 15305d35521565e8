/-! PIECES AND SUMS of a law's text on both sides -/
noncomputable def adds (j : Nat) : MM Unit := if Int32.ofNat j ≤ 0 then mret () else mbnd (mX5_write 59 1030) fun (_ : Int32) => mret ()
noncomputable def tailC (j : Nat) : MM (Int32 ⊕ (Unit ⊕ Unit ⊕ Unit)) := mbnd (gI 5 7 59) fun (v17 : Int32) =>
  if v17 = 43 then (
    mbnd (nox (mX10_goOnl 59)) fun _ =>
    mret (.inl (Int32.ofNat j + 1))
  ) else (
    mret (.inr ((.inr (.inl ()))))
  )
noncomputable def sC (r : Int32 ⊕ (Unit ⊕ Unit ⊕ Unit)) : MM (Unit ⊕ Unit ⊕ Unit) := match r with
  | .inl y => loopM (mX5_readSum_L2 59) y
  | .inr e => mret e
noncomputable def wchain : MM Int32 :=
  mbnd (mX12_isWord 66 31) fun (v50 : Int32) =>
  if v50 = 0 then (
    mbnd (mX12_isWord 66 32) fun (v51 : Int32) =>
    if v51 = 0 then (
      mbnd (mX12_isWord 66 46) fun (v52 : Int32) =>
      if v52 = 0 then (
        mbnd (mX12_isWord 66 47) fun (v53 : Int32) =>
        if v53 = 0 then (
          mbnd (mX12_isWord 66 48) fun (v54 : Int32) =>
          if v54 = 0 then (
            mbnd (mX12_isWord 66 34) fun (v55 : Int32) =>
            if v55 = 0 then (
              mbnd (mX12_isWord 66 49) fun (v56 : Int32) =>
              if v56 = 0 then (
                mbnd (mX12_isWord 66 33) fun (v57 : Int32) =>
                if v57 = 0 then (
                  mret (-1)
                ) else (
                  mret 7
                )
              ) else (
                mret 6
              )
            ) else (
              mret 5
            )
          ) else (
            mret 4
          )
        ) else (
          mret 3
        )
      ) else (
        mret 2
      )
    ) else (
      mret 1
    )
  ) else (
    mret 0
  )
section PC
variable {s sm : aS} {M : MK} {W0 : Nat → Int32} {P : List It} {dp n c0 k d b : Nat} {B : Nat → Nat} {C S : List Nat} {nu li fa : Int32}
theorem NRun.congr {α : Type} {m m' : MM α} {s : aS} {v : α} {Q : aS → Prop} (e : m = m') (h : NRun m' s v Q) : NRun m s v Q := e ▸ h
theorem tb_step (h : tb B n k < n) : tb B n k < tb B n (k + 1) := by
  show _ < (if tb B n k < n then nxt B n (tend B n (tb B n k)) else n)
  rw [if_pos h]
  have h1 := tend_spec B h
  have h2 := (run_spec (pB B) h1.2).1
  exact Nat.lt_of_lt_of_le h1.1 h2
theorem tb_mono (B : Nat → Nat) (n : Nat) : ∀ m k, tb B n k ≤ tb B n (k + m) := by
  intro m
  induction m with
  | zero => exact fun k => Nat.le_refl _
  | succ m ih =>
    intro k
    by_cases h : tb B n (k + m) < n
    · exact Nat.le_trans (ih k) (Nat.le_of_lt (tb_step h))
    · have h1 := ih k
      have h2 : tb B n (k + m + 1) = n := if_neg h
      have h3 := tb_le B n k
      show _ ≤ tb B n (k + m + 1)
      omega
theorem LSt.lt (L : LSt s n B c0 k C S d b nu li fa) (h : k < c0) : tb B n k < n := by
  obtain ⟨-, -, x, F, R, A, -⟩ := L
  exact (A.1.2.2.1 k h).1
theorem wchain_run (TB : Byt M n B) (R1 : RRw s M W0 P dp (wend B n (tb B n k)) (tb B n k)) : (∀ q, q < 8 → thing B n (tb B n k) = Int32.ofNat (304 + q) → wchain s = some (.inl (Int32.ofNat q), s)) ∧ ((∀ q, q < 8 → ¬ thing B n (tb B n k) = Int32.ofNat (304 + q)) → wchain s = some (.inl (-1), s)) := by
  have ne : ∀ {a c : Nat}, a < 8 → c < 8 → a ≠ c → thing B n (tb B n k) = Int32.ofNat (304 + a) → ¬ thing B n (tb B n k) = Int32.ofNat (304 + c) := fun h1 h2 h e1 e2 => by
    have := e1.symm.trans e2
    rw [ofN_inj (by omega) (by omega)] at this
    omega
  refine ⟨fun q hq h => ?_, fun h => ?_⟩
  · have hq' : q = 0 ∨ q = 1 ∨ q = 2 ∨ q = 3 ∨ q = 4 ∨ q = 5 ∨ q = 6 ∨ q = 7 := by omega
    unfold wchain
    rcases hq' with rfl | rfl | rfl | rfl | rfl | rfl | rfl | rfl
    · rw [bnd_ok ((R1.word TB tx_edge (j := 4) rfl).1 h), if_neg (show ¬ (1 : Int32) = 0 by decide)]
      rfl
    · rw [bnd_ok ((R1.word TB tx_edge (j := 4) rfl).2 (ne (a := 1) (c := 0) (by decide) (by decide) (by decide) h)), if_pos rfl, bnd_ok ((R1.word TB tx_wear (j := 5) rfl).1 h), if_neg (show ¬ (1 : Int32) = 0 by decide)]
      rfl
    · rw [bnd_ok ((R1.word TB tx_edge (j := 4) rfl).2 (ne (a := 2) (c := 0) (by decide) (by decide) (by decide) h)), if_pos rfl, bnd_ok ((R1.word TB tx_wear (j := 5) rfl).2 (ne (a := 2) (c := 1) (by decide) (by decide) (by decide) h)), if_pos rfl, bnd_ok ((R1.word TB tx_guilt (j := 6) rfl).1 h), if_neg (show ¬ (1 : Int32) = 0 by decide)]
      rfl
    · rw [bnd_ok ((R1.word TB tx_edge (j := 4) rfl).2 (ne (a := 3) (c := 0) (by decide) (by decide) (by decide) h)), if_pos rfl, bnd_ok ((R1.word TB tx_wear (j := 5) rfl).2 (ne (a := 3) (c := 1) (by decide) (by decide) (by decide) h)), if_pos rfl, bnd_ok ((R1.word TB tx_guilt (j := 6) rfl).2 (ne (a := 3) (c := 2) (by decide) (by decide) (by decide) h)), if_pos rfl, bnd_ok ((R1.word TB tx_harm (j := 7) rfl).1 h), if_neg (show ¬ (1 : Int32) = 0 by decide)]
      rfl
    · rw [bnd_ok ((R1.word TB tx_edge (j := 4) rfl).2 (ne (a := 4) (c := 0) (by decide) (by decide) (by decide) h)), if_pos rfl, bnd_ok ((R1.word TB tx_wear (j := 5) rfl).2 (ne (a := 4) (c := 1) (by decide) (by decide) (by decide) h)), if_pos rfl, bnd_ok ((R1.word TB tx_guilt (j := 6) rfl).2 (ne (a := 4) (c := 2) (by decide) (by decide) (by decide) h)), if_pos rfl, bnd_ok ((R1.word TB tx_harm (j := 7) rfl).2 (ne (a := 4) (c := 3) (by decide) (by decide) (by decide) h)), if_pos rfl, bnd_ok ((R1.word TB tx_hard (j := 8) rfl).1 h), if_neg (show ¬ (1 : Int32) = 0 by decide)]
      rfl
    · rw [bnd_ok ((R1.word TB tx_edge (j := 4) rfl).2 (ne (a := 5) (c := 0) (by decide) (by decide) (by decide) h)), if_pos rfl, bnd_ok ((R1.word TB tx_wear (j := 5) rfl).2 (ne (a := 5) (c := 1) (by decide) (by decide) (by decide) h)), if_pos rfl, bnd_ok ((R1.word TB tx_guilt (j := 6) rfl).2 (ne (a := 5) (c := 2) (by decide) (by decide) (by decide) h)), if_pos rfl, bnd_ok ((R1.word TB tx_harm (j := 7) rfl).2 (ne (a := 5) (c := 3) (by decide) (by decide) (by decide) h)), if_pos rfl, bnd_ok ((R1.word TB tx_hard (j := 8) rfl).2 (ne (a := 5) (c := 4) (by decide) (by decide) (by decide) h)), if_pos rfl, bnd_ok ((R1.word TB tx_master (j := 9) rfl).1 h), if_neg (show ¬ (1 : Int32) = 0 by decide)]
      rfl
    · rw [bnd_ok ((R1.word TB tx_edge (j := 4) rfl).2 (ne (a := 6) (c := 0) (by decide) (by decide) (by decide) h)), if_pos rfl, bnd_ok ((R1.word TB tx_wear (j := 5) rfl).2 (ne (a := 6) (c := 1) (by decide) (by decide) (by decide) h)), if_pos rfl, bnd_ok ((R1.word TB tx_guilt (j := 6) rfl).2 (ne (a := 6) (c := 2) (by decide) (by decide) (by decide) h)), if_pos rfl, bnd_ok ((R1.word TB tx_harm (j := 7) rfl).2 (ne (a := 6) (c := 3) (by decide) (by decide) (by decide) h)), if_pos rfl, bnd_ok ((R1.word TB tx_hard (j := 8) rfl).2 (ne (a := 6) (c := 4) (by decide) (by decide) (by decide) h)), if_pos rfl, bnd_ok ((R1.word TB tx_master (j := 9) rfl).2 (ne (a := 6) (c := 5) (by decide) (by decide) (by decide) h)), if_pos rfl, bnd_ok ((R1.word TB tx_day (j := 10) rfl).1 h), if_neg (show ¬ (1 : Int32) = 0 by decide)]
      rfl
    · rw [bnd_ok ((R1.word TB tx_edge (j := 4) rfl).2 (ne (a := 7) (c := 0) (by decide) (by decide) (by decide) h)), if_pos rfl, bnd_ok ((R1.word TB tx_wear (j := 5) rfl).2 (ne (a := 7) (c := 1) (by decide) (by decide) (by decide) h)), if_pos rfl, bnd_ok ((R1.word TB tx_guilt (j := 6) rfl).2 (ne (a := 7) (c := 2) (by decide) (by decide) (by decide) h)), if_pos rfl, bnd_ok ((R1.word TB tx_harm (j := 7) rfl).2 (ne (a := 7) (c := 3) (by decide) (by decide) (by decide) h)), if_pos rfl, bnd_ok ((R1.word TB tx_hard (j := 8) rfl).2 (ne (a := 7) (c := 4) (by decide) (by decide) (by decide) h)), if_pos rfl, bnd_ok ((R1.word TB tx_master (j := 9) rfl).2 (ne (a := 7) (c := 5) (by decide) (by decide) (by decide) h)), if_pos rfl, bnd_ok ((R1.word TB tx_day (j := 10) rfl).2 (ne (a := 7) (c := 6) (by decide) (by decide) (by decide) h)), if_pos rfl, bnd_ok ((R1.word TB tx_tool (j := 11) rfl).1 h), if_neg (show ¬ (1 : Int32) = 0 by decide)]
      rfl
  · unfold wchain
    rw [bnd_ok ((R1.word TB tx_edge (j := 4) rfl).2 (h 0 (by decide))), if_pos rfl, bnd_ok ((R1.word TB tx_wear (j := 5) rfl).2 (h 1 (by decide))), if_pos rfl, bnd_ok ((R1.word TB tx_guilt (j := 6) rfl).2 (h 2 (by decide))), if_pos rfl, bnd_ok ((R1.word TB tx_harm (j := 7) rfl).2 (h 3 (by decide))), if_pos rfl, bnd_ok ((R1.word TB tx_hard (j := 8) rfl).2 (h 4 (by decide))), if_pos rfl, bnd_ok ((R1.word TB tx_master (j := 9) rfl).2 (h 5 (by decide))), if_pos rfl, bnd_ok ((R1.word TB tx_day (j := 10) rfl).2 (h 6 (by decide))), if_pos rfl, bnd_ok ((R1.word TB tx_tool (j := 11) rfl).2 (h 7 (by decide))), if_pos rfl]
    rfl
theorem piece {j : Nat} (TB : Byt M n B) (L : LSt s n B c0 k C S d b nu li fa) (H : RSt sm M n B W0 P dp k) (hC : C.length + S.length ≤ tb B n k) (hP : P.length + 3 ≤ tb B n k) (hj : j < 400) :
    (∃ s1, mX5_readSum_L2 59 (Int32.ofNat j) s = some (.inl (.inr (.inl ())), s1) ∧ LFl s1 (tb B n k) ∧ Off s s1 59 65 ∧ NRun (mX12_readPiece 66) sm 0 fun s' => RBad s' M W0 (tb B n k)) ∨
    ∃ it nu' s1, (it.1 ≤ 7 ∨ (it.1 = 10 ∧ it.2 ≤ 999)) ∧ k < c0 ∧ mX5_readSum_L2 59 (Int32.ofNat j) s = (mbnd (adds j) fun _ => tailC j) s1 ∧ LSt s1 n B c0 (k + 1) (C ++ [encI it]) S d b nu' li fa ∧ Off s s1 59 65 ∧ NRun (mX12_readPiece 66) sm 1 fun s' => RSt s' M n B W0 (P ++ [it]) dp (k + 1) := by
  have hb : ∀ q, q < n → B q < 256 := fun q hq => (TB.2.2 q hq).1
  have hp := tb_le B n k
  have hn := TB.2.1
  have hr := run_spec (pL B) hp
  change tb B n k ≤ wend B n (tb B n k) ∧ wend B n (tb B n k) ≤ n ∧ _ ∧ _ at hr
  have g10 : ∀ {s1 : aS} {P' : List It} {i b' : Nat}, RRw s1 M W0 P' dp i b' → gI 11 10 66 s1 = some (.inl (Int32.ofNat i), s1) ∧ gI 11 12 66 s1 = some (.inl (Int32.ofNat b'), s1) := fun ⟨W, D, _⟩ => ⟨gI_ok D.1 rfl, gI_ok D.1 rfl⟩
  by_cases hw : ∃ q, q < 8 ∧ thing B n (tb B n k) = Int32.ofNat (304 + q)
  · obtain ⟨q, hq, h⟩ := hw
    have h' : thing B n (tb B n k) = Int32.ofNat (300 + (4 + q)) := h.trans (congrArg Int32.ofNat (by omega))
    obtain ⟨hlt, hx, hle, -⟩ := word_next hb h' (by omega)
    have hkc := L.more hlt
    obtain ⟨s1, e1, L1, o1⟩ := L.write (v := 1000 + q) (u := (1000 + Int32.ofNat (304 + q)) - 304) (by omega) (by
      show Int32.ofNat 1000 + Int32.ofNat (304 + q) - Int32.ofNat 304 = _
      rw [ofN_add, ofN_sub (by omega)]
      exact congrArg Int32.ofNat (by omega))
    obtain ⟨s2, e2, L2, o2⟩ := L1.go hkc
    refine Or.inr ⟨(q, 0), nu, s2, Or.inl (show q ≤ 7 by omega), hkc, ?_, ?_, o1.trans o2, ?_⟩
    · unfold mX5_readSum_L2
      rw [if_neg (show ¬ (400 : Int32) ≤ Int32.ofNat j from nle (n := 400) hj (by decide)), bnd_ok L.g7, h, if_neg (show ¬ Int32.ofNat (304 + q) < 304 from fun z => by
        have z' : Int32.ofNat (304 + q) < Int32.ofNat 304 := z
        rw [ofN_lt (by omega) (by decide)] at z'
        omega), bnd_ok L.g7, h, if_neg (show ¬ (311 : Int32) < Int32.ofNat (304 + q) from fun z => by
        have z' : Int32.ofNat 311 < Int32.ofNat (304 + q) := z
        rw [ofN_lt (by decide) (by omega)] at z'
        omega), bnd_ok L.g7, h, bnd_ok e1, bnd_ok e2]
      rfl
    · have ee : encI (q, 0) = 1000 + q := if_pos (show q ≤ 7 by omega)
      rw [ee]
      exact L2
    · unfold mX12_readPiece
      refine RSt.o H (NRun.bnd (H.letters TB) fun m1 R1 => ?_)
      refine NRun.get (g10 R1).1 (NRun.get (g10 R1).2 ?_)
      have hne : ¬ Int32.ofNat (wend B n (tb B n k)) = Int32.ofNat (tb B n k) := fun z => by
        rw [ofN_inj (by omega) (by omega)] at z
        have hl : pL B (tb B n k) = true := by
          cases hh : pL B (tb B n k) with
          | true => rfl
          | false =>
            exfalso
            have hne := (word_thing hp hb (j := 4 + q) (w := wl.getD (4 + q) []) (by
              have : q = 0 ∨ q = 1 ∨ q = 2 ∨ q = 3 ∨ q = 4 ∨ q = 5 ∨ q = 6 ∨ q = 7 := by omega
              rcases this with rfl | rfl | rfl | rfl | rfl | rfl | rfl | rfl <;> rfl)).mp h'
            rw [z, wd_nil B (Nat.le_refl _)] at hne
            have : q = 0 ∨ q = 1 ∨ q = 2 ∨ q = 3 ∨ q = 4 ∨ q = 5 ∨ q = 6 ∨ q = 7 := by omega
            rcases this with rfl | rfl | rfl | rfl | rfl | rfl | rfl | rfl <;> cases hne
        have := (run_next hlt hl).2
        change tb B n k < wend B n (tb B n k) at this
        omega
      rw [if_neg hne]
      refine NRun.bnd (v := Int32.ofNat q) (Q := fun s' => RSt s' M n B W0 (P ++ [(q, 0)]) dp (k + 1)) ?_ fun m2 R2 => ?_
      · refine NRun.congr (mbnd_assoc (mX12_isWord 66 31) _ _).symm ?_
        refine NRun.get (v := Int32.ofNat q) (by
          have := (wchain_run TB R1).1 q hq h
          unfold wchain at this
          exact this) ?_
        refine NRun.bnd (R1.emits (by omega) (q, 0) rfl (fun z => by
          have z1 : q = 8 ∨ q = 10 := z
          omega)) fun m2 R2 => NRun.ret ?_
        exact R2.nx TB (j := 4 + q) (by omega) h'
      · rw [if_neg (ofN_nn (by omega))]
        exact NRun.ret R2
  · have nw : ∀ q, q < 8 → ¬ thing B n (tb B n k) = Int32.ofNat (304 + q) := fun q hq h => hw ⟨q, hq, h⟩
    -- the class takes a number
    have br : ∀ {o : ((Int32 ⊕ (Unit ⊕ Unit ⊕ Unit)) ⊕ Nat) × aS}, (mbnd (nox (mX10_takeNumberl 59 3 999)) fun (v8 : Int32) =>
      if v8 = 0 then (
        mret (.inr ((.inl ())))
      ) else (
        mbnd (gI 5 9 59) fun (v10 : Int32) =>
        mbnd (mX5_write 59 v10) fun (v11 : Int32) =>
        mbnd (adds j) fun (x13 : Unit) => tailC j)) s = some o → mX5_readSum_L2 59 (Int32.ofNat j) s = some o := fun h => by
      unfold mX5_readSum_L2
      rw [if_neg (show ¬ (400 : Int32) ≤ Int32.ofNat j from nle (n := 400) hj (by decide)), bnd_ok L.g7]
      by_cases q : thing B n (tb B n k) < 304
      · rw [if_pos q]
        exact h
      · rw [if_neg q, bnd_ok L.g7, if_pos ?_]
        · exact h
        · rcases thing_lt hb (tb B n k) with e | ⟨v, hv, e⟩
          · rw [e] at q
            exact absurd (show (-1 : Int32) < 304 by decide) q
          · rw [e] at q ⊢
            have q' : ¬ v < 304 := fun z => q ((ofN_lt (m := 304) (by omega) (by decide)).mpr z)
            have q2 : ¬ v ≤ 311 := fun z => nw (v - 304) (by omega) (e.trans (congrArg Int32.ofNat (by omega)))
            exact (ofN_lt (n := 311) (by decide) (by omega)).mpr (by omega)
    rcases L.take (m := 3) (by decide) 999 with ⟨f1, s1, e1, L1, o1⟩ | ⟨u, hu, f1, hle, hlt, s1, e1, L1, o1⟩
    · refine Or.inl ⟨s1, br ((bnd_ok e1).trans (by rw [if_pos rfl]; rfl)), L1, o1, ?_⟩
      unfold mX12_readPiece
      refine RSt.o H (NRun.bnd (H.letters TB) fun m1 R1 => NRun.get (g10 R1).1 (NRun.get (g10 R1).2 ?_))
      refine NRun.bnd (v := -1) (Q := fun s' => RBad s' M W0 (tb B n k)) ?_ fun m2 R2 => by
        rw [if_pos (show (-1 : Int32) < 0 by decide)]
        exact NRun.ret R2
      by_cases hl : wend B n (tb B n k) = tb B n k
      · rw [if_pos (by rw [hl])]
        rw [hl] at R1
        obtain ⟨W, D, h3, h4⟩ := R1
        have fg := m_figures (byt_mn TB) D hp (m := 3) (by decide) 999
        rw [tb_nxt, f1] at fg
        refine NRun.bnd (fg.toN (Q := fun s' => RRw s' M W0 P dp (dend B n (tb B n k)) (tb B n k)) fun s' D' => ⟨W, D', h3, h4⟩) fun m2 R2 => ?_
        exact NRun.bnd (R2.emitX (by omega) 10 (-1)) fun m3 R3 => NRun.ret R3
      · rw [if_neg (fun z => hl (by rwa [ofN_inj (by omega) (by omega)] at z))]
        refine NRun.congr (mbnd_assoc (mX12_isWord 66 31) _ _).symm ?_
        refine NRun.get (v := -1) (by
          have := (wchain_run TB R1).2 nw
          unfold wchain at this
          exact this) ?_
        exact NRun.bnd (R1.emitX (by omega) (-1) 0) fun m3 R3 => NRun.ret R3
    · have hkc := L.more hlt
      have hu9 : u ≤ 999 := (ofN_le (m := 999) (by omega) (by decide)).mp hle
      obtain ⟨hd, hL⟩ : pD B (tb B n k) = true ∧ ¬ pL B (tb B n k) = true := by
        rcases thing_num B n (tb B n k) hp hb with ⟨-, q⟩ | ⟨-, -, q1, q2⟩
        · unfold figv at f1
          rw [if_pos q] at f1
          exact absurd f1.symm (neg1_ofN (by omega))
        · exact ⟨q1, q2⟩
      have hwe : wend B n (tb B n k) = tb B n k := run_stop hp fun _ => by
        cases q : pL B (tb B n k) with
        | true => exact absurd q hL
        | false => rfl
      have ht := tb_step hlt
      have hp1 := tb_le B n (k + 1)
      obtain ⟨s2, e2, L2, o2⟩ := L1.write (v := u) (u := Int32.ofNat u) (by omega) rfl
      have brX : mX5_readSum_L2 59 (Int32.ofNat j) s = (mbnd (adds j) fun _ => tailC j) s2 := by
        cases hh : (mbnd (adds j) fun _ => tailC j) s2 with
        | none =>
          unfold mX5_readSum_L2
          rw [if_neg (show ¬ (400 : Int32) ≤ Int32.ofNat j from nle (n := 400) hj (by decide)), bnd_ok L.g7]
          have key : (mbnd (nox (mX10_takeNumberl 59 3 999)) fun (v8 : Int32) =>
            if v8 = 0 then (
              mret (.inr ((.inl ())))
            ) else (
              mbnd (gI 5 9 59) fun (v10 : Int32) =>
              mbnd (mX5_write 59 v10) fun (v11 : Int32) =>
              mbnd (adds j) fun (x13 : Unit) => tailC j)) s = none := by
            rw [bnd_ok (show nox (mX10_takeNumberl 59 3 999) s = _ from e1), if_neg (show ¬ (1 : Int32) = 0 by decide), bnd_ok L1.g9, bnd_ok e2]
            exact hh
          by_cases q : thing B n (tb B n k) < 304
          · rw [if_pos q]
            exact key
          · rw [if_neg q, bnd_ok L.g7, if_pos ?_]
            · exact key
            · rcases thing_lt hb (tb B n k) with e | ⟨v, hv, e⟩
              · rw [e] at q
                exact absurd (show (-1 : Int32) < 304 by decide) q
              · rw [e] at q ⊢
                have q' : ¬ v < 304 := fun z => q ((ofN_lt (m := 304) (by omega) (by decide)).mpr z)
                have q2 : ¬ v ≤ 311 := fun z => nw (v - 304) (by omega) (e.trans (congrArg Int32.ofNat (by omega)))
                exact (ofN_lt (n := 311) (by decide) (by omega)).mpr (by omega)
        | some o =>
          refine br ?_
          rw [bnd_ok (show nox (mX10_takeNumberl 59 3 999) s = _ from e1), if_neg (show ¬ (1 : Int32) = 0 by decide), bnd_ok L1.g9, bnd_ok e2]
          exact hh
      refine Or.inr ⟨(10, u), Int32.ofNat u, s2, Or.inr ⟨rfl, hu9⟩, hkc, brX, ?_, o1.trans o2, ?_⟩
      · have ee : encI (10, u) = u := rfl
        rw [ee]
        exact L2
      · unfold mX12_readPiece
        refine RSt.o H (NRun.bnd (H.letters TB) fun m1 R1 => NRun.get (g10 R1).1 (NRun.get (g10 R1).2 ?_))
        rw [if_pos (by rw [hwe])]
        rw [hwe] at R1
        obtain ⟨W, D, h3, h4⟩ := R1
        have fg := m_figures (byt_mn TB) D hp (m := 3) (by decide) 999
        rw [tb_nxt, f1] at fg
        refine NRun.bnd (v := Int32.ofNat u) (Q := fun s' => RSt s' M n B W0 (P ++ [(10, u)]) dp (k + 1)) ?_ fun m2 R2 => by
          rw [if_neg (ofN_nn (by omega))]
          exact NRun.ret R2
        refine NRun.bnd (fg.toN (Q := fun s' => RRw s' M W0 P dp (dend B n (tb B n k)) (tb B n k)) fun s' D' => ⟨W, D', h3, h4⟩) fun m2 R2 => ?_
        refine NRun.bnd (R2.emits (by omega) (10, u) (a := 10) (v := Int32.ofNat u) rfl fun _ => rfl) fun m3 R3 => NRun.ret ?_
        refine R3.at ?_ (run_spec (pD B) hp).2.1
        show _ = (if tb B n k < n then nxt B n (tend B n (tb B n k)) else n)
        rw [if_pos hlt, tend_num hlt hd hL]
        rfl
end PC
