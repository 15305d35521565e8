/-! A LAW'S LINE on both sides, whole -/
section LL2
variable {s sm : aS} {M : MK} {Wb : Nat → Int32} {n c0 k : Nat} {B : Nat → Nat} {Ls : List Ln} {nu li fa : Int32}
theorem law_line (TB : Byt M n B) (L : LS0 s n B c0 k (codeL Ls) nu li fa) (H : RLn sm M n B Wb Ls k) (hC : (codeL Ls).length ≤ tb B n k) (hLs : Ls.length < 12) :
    (∃ z, (LRun (mX5_readLine 59) s 0 fun s' => LFl s' z) ∧ NRun (mX12_readLine 66 0 (Int32.ofNat Ls.length)) sm 0 fun s' => RBd s' M Wb z) ∨
    ∃ k' x nu', (LRun (mX5_readLine 59) s 1 fun s' => LS0 s' n B c0 k' (codeL (Ls ++ [x])) nu' li fa) ∧ (NRun (mX12_readLine 66 0 (Int32.ofNat Ls.length)) sm 1 fun s' => RLn s' M n B Wb (Ls ++ [x]) k') ∧ k < k' ∧ (codeL (Ls ++ [x])).length ≤ tb B n k' ∧ lnOk x := by
  have hb := L.bd.2.2.2.1
  have hn := L.bd.1
  have hp := tb_le B n k
  have hcl : (codeL Ls).length = 3 * Ls.length + psize Ls := (codeL_len Ls).trans (lsize_ps Ls)
  obtain ⟨W, dp, i, b, hi, hx, D, hI, hH, hW⟩ := H
  obtain ⟨d', hd'⟩ := all_ofN dp
  subst hd'
  have ps := itemsL_len Ls
  have H : RSt sm M n B W (itemsL Ls) d' k := ⟨i, b, hi, hx, W, by rw [ps]; exact D, hI, fun _ _ => rfl⟩
  obtain ⟨m1, f1, R1, p1⟩ := H.letters TB
  have kc := kchain_run TB R1
  obtain ⟨W1, D1, hI1, hl1⟩ := id R1
  rw [ps] at D1
  have hH1 : Hd W1 Ls := fun j x hj => by
    have hj12 : j < Ls.length := (List.getElem?_eq_some_iff.mp hj).1
    obtain ⟨h0, h1, h2, h3⟩ := hH j x hj
    exact ⟨(hl1 _ (by omega)).trans h0, (hl1 _ (by omega)).trans h1, (hl1 _ (by omega)).trans h2, (hl1 _ (by omega)).trans h3⟩
  have hW1 : ∀ j, j < 1920 → W1 j = Wb j := fun j hj => (hl1 j (by omega)).trans (hW j hj)
  have ev : (1921 : Int32) + 4 * Int32.ofNat Ls.length = Int32.ofNat (1921 + 4 * Ls.length) := by
    rw [show (4 : Int32) = Int32.ofNat 4 from rfl, ofN_mul, show (1921 : Int32) = Int32.ofNat 1921 from rfl, ofN_add]
  have ea1 : Int32.ofNat (1921 + 4 * Ls.length) + 1 = Int32.ofNat (1921 + 4 * Ls.length + 1) := ofN_add _ 1
  have ea2 : Int32.ofNat (1921 + 4 * Ls.length) + 2 = Int32.ofNat (1921 + 4 * Ls.length + 2) := ofN_add _ 2
  have ea3 : Int32.ofNat (1921 + 4 * Ls.length) + 3 = Int32.ofNat (1921 + 4 * Ls.length + 3) := ofN_add _ 3
  generalize ht : 1921 + 4 * Ls.length = t at ev ea1 ea2 ea3
  -- the reference's line from its first word on
  have pre : ∀ {v : Int32} {Q : aS → Prop}, (v = 0 ∨ v = 1) → (∀ kd, kchain m1 = some (.inl kd, m1) → NRun (mbnd (stI 0 67 (Int32.ofNat t) kd) fun _ =>
  mbnd (gR 11 1 66) fun (v14 : Nat) =>
  mbnd (ldI 0 v14 (Int32.ofNat t)) fun (v15 : Int32) =>
  if 0 ≤ v15 then (
    mbnd (gR 11 1 66) fun (v17 : Nat) =>
    mbnd (gR 11 1 66) fun (v18 : Nat) =>
    mbnd (ldI 0 v18 (Int32.ofNat t)) fun (v19 : Int32) =>
    mbnd (α := Int32) (
      if v19 = 3 then (
        mret 99
      ) else (
        mret 999
      )
    ) fun (x21 : Int32) =>
    mbnd (mX12_figures 66 0 x21 3) fun (v24 : Int32) =>
    mbnd (stI 0 v17 (Int32.ofNat t + 1) v24) fun _ =>
    mbnd (gR 11 1 66) fun (v25 : Nat) =>
    mbnd (ldI 0 v25 (Int32.ofNat t + 1)) fun (v26 : Int32) =>
    if 0 ≤ v26 then (
      mbnd (gR 11 1 66) fun (v28 : Nat) =>
      mbnd (gI 11 16 66) fun (v29 : Int32) =>
      mbnd (stI 0 v28 (Int32.ofNat t + 2) v29) fun _ =>
      mbnd (pI 11 13 66 0) fun _ =>
      mbnd (mX12_passes 66 43) fun (v30 : Int32) =>
      if v30 = 0 then (
        mbnd (gR 11 1 66) fun (v32 : Nat) =>
        mbnd (gI 11 16 66) fun (v33 : Int32) =>
        mbnd (stI 0 v32 (Int32.ofNat t + 3) v33) fun _ =>
        mret 1
      ) else (
        mbnd (mRC 8 66) fun (v34 : Int32) =>
        if v34 = 0 then (
          mret 0
        ) else (
          mbnd (gR 11 1 66) fun (v36 : Nat) =>
          mbnd (gI 11 16 66) fun (v37 : Int32) =>
          mbnd (stI 0 v36 (Int32.ofNat t + 3) v37) fun _ =>
          mret 1
        )
      )
    ) else (
      mret 0
    )
  ) else (
    mret 0
  )) m1 v Q) → ∀ kd, kchain m1 = some (.inl kd, m1) → NRun (mX12_readLine 66 0 (Int32.ofNat Ls.length)) sm v Q := by
    intro v Q hv g kd hkd
    obtain ⟨m2, f2, R2, p2⟩ := g kd hkd
    refine ⟨m2, ?_, R2, p1.trans p2⟩
    unfold mX12_readLine
    rw [onC_ok D.1, bnd_ok f1]
    refine (bnd_ok (v := 12) (s' := m1) rfl).trans ?_
    rw [if_neg (show ¬ (12 : Int32) ≤ Int32.ofNat Ls.length from nle (n := 12) hLs (by decide)), if_pos rfl]
    refine (bnd_ok (v := v) (s' := m2) ?_).trans (by rcases hv with rfl | rfl <;> rfl)
    unfold mX12_readLawLine
    rw [onC_ok D1.1, mret_mbnd, ev, bnd_ok (w_ref D1)]
    refine (congrFun (mbnd_assoc (mX12_isWord 66 39) _ _).symm m1).trans ?_
    exact (bnd_ok (show (mbnd (mX12_isWord 66 39) _) m1 = _ from hkd)).trans f2
  have tlt : t + 3 < 1969 := by omega
  rcases kind_cases hb (tb B n k) with ⟨q, hq, hth⟩ | ⟨hnk, hcl2⟩
  · -- a kind
    have hth' : thing B n (tb B n k) = Int32.ofNat (300 + (12 + q)) := hth.trans (congrArg Int32.ofNat (by omega))
    obtain ⟨hlt, hxw, hle, -⟩ := word_next hb hth' (by omega)
    have hk1 := L.more hlt
    have h4 := kword hq hb hth
    have hp1 := tb_le B n (k + 1)
    obtain ⟨s1, e1, L1, o1⟩ := L.go hk1
    have hkd := kc.1 q hq hth
    have eq2 : thing B n (tb B n k) - 312 = Int32.ofNat q := by
      rw [hth]
      show Int32.ofNat (312 + q) - Int32.ofNat 312 = _
      rw [ofN_sub (by omega), Nat.add_sub_cancel_left]
    have q3 : Int32.ofNat q = 3 ↔ q = 3 := by
      show Int32.ofNat q = Int32.ofNat 3 ↔ _
      exact Iff.of_eq (ofN_inj (by omega) (by decide))
    obtain ⟨hh, hhe, hhm⟩ : ∃ hh : Nat, (∀ s', (if Int32.ofNat q = 3 then (mret 99 : MM Int32) else mret 999) s' = some (.inl (Int32.ofNat hh), s')) ∧ hh ≤ 999 := by
      by_cases h : q = 3
      · exact ⟨99, fun s' => by rw [if_pos (q3.mpr h)]; rfl, by decide⟩
      · exact ⟨999, fun s' => by rw [if_neg (fun z => h (q3.mp z))]; rfl, by decide⟩
    -- the class up to the number
    have cpre : ∀ {v : Int32} {Q : aS → Prop}, LRun (mbnd (nox (mX10_takeNumberl 59 3 (Int32.ofNat hh))) fun (v11 : Int32) =>
      if v11 = 0 then (
        mret (0 : Int32)
      ) else (
        mbnd (mX5_write 59 (Int32.ofNat q)) fun (v13 : Int32) =>
        mbnd (gI 5 9 59) fun (v14 : Int32) =>
        mbnd (mX5_write 59 v14) fun (v15 : Int32) =>
        mbnd (gI 5 14 59) fun (v16 : Int32) =>
        mbnd (mX5_write 59 0) fun (v17 : Int32) =>
        mbnd (gI 5 7 59) fun (v18 : Int32) =>
        if v18 = 316 then (
          mbnd (mX5_readCondition 59) fun (v20 : Int32) =>
          if v20 = 0 then (
            mret 0
          ) else (
            if v16 < 0 then (
              mret 1
            ) else (
              mbnd (gR 5 12 59) fun (v23 : Nat) =>
              mbnd (lenI 0 v23) fun (v24 : Int32) =>
              if v24 ≤ v16 then (
                mret 1
              ) else (
                mbnd (gR 5 12 59) fun (v26 : Nat) =>
                mbnd (gI 5 14 59) fun (v27 : Int32) =>
                mbnd (stI 0 v26 v16 ((v27 - v16) - 1)) fun _ =>
                mret 1
              )
            )
          )
        ) else (
          if v16 < 0 then (
            mret 1
          ) else (
            mbnd (gR 5 12 59) fun (v29 : Nat) =>
            mbnd (lenI 0 v29) fun (v30 : Int32) =>
            if v30 ≤ v16 then (
              mret 1
            ) else (
              mbnd (gR 5 12 59) fun (v32 : Nat) =>
              mbnd (gI 5 14 59) fun (v33 : Int32) =>
              mbnd (stI 0 v32 v16 ((v33 - v16) - 1)) fun _ =>
              mret 1
            )
          )
        )
      )) s1 v Q → LRun (mX5_readLine 59) s v Q := fun ⟨s2, g1, g2, g3⟩ => by
      refine ⟨s2, ?_, g2, o1.trans g3⟩
      unfold mX5_readLine
      rw [L.oC, bnd_ok L.g7, mret_mbnd, eq2, if_neg (ofN_nn (by omega)), if_pos (show Int32.ofNat q < 4 from (ofN_lt (m := 4) (by omega) (by decide)).mpr hq), bnd_ok e1, bnd_ok (hhe s1)]
      exact g1
    -- the reference up to the number
    obtain ⟨m2, f2, D2, p2⟩ := w_put D1 (j := t) (by omega) (Int32.ofNat q)
    have l2 : ldI 0 67 (Int32.ofNat t) m2 = some (.inl (Int32.ofNat q), m2) := by
      have := w_ld D2 (j := t) (by omega)
      rwa [show upd W1 t (Int32.ofNat q) t = Int32.ofNat q from if_pos rfl] at this
    have fg := m_figures (byt_mn TB) D2 hle (m := 3) (by decide) (Int32.ofNat hh)
    rw [hxw] at fg
    have rpre : ∀ {v : Int32} {Q : aS → Prop}, (v = 0 ∨ v = 1) → NRun (mbnd (mX12_figures 66 0 (Int32.ofNat hh) 3) fun (v24 : Int32) =>
    mbnd (stI 0 67 (Int32.ofNat t + 1) v24) fun _ =>
    mbnd (gR 11 1 66) fun (v25 : Nat) =>
    mbnd (ldI 0 v25 (Int32.ofNat t + 1)) fun (v26 : Int32) =>
    if 0 ≤ v26 then (
      mbnd (gR 11 1 66) fun (v28 : Nat) =>
      mbnd (gI 11 16 66) fun (v29 : Int32) =>
      mbnd (stI 0 v28 (Int32.ofNat t + 2) v29) fun _ =>
      mbnd (pI 11 13 66 0) fun _ =>
      mbnd (mX12_passes 66 43) fun (v30 : Int32) =>
      if v30 = 0 then (
        mbnd (gR 11 1 66) fun (v32 : Nat) =>
        mbnd (gI 11 16 66) fun (v33 : Int32) =>
        mbnd (stI 0 v32 (Int32.ofNat t + 3) v33) fun _ =>
        mret 1
      ) else (
        mbnd (mRC 8 66) fun (v34 : Int32) =>
        if v34 = 0 then (
          mret 0
        ) else (
          mbnd (gR 11 1 66) fun (v36 : Nat) =>
          mbnd (gI 11 16 66) fun (v37 : Int32) =>
          mbnd (stI 0 v36 (Int32.ofNat t + 3) v37) fun _ =>
          mret 1
        )
      )
    ) else (
      mret (0 : Int32)
    )) m2 v Q → NRun (mX12_readLine 66 0 (Int32.ofNat Ls.length)) sm v Q := fun hv ⟨m3, g1, g2, g3⟩ => by
      refine pre hv (fun kd hkd' => ?_) (Int32.ofNat q) hkd
      have ek : kd = Int32.ofNat q := (Sum.inl.inj (congrArg Prod.fst (Option.some.inj (hkd'.symm.trans hkd))))
      subst ek
      refine ⟨m3, ?_, g2, p2.trans g3⟩
      rw [bnd_ok f2, bnd_ok (w_ref D2), bnd_ok l2, if_pos (ge_ofN (by omega)), bnd_ok (w_ref D2), bnd_ok (w_ref D2), bnd_ok l2, bnd_ok (hhe m2)]
      exact g1
    rcases L1.take (m := 3) (by decide) (Int32.ofNat hh) with ⟨g1, s3, e3, L3, o3⟩ | ⟨u, hu, g1, hle3, hlt1, s3, e3, L3, o3⟩
    · -- no number
      refine Or.inl ⟨tb B n (k + 1), cpre ⟨s3, ?_, L3, o3⟩, rpre (Or.inl rfl) ?_⟩
      · refine (bnd_ok (show nox (mX10_takeNumberl 59 3 (Int32.ofNat hh)) s1 = _ from e3)).trans ?_
        rw [if_pos rfl]
        rfl
      · rw [g1] at fg
        refine NRun.bnd (fg.toN fun s' D' => D') fun m3 D3 => ?_
        rw [ea1]
        refine NRun.bnd ((w_put D3 (j := t + 1) (by omega) (-1)).toN fun s' D' => D') fun m4 D4 => NRun.get (w_ref D4) (NRun.get (w_ld D4 (j := t + 1) (by omega)) ?_)
        rw [show upd (upd W1 t (Int32.ofNat q)) (t + 1) (-1) (t + 1) = -1 from if_pos rfl, if_neg (show ¬ (0 : Int32) ≤ -1 by decide)]
        exact NRun.ret ⟨_, _, _, _, D4, fun j hj => (if_neg (by omega)).trans ((if_neg (by omega)).trans (hW1 j hj))⟩
    · -- a number
      have hk2 := L1.more hlt1
      have hst1 := tb_step hlt1
      have hp2 := tb_le B n (k + 1 + 1)
      have hu9 : u ≤ 999 := Nat.le_trans ((ofN_le (by omega) (by omega)).mp hle3) hhm
      obtain ⟨hd, hL⟩ : pD B (tb B n (k + 1)) = true ∧ ¬ pL B (tb B n (k + 1)) = true := by
        rcases thing_num B n (tb B n (k + 1)) hp1 hb with ⟨-, z⟩ | ⟨-, -, z1, z2⟩
        · unfold figv at g1
          rw [if_pos z] at g1
          exact absurd g1.symm (neg1_ofN (by omega))
        · exact ⟨z1, z2⟩
      obtain ⟨s4, e4, L4, o4⟩ := L3.write (v := q) (u := Int32.ofNat q) (by omega) rfl
      have l4 : (codeL Ls ++ [q]).length = (codeL Ls).length + 1 := List.length_append
      obtain ⟨s5, e5, L5, o5⟩ := L4.write (v := u) (u := Int32.ofNat u) (by omega) rfl
      have l5 : (codeL Ls ++ [q] ++ [u]).length = (codeL Ls).length + 2 := by rw [List.length_append, l4]; rfl
      obtain ⟨s6, e6, L6, o6⟩ := L5.write (v := 0) (u := 0) (by omega) rfl
      have o36 : Off s1 s6 59 65 := o3.trans (o4.trans (o5.trans o6))
      have l6 : (codeL Ls ++ [q] ++ [u] ++ [0]).length = (codeL Ls).length + 3 := by rw [List.length_append, l5]; rfl
      -- the class behind the head
      have cpr2 : ∀ {v : Int32} {Q : aS → Prop}, LRun (if thing B n (tb B n (k + 1 + 1)) = 316 then (
          mbnd (mX5_readCondition 59) fun (v20 : Int32) =>
          if v20 = 0 then (
            mret (0 : Int32)
          ) else (
            if Int32.ofNat (codeL Ls ++ [q] ++ [u]).length < 0 then (
              mret 1
            ) else (
              mbnd (gR 5 12 59) fun (v23 : Nat) =>
              mbnd (lenI 0 v23) fun (v24 : Int32) =>
              if v24 ≤ Int32.ofNat (codeL Ls ++ [q] ++ [u]).length then (
                mret 1
              ) else (
                mbnd (gR 5 12 59) fun (v26 : Nat) =>
                mbnd (gI 5 14 59) fun (v27 : Int32) =>
                mbnd (stI 0 v26 (Int32.ofNat (codeL Ls ++ [q] ++ [u]).length) ((v27 - Int32.ofNat (codeL Ls ++ [q] ++ [u]).length) - 1)) fun _ =>
                mret 1
              )
            )
          )
        ) else (
          if Int32.ofNat (codeL Ls ++ [q] ++ [u]).length < 0 then (
              mret 1
            ) else (
              mbnd (gR 5 12 59) fun (v23 : Nat) =>
              mbnd (lenI 0 v23) fun (v24 : Int32) =>
              if v24 ≤ Int32.ofNat (codeL Ls ++ [q] ++ [u]).length then (
                mret 1
              ) else (
                mbnd (gR 5 12 59) fun (v26 : Nat) =>
                mbnd (gI 5 14 59) fun (v27 : Int32) =>
                mbnd (stI 0 v26 (Int32.ofNat (codeL Ls ++ [q] ++ [u]).length) ((v27 - Int32.ofNat (codeL Ls ++ [q] ++ [u]).length) - 1)) fun _ =>
                mret 1
              )
            )
        )) s6 v Q → LRun (mX5_readLine 59) s v Q := fun ⟨s7, z1, z2, z3⟩ => by
        refine cpre ⟨s7, ?_, z2, o36.trans z3⟩
        refine (bnd_ok (show nox (mX10_takeNumberl 59 3 (Int32.ofNat hh)) s1 = _ from e3)).trans ?_
        rw [if_neg (show ¬ (1 : Int32) = 0 by decide), bnd_ok e4, bnd_ok L4.g9, bnd_ok e5, bnd_ok L5.g14, bnd_ok e6, bnd_ok L6.g7]
        exact z1
      -- the reference behind the head
      rw [g1] at fg
      obtain ⟨m3, f3, D3, p3⟩ := fg
      obtain ⟨m4, f4, D4, p4⟩ := w_put D3 (j := t + 1) (by omega) (Int32.ofNat u)
      obtain ⟨m5, f5, D5, p5⟩ := w_put D4 (j := t + 2) (by omega) (Int32.ofNat (psize Ls))
      obtain ⟨m6, f6, D6, p6⟩ := mint_run (k := 13) (v := Int32.ofNat 0) D5 rfl
      rw [mnm_dp] at D6
      have l4' : ldI 0 67 (Int32.ofNat (t + 1)) m4 = some (.inl (Int32.ofNat u), m4) := by
        have := w_ld D4 (j := t + 1) (by omega)
        rwa [show upd (upd W1 t (Int32.ofNat q)) (t + 1) (Int32.ofNat u) (t + 1) = Int32.ofNat u from if_pos rfl] at this
      have eW : ∀ j, j ≠ t → j ≠ t + 1 → j ≠ t + 2 → upd (upd (upd W1 t (Int32.ofNat q)) (t + 1) (Int32.ofNat u)) (t + 2) (Int32.ofNat (psize Ls)) j = W1 j := fun j h0 h1 h2 => (if_neg h2).trans ((if_neg h1).trans (if_neg h0))
      have eW0 : upd (upd (upd W1 t (Int32.ofNat q)) (t + 1) (Int32.ofNat u)) (t + 2) (Int32.ofNat (psize Ls)) t = Int32.ofNat q := (if_neg (by omega)).trans ((if_neg (by omega)).trans (if_pos rfl))
      have eW1 : upd (upd (upd W1 t (Int32.ofNat q)) (t + 1) (Int32.ofNat u)) (t + 2) (Int32.ofNat (psize Ls)) (t + 1) = Int32.ofNat u := (if_neg (by omega)).trans (if_pos rfl)
      have eW2 : upd (upd (upd W1 t (Int32.ofNat q)) (t + 1) (Int32.ofNat u)) (t + 2) (Int32.ofNat (psize Ls)) (t + 2) = Int32.ofNat (psize Ls) := if_pos rfl
      generalize upd (upd (upd W1 t (Int32.ofNat q)) (t + 1) (Int32.ofNat u)) (t + 2) (Int32.ofNat (psize Ls)) = W3 at D6 eW eW0 eW1 eW2
      have hxd : nxt B n (dend B n (tb B n (k + 1))) = tb B n (k + 1 + 1) := by
        show _ = (if tb B n (k + 1) < n then nxt B n (tend B n (tb B n (k + 1))) else n)
        rw [if_pos hlt1, tend_num hlt1 hd hL]
      have H6 : RSt m6 M n B W3 (itemsL Ls) 0 (k + 1 + 1) := ⟨_, _, (run_spec (pD B) hp1).2.1, hxd, W3, by rw [ps]; exact D6, fun j it hj => by
        have z := hI1 j it hj
        exact ⟨(eW _ (by omega) (by omega) (by omega)).trans z.1, fun y => (eW _ (by omega) (by omega) (by omega)).trans (z.2 y)⟩, fun _ _ => rfl⟩
      have p26 : Off m2 m6 66 (66 + 12) := p3.trans (p4.trans (p5.trans p6))
      have rpr2 : ∀ {v : Int32} {Q : aS → Prop}, (v = 0 ∨ v = 1) → NRun (mbnd (mX12_passes 66 43) fun (v30 : Int32) =>
      if v30 = 0 then (
        mbnd (gR 11 1 66) fun (v32 : Nat) =>
        mbnd (gI 11 16 66) fun (v33 : Int32) =>
        mbnd (stI 0 v32 (Int32.ofNat t + 3) v33) fun _ =>
        mret (1 : Int32)
      ) else (
        mbnd (mRC 8 66) fun (v34 : Int32) =>
        if v34 = 0 then (
          mret 0
        ) else (
          mbnd (gR 11 1 66) fun (v36 : Nat) =>
          mbnd (gI 11 16 66) fun (v37 : Int32) =>
          mbnd (stI 0 v36 (Int32.ofNat t + 3) v37) fun _ =>
          mret 1
        )
      )) m6 v Q → NRun (mX12_readLine 66 0 (Int32.ofNat Ls.length)) sm v Q := fun hv ⟨m7, z1, z2, z3⟩ => by
        refine rpre hv ⟨m7, ?_, z2, p26.trans z3⟩
        refine (bnd_ok (show mX12_figures 66 0 (Int32.ofNat hh) 3 m2 = _ from f3)).trans ?_
        rw [ea1, bnd_ok f4, bnd_ok (w_ref D4), bnd_ok l4', if_pos (ge_ofN (by omega)), bnd_ok (w_ref D4), bnd_ok (show gI 11 16 66 m4 = some (.inl (Int32.ofNat (psize Ls)), m4) from gI_ok D4.1 rfl), ea2, bnd_ok f5, bnd_ok (show pI 11 13 66 0 m5 = _ from f6)]
        exact z1
      -- the line, once its items are known
      have fin : ∀ {s8 m8 : aS} {k' : Nat} {Q : List It} {nu' : Int32}, LS0 s8 n B c0 k' (codeL Ls ++ [q] ++ [u] ++ Q.length :: Q.map encI) nu' li fa → (∃ W i b, i ≤ n ∧ nxt B n i = tb B n k' ∧ Mdl m8 66 (mcur (mw (mnm M (Int32.ofNat (itemsL Ls ++ Q).length) (Int32.ofNat 0)) W) i b) ∧ Its W (itemsL Ls ++ Q) ∧ (∀ j, j < 1969 → j ≠ t + 3 → W j = W3 j) ∧ W (t + 3) = Int32.ofNat (itemsL Ls ++ Q).length) → LS0 s8 n B c0 k' (codeL (Ls ++ [(q, u, Q)])) nu' li fa ∧ RLn m8 M n B Wb (Ls ++ [(q, u, Q)]) k' := by
        intro s8 m8 k' Q nu' L8 ⟨W8, i8, b8, hi8, hx8, D8, hI8, hw8, hw8t⟩
        have lQ : (itemsL Ls ++ Q).length = psize Ls + Q.length := by rw [List.length_append, ps]
        have eC : codeL (Ls ++ [(q, u, Q)]) = codeL Ls ++ [q] ++ [u] ++ Q.length :: Q.map encI := by
          rw [codeL_snoc, List.append_assoc, List.append_assoc]
          rfl
        have eps : psize (Ls ++ [(q, u, Q)]) = (itemsL Ls ++ Q).length := by
          rw [← itemsL_len, itemsL_snoc]
        refine ⟨by rw [eC]; exact L8, W8, Int32.ofNat 0, i8, b8, hi8, hx8, by rw [eps]; exact D8, by rw [itemsL_snoc]; exact hI8, ?_, fun j hj => ?_⟩
        · refine hH1.snoc (q, u, Q) (fun j hj => ?_) ?_ ?_ ?_ ?_
          · rw [ht] at hj
            exact (hw8 j (by omega) (by omega)).trans (eW j (by omega) (by omega) (by omega))
          · rw [ht]
            exact (hw8 t (by omega) (by omega)).trans eW0
          · rw [ht]
            exact (hw8 (t + 1) (by omega) (by omega)).trans eW1
          · rw [ht]
            exact (hw8 (t + 2) (by omega) (by omega)).trans eW2
          · rw [ht, hw8t, lQ]
        · exact (hw8 j (by omega) (by omega)).trans ((eW j (by omega) (by omega) (by omega)).trans (hW1 j hj))
      have bad8 : ∀ {m8 : aS} {z : Nat}, RBad m8 M W3 z → RBd m8 M Wb z := fun ⟨W8, st, dq, i8, D8, h8⟩ => ⟨W8, st, dq, i8, D8, fun j hj => (h8 j (by omega)).trans ((eW j (by omega) (by omega) (by omega)).trans (hW1 j hj))⟩
      by_cases hif : thing B n (tb B n (k + 1 + 1)) = Int32.ofNat (300 + 16)
      · -- with a condition
        have hlt2 := (word_next hb hif (by decide)).1
        have hk3 := L6.more hlt2
        have hst2 := tb_step hlt2
        obtain ⟨m7, f7, ⟨i7, hi7, hx7, R7⟩, p7⟩ := (H6.passes TB tx_if (j := 16) rfl).1 hif
        have H7 : RSt m7 M n B W3 (itemsL Ls) 0 (k + 1 + 1 + 1) := ⟨i7, _, hi7, hx7, R7⟩
        rcases cond_both TB L6 hk3 H7 (by omega) (by omega) with ⟨z, ⟨s8, e8, L8, o8⟩, ⟨m8, f8, R8, p8⟩⟩ | ⟨k', Q, nu', ⟨s8, e8, L8, o8⟩, ⟨m8, f8, H8, p8⟩, hk', hQ, hok, hty⟩
        · refine Or.inl ⟨z, cpr2 ⟨s8, ?_, L8, o8⟩, rpr2 (Or.inl rfl) ⟨m8, ?_, bad8 R8, p7.trans p8⟩⟩
          · rw [if_pos (show thing B n (tb B n (k + 1 + 1)) = 316 from hif), bnd_ok e8, if_pos rfl]
            rfl
          · rw [bnd_ok f7, if_neg (show ¬ (1 : Int32) = 0 by decide), bnd_ok f8, if_pos rfl]
            rfl
        · have eL8 : codeL Ls ++ [q] ++ [u] ++ [0] ++ Q.map encI = codeL Ls ++ [q] ++ [u] ++ 0 :: Q.map encI := List.append_assoc _ _ _
          rw [eL8] at L8
          obtain ⟨s9, e9, L9, o9⟩ := L8.close
          rw [List.length_map] at L9
          obtain ⟨i8, b8, hi8, hx8, W8, D8, hI8, hw8⟩ := H8
          obtain ⟨m9, f9, D9, p9⟩ := w_put D8 (j := t + 3) (by omega) (Int32.ofNat (itemsL Ls ++ Q).length)
          have F := fin L9 (m8 := m9) ⟨_, i8, b8, hi8, hx8, D9, fun j it hj => by
            have z := hI8 j it hj
            exact ⟨(if_neg (by omega)).trans z.1, fun y => (if_neg (by omega)).trans (z.2 y)⟩, fun j hj hne => (if_neg hne).trans (hw8 j hj), if_pos rfl⟩
          refine Or.inr ⟨k', (q, u, Q), nu', cpr2 ⟨s9, ?_, F.1, o8.trans o9⟩, rpr2 (Or.inr rfl) ⟨m9, ?_, F.2, p7.trans (p8.trans p9)⟩, by omega, ?_, show q ≤ 3 by omega, hu9, hok, Or.inr hty⟩
          · rw [if_pos (show thing B n (tb B n (k + 1 + 1)) = 316 from hif), bnd_ok e8, if_neg (show ¬ (1 : Int32) = 0 by decide)]
            exact e9
          · rw [bnd_ok f7, if_neg (show ¬ (1 : Int32) = 0 by decide), bnd_ok f8, if_neg (show ¬ (1 : Int32) = 0 by decide), bnd_ok (w_ref D8), bnd_ok (show gI 11 16 66 m8 = some (.inl (Int32.ofNat (itemsL Ls ++ Q).length), m8) from gI_ok D8.1 rfl), ea3, bnd_ok f9]
            rfl
          · rw [codeL_snoc, List.length_append]
            show _ + ((Q.map encI).length + 1 + 1 + 1) ≤ _
            rw [List.length_map]
            omega
      · -- without one
        obtain ⟨m7, f7, R7, p7⟩ := (H6.passes TB tx_if (j := 16) rfl).2 hif
        obtain ⟨W8, D8, hI8, hw8⟩ := id R7
        obtain ⟨s9, e9, L9, o9⟩ := LS0.close (A := codeL Ls ++ [q] ++ [u]) (D := []) L6
        obtain ⟨m9, f9, D9, p9⟩ := w_put D8 (j := t + 3) (by omega) (Int32.ofNat (itemsL Ls).length)
        have F := fin (Q := []) L9 (m8 := m9) ⟨_, _, _, tb_le B n _, tb_nxt B n _, by rw [List.append_nil]; exact D9, fun j it hj => by
          rw [List.append_nil] at hj
          have z := hI8 j it hj
          exact ⟨(if_neg (by omega)).trans z.1, fun y => (if_neg (by omega)).trans (z.2 y)⟩, fun j hj hne => (if_neg hne).trans (hw8 j hj), by rw [List.append_nil]; exact if_pos rfl⟩
        refine Or.inr ⟨k + 1 + 1, (q, u, []), _, cpr2 ⟨s9, ?_, F.1, o9⟩, rpr2 (Or.inr rfl) ⟨m9, ?_, F.2, p7.trans p9⟩, by omega, ?_, show q ≤ 3 by omega, hu9, fun i hi => (List.not_mem_nil hi).elim, Or.inl rfl⟩
        · rw [if_neg (show ¬ thing B n (tb B n (k + 1 + 1)) = 316 from hif)]
          exact e9
        · rw [bnd_ok f7, if_pos rfl, bnd_ok (w_ref D8), bnd_ok (show gI 11 16 66 m7 = some (.inl (Int32.ofNat (itemsL Ls).length), m7) from gI_ok D8.1 rfl), ea3, bnd_ok f9]
          rfl
        · rw [codeL_snoc, List.length_append]
          show _ + (0 + 1 + 1 + 1) ≤ _
          omega
  · -- no kind
    obtain ⟨s1, e1, L1, o1⟩ := L.wrong
    refine Or.inl ⟨tb B n k, ⟨s1, ?_, L1, o1⟩, pre (Or.inl rfl) (fun kd hkd => ?_) (-1) (kc.2 hnk)⟩
    · unfold mX5_readLine
      rw [L.oC, bnd_ok L.g7, mret_mbnd]
      rcases hcl2 with h | ⟨h, h2⟩
      · rw [if_pos h]
        exact e1
      · rw [if_neg h, if_neg h2]
        exact e1
    · have ek : kd = -1 := (Sum.inl.inj (congrArg Prod.fst (Option.some.inj (hkd.symm.trans (kc.2 hnk)))))
      subst ek
      refine NRun.bnd ((w_put D1 (j := t) (by omega) (-1)).toN fun s' D' => D') fun m4 D4 => NRun.get (w_ref D4) (NRun.get (w_ld D4 (j := t) (by omega)) ?_)
      rw [show upd W1 t (-1) t = -1 from if_pos rfl, if_neg (show ¬ (0 : Int32) ≤ -1 by decide)]
      exact NRun.ret ⟨_, _, _, _, D4, fun j hj => (if_neg (by omega)).trans (hW1 j hj)⟩
end LL2
