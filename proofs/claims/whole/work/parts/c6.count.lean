/-! CALLS THAT ASK: count, fault -/
section CT
variable {s : aS} {f : Int32} {K : CK} {M : MK} {LW : Option (List Ln)} {c : Nat} {x : Int32}
theorem law_count (L : LawC s K.2.2.2 LW) (R : LawR (M.2 1) LW) : gI 4 0 K.2.2.2 s = some (.inl (if M.2 1 4 = 1 then M.2 1 1071 else -1), s) := by
  cases LW with
  | none =>
    obtain ⟨code, a, b⟩ := L
    have h : M.2 1 4 = 0 := R
    rw [h, if_neg (by decide)]
    exact gI_ok a rfl
  | some LL =>
    obtain ⟨code, ⟨a, b⟩, d⟩ := L
    obtain ⟨h, h1, h2⟩ := R
    rw [if_pos h, h1]
    exact gI_ok a rfl
theorem spares_same {W : Nat → Int32} (S : Sm K W) (hk : kOk K) (hw : wOk K W c) : kspares K = wspares W (K.1 0) := by
  have hb : K.1 0 ≤ 16 := hk 0 (by decide)
  have hb1 : K.1 1 ≤ 6 := hk 1 (by decide)
  have key : ∀ n, n ≤ K.1 0 → orI (fun p => if kget K 0 (Int32.ofNat p) 6 = -1 then 1 <<< (Int32.ofNat p &&& (31 : Int32)) else 0) n = orI (fun p => if 0 ≤ W (13 + 8 * p + 6) then 0 else 1 <<< (Int32.ofNat p &&& (31 : Int32))) n := by
    intro n
    induction n with
    | zero => intro _; rfl
    | succ n ih =>
      intro hn
      show orI _ n ||| (if kget K 0 (Int32.ofNat n) 6 = -1 then _ else _) = orI _ n ||| (if 0 ≤ W (13 + 8 * n + 6) then _ else _)
      rw [ih (by omega), (Sm.cols S hk).2.2.2.2.2.2.1 n (by omega)]
      rcases (hw.1 n (by omega)).2.2.2.2.2.2 with h | ⟨t, ht, h, -⟩
      · rw [h, if_pos rfl, if_neg (by decide)]
      · rw [h, if_neg (ofN_ne1 (by omega)), if_pos (le0_ofN (by omega))]
  exact key _ (Nat.le_refl _)
theorem guiltAll_same {W : Nat → Int32} (S : Sm K W) (hk : kOk K) : kguiltAll K = wguiltAll W (K.1 0) := by
  have key : ∀ n, n ≤ K.1 0 → sumI (fun p => kguilt K (Int32.ofNat p)) n = sumI (fun p => W (13 + 8 * p + 3)) n := by
    intro n
    induction n with
    | zero => intro _; rfl
    | succ n ih =>
      intro hn
      show sumI _ n + kguilt K (Int32.ofNat n) = sumI _ n + W (13 + 8 * n + 3)
      rw [ih (by omega), kguilt_in S hk (by omega)]
  exact key _ (Nat.le_refl _)
def wcount (W : Nat → Int32) (n : Nat) (held x : Int32) : Int32 := if x = 4 then (if W 4 = 1 then W 1071 else -1) else if x = 9 then wspares W n else if x = 10 then wguiltAll W n else if x = 11 then W 9 else if x = 12 then W 10 else if x = 13 then held else if x = 14 then W 11 else if x < 0 ∨ 8 < x then -1 else W x.toNatClampNeg
theorem cnt_or (x : Int32) : (x < 0 ∨ 14 < x) ∨ x = 0 ∨ x = 1 ∨ x = 2 ∨ x = 3 ∨ x = 4 ∨ x = 5 ∨ x = 6 ∨ x = 7 ∨ x = 8 ∨ x = 9 ∨ x = 10 ∨ x = 11 ∨ x = 12 ∨ x = 13 ∨ x = 14 := by
  rcases rg_or 15 (by decide) x with h | ⟨p, hp, rfl⟩
  · refine Or.inl (h.imp id fun q => ?_)
    have h2 := Int32.le_iff_toInt_le.mp q
    rw [i32_lt]
    have e4 : (Int32.ofNat 15).toInt = 15 := rfl
    have e3 : (14 : Int32).toInt = 14 := rfl
    omega
  · have : p = 0 ∨ p = 1 ∨ p = 2 ∨ p = 3 ∨ p = 4 ∨ p = 5 ∨ p = 6 ∨ p = 7 ∨ p = 8 ∨ p = 9 ∨ p = 10 ∨ p = 11 ∨ p = 12 ∨ p = 13 ∨ p = 14 := by omega
    rcases this with rfl | rfl | rfl | rfl | rfl | rfl | rfl | rfl | rfl | rfl | rfl | rfl | rfl | rfl | rfl <;> simp
theorem ag_count (E : EnvL s f K M LW c) (hm : gI 6 2 23 s = some (.inl (M.1 7), s)) : Ag K.2.2.2 (mX11_count 0 x) (mX12_count 66 x) s M [] := by
  obtain ⟨⟨C, -, S, hk, hw, hc⟩, CLs, LR⟩ := E
  have hb : K.1 0 ≤ 16 := hk 0 (by decide)
  have ci := Sm.ints S
  have cc := Sm.counts S
  have hlaw := law_count CLs.2.2.1 LR
  refine Or.inl ⟨wcount (M.2 1) (K.1 0) (M.1 7) x, s, ?_, ScR.rf, fun s' D' => ?_⟩
  · unfold mX11_count
    rw [onC_ok C.1]
    rcases cnt_or x with h | h | h | h | h | h | h | h | h | h | h | h | h | h | h | h
    · have ne : ∀ k : Int32, 0 ≤ k → k ≤ 14 → ¬ x = k := fun k h1 h2 e => by
        subst e
        exact h.elim (fun q => absurd h1 (Int32.not_le.mpr q)) (fun q => absurd h2 (Int32.not_le.mpr q))
      have n9 : x < 0 ∨ 8 < x := h.imp id fun q => Int32.lt_trans (by decide) q
      unfold wcount
      iterate 15 rw [if_neg (ne _ (by decide) (by decide))]
      iterate 7 rw [if_neg (ne _ (by decide) (by decide))]
      rw [if_pos n9]
      rfl
    · subst h
      rw [if_pos rfl]
      simp only [mbnd_app, kx_in, CC.all C, mret_app, ← cc.1]
      rfl
    · subst h
      iterate 1 rw [if_neg (by decide)]
      rw [if_pos rfl]
      simp only [mbnd_app, kx_in, CC.all C, mret_app, ← cc.2.1]
      rfl
    · subst h
      iterate 2 rw [if_neg (by decide)]
      rw [if_pos rfl]
      simp only [mbnd_app, kx_in, CC.all C, mret_app, ← cc.2.2.1]
      rfl
    · subst h
      iterate 3 rw [if_neg (by decide)]
      rw [if_pos rfl]
      simp only [mbnd_app, kx_in, CC.all C, mret_app, ci.1]
      rfl
    · subst h
      iterate 4 rw [if_neg (by decide)]
      rw [if_pos rfl]
      simp only [mbnd_app, kx_in, CC.all C, hlaw, mret_app]
      rfl
    · subst h
      iterate 5 rw [if_neg (by decide)]
      rw [if_pos rfl]
      simp only [mbnd_app, kx_in, CC.all C, mret_app, ci.2.1]
      rfl
    · subst h
      iterate 6 rw [if_neg (by decide)]
      rw [if_pos rfl]
      simp only [mbnd_app, kx_in, CC.all C, mret_app, ← cc.2.2.2.1]
      rfl
    · subst h
      iterate 7 rw [if_neg (by decide)]
      rw [if_pos rfl]
      simp only [mbnd_app, kx_in, CC.all C, mret_app, ci.2.2.2.1]
      rfl
    · subst h
      iterate 8 rw [if_neg (by decide)]
      rw [if_pos rfl]
      simp only [mbnd_app, kx_in, CC.all C, mret_app, ci.2.2.1]
      rfl
    · subst h
      iterate 9 rw [if_neg (by decide)]
      rw [if_pos rfl]
      simp only [mbnd_app, kx_in, CC.all C, spares_same S hk hw, mret_app]
      rfl
    · subst h
      iterate 10 rw [if_neg (by decide)]
      rw [if_pos rfl]
      simp only [mbnd_app, kx_in, CC.all C, guiltAll_same S hk, mret_app]
      rfl
    · subst h
      iterate 11 rw [if_neg (by decide)]
      rw [if_pos rfl]
      simp only [mbnd_app, kx_in, CC.all C, mret_app, ci.2.2.2.2.2]
      rfl
    · subst h
      iterate 12 rw [if_neg (by decide)]
      rw [if_pos rfl]
      simp only [mbnd_app, kx_in, CC.all C, mret_app, ← cc.2.2.2.2.1]
      rfl
    · subst h
      iterate 13 rw [if_neg (by decide)]
      rw [if_pos rfl]
      simp only [mbnd_app, kx_in, CC.all C, hm, mret_app]
      rfl
    · subst h
      iterate 14 rw [if_neg (by decide)]
      rw [if_pos rfl]
      simp only [mbnd_app, kx_in, CC.all C, mret_app, ← cc.2.2.2.2.2]
      rfl
  · unfold mX12_count
    refine RQ.start D' fun s1 D1 => RQ.val D1 ?_ rfl
    have wl := MD.wl D1
    have i8 : ∀ k : Nat, k ≤ 8 → mX12_in (Int32.ofNat k) 0 8 s1 = some (.inl 1, s1) := fun k hk8 => by
      rw [in_app, if_neg (show ¬ (Int32.ofNat k < 0 ∨ 8 < Int32.ofNat k) from fun q => q.elim (ofN_nn (by omega)) fun q => absurd ((ofN_lt (n := 8) (by decide) (by omega)).mp q) (by omega))]
    have body8 : ∀ k : Nat, k ≤ 8 → (mbnd (mX12_in (Int32.ofNat k) 0 8) fun (v42 : Int32) => if v42 = 0 then (mret (-1)) else (mbnd (gR 11 1 66) fun (v44 : Nat) => mbnd (ldI 0 v44 (Int32.ofNat k)) fun (v45 : Int32) => (mret v45 : MM Int32))) s1 = some (.inl (M.2 1 k), s1) := fun k h8 => by
      rw [bnd_ok (i8 k h8), if_neg one_ne0, bnd_ok (MD.refs D1).2.1, bnd_ok (wl.1 k (by omega))]
      rfl
    rcases cnt_or x with h | h | h | h | h | h | h | h | h | h | h | h | h | h | h | h
    · have ne : ∀ k : Int32, 0 ≤ k → k ≤ 14 → ¬ x = k := fun k h1 h2 e => by
        subst e
        exact h.elim (fun q => absurd h1 (Int32.not_le.mpr q)) (fun q => absurd h2 (Int32.not_le.mpr q))
      have n9 : x < 0 ∨ 8 < x := h.imp id fun q => Int32.lt_trans (by decide) q
      unfold wcount
      iterate 18 rw [if_neg (ne _ (by decide) (by decide))]
      rw [if_pos n9, bnd_ok (in_app x 0 8 s1), if_pos n9, if_pos rfl]
      rfl
    · subst h
      iterate 11 rw [if_neg (by decide)]
      exact (body8 0 (by decide)).trans rfl
    · subst h
      iterate 11 rw [if_neg (by decide)]
      exact (body8 1 (by decide)).trans rfl
    · subst h
      iterate 11 rw [if_neg (by decide)]
      exact (body8 2 (by decide)).trans rfl
    · subst h
      iterate 11 rw [if_neg (by decide)]
      exact (body8 3 (by decide)).trans rfl
    · subst h
      rw [if_pos rfl]
      rw [bnd_ok (MD.refs D1).2.1, bnd_ok (show ldI 0 67 4 s1 = _ from wl.1 4 (by decide))]
      show (if M.2 1 4 = 1 then _ else _ : MM Int32) s1 = some (.inl (if M.2 1 4 = 1 then M.2 1 1071 else -1), s1)
      by_cases q : M.2 1 4 = 1
      · rw [if_pos q, if_pos q, bnd_ok (MD.refs D1).2.1, bnd_ok (show ldI 0 67 1071 s1 = _ from wl.1 1071 (by decide))]
        rfl
      · rw [if_neg q, if_neg q]
        rfl
    · subst h
      iterate 1 rw [if_neg (by decide)]
      rw [if_pos rfl]
      exact (body8 5 (by decide)).trans rfl
    · subst h
      iterate 2 rw [if_neg (by decide)]
      rw [if_pos rfl]
      exact (body8 6 (by decide)).trans rfl
    · subst h
      iterate 3 rw [if_neg (by decide)]
      rw [if_pos rfl]
      exact (body8 7 (by decide)).trans rfl
    · subst h
      iterate 4 rw [if_neg (by decide)]
      rw [if_pos rfl]
      exact (body8 8 (by decide)).trans rfl
    · subst h
      iterate 5 rw [if_neg (by decide)]
      rw [if_pos rfl]
      exact (bnd_ok (m_spares D1 S.1.1 hb)).trans rfl
    · subst h
      iterate 6 rw [if_neg (by decide)]
      rw [if_pos rfl]
      exact (bnd_ok (m_guiltAll D1 S.1.1 hb)).trans rfl
    · subst h
      iterate 7 rw [if_neg (by decide)]
      rw [if_pos rfl]
      exact (bnd_ok (MD.refs D1).2.1).trans ((bnd_ok (wl.1 9 (by decide))).trans rfl)
    · subst h
      iterate 8 rw [if_neg (by decide)]
      rw [if_pos rfl]
      exact (bnd_ok (MD.refs D1).2.1).trans ((bnd_ok (wl.1 10 (by decide))).trans rfl)
    · subst h
      iterate 9 rw [if_neg (by decide)]
      rw [if_pos rfl]
      exact (bnd_ok (show gI 11 7 66 s1 = some (.inl (M.1 7), s1) from gI_ok D1.1 rfl)).trans rfl
    · subst h
      iterate 10 rw [if_neg (by decide)]
      rw [if_pos rfl]
      exact (bnd_ok (MD.refs D1).2.1).trans ((bnd_ok (wl.1 11 (by decide))).trans rfl)
theorem ag_fault (E : EnvL s f K M LW c) (hf : f = M.1 14) : Ag K.2.2.2 (mX11_fault 0) (mX12_fault 66) s M [] := by
  obtain ⟨⟨C, -, S, hk, hw, hc⟩, CLs, LR⟩ := E
  refine Or.inl ⟨f, s, ?_, ScR.rf, fun s' D' => ?_⟩
  · unfold mX11_fault
    rw [onC_ok C.1]
    exact (bnd_ok (show gI 10 9 0 s = some (.inl f, s) from gI_ok C.1 rfl)).trans rfl
  · unfold mX12_fault
    rw [hf]
    exact RQ.start D' fun s1 D1 => RQ.val D1 ((bnd_ok (show gI 11 14 66 s1 = some (.inl (M.1 14), s1) from gI_ok D1.1 rfl)).trans rfl) rfl
end CT
