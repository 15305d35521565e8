/-! CALLS THAT ASK THE LAW: rule, after; GUILT that goes over -/
def EnvL (s : aS) (f : Int32) (K : CK) (M : MK) (LW : Option (List Ln)) (c : Nat) : Prop := Env s f K M c ∧ CL s f K LW ∧ LawR (M.2 1) LW
/-- what a deed adds by sort k -/
def wG (W : Nat → Int32) (LW : Option (List Ln)) (t : Nat) (harm hard master : Int32) (k : Nat) : Int32 := if 0 ≤ W (141 + 4 * t + k) then wGain W LW (W (141 + 4 * t + k)).toNatClampNeg harm hard master else 0
def accG (W : Nat → Int32) (LW : Option (List Ln)) (t : Nat) (harm hard master : Int32) : Nat → Int32
  | 0 => wans W t
  | k + 1 => accG W LW t harm hard master k + wG W LW t harm hard master k
theorem isN1 {x : Int32} (h : isN x 1) : x = 0 ∨ x = 1 := by
  obtain ⟨n, h1, rfl⟩ := h
  have : n = 0 ∨ n = 1 := by omega
  rcases this with rfl | rfl
  · exact Or.inl rfl
  · exact Or.inr rfl
theorem le0_ofN {p : Nat} (hp : p < 2 ^ 31) : (0 : Int32) ≤ Int32.ofNat p := (ofN_le (n := 0) (m := p) (by decide) hp).mpr (Nat.zero_le p)
theorem ofN_ne1 {p : Nat} (hp : p < 2 ^ 31) : ¬ Int32.ofNat p = -1 := fun q => by
  have := le0_ofN hp
  rw [q] at this
  exact absurd this (by decide)
section AF
variable {s : aS} {f : Int32} {K : CK} {M : MK} {W : Nat → Int32} {LW : Option (List Ln)} {c : Nat} {x y z u : Int32}
/-- a tool's place: nothing, or a part that there is -/
theorem slot_or (hk : kOk K) (hw : wOk K W c) {t k : Nat} (ht : t < K.1 1) (h3 : k < 3) : W (141 + 4 * t + k) = -1 ∨ ∃ p, p < K.1 0 ∧ p < 16 ∧ W (141 + 4 * t + k) = Int32.ofNat p ∧ (W (13 + 8 * p + 4) = 0 ∨ W (13 + 8 * p + 4) = 1) ∧ W (13 + 8 * p) = Int32.ofNat k ∧ W (13 + 8 * p + 6) = Int32.ofNat t := by
  have hb : K.1 0 ≤ 16 := hk 0 (by decide)
  rcases hw.2.1 t ht k h3 with h | ⟨p, hp, h, h5, h6⟩
  · exact Or.inl h
  · exact Or.inr ⟨p, hp, by omega, h, isN1 (hw.1 p hp).2.2.2.2.1, h5, h6⟩
theorem hOk_of (S : Sm K W) (hk : kOk K) (hw : wOk K W c) {t : Nat} (ht : t < K.1 1) : hOk K (Int32.ofNat t) := fun k h3 => by
  have cs := Sm.cols S hk
  rw [cs.2.2.2.2.2.2.2.2.2.2.2.2.2.1 t k ht (by omega)]
  rcases slot_or hk hw ht h3 with h | ⟨p, hp, -, h, h1, -⟩
  · exact Or.inr (Or.inr h)
  · rw [h, cs.2.2.2.2.1 p hp]
    exact h1.imp id Or.inl
theorem hVal_same (S : Sm K W) (hk : kOk K) (hw : wOk K W c) {t k : Nat} (ht : t < K.1 1) (h3 : k < 3) (harm hard master : Int32) (w : Nat) : hVal K LW (Int32.ofNat t) harm hard master w k = if 0 ≤ W (141 + 4 * t + k) then lawTot LW (fRow W (W (141 + 4 * t + k)).toNatClampNeg harm hard master) w else 0 := by
  have cs := Sm.cols S hk
  unfold hVal
  rw [cs.2.2.2.2.2.2.2.2.2.2.2.2.2.1 t k ht (by omega)]
  rcases slot_or hk hw ht h3 with h | ⟨p, hp, hp16, h, -⟩
  · rw [h, if_pos rfl, if_neg (by decide)]
  · rw [h, if_neg (ofN_ne1 (by omega)), if_pos (le0_ofN (by omega)), ofN_cl (by omega)]
    exact lawTot_congr (row_same S hk hp harm hard master) LW w
theorem hG_same (S : Sm K W) (hk : kOk K) (hw : wOk K W c) {t k : Nat} (ht : t < K.1 1) (h3 : k < 3) (harm hard master : Int32) : hGain harm (hVal K LW (Int32.ofNat t) harm hard master 0 k) (hVal K LW (Int32.ofNat t) harm hard master 1 k) = wG W LW t harm hard master k := by
  rw [hVal_same S hk hw ht h3, hVal_same S hk hw ht h3]
  unfold wG wGain
  by_cases h : 0 ≤ W (141 + 4 * t + k)
  · rw [if_pos h, if_pos h, if_pos h]
  · rw [if_neg h, if_neg h, if_neg h, hGain_0]
/-- the reference's sum -/
theorem m_would (C : Mdl s 66 M) (L : LawR (M.2 1) LW) (ok : LWok LW) (hk : kOk K) (hw : wOk K (M.2 1) c) {t : Nat} (ht : t < K.1 1) : QX I3 (mX12_wouldAnswer 66 (Int32.ofNat t) z x y) s M (accG (M.2 1) LW t x y z 3) := by
  have hb1 : K.1 1 ≤ 6 := hk 1 (by decide)
  unfold mX12_wouldAnswer
  obtain ⟨s1, M1, a1, a2, a3, a4, a5, a6, a7, a8⟩ := deed_told C z x y
  have W1 : M1.2 1 = M.2 1 := a4.1
  have hto : toolOk (M1.2 1) t := by rw [W1]; exact (hw.2.1 t ht).ok hk
  have key : QX I5 (loopM (mX12_wouldAnswer_L18 66 (Int32.ofNat t)) (accG (M.2 1) LW t x y z 0, Int32.ofNat 0)) s1 M1 (accG (M.2 1) LW t x y z 3) := by
    refine QX.loop 3 (fun j => (accG (M.2 1) LW t x y z j, Int32.ofNat j)) (fun j hj s' M' C' k' i' => ?_) (fun s' M' C' k' i' => QX.val C' rfl) a2
    have W' : M'.2 1 = M.2 1 := k'.1.trans W1
    have n3 : ¬ (3 : Int32) ≤ Int32.ofNat j := nle (n := 3) hj (by decide)
    have r := (MD.cols C').2.2.2.2.2.2.2.2.2.2.2.2.2.1 t j (by omega) (by omega)
    show QX I5 (mX12_wouldAnswer_L18 66 (Int32.ofNat t) (accG (M.2 1) LW t x y z j, Int32.ofNat j)) s' M' (.inl (accG (M.2 1) LW t x y z (j + 1), Int32.ofNat (j + 1)))
    unfold mX12_wouldAnswer_L18
    rw [if_neg n3]
    refine QX.get r ?_
    have e : accG (M.2 1) LW t x y z (j + 1) = accG (M.2 1) LW t x y z j + wG (M.2 1) LW t x y z j := rfl
    rw [e, ← ofN_succ]
    unfold wG
    rw [W'] at r ⊢
    rcases slot_or hk hw ht hj with h | ⟨p, hp, hp16, h, h9, -⟩
    · rw [h, if_neg (by decide), if_neg (by decide)]
      exact QX.get (x := 0) rfl (QX.get (x := _) rfl (QX.ret C'))
    · rw [h, if_pos (le0_ofN (by omega)), if_pos (le0_ofN (by omega)), ofN_cl (by omega)]
      refine QX.bnd (QX.get r ?_) fun s2 M2 C2 k2 i2 => QX.get (x := _) rfl (QX.ret C2)
      rw [h]
      have L' : LawR (M'.2 1) LW := by rw [W']; exact L
      have g := QX.gain C' L' ok (p := p) (by omega) (by rw [W']; exact h9) (harm := x) (hard := y) (master := z) ((i' 18 (by unfold I5; omega)).trans a6) ((i' 19 (by unfold I5; omega)).trans a7) ((i' 20 (by unfold I5; omega)).trans a8)
      rw [W'] at g
      exact QX.bnd g fun s3 M3 C3 _ _ => QX.ret C3
  obtain ⟨s2, M2, b1, b2, b3, b4, b5⟩ := key
  refine ⟨s2, M2, ?_, b2, a3.trans b3, a4.tr b4, fun k hk => (b5 k (by rcases hk with rfl | rfl | rfl <;> unfold I5 <;> omega)).trans (a5 k hk)⟩
  have ha : mX12_answered 66 (Int32.ofNat t) s1 = some (.inl (wans (M.2 1) t), s1) := by
    have := m_answered_run a2 (t := t) (by omega) hto
    rwa [W1] at this
  rw [onC_ok C.1, bnd_ok a1, bnd_ok ha]
  exact (bnd_ok b1).trans rfl
theorem m_over (C : Mdl s 66 M) (L : LawR (M.2 1) LW) (ok : LWok LW) {p : Nat} (hp : p < 300) (hg : isN (M.2 1 (13 + 8 * p + 3)) 179820) (h9 : M.2 1 (13 + 8 * p + 4) = 0 ∨ M.2 1 (13 + 8 * p + 4) = 1) : QX I3 (mX12_goesOver 66 (Int32.ofNat p)) s M (wOver (M.2 1) LW p) := by
  unfold mX12_goesOver
  refine QX.o11 C (QX.get ((MD.cols C).2.2.2.1 p hp) (QX.bnd (QX.heirs C L ok hp h9) fun s1 M1 C1 _ _ => ?_))
  rw [long_over hg (lawTot_nn ok _ 2)]
  exact QX.ret C1
theorem c_over (S : Sm K W) (hk : kOk K) (hw : wOk K W c) {p : Nat} (hp : p < K.1 0) : SR f K LW (mX2_inherited 3 28 (Int32.ofNat p)) (wOver W LW p) := by
  have cs := Sm.cols S hk
  have h := inherited_run (f := f) (K := K) (LW := LW) (x := Int32.ofNat p) (by
    rw [cs.2.2.2.2.1 p hp]
    exact isN1 (hw.1 p hp).2.2.2.2.1)
  rw [lawTot_congr (row_same S hk hp 0 0 0) LW 2, kguilt_in S hk hp] at h
  exact h
theorem ag_rule (E : EnvL s f K M LW c) : Ag K.2.2.2 (mX11_rule 0 x y) (mX12_rule 66 x y) s M [(2, 1), (3, 2)] := by
  obtain ⟨⟨C, -, S, hk, hw, hc⟩, CLs, LR⟩ := E
  have hb : K.1 0 ≤ 16 := hk 0 (by decide)
  rcases rg_or (K.1 0) (by omega) x with h | ⟨p, hp, rfl⟩
  · refine Or.inr ⟨2, 1, 0, ?_, rfl, one_ne0, fun s' D' => ?_⟩
    · unfold mX11_rule
      rw [onC_ok C.1, bnd_ex (need_part_no C h)]
    · unfold mX12_rule
      exact RQ.start D' fun s1 D1 => RQ.get (noPart_no D1 S.1.1 (by omega) h) (RQ.thr D1 1 fun _ => rfl)
  · rcases rg_or 4 (by decide) y with h | ⟨w, hw4, rfl⟩
    · refine Or.inr ⟨3, 2, 0, ?_, rfl, by decide, fun s' D' => ?_⟩
      · unfold mX11_rule
        rw [onC_ok C.1, bnd_ok (need_part_ok C hk hp), bnd_ex (show mX11_needWhat y 4 s = _ from (need_what s y 4).1 h)]
      · unfold mX12_rule
        refine RQ.start D' fun s1 D1 => RQ.get (noPart_in D1 S.1.1 (by omega) hp) (RQ.get (thr_no D1 1) ?_)
        have h3 : y < 0 ∨ 3 < y := h.imp id fun q => by
          rw [i32_lt]
          have := Int32.le_iff_toInt_le.mp q
          have e4 : (Int32.ofNat 4).toInt = 4 := rfl
          have e3 : (3 : Int32).toInt = 3 := rfl
          omega
        rw [if_pos rfl]
        refine RQ.get (in_app y 0 3 s1) ?_
        rw [if_pos h3, if_pos rfl, mret_mbnd]
        exact RQ.thr D1 2 fun _ => rfl
    · have hnr : ¬ rg 4 (Int32.ofNat w) := rg_in hw4 (by decide)
      obtain ⟨s1, a1, a2⟩ := told_run (f := f) (K := K) (LW := LW) (x := Int32.ofNat p) (w := w) (by omega) (by
        rw [(Sm.cols S hk).2.2.2.2.1 p hp]
        exact isN1 (hw.1 p hp).2.2.2.2.1) s CLs
      rw [lawTot_congr (row_same S hk hp 0 0 0) LW w] at a1
      refine Or.inl ⟨lawTot LW (fRow (M.2 1) p 0 0 0) w, s1, ?_, a2, fun s' D' => ?_⟩
      · unfold mX11_rule
        rw [onC_ok C.1, bnd_ok (need_part_ok C hk hp), bnd_ok (show mX11_needWhat (Int32.ofNat w) 4 s = _ from (need_what s (Int32.ofNat w) 4).2 hnr), bnd_ok (show gR 10 3 0 s = some (.inl 3, s) from gR_ok C.1 rfl), bnd_ok (show gR 10 7 0 s = some (.inl 28, s) from gR_ok C.1 rfl), bnd_ok a1]
        rfl
      · unfold mX12_rule
        refine RQ.start D' fun s2 D1 => RQ.get (noPart_in D1 S.1.1 (by omega) hp) (RQ.get (thr_no D1 1) ?_)
        have h3 : ¬ (Int32.ofNat w < 0 ∨ 3 < Int32.ofNat w) := fun q => q.elim (ofN_nn (by omega)) fun q => absurd ((ofN_lt (n := 3) (m := w) (by decide) (by omega)).mp q) (by omega)
        rw [if_pos rfl]
        refine RQ.get (in_app _ 0 3 s2) ?_
        rw [if_neg h3, if_neg one_ne0, mret_mbnd]
        refine RQ.get (thr_no D1 2) ?_
        rw [if_pos rfl]
        unfold mX12_ofNoDeed
        obtain ⟨s3, M3, b1, b2, b3, b4, b5, b6, b7, b8⟩ := deed_told D1 0 0 0
        have L3 : LawR (M3.2 1) LW := by rw [b4.1]; exact LR
        have g := QX.says b2 L3 CLs.2.2.2.2 (p := p) (by omega) (by rw [b4.1]; exact isN1 (hw.1 p hp).2.2.2.2.1) (w := w) (by omega)
        have r1 : mF9 M3 p = fRow (M.2 1) p 0 0 0 := by
          show fRow (M3.2 1) p (M3.1 18) (M3.1 19) (M3.1 20) = _
          rw [b4.1, b6, b7, b8]
          rfl
        rw [r1] at g
        refine RQ.step ((onC_ok D1.1).trans ((bnd_ok b1).trans rfl)) b3 b4 ?_
        have g2 : QX I5 (mbnd (mX12_says 66 (Int32.ofNat w) (Int32.ofNat p)) fun v11 => mret v11) s3 M3 (lawTot LW (fRow (M.2 1) p 0 0 0) w) := QX.bnd g fun _ _ C9 _ _ => QX.ret C9
        exact g2.rq (Or.inl rfl) (b5 0 (Or.inl rfl))
end AF
