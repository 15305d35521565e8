/-! DEEDS THAT CAN BE DONE: both sides' checks; after -/
def badD (h hd : Int32) : Prop := h < 1 ∨ 999 < h ∨ hd < 0 ∨ 9 < hd
theorem noHarm_run (h hd : Int32) (s : aS) : (badD h hd → mX12_noHarm h hd s = some (.inl 1, s)) ∧ (¬ badD h hd → mX12_noHarm h hd s = some (.inl 0, s)) := by
  unfold mX12_noHarm badD
  rw [bnd_ok (in_app h 1 999 s)]
  by_cases c1 : h < 1 ∨ 999 < h
  · rw [if_pos c1]
    exact ⟨fun _ => rfl, fun q => absurd (c1.elim Or.inl (fun q => Or.inr (Or.inl q))) q⟩
  · rw [if_neg c1, if_neg one_ne0, bnd_ok (in_app hd 0 9 s)]
    by_cases c2 : hd < 0 ∨ 9 < hd
    · rw [if_pos c2]
      exact ⟨fun _ => rfl, fun q => absurd (Or.inr (Or.inr c2)) q⟩
    · rw [if_neg c2]
      exact ⟨fun q => absurd q (fun q => q.elim (fun q => c1 (Or.inl q)) fun q => q.elim (fun q => c1 (Or.inr q)) c2), fun _ => rfl⟩
/-- the reference's checks ahead of a deed -/
noncomputable def preD (x m : Int32) (nh : MM Int32) (k : MM Int32) : MM Int32 :=
  mbnd (mX12_noTool 66 x) fun (v1 : Int32) =>
  mbnd (α := Int32) (
    if v1 = 0 then (
      mbnd (mX12_noMaster 66 m) fun (v6 : Int32) =>
      if v6 = 0 then (
        mret 0
      ) else (
        mret 1
      )
    ) else (
      mret 1
    )
  ) fun (x3 : Int32) =>
  mbnd (mX12_throwsIf 66 x3 1) fun (v8 : Int32) =>
  if v8 = 0 then (
    mbnd nh fun (v10 : Int32) =>
    mbnd (mX12_throwsIf 66 v10 2) fun (v11 : Int32) =>
    if v11 = 0 then (
      mbnd (mX12_inTool 66 x 1) fun (v13 : Int32) =>
      mbnd (α := Int32) (
        if 0 ≤ v13 then (
          mret 0
        ) else (
          mret 1
        )
      ) fun (x15 : Int32) =>
      mbnd (mX12_throwsIf 66 x15 3) fun (v18 : Int32) =>
      if v18 = 0 then k else (
        mret 0
      )
    ) else (
      mret 0
    )
  ) else (
    mret 0
  )
section GD
variable {s : aS} {f : Int32} {K : CK} {M : MK} {LW : Option (List Ln)} {c : Nat} {x m h hd v t0 : Int32} {k nh : MM Int32}
theorem pre_A (D : Mdl s 66 M) (S : Sm K (M.2 1)) (hk : kOk K) (hA : rg (K.1 1) x ∨ rg (K.1 2) m) : RQ (preD x m nh k) s M 0 1 := by
  have hb1 : K.1 1 ≤ 6 := hk 1 (by decide)
  have hb2 : K.1 2 ≤ 6 := hk 2 (by decide)
  unfold preD
  rcases rg_or (K.1 1) (by omega) x with h1 | ⟨t, ht, rfl⟩
  · refine RQ.get (noTool_no D S.1.2.1 (by omega) h1) ?_
    rw [if_neg one_ne0]
    exact RQ.get (w := 1) rfl (RQ.thr D 1 fun _ => rfl)
  · have h2 : rg (K.1 2) m := hA.elim (fun q => absurd q (rg_in ht (by omega))) id
    refine RQ.get (noTool_in D S.1.2.1 (by omega) ht) ?_
    rw [if_pos rfl]
    exact RQ.get (w := 1) ((bnd_ok (noMaster_no D S.1.2.2.1 (by omega) h2)).trans rfl) (RQ.thr D 1 fun _ => rfl)
theorem pre_in (D : Mdl s 66 M) (S : Sm K (M.2 1)) (hk : kOk K) {t u : Nat} (ht : t < K.1 1) (hu : u < K.1 2) (hh : RQ (mbnd nh fun (v10 : Int32) =>
    mbnd (mX12_throwsIf 66 v10 2) fun (v11 : Int32) =>
    if v11 = 0 then (
      mbnd (mX12_inTool 66 (Int32.ofNat t) 1) fun (v13 : Int32) =>
      mbnd (α := Int32) (
        if 0 ≤ v13 then (
          mret 0
        ) else (
          mret 1
        )
      ) fun (x15 : Int32) =>
      mbnd (mX12_throwsIf 66 x15 3) fun (v18 : Int32) =>
      if v18 = 0 then k else (
        mret 0
      )
    ) else (
      mret 0
    )) s M v t0) : RQ (preD (Int32.ofNat t) (Int32.ofNat u) nh k) s M v t0 := by
  have hb1 : K.1 1 ≤ 6 := hk 1 (by decide)
  have hb2 : K.1 2 ≤ 6 := hk 2 (by decide)
  unfold preD
  refine RQ.get (noTool_in D S.1.2.1 (by omega) ht) ?_
  rw [if_pos rfl]
  refine RQ.get (w := 0) ((bnd_ok (noMaster_in D S.1.2.2.1 (by omega) hu)).trans rfl) (RQ.get (thr_no D 1) ?_)
  rw [if_pos rfl]
  exact hh
theorem pre_B (D : Mdl s 66 M) (S : Sm K (M.2 1)) (hk : kOk K) {t u : Nat} (ht : t < K.1 1) (hu : u < K.1 2) (hn : nh s = some (.inl 1, s)) : RQ (preD (Int32.ofNat t) (Int32.ofNat u) nh k) s M 0 2 :=
  pre_in D S hk ht hu (RQ.get hn (RQ.thr D 2 fun _ => rfl))
theorem pre_C (D : Mdl s 66 M) (S : Sm K (M.2 1)) (hk : kOk K) {t u : Nat} (ht : t < K.1 1) (hu : u < K.1 2) (hn : nh s = some (.inl 0, s)) (hh : M.2 1 (141 + 4 * t + 1) = -1) : RQ (preD (Int32.ofNat t) (Int32.ofNat u) nh k) s M 0 3 := by
  have hb1 : K.1 1 ≤ 6 := hk 1 (by decide)
  refine pre_in D S hk ht hu (RQ.get hn (RQ.get (thr_no D 2) ?_))
  rw [if_pos rfl]
  refine RQ.get ((MD.cols D).2.2.2.2.2.2.2.2.2.2.1 t (by omega)) ?_
  rw [hh, if_neg (by decide)]
  exact RQ.get (w := 1) rfl (RQ.thr D 3 fun _ => rfl)
theorem pre_D (D : Mdl s 66 M) (S : Sm K (M.2 1)) (hk : kOk K) {t u p : Nat} (ht : t < K.1 1) (hu : u < K.1 2) (hn : nh s = some (.inl 0, s)) (hh : M.2 1 (141 + 4 * t + 1) = Int32.ofNat p) (hp : p < 16) (hkk : RQ k s M v t0) : RQ (preD (Int32.ofNat t) (Int32.ofNat u) nh k) s M v t0 := by
  have hb1 : K.1 1 ≤ 6 := hk 1 (by decide)
  refine pre_in D S hk ht hu (RQ.get hn (RQ.get (thr_no D 2) ?_))
  rw [if_pos rfl]
  refine RQ.get ((MD.cols D).2.2.2.2.2.2.2.2.2.2.1 t (by omega)) ?_
  rw [hh, if_pos (le0_ofN (by omega))]
  refine RQ.get (w := 0) rfl (RQ.get (thr_no D 3) ?_)
  rw [if_pos rfl]
  exact hkk
/-- the class's check: four ways -/
theorem need_deed (C : CC s f K) (S : Sm K (M.2 1)) (hk : kOk K) (hw : wOk K (M.2 1) c) (x m h hd : Int32) :
    ((rg (K.1 1) x ∨ rg (K.1 2) m) ∧ mX11_needDeed 0 x m h hd s = some (.inr 2, thS s)) ∨
    (∃ t u, t < K.1 1 ∧ u < K.1 2 ∧ x = Int32.ofNat t ∧ m = Int32.ofNat u ∧ ((badD h hd ∧ mX11_needDeed 0 x m h hd s = some (.inr 0, thS s)) ∨ (¬ badD h hd ∧ M.2 1 (141 + 4 * t + 1) = -1 ∧ mX11_needDeed 0 x m h hd s = some (.inr 4, thS s)) ∨ (¬ badD h hd ∧ (∃ p, p < K.1 0 ∧ p < 16 ∧ M.2 1 (141 + 4 * t + 1) = Int32.ofNat p) ∧ mX11_needDeed 0 x m h hd s = some (.inl (), s)))) := by
  have hb1 : K.1 1 ≤ 6 := hk 1 (by decide)
  have hb2 : K.1 2 ≤ 6 := hk 2 (by decide)
  rcases rg_or (K.1 1) (by omega) x with h1 | ⟨t, ht, rfl⟩
  · refine Or.inl ⟨Or.inl h1, ?_⟩
    unfold mX11_needDeed
    rw [onC_ok C.1, bnd_ex (need_tool_no C h1)]
  rcases rg_or (K.1 2) (by omega) m with h1 | ⟨u, hu, rfl⟩
  · refine Or.inl ⟨Or.inr h1, ?_⟩
    unfold mX11_needDeed
    rw [onC_ok C.1, bnd_ok (need_tool_ok C hk ht), bnd_ex (need_master_no C h1)]
  refine Or.inr ⟨t, u, ht, hu, rfl, rfl, ?_⟩
  unfold mX11_needDeed
  rw [onC_ok C.1, bnd_ok (need_tool_ok C hk ht), bnd_ok (need_master_ok C hk hu)]
  by_cases c1 : h < 1
  · rw [if_pos c1]
    exact Or.inl ⟨Or.inl c1, rfl⟩
  by_cases c2 : 999 < h
  · rw [if_neg c1, if_pos c2]
    exact Or.inl ⟨Or.inr (Or.inl c2), rfl⟩
  by_cases c3 : hd < 0
  · rw [if_neg c1, if_neg c2, if_pos c3]
    exact Or.inl ⟨Or.inr (Or.inr (Or.inl c3)), rfl⟩
  by_cases c4 : hd ≤ 9
  · have nb : ¬ badD h hd := fun q => q.elim c1 fun q => q.elim c2 fun q => q.elim c3 fun q => absurd q (Int32.not_lt.mpr c4)
    rw [if_neg c1, if_neg c2, if_neg c3, if_pos c4, bnd_ok (show gR 10 7 0 s = some (.inl 28, s) from gR_ok C.1 rfl), bnd_ok (show gR 1 1 28 s = some (.inl 31, s) from gR_ok C.2.1 rfl), bnd_ok (show mX8_get 31 (Int32.ofNat t) 1 s = some (.inl (M.2 1 (141 + 4 * t + 1)), s) by rw [← (Sm.cols S hk).2.2.2.2.2.2.2.2.2.2.1 t ht]; exact get_ok C.2.t1)]
    rcases slot_or hk hw ht (k := 1) (by decide) with q | ⟨p, hp, hp16, q, -⟩
    · rw [q, if_pos rfl]
      exact Or.inr (Or.inl ⟨nb, rfl, rfl⟩)
    · rw [q, if_neg (ofN_ne1 (by omega))]
      exact Or.inr (Or.inr ⟨nb, ⟨p, hp, hp16, rfl⟩, rfl⟩)
  · rw [if_neg c1, if_neg c2, if_neg c3, if_neg c4]
    exact Or.inl ⟨Or.inr (Or.inr (Or.inr (Int32.not_le.mp c4))), rfl⟩
theorem accG3 (W : Nat → Int32) (LW : Option (List Ln)) (t : Nat) (x y z : Int32) : accG W LW t x y z 3 = wans W t + (wG W LW t x y z 0 + wG W LW t x y z 1 + wG W LW t x y z 2) := by
  show wans W t + wG W LW t x y z 0 + wG W LW t x y z 1 + wG W LW t x y z 2 = _
  rw [← Int32.add_assoc, ← Int32.add_assoc]
theorem ag_after (E : EnvL s f K M LW c) : Ag K.2.2.2 (mX11_after 0 x m h hd) (mX12_after_ 66 x m h hd) s M [(2, 1), (0, 2), (4, 3)] := by
  obtain ⟨⟨C, -, S, hk, hw, hc⟩, CLs, LR⟩ := E
  have hb1 : K.1 1 ≤ 6 := hk 1 (by decide)
  have hpre : ∀ s', mX12_after_ 66 x m h hd s' = onC 11 66 (mbnd (pI 11 0 66 0) fun _ => preD x m (mX12_noHarm h hd) (mbnd (mX12_wouldAnswer 66 x m h hd) fun (v20 : Int32) => mret v20)) s' := fun s' => rfl
  rcases need_deed C S hk hw x m h hd with ⟨hA, e⟩ | ⟨t, u, ht, hu, rfl, rfl, ⟨hB, e⟩ | ⟨nb, hh, e⟩ | ⟨nb, ⟨p, hp, hp16, hh⟩, e⟩⟩
  · refine Or.inr ⟨2, 1, 0, ?_, rfl, one_ne0, fun s' D' => RQ.eq (hpre s') (RQ.start D' fun s1 D1 => pre_A D1 S hk hA)⟩
    unfold mX11_after
    rw [onC_ok C.1, bnd_ex e]
  · refine Or.inr ⟨0, 2, 0, ?_, rfl, by decide, fun s' D' => RQ.eq (hpre s') (RQ.start D' fun s1 D1 => pre_B D1 S hk ht hu ((noHarm_run h hd s1).1 hB))⟩
    unfold mX11_after
    rw [onC_ok C.1, bnd_ex e]
  · refine Or.inr ⟨4, 3, 0, ?_, rfl, by decide, fun s' D' => RQ.eq (hpre s') (RQ.start D' fun s1 D1 => pre_C D1 S hk ht hu ((noHarm_run h hd s1).2 nb) hh)⟩
    unfold mX11_after
    rw [onC_ok C.1, bnd_ex e]
  · obtain ⟨s1, a1, a2, a3⟩ := hearG_run (t := Int32.ofNat t) (master := Int32.ofNat u) (harm := h) (hard := hd) CLs (hOk_of S hk hw ht)
    have C1 := CLs.scR a2
    refine Or.inl ⟨accG (M.2 1) LW t h hd (Int32.ofNat u) 3, s1, ?_, a2, fun s' D' => RQ.eq (hpre s') (RQ.start D' fun s2 D1 => pre_D D1 S hk ht hu ((noHarm_run h hd s2).2 nb) hh hp16 ?_)⟩
    · unfold mX11_after
      rw [onC_ok C.1, bnd_ok e, bnd_ok (show gR 10 3 0 s = some (.inl 3, s) from gR_ok C.1 rfl), bnd_ok (show gR 10 7 0 s = some (.inl 28, s) from gR_ok C.1 rfl), bnd_ok a1, bnd_ok (show gR 10 7 0 s1 = some (.inl 28, s1) from gR_ok C1.1.1 rfl), bnd_ok (answered_run C1.1.2), bnd_ok (show gR 10 3 0 s1 = some (.inl 3, s1) from gR_ok C1.1.1 rfl), bnd_ok (gains_run C1 a3 h), hG_same S hk hw ht (by decide), hG_same S hk hw ht (by decide), hG_same S hk hw ht (by decide), ans_same S hk ht (hw.2.1 t ht).toolIn, accG3]
      rfl
    · have g := m_would (x := h) (y := hd) (z := Int32.ofNat u) D1 LR CLs.2.2.2.2 hk hw ht
      have g2 : QX I3 (mbnd (mX12_wouldAnswer 66 (Int32.ofNat t) (Int32.ofNat u) h hd) fun v20 => mret v20) s2 (mint M 0 0) (accG (M.2 1) LW t h hd (Int32.ofNat u) 3) := QX.bnd g fun _ _ C9 _ _ => QX.ret C9
      exact g2.rq (Or.inl rfl) rfl
end GD
