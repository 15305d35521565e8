/-! MORE CALLS THAT ASK: joint, pairs, clock, heir, worstMaster, guilty, master, tool -/
theorem rg_9 (x : Int32) (n : Nat) (hn : n + 1 < 2 ^ 31) : rg (n + 1) x ↔ (x < 0 ∨ Int32.ofNat n < x) := by
  unfold rg
  rw [i32_le, i32_lt (Int32.ofNat n), ofN_toInt hn, ofN_toInt (by omega)]
  constructor
  · exact fun h => h.imp id (fun q => by omega)
  · exact fun h => h.imp id (fun q => by omega)
section C2
variable {s : aS} {f : Int32} {K : CK} {M : MK} {LW : Option (List Ln)} {c : Nat} {x y z w : Int32}
theorem need_two (C : CC s f K) (hk : kOk K) (x y : Int32) :
    ((rg (K.1 1) x ∨ rg (K.1 1) y) ∧ mX11_needTwoTools 0 x y s = some (.inr 2, thS s)) ∨
    (∃ t u, t < K.1 1 ∧ u < K.1 1 ∧ x = Int32.ofNat t ∧ y = Int32.ofNat u ∧ ((t = u ∧ mX11_needTwoTools 0 x y s = some (.inr 0, thS s)) ∨ (¬ t = u ∧ mX11_needTwoTools 0 x y s = some (.inl (), s)))) := by
  have hb1 : K.1 1 ≤ 6 := hk 1 (by decide)
  rcases rg_or (K.1 1) (by omega) x with h1 | ⟨t, ht, rfl⟩
  · refine Or.inl ⟨Or.inl h1, ?_⟩
    unfold mX11_needTwoTools
    rw [onC_ok C.1, bnd_ex (need_tool_no C h1)]
  rcases rg_or (K.1 1) (by omega) y with h1 | ⟨u, hu, rfl⟩
  · refine Or.inl ⟨Or.inr h1, ?_⟩
    unfold mX11_needTwoTools
    rw [onC_ok C.1, bnd_ok (need_tool_ok C hk ht), bnd_ex (need_tool_no C h1)]
  refine Or.inr ⟨t, u, ht, hu, rfl, rfl, ?_⟩
  unfold mX11_needTwoTools
  rw [onC_ok C.1, bnd_ok (need_tool_ok C hk ht), bnd_ok (need_tool_ok C hk hu)]
  by_cases e : t = u
  · exact Or.inl ⟨e, by rw [if_pos (by rw [e])]; rfl⟩
  · exact Or.inr ⟨e, by rw [if_neg (fun q => e ((ofN_inj (by omega) (by omega)).mp q))]; rfl⟩
/-- the reference's check of two tools -/
noncomputable def pre2 (x y : Int32) (k : MM Int32) : MM Int32 :=
  mbnd (mX12_noTool 66 x) fun (v1 : Int32) =>
  mbnd (α := Int32) (
    if v1 = 0 then (
      mbnd (mX12_noTool 66 y) fun (v6 : Int32) =>
      if v6 = 0 then (
        mret 0
      ) else (
        mret 1
      )
    ) else (
      mret 1
    )
  ) fun (x3 : Int32) =>
  mbnd (mX12_throwsIf 66 x3 1) fun (v8 : Int32) =>
  if v8 = 0 then (
    mbnd (α := Int32) (
      if x = y then (
        mret 1
      ) else (
        mret 0
      )
    ) fun (x11 : Int32) =>
    mbnd (mX12_throwsIf 66 x11 2) fun (v14 : Int32) =>
    if v14 = 0 then k else (
      mret 0
    )
  ) else (
    mret 0
  )
theorem pre2_A {k : MM Int32} (D : Mdl s 66 M) (S : Sm K (M.2 1)) (hk : kOk K) (hA : rg (K.1 1) x ∨ rg (K.1 1) y) : RQ (pre2 x y k) s M 0 1 := by
  have hb1 : K.1 1 ≤ 6 := hk 1 (by decide)
  unfold pre2
  rcases rg_or (K.1 1) (by omega) x with h1 | ⟨t, ht, rfl⟩
  · refine RQ.get (noTool_no D S.1.2.1 (by omega) h1) ?_
    rw [if_neg one_ne0]
    exact RQ.get (w := 1) rfl (RQ.thr D 1 fun _ => rfl)
  · have h2 : rg (K.1 1) y := hA.elim (fun q => absurd q (rg_in ht (by omega))) id
    refine RQ.get (noTool_in D S.1.2.1 (by omega) ht) ?_
    rw [if_pos rfl]
    exact RQ.get (w := 1) ((bnd_ok (noTool_no D S.1.2.1 (by omega) h2)).trans rfl) (RQ.thr D 1 fun _ => rfl)
theorem pre2_B {k : MM Int32} (D : Mdl s 66 M) (S : Sm K (M.2 1)) (hk : kOk K) {t : Nat} (ht : t < K.1 1) : RQ (pre2 (Int32.ofNat t) (Int32.ofNat t) k) s M 0 2 := by
  have hb1 : K.1 1 ≤ 6 := hk 1 (by decide)
  unfold pre2
  refine RQ.get (noTool_in D S.1.2.1 (by omega) ht) ?_
  rw [if_pos rfl]
  refine RQ.get (w := 0) ((bnd_ok (noTool_in D S.1.2.1 (by omega) ht)).trans rfl) (RQ.get (thr_no D 1) ?_)
  rw [if_pos rfl, if_pos rfl]
  exact RQ.get (w := 1) rfl (RQ.thr D 2 fun _ => rfl)
theorem pre2_C {k : MM Int32} {v t0 : Int32} (D : Mdl s 66 M) (S : Sm K (M.2 1)) (hk : kOk K) {t u : Nat} (ht : t < K.1 1) (hu : u < K.1 1) (hne : ¬ t = u) (h : RQ k s M v t0) : RQ (pre2 (Int32.ofNat t) (Int32.ofNat u) k) s M v t0 := by
  have hb1 : K.1 1 ≤ 6 := hk 1 (by decide)
  unfold pre2
  refine RQ.get (noTool_in D S.1.2.1 (by omega) ht) ?_
  rw [if_pos rfl]
  refine RQ.get (w := 0) ((bnd_ok (noTool_in D S.1.2.1 (by omega) hu)).trans rfl) (RQ.get (thr_no D 1) ?_)
  rw [if_pos rfl, if_neg (fun q => hne ((ofN_inj (by omega) (by omega)).mp q))]
  refine RQ.get (w := 0) rfl (RQ.get (thr_no D 2) ?_)
  rw [if_pos rfl]
  exact h
theorem ag_joint (E : Env s f K M c) : Ag K.2.2.2 (mX11_joint 0 x y) (mX12_joint 66 x y) s M [(2, 1), (0, 2)] := by
  obtain ⟨C, -, S, hk, hw, hc⟩ := E
  have hb : K.1 0 ≤ 16 := hk 0 (by decide)
  have hb3 : K.1 3 ≤ 60 := hk 3 (by decide)
  have hpre : ∀ s', mX12_joint 66 x y s' = onC 11 66 (mbnd (pI 11 0 66 0) fun _ => pre2 x y (mbnd (mX12_didIn 66 x) fun (v16 : Int32) => mbnd (mX12_didIn 66 y) fun (v17 : Int32) => mbnd (mret (v16 &&& v17)) fun (v18 : Int32) => mbnd (loopM (mX12_joint_L72 66 v18) (0, 0)) fun (e32 : Int32) => mret e32)) s' := fun s' => rfl
  rcases need_two C hk x y with ⟨hA, e⟩ | ⟨t, u, ht, hu, rfl, rfl, ⟨rfl, e⟩ | ⟨hne, e⟩⟩
  · refine Or.inr ⟨2, 1, 0, ?_, rfl, one_ne0, fun s' D' => RQ.eq (hpre s') (RQ.start D' fun s1 D1 => pre2_A D1 S hk hA)⟩
    unfold mX11_joint
    rw [onC_ok C.1, bnd_ex e]
  · refine Or.inr ⟨0, 2, 0, ?_, rfl, by decide, fun s' D' => RQ.eq (hpre s') (RQ.start D' fun s1 D1 => pre2_B D1 S hk ht)⟩
    unfold mX11_joint
    rw [onC_ok C.1, bnd_ex e]
  · refine Or.inl ⟨wjoint (M.2 1) (wused (M.2 1) (Int32.ofNat t) (K.1 3) &&& wused (M.2 1) (Int32.ofNat u) (K.1 3)) (K.1 0), s, ?_, ScR.rf, fun s' D' => RQ.eq (hpre s') (RQ.start D' fun s1 D1 => pre2_C D1 S hk ht hu hne (RQ.val D1 ?_ rfl))⟩
    · unfold mX11_joint
      rw [onC_ok C.1, bnd_ok e]
      simp only [mbnd_app, kx_in, c_used C S hk, mret_app, c_joint C S hk]
    · simp only [mbnd_app, kx_in, m_used D1 (n := K.1 3) S.1.2.2.2.1 hb3, mret_app, mint_2, m_joint D1 (n := K.1 0) S.1.1 hb]
theorem ag_pairs (E : Env s f K M c) : Ag K.2.2.2 (mX11_pairs 0 x y) (mX12_pairs 66 x y) s M [(2, 1)] := by
  obtain ⟨C, -, S, hk, hw, hc⟩ := E
  have hb1 : K.1 1 ≤ 6 := hk 1 (by decide)
  have hb2 : K.1 2 ≤ 6 := hk 2 (by decide)
  have hb3 : K.1 3 ≤ 60 := hk 3 (by decide)
  rcases rg_or (K.1 2) (by omega) x with h | ⟨m, hm, rfl⟩
  · refine Or.inr ⟨2, 1, 0, ?_, rfl, one_ne0, fun s' D' => ?_⟩
    · unfold mX11_pairs
      rw [onC_ok C.1, bnd_ex (need_master_no C h)]
    · unfold mX12_pairs
      refine RQ.start D' fun s1 D1 => RQ.get (noMaster_no D1 S.1.2.2.1 (by omega) h) ?_
      rw [if_neg one_ne0]
      exact RQ.get (w := 1) rfl (RQ.thr D1 1 fun _ => rfl)
  rcases rg_or (K.1 1) (by omega) y with h | ⟨t, ht, rfl⟩
  · refine Or.inr ⟨2, 1, 0, ?_, rfl, one_ne0, fun s' D' => ?_⟩
    · unfold mX11_pairs
      rw [onC_ok C.1, bnd_ok (need_master_ok C hk hm), bnd_ex (need_tool_no C h)]
    · unfold mX12_pairs
      refine RQ.start D' fun s1 D1 => RQ.get (noMaster_in D1 S.1.2.2.1 (by omega) hm) ?_
      rw [if_pos rfl]
      exact RQ.get (w := 1) ((bnd_ok (noTool_no D1 S.1.2.1 (by omega) h)).trans rfl) (RQ.thr D1 1 fun _ => rfl)
  refine Or.inl ⟨wpairs (M.2 1) (Int32.ofNat m) (Int32.ofNat t) (K.1 3), s, ?_, ScR.rf, fun s' D' => ?_⟩
  · unfold mX11_pairs
    rw [onC_ok C.1, bnd_ok (need_master_ok C hk hm), bnd_ok (need_tool_ok C hk ht), bnd_ok (c_pairs C S hk)]
    rfl
  · unfold mX12_pairs
    refine RQ.start D' fun s1 D1 => RQ.get (noMaster_in D1 S.1.2.2.1 (by omega) hm) ?_
    rw [if_pos rfl]
    refine RQ.get (w := 0) ((bnd_ok (noTool_in D1 S.1.2.1 (by omega) ht)).trans rfl) (RQ.get (thr_no D1 1) ?_)
    rw [if_pos rfl]
    exact RQ.get (m_pairs D1 (n := K.1 3) S.1.2.2.2.1 hb3) (RQ.val D1 rfl rfl)
theorem ag_clock (E : Env s f K M c) : Ag K.2.2.2 (mX11_clock 0 x y z) (mX12_clock 66 x y z) s M [(2, 1), (0, 2)] := by
  obtain ⟨C, -, S, hk, hw, hc⟩ := E
  have hb : K.1 0 ≤ 16 := hk 0 (by decide)
  have hb3 : K.1 3 ≤ 60 := hk 3 (by decide)
  rcases rg_or (K.1 0) (by omega) x with h | ⟨p, hp, rfl⟩
  · refine Or.inr ⟨2, 1, 0, ?_, rfl, one_ne0, fun s' D' => ?_⟩
    · unfold mX11_clock
      rw [onC_ok C.1, bnd_ex (need_part_no C h)]
    · unfold mX12_clock
      exact RQ.start D' fun s1 D1 => RQ.get (noPart_no D1 S.1.1 (by omega) h) (RQ.thr D1 1 fun _ => rfl)
  have cs := (Sm.cols S hk).1 p hp
  by_cases hh : M.2 1 (13 + 8 * p) = 1
  · have hH : mX11_needHeadPart 0 (Int32.ofNat p) s = some (.inl (), s) := by
      unfold mX11_needHeadPart
      simp only [mbnd_app, kx_in, CC.all C, cs, hh, if_true, mret_app]
    by_cases hy : y < 0 ∨ 9 < y
    · refine Or.inr ⟨0, 2, 0, ?_, rfl, by decide, fun s' D' => ?_⟩
      · have hG : mX11_needGrade y s = some (.inr 0, thS s) := by
          unfold mX11_needGrade
          by_cases h1 : y < 0
          · rw [if_pos h1]; rfl
          · rw [if_neg h1, if_neg (Int32.not_le.mpr (hy.elim (fun q => absurd q h1) id))]; rfl
        unfold mX11_clock
        rw [onC_ok C.1, bnd_ok (need_part_ok C hk hp), bnd_ok hH, bnd_ex hG]
      · unfold mX12_clock
        refine RQ.start D' fun s1 D1 => RQ.get (noPart_in D1 S.1.1 (by omega) hp) (RQ.get (thr_no D1 1) ?_)
        rw [if_pos rfl]
        refine RQ.get ((MD.is D1).2.2 p (by omega)) ?_
        rw [show (mint M 0 0).2 1 (13 + 8 * p) = 1 from hh, if_pos rfl, if_neg one_ne0]
        refine RQ.get (w := 1) ?_ (RQ.thr D1 2 fun _ => rfl)
        rw [bnd_ok (in_app y 0 9 s1), if_pos hy]
        rfl
    · have h1 : ¬ y < 0 := fun q => hy (Or.inl q)
      have h2 : y ≤ 9 := Int32.not_lt.mp fun q => hy (Or.inr q)
      have hG : mX11_needGrade y s = some (.inl (), s) := by
        unfold mX11_needGrade
        rw [if_neg h1, if_pos h2]; rfl
      refine Or.inl ⟨wclock (M.2 1) p y z (K.1 3), s, ?_, ScR.rf, fun s' D' => ?_⟩
      · unfold mX11_clock
        rw [onC_ok C.1, bnd_ok (need_part_ok C hk hp), bnd_ok hH, bnd_ok hG, bnd_ok (c_clock C S hk (by omega) (fun d hd => day_nn hw hc hd))]
        rfl
      · unfold mX12_clock
        refine RQ.start D' fun s1 D1 => RQ.get (noPart_in D1 S.1.1 (by omega) hp) (RQ.get (thr_no D1 1) ?_)
        rw [if_pos rfl]
        refine RQ.get ((MD.is D1).2.2 p (by omega)) ?_
        rw [show (mint M 0 0).2 1 (13 + 8 * p) = 1 from hh, if_pos rfl, if_neg one_ne0]
        refine RQ.get (w := 0) ?_ (RQ.get (thr_no D1 2) ?_)
        · rw [bnd_ok (in_app y 0 9 s1), if_neg hy]
          rfl
        · rw [if_pos rfl]
          exact RQ.get (m_clock D1 (n := K.1 3) S.1.2.2.2.1 hb3 (by omega)) (RQ.val D1 rfl rfl)
  · refine Or.inr ⟨0, 2, 0, ?_, rfl, by decide, fun s' D' => ?_⟩
    · have hH : mX11_needHeadPart 0 (Int32.ofNat p) s = some (.inr 0, thS s) := by
        unfold mX11_needHeadPart
        simp only [mbnd_app, kx_in, CC.all C, cs, hh, if_false, mthr_app]
      unfold mX11_clock
      rw [onC_ok C.1, bnd_ok (need_part_ok C hk hp), bnd_ex hH]
    · unfold mX12_clock
      refine RQ.start D' fun s1 D1 => RQ.get (noPart_in D1 S.1.1 (by omega) hp) (RQ.get (thr_no D1 1) ?_)
      rw [if_pos rfl]
      refine RQ.get ((MD.is D1).2.2 p (by omega)) ?_
      rw [if_neg (show ¬ (mint M 0 0).2 1 (13 + 8 * p) = 1 from hh), if_pos rfl]
      exact RQ.get (w := 1) rfl (RQ.thr D1 2 fun _ => rfl)
theorem ag_heir (E : Env s f K M c) : Ag K.2.2.2 (mX11_heir 0) (mX12_heir 66) s M [] := by
  obtain ⟨C, -, S, hk, hw, hc⟩ := E
  have hb : K.1 0 ≤ 16 := hk 0 (by decide)
  refine Or.inl ⟨wheir (M.2 1) (K.1 0), s, c_heir C S hk, ScR.rf, fun s' D' => ?_⟩
  unfold mX12_heir
  exact RQ.start D' fun s1 D1 => RQ.get (m_heir D1 (n := K.1 0) S.1.1 hb) (RQ.val D1 rfl rfl)
theorem ag_worstM (E : Env s f K M c) : Ag K.2.2.2 (mX11_worstMaster 0) (mX12_worstMaster 66) s M [] := by
  obtain ⟨C, -, S, hk, hw, hc⟩ := E
  have hb3 : K.1 3 ≤ 60 := hk 3 (by decide)
  have hb2 : K.1 2 ≤ 6 := hk 2 (by decide)
  refine Or.inl ⟨wworstM (M.2 1) (K.1 3) (K.1 2), s, c_worstM C S hk, ScR.rf, fun s' D' => ?_⟩
  unfold mX12_worstMaster
  exact RQ.start D' fun s1 D1 => RQ.get (m_worstM D1 (n := K.1 3) (k := K.1 2) S.1.2.2.2.1 hb3 S.1.2.2.1 hb2) (RQ.val D1 rfl rfl)
theorem ag_guilty (E : Env s f K M c) : Ag K.2.2.2 (mX11_guilty 0) (mX12_guilty 66) s M [] := by
  obtain ⟨C, -, S, hk, hw, hc⟩ := E
  have hb1 : K.1 1 ≤ 6 := hk 1 (by decide)
  refine Or.inl ⟨wguilty (M.2 1) (K.1 1), s, ?_, ScR.rf, fun s' D' => ?_⟩
  · unfold mX11_guilty
    simp only [mbnd_app, kx_in, CC.all C, guilty_same S hk (fun t ht => (hw.2.1 t ht).toolIn), mret_app]
  · unfold mX12_guilty
    exact RQ.start D' fun s1 D1 => RQ.get (m_allGuilty_run D1 (n := K.1 1) S.1.2.1 hb1 (fun t ht => (hw.2.1 t ht).ok hk)) (RQ.val D1 rfl rfl)
theorem ag_master (E : Env s f K M c) : Ag K.2.2.2 (mX11_master 0 x y) (mX12_master 66 x y) s M [(2, 1)] := by
  obtain ⟨C, -, S, hk, hw, hc⟩ := E
  have hb2 : K.1 2 ≤ 6 := hk 2 (by decide)
  have hb3 : K.1 3 ≤ 60 := hk 3 (by decide)
  rcases rg_or (K.1 2) (by omega) x with h | ⟨m, hm, rfl⟩
  · refine Or.inr ⟨2, 1, 0, ?_, rfl, one_ne0, fun s' D' => ?_⟩
    · unfold mX11_master
      rw [onC_ok C.1, bnd_ex (need_master_no C h)]
    · unfold mX12_master
      exact RQ.start D' fun s1 D1 => RQ.get (noMaster_no D1 S.1.2.2.1 (by omega) h) (RQ.thr D1 1 fun _ => rfl)
  refine Or.inl ⟨if y = 0 then M.2 1 (165 + m) else wharm (M.2 1) (Int32.ofNat m) (K.1 3), s, ?_, ScR.rf, fun s' D' => ?_⟩
  · unfold mX11_master
    rw [onC_ok C.1, bnd_ok (need_master_ok C hk hm)]
    by_cases h : y = 0
    · simp only [h, if_true, mbnd_app, kx_in, CC.all C, Sm.cols S hk, hm, mret_app]
    · simp only [h, if_false, mbnd_app, kx_in, c_harm C S hk, mret_app]
  · unfold mX12_master
    refine RQ.start D' fun s1 D1 => RQ.get (noMaster_in D1 S.1.2.2.1 (by omega) hm) (RQ.get (thr_no D1 1) (RQ.val D1 ?_ rfl))
    have e : (165 : Int32) + Int32.ofNat m = Int32.ofNat (165 + m) := ofN_add 165 m
    have l : 165 + m < 2769 := by omega
    by_cases h : y = 0
    · simp only [h, if_true, mbnd_app, kx_in, (MD.refs D1).2.1, e, (MD.wl D1).1 _ l, mint_2, mret_app]
    · simp only [h, if_true, if_false, mbnd_app, kx_in, m_harm D1 (n := K.1 3) S.1.2.2.2.1 hb3, mint_2, mret_app]
end C2
