/-! ACTS: swap, the call -/
noncomputable def swK (a1 a2 a3 v21 : Int32) : MM Int32 :=
  mbnd (mX12_remembers 66) fun _ =>
  mbnd (α := Int32) (
    if v21 < 0 then (
      mret 0
    ) else (
      if 0 ≤ a3 then (
        mbnd (mX12_goesOver 66 v21) fun (v43 : Int32) =>
        mret v43
      ) else (
        mret 0
      )
    )
  ) fun (x39 : Int32) =>
  mbnd (α := Unit) (
    if v21 < 0 then (
      mret ()
    ) else (
      mbnd (gR 11 1 66) fun (v48 : Nat) =>
      mbnd (mX12_partAt v21 6) fun (v49 : Int32) =>
      mbnd (stI 0 v48 v49 (-1)) fun _ =>
      mret ()
    )
  ) fun (x45 : Unit) =>
  mbnd (gR 11 1 66) fun (v50 : Nat) =>
  mbnd (stI 0 v50 ((141 + (4 * a1)) + a2) (-1)) fun _ =>
  if 0 ≤ a3 then (
    mbnd (mX12_puts 66 a1 a3) fun _ =>
    if 0 ≤ v21 then (
      mbnd (gR 11 1 66) fun (v53 : Nat) =>
      mbnd (mX12_partAt v21 3) fun (v54 : Int32) =>
      mbnd (ldI 0 v53 v54) fun (v55 : Int32) =>
      mbnd (stI 0 v53 v54 (v55 - x39)) fun _ =>
      mbnd (gR 11 1 66) fun (v56 : Nat) =>
      mbnd (mX12_partAt a3 3) fun (v57 : Int32) =>
      mbnd (ldI 0 v56 v57) fun (v58 : Int32) =>
      mbnd (stI 0 v56 v57 (v58 + x39)) fun _ =>
      mbnd (gR 11 1 66) fun (v59 : Nat) =>
      mbnd (mX12_partAt a3 7) fun (v60 : Int32) =>
      mbnd (ldI 0 v59 v60) fun (v61 : Int32) =>
      mbnd (stI 0 v59 v60 (v61 + x39)) fun _ =>
      mbnd (mX12_tells 66 a3 x39 (-1) v21) fun _ =>
      mret x39
    ) else (
      mret 0
    )
  ) else (
    mret 0
  )
noncomputable def swB (a1 a2 a3 v21 : Int32) : MM Int32 :=
  mbnd (α := Int32) (
    if 0 ≤ v21 then (
      mbnd (mX12_isNailed 66 v21) fun (v26 : Int32) =>
      if v26 = 0 then (
        mret 1
      ) else (
        mret 0
      )
    ) else (
      if a3 < 0 then (
        mret 0
      ) else (
        mret 1
      )
    )
  ) fun (x23 : Int32) =>
  mbnd (α := Int32) (
    if x23 = 0 then (
      mret 1
    ) else (
      if a3 < 0 then (
        mret 0
      ) else (
        mbnd (mX12_isSpare 66 a3) fun (v34 : Int32) =>
        if v34 = 0 then (
          mret 1
        ) else (
          mret 0
        )
      )
    )
  ) fun (x30 : Int32) =>
  mbnd (mX12_throwsIf 66 x30 3) fun (v36 : Int32) =>
  if v36 = 0 then (
    swK a1 a2 a3 v21
  ) else (
    mret 0
  )
noncomputable def swBody (a1 a2 a3 : Int32) : MM Int32 :=
  mbnd (mX12_noTool 66 a1) fun (v1 : Int32) =>
  mbnd (α := Int32) (
    if v1 = 0 then (
      mbnd (mX12_in a2 0 2) fun (v6 : Int32) =>
      if v6 = 0 then (
        mret 1
      ) else (
        if a3 = (-1) then (
          mret 0
        ) else (
          mbnd (mX12_noPart 66 a3) fun (v9 : Int32) =>
          if v9 = 0 then (
            mret 0
          ) else (
            mret 1
          )
        )
      )
    ) else (
      mret 1
    )
  ) fun (x3 : Int32) =>
  mbnd (mX12_throwsIf 66 x3 1) fun (v11 : Int32) =>
  if v11 = 0 then (
    mbnd (α := Int32) (
      if a3 = (-1) then (
        mret 0
      ) else (
        mbnd (mX12_of 66 a3 0) fun (v17 : Int32) =>
        if v17 = a2 then (
          mret 0
        ) else (
          mret 1
        )
      )
    ) fun (x14 : Int32) =>
    mbnd (mX12_throwsIf 66 x14 2) fun (v19 : Int32) =>
    if v19 = 0 then (
      mbnd (mX12_inTool 66 a1 a2) fun (v21 : Int32) =>
      swB a1 a2 a3 v21
    ) else (
      mret 0
    )
  ) else (
    mret 0
  )
noncomputable def swC (a1 a2 a3 v13 : Int32) : MM Int32 :=
  mbnd (gR 10 6 0) fun (v14 : Nat) =>
  mbnd (gR 10 7 0) fun (v15 : Nat) =>
  mbnd (mX6_keepAct v14 v15) fun _ =>
  mbnd (α := Int32) (
    if v13 = (-1) then (
      mret 0
    ) else (
      if a3 = (-1) then (
        mret 0
      ) else (
        mbnd (gR 10 3 0) fun (v21 : Nat) =>
        mbnd (gR 10 7 0) fun (v22 : Nat) =>
        mbnd (mX2_inherited v21 v22 v13) fun (v23 : Int32) =>
        mret v23
      )
    )
  ) fun (x17 : Int32) =>
  mbnd (gR 10 7 0) fun (v24 : Nat) =>
  mbnd (mX1_take v24 v13) fun _ =>
  mbnd (gR 10 7 0) fun (v25 : Nat) =>
  mbnd (mX1_place v25 a1 a2 a3) fun _ =>
  mbnd (gR 10 7 0) fun (v26 : Nat) =>
  mbnd (mX1_passOn v26 v13 a3 x17) fun _ =>
  mret x17
theorem Ev.eq {α : Type} {m m' : MM α} {s : aS} {v : α} {Q : aS → Prop} (h : m s = m' s) (k : Ev m' s v Q) : Ev m s v Q := by
  obtain ⟨s2, a, b⟩ := k
  exact ⟨s2, h.trans a, b⟩
theorem Ev.rq {α : Type} {m : MM α} {s : aS} {v : α} {M : MK} {t : Int32} (k : Ev m s v (fun s' => ∃ M', Mdl s' 66 M' ∧ Off s s' 66 78 ∧ M'.1 0 = t ∧ Keep M M')) : RQ m s M v t := by
  obtain ⟨s2, a, M', b, c, d, e⟩ := k
  exact ⟨s2, M', a, b, c, d, e⟩
theorem RQ.ev {α : Type} {m : MM α} {s : aS} {v : α} {M : MK} {t : Int32} (k : RQ m s M v t) : Ev m s v (fun s' => ∃ M', Mdl s' 66 M' ∧ Off s s' 66 78 ∧ M'.1 0 = t ∧ Keep M M') := by
  obtain ⟨s2, M', a, b, c, d, e⟩ := k
  exact ⟨s2, a, M', b, c, d, e⟩
theorem QX.ar {α : Type} {I : Nat → Prop} {m : MM α} {s : aS} {M : MK} {v : α} (h : QX I m s M v) (h0 : I 0) : AR m s M v (M.2 1) := by
  obtain ⟨s', M', a, b, c, d, e⟩ := h
  exact ⟨s', M', a, b, c, d.1, d.2.1, d.2.2.1, d.2.2.2.1, e 0 h0, d.2.2.2.2.1, d.2.2.2.2.2.1, d.2.2.2.2.2.2.1, d.2.2.2.2.2.2.2⟩
section SW2
variable {s : aS} {f : Int32} {K : CK} {M : MK} {W : Nat → Int32} {LW : Option (List Ln)} {c c' : Nat} {x y z : Int32}
/-- the PART that comes: none, or one of the sort -/
def comeOk (K : CK) (W : Nat → Int32) (k : Nat) (z : Int32) : Prop := z = -1 ∨ ∃ p, p < K.1 0 ∧ z = Int32.ofNat p ∧ W (13 + 8 * p) = Int32.ofNat k
theorem swap_pre (D : Mdl s 66 M) (S : Sm K (M.2 1)) (hk : kOk K) {t k : Nat} (ht : t < K.1 1) (hk3 : k < 3) (hz : comeOk K (M.2 1) k z) {v : Int32} {Q : aS → Prop} (h : Ev (swB (Int32.ofNat t) (Int32.ofNat k) z (M.2 1 (141 + 4 * t + k))) s v Q) : Ev (swBody (Int32.ofNat t) (Int32.ofNat k) z) s v Q := by
  have b0 : K.1 0 ≤ 16 := hk 0 (by decide)
  have b1 : K.1 1 ≤ 6 := hk 1 (by decide)
  unfold swBody
  refine Ev.get (noTool_in D S.1.2.1 (by omega) ht) ?_
  rw [if_pos rfl]
  refine Ev.get (x := 0) (s1 := s) ?_ (Ev.get (thr_no D 1) ?_)
  · rw [bnd_ok (in_app _ 0 2 s), if_neg (show ¬ (Int32.ofNat k < 0 ∨ 2 < Int32.ofNat k) from fun q => q.elim (ofN_nn (by omega)) fun q => absurd ((ofN_lt (n := 2) (by decide) (by omega)).mp q) (by omega)), if_neg one_ne0]
    rcases hz with rfl | ⟨p, hp, rfl, -⟩
    · rw [if_pos rfl]
      rfl
    · rw [if_neg (ofN_ne1 (by omega)), bnd_ok (noPart_in D S.1.1 (by omega) hp), if_pos rfl]
      rfl
  · rw [if_pos rfl]
    refine Ev.get (x := 0) (s1 := s) ?_ (Ev.get (thr_no D 2) ?_)
    · rcases hz with rfl | ⟨p, hp, rfl, hs⟩
      · rw [if_pos rfl]
        rfl
      · rw [if_neg (ofN_ne1 (by omega)), bnd_ok ((MD.cols D).1 p (by omega)), if_pos hs]
        rfl
    · rw [if_pos rfl]
      exact Ev.get ((MD.cols D).2.2.2.2.2.2.2.2.2.2.2.2.2.1 t k (by omega) (by omega)) h
theorem swap_preC (C : CC s f K) (S : Sm K W) (hk : kOk K) {t k : Nat} (ht : t < K.1 1) (hk3 : k < 3) (hz : comeOk K W k z) : mX11_swap 0 (Int32.ofNat t) (Int32.ofNat k) z s = (mbnd (mX11_needSwap 0 (W (141 + 4 * t + k)) z) fun _ => swC (Int32.ofNat t) (Int32.ofNat k) z (W (141 + 4 * t + k))) s := by
  have b0 : K.1 0 ≤ 16 := hk 0 (by decide)
  have b1 : K.1 1 ≤ 6 := hk 1 (by decide)
  have cs := Sm.cols S hk
  unfold mX11_swap
  rw [onC_ok C.1, bnd_ok (need_tool_ok C hk ht), if_neg (ofN_nn (by omega)), if_pos (show Int32.ofNat k < 3 from (ofN_lt (m := 3) (by omega) (by decide)).mpr hk3)]
  refine (bnd_ok (v := ()) (s' := s) ?_).trans ?_
  · rcases hz with rfl | ⟨p, hp, rfl, hs⟩
    · rw [if_pos rfl]
      rfl
    · rw [if_neg (ofN_ne1 (by omega)), bnd_ok (need_part_ok C hk hp), bnd_ok (gR_ok C.1 rfl), bnd_ok (gR_ok C.2.1 rfl)]
      refine (bnd_ok (get_ok C.2.t0)).trans ?_
      rw [if_pos (show tget 8 (K.1 0) (K.2.1 0) (Int32.ofNat p) 0 = Int32.ofNat k from (cs.1 p hp).trans hs)]
      rfl
  · rw [bnd_ok (gR_ok C.1 rfl), bnd_ok (gR_ok C.2.1 rfl)]
    refine (bnd_ok (show mX8_get 31 (Int32.ofNat t) (Int32.ofNat k) s = some (.inl (W (141 + 4 * t + k)), s) from ?_)).trans rfl
    rw [← cs.2.2.2.2.2.2.2.2.2.2.2.2.2.1 t k ht (by omega)]
    exact get_ok C.2.t1
/-- when a SWAP is refused -/
def badS (K : CK) (g z : Int32) : Prop := (g = -1 ∧ z = -1) ∨ (¬ g = -1 ∧ kget K 0 g 4 = 1) ∨ (¬ z = -1 ∧ ¬ kget K 0 z 6 = -1)
theorem need_swap (C : CC s f K) (g z : Int32) : (badS K g z → mX11_needSwap 0 g z s = some (.inr 4, thS s)) ∧ (¬ badS K g z → mX11_needSwap 0 g z s = some (.inl (), s)) := by
  unfold mX11_needSwap badS
  rw [onC_ok C.1]
  by_cases h1 : g = -1
  · by_cases h2 : z = -1
    · refine ⟨fun _ => ?_, fun q => absurd (Or.inl ⟨h1, h2⟩) q⟩
      rw [if_pos h1, if_pos h2]
      rfl
    · rw [if_pos h1, if_neg h2, if_pos h1, mret_mbnd, mret_mbnd, if_neg h2, bnd_ok (gR_ok C.1 rfl), bnd_ok (isSpare_run C.2)]
      by_cases h3 : kget K 0 z 6 = -1
      · rw [if_pos h3, if_neg one_ne0]
        exact ⟨fun q => q.elim (fun q => absurd q.2 h2) fun q => q.elim (fun q => absurd h1 q.1) fun q => absurd h3 q.2, fun _ => rfl⟩
      · rw [if_neg h3, if_pos rfl]
        exact ⟨fun _ => rfl, fun q => absurd (Or.inr (Or.inr ⟨h2, h3⟩)) q⟩
  · rw [if_neg h1, mret_mbnd, if_neg h1, mbnd_assoc, bnd_ok (gR_ok C.1 rfl), mbnd_assoc, bnd_ok (isNailed_run C.2)]
    by_cases h4 : kget K 0 g 4 = 1
    · rw [if_pos h4, if_neg one_ne0]
      exact ⟨fun _ => rfl, fun q => absurd (Or.inr (Or.inl ⟨h1, h4⟩)) q⟩
    · rw [if_neg h4, if_pos rfl, mret_mbnd]
      by_cases h2 : z = -1
      · rw [if_pos h2]
        exact ⟨fun q => q.elim (fun q => absurd q.1 h1) fun q => q.elim (fun q => absurd q.2 h4) fun q => absurd h2 q.1, fun _ => rfl⟩
      · rw [if_neg h2, bnd_ok (gR_ok C.1 rfl), bnd_ok (isSpare_run C.2)]
        by_cases h3 : kget K 0 z 6 = -1
        · rw [if_pos h3, if_neg one_ne0]
          exact ⟨fun q => q.elim (fun q => absurd q.1 h1) fun q => q.elim (fun q => absurd q.2 h4) fun q => absurd h3 q.2, fun _ => rfl⟩
        · rw [if_neg h3, if_pos rfl]
          exact ⟨fun _ => rfl, fun q => absurd (Or.inr (Or.inr ⟨h2, h3⟩)) q⟩
theorem swB_or (D : Mdl s 66 M) (S : Sm K (M.2 1)) (hk : kOk K) (hw : wOk K (M.2 1) c) {t k : Nat} (hk3 : k < 3) {g : Int32} (hg : g = -1 ∨ ∃ q, q < K.1 0 ∧ g = Int32.ofNat q) (hz : comeOk K (M.2 1) k z) :
    (badS K g z → RQ (swB (Int32.ofNat t) (Int32.ofNat k) z g) s M 0 3) ∧ (¬ badS K g z → ∀ (v : Int32) (Q : aS → Prop), Ev (swK (Int32.ofNat t) (Int32.ofNat k) z g) s v Q → Ev (swB (Int32.ofNat t) (Int32.ofNat k) z g) s v Q) := by
  have b0 : K.1 0 ≤ 16 := hk 0 (by decide)
  have cs := Sm.cols S hk
  -- first word
  have w1 : ∀ (h : ¬ (¬ g = -1 ∧ kget K 0 g 4 = 1)), (∀ (h2 : ¬ (g = -1 ∧ z = -1)), (if 0 ≤ g then (mbnd (mX12_isNailed 66 g) fun (v26 : Int32) => if v26 = 0 then mret 1 else mret 0) else (if z < 0 then mret 0 else mret 1) : MM Int32) s = some (.inl 1, s)) := fun h h2 => by
    rcases hg with rfl | ⟨q, hq, rfl⟩
    · rw [if_neg (by decide)]
      rcases hz with rfl | ⟨p, hp, rfl, -⟩
      · exact absurd ⟨rfl, rfl⟩ h2
      · rw [if_neg (ofN_nn (by omega))]
        rfl
    · rw [if_pos (le0_ofN (by omega)), bnd_ok ((MD.is D).2.1 q (by omega)), if_neg (fun e => h ⟨ofN_ne1 (by omega), (cs.2.2.2.2.1 q hq).trans e⟩), if_pos rfl]
      rfl
  have w0 : ((g = -1 ∧ z = -1) ∨ (¬ g = -1 ∧ kget K 0 g 4 = 1)) → (if 0 ≤ g then (mbnd (mX12_isNailed 66 g) fun (v26 : Int32) => if v26 = 0 then mret 1 else mret 0) else (if z < 0 then mret 0 else mret 1) : MM Int32) s = some (.inl 0, s) := fun h => by
    rcases hg with rfl | ⟨q, hq, rfl⟩
    · rcases h with ⟨-, rfl⟩ | ⟨h, -⟩
      · rw [if_neg (by decide), if_pos (by decide)]
        rfl
      · exact absurd rfl h
    · rcases h with ⟨h, -⟩ | ⟨-, h⟩
      · exact absurd h (ofN_ne1 (by omega))
      · rw [if_pos (le0_ofN (by omega)), bnd_ok ((MD.is D).2.1 q (by omega)), if_pos ((cs.2.2.2.2.1 q hq).symm.trans h), if_neg one_ne0]
        rfl
  refine ⟨fun h => ?_, fun h v Q k => ?_⟩
  · unfold swB
    by_cases h2 : (g = -1 ∧ z = -1) ∨ (¬ g = -1 ∧ kget K 0 g 4 = 1)
    · refine RQ.get (w0 h2) ?_
      rw [if_pos rfl]
      exact RQ.get (w := 1) rfl (RQ.thr D 3 fun _ => rfl)
    · have h3 : ¬ z = -1 ∧ ¬ kget K 0 z 6 = -1 := h.elim (fun q => absurd (Or.inl q) h2) fun q => q.elim (fun q => absurd (Or.inr q) h2) id
      refine RQ.get (w1 (fun q => h2 (Or.inr q)) (fun q => h2 (Or.inl q))) ?_
      rw [if_neg one_ne0]
      rcases hz with rfl | ⟨p, hp, rfl, -⟩
      · exact absurd rfl h3.1
      · rcases spare_or S hk hw hp with ⟨-, e⟩ | ⟨-, -, e⟩
        · exact absurd e h3.2
        · rw [if_neg (ofN_nn (by omega))]
          refine RQ.get (w := 1) ?_ (RQ.thr D 3 fun _ => rfl)
          rw [bnd_ok ((MD.is D).1 p (by omega)), if_pos e, if_pos rfl]
          rfl
  · unfold swB
    refine Ev.get (w1 (fun q => h (Or.inr (Or.inl q))) (fun q => h (Or.inl q))) ?_
    rw [if_neg one_ne0]
    refine Ev.get (x := 0) (s1 := s) ?_ (Ev.get (thr_no D 3) ?_)
    · rcases hz with rfl | ⟨p, hp, rfl, -⟩
      · rw [if_pos (by decide)]
        rfl
      · rcases spare_or S hk hw hp with ⟨e, -⟩ | ⟨-, e2, -⟩
        · rw [if_neg (ofN_nn (by omega)), bnd_ok ((MD.is D).1 p (by omega)), e, if_neg (by decide)]
          rfl
        · exact absurd (Or.inr (Or.inr ⟨ofN_ne1 (by omega), e2⟩)) h
    · rw [if_pos rfl]
      exact k
theorem m_puts (C : Mdl s 66 M) {t p k : Nat} (ht : t < 6) (hp : p < 16) (hk3 : k < 3) (hs : M.2 1 (13 + 8 * p) = Int32.ofNat k) : WRun (mX12_puts 66 (Int32.ofNat t) (Int32.ofNat p)) s M () (wplace (M.2 1) p t k) := by
  unfold mX12_puts
  refine WRun.o11 C (WRun.get (MD.refs C).2.1 (WRun.get ((MD.cols C).1 p (by omega)) ?_))
  rw [hs, show (141 : Int32) + 4 * Int32.ofNat t + Int32.ofNat k = Int32.ofNat (141 + 4 * t + k) from at_lin 141 4 t k]
  refine (WRun.put C (by omega)).bnd fun s2 M2 C2 e2 _ _ => WRun.get (MD.refs C2).2.1 (WRun.get (part_at p 6 s2) ((WRun.put C2 (by omega)).bnd fun s3 M3 C3 e3 _ _ => WRun.fin C3 ?_))
  rw [e3, e2]
  rfl
end SW2
