/-! CALLS THAT ASK: the two sides agree -/
section AG
variable {s : aS} {f : Int32} {K : CK} {M : MK} {c : Nat} {x y z : Int32}
theorem ag_with (E : Env s f K M c) : Ag K.2.2.2 (mX11_with 0 x) (mX12_with 66 x) s M [(2, 1)] := by
  obtain ⟨C, -, S, hk, hw, hc⟩ := E
  have hb : K.1 0 ≤ 16 := hk 0 (by decide)
  have hb3 : K.1 3 ≤ 60 := hk 3 (by decide)
  rcases rg_or (K.1 0) (by omega) x with h | ⟨p, hp, rfl⟩
  · refine Or.inr ⟨2, 1, 0, ?_, rfl, one_ne0, fun s' D' => ?_⟩
    · unfold mX11_with
      rw [onC_ok C.1, bnd_ex (need_part_no C h)]
    · unfold mX12_with
      exact RQ.start D' fun s1 D1 => RQ.get (noPart_no D1 S.1.1 (by omega) h) (RQ.thr D1 1 fun _ => rfl)
  · have hp32 : p < 32 := by omega
    refine Or.inl ⟨if wdeeds (M.2 1) p (K.1 3) = 0 then 0 else walw (M.2 1) p ((1 <<< (Int32.ofNat (K.1 0) &&& (31 : Int32))) - 1) (K.1 3), s, ?_, ScR.rf, fun s' D' => ?_⟩
    · unfold mX11_with mX11_alwaysThere
      rw [onC_ok C.1, bnd_ok (need_part_ok C hk hp)]
      simp only [mbnd_app, kx_in, c_deeds C S hk hp32, CC.all C, c_alw C S hk hp32, mite_app, mret_app, ite_some]
    · unfold mX12_with
      refine RQ.start D' fun s1 D1 => RQ.get (noPart_in D1 S.1.1 (by omega) hp) (RQ.get (thr_no D1 1) (RQ.val D1 ?_ rfl))
      simp only [if_true, mbnd_app, kx_in, m_deeds D1 (n := K.1 3) S.1.2.2.2.1 hb3 hp32, MD.all D1, mint_2, S.1.1, m_alw D1 (n := K.1 3) S.1.2.2.2.1 hb3 hp32, mite_app, mret_app, ite_some]
theorem ag_sure (E : Env s f K M c) : Ag K.2.2.2 (mX11_sure 0 x) (mX12_sure 66 x) s M [(0, 1)] := by
  obtain ⟨C, -, S, hk, hw, hc⟩ := E
  have hb : K.1 0 ≤ 16 := hk 0 (by decide)
  have hb3 : K.1 3 ≤ 60 := hk 3 (by decide)
  by_cases h : x < 0 ∨ 9 < x
  · refine Or.inr ⟨0, 1, 0, ?_, rfl, one_ne0, fun s' D' => ?_⟩
    · unfold mX11_sure mX11_needEdge
      by_cases h1 : x < 0
      · simp only [mbnd_app, CC.all C, if_pos h1, mthr_app, kx_ex]
      · simp only [mbnd_app, CC.all C, if_neg h1, if_neg (Int32.not_le.mpr (h.elim (fun q => absurd q h1) id)), mthr_app, kx_ex]
    · unfold mX12_sure
      refine RQ.start D' fun s1 D1 => RQ.get (in_app x 0 9 s1) ?_
      simp only [if_pos h, if_true, mret_mbnd]
      exact RQ.thr D1 1 fun _ => rfl
  · have h1 : ¬ x < 0 := fun q => h (Or.inl q)
    have h2 : x ≤ 9 := Int32.not_lt.mp fun q => h (Or.inr q)
    refine Or.inl ⟨wsure (M.2 1) x ((1 <<< (Int32.ofNat (K.1 0) &&& (31 : Int32))) - 1) (K.1 3), s, ?_, ScR.rf, fun s' D' => ?_⟩
    · unfold mX11_sure mX11_needEdge
      simp only [mbnd_app, kx_in, CC.all C, if_neg h1, if_pos h2, c_sure C S hk, mret_app]
    · unfold mX12_sure
      refine RQ.start D' fun s1 D1 => RQ.get (in_app x 0 9 s1) ?_
      simp only [if_neg h, one_ne0, if_false, mret_mbnd]
      refine RQ.get (thr_no D1 1) (RQ.val D1 ?_ rfl)
      simp only [if_true, mbnd_app, kx_in, MD.all D1, mint_2, S.1.1, m_sure D1 (n := K.1 3) S.1.2.2.2.1 hb3, mret_app]
theorem ag_harmed (E : Env s f K M c) : Ag K.2.2.2 (mX11_harmed 0 x y) (mX12_harmed 66 x y) s M [(0, 1)] := by
  obtain ⟨C, -, S, hk, hw, hc⟩ := E
  have hb3 : K.1 3 ≤ 60 := hk 3 (by decide)
  by_cases h1 : x < 0
  · refine Or.inr ⟨0, 1, 0, ?_, rfl, one_ne0, fun s' D' => ?_⟩
    · unfold mX11_harmed
      simp only [CC.all C, if_pos h1, mthr_app]
    · unfold mX12_harmed
      refine RQ.start D' fun s1 D1 => ?_
      simp only [if_pos h1, mret_mbnd]
      exact RQ.thr D1 1 fun _ => rfl
  by_cases h2 : x ≤ y
  · refine Or.inl ⟨wharmed (M.2 1) x y (K.1 3), s, ?_, ScR.rf, fun s' D' => ?_⟩
    · unfold mX11_harmed
      simp only [CC.all C, if_neg h1, if_pos h2, mbnd_app, kx_in, c_harmed C S hk, mret_app]
    · unfold mX12_harmed
      refine RQ.start D' fun s1 D1 => ?_
      simp only [if_neg h1, if_pos h2, mret_mbnd]
      refine RQ.get (thr_no D1 1) (RQ.val D1 ?_ rfl)
      simp only [if_true, mbnd_app, kx_in, m_harmed D1 (n := K.1 3) S.1.2.2.2.1 hb3, mint_2, mret_app]
  · refine Or.inr ⟨0, 1, 0, ?_, rfl, one_ne0, fun s' D' => ?_⟩
    · unfold mX11_harmed
      simp only [CC.all C, if_neg h1, if_neg h2, mthr_app]
    · unfold mX12_harmed
      refine RQ.start D' fun s1 D1 => ?_
      simp only [if_neg h1, if_neg h2, mret_mbnd]
      exact RQ.thr D1 1 fun _ => rfl
end AG
