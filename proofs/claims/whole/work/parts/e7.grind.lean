/-! ACTS: grind, nail -/
section GN
variable {s : aS} {f : Int32} {K : CK} {M : MK} {LW : Option (List Ln)} {c c' : Nat} {x y : Int32}
theorem imax_sub {n : Nat} (h : n ≤ 99) : imax 0 (Int32.ofNat n - 30) = Int32.ofNat (n - 30) := by
  unfold imax
  have e30 : (30 : Int32).toInt = 30 := rfl
  have hn := ofN_toInt (n := n) (by omega)
  have e : (Int32.ofNat n - 30).toInt = (n : Int) - 30 := by rw [i_sub (by rw [hn, e30]; omega) (by rw [hn, e30]; omega), hn, e30]
  have e0 : (0 : Int32).toInt = 0 := rfl
  by_cases q : 30 < n
  · rw [if_pos (by rw [i32_lt, e, e0]; omega)]
    exact ofN_sub (n := n) (m := 30) (by omega)
  · rw [if_neg (by rw [i32_lt, e, e0]; omega), show n - 30 = 0 by omega]
    rfl
theorem part_at (p k : Nat) (s : aS) : mX12_partAt (Int32.ofNat p) (Int32.ofNat k) s = some (.inl (Int32.ofNat (13 + 8 * p + k)), s) := by
  unfold mX12_partAt
  rw [← at_lin 13 8 p k]
  rfl
theorem kr_put0 (C : CC s f K) {i j v : Int32} : KRun (mX8_put 29 i j v) s f () (kput K 0 i j v) := KRun.of C (cput0 C.2)
theorem kr_put1 (C : CC s f K) {i j v : Int32} : KRun (mX8_put 31 i j v) s f () (kput K 1 i j v) := KRun.of C (cput1 C.2)
theorem go_grind (H : World s f K M LW c) (h1 : c ≤ c') (h2 : c' < 100000) : Both s (mX11_grind 0 x) (mX12_grind 66 x) [(2, 1), (0, 2), (4, 3)] c' := by
  obtain ⟨⟨⟨C, -, S, hk, hw, hc⟩, -, -⟩, -⟩ := id H
  have hb : K.1 0 ≤ 16 := hk 0 (by decide)
  rcases rg_or (K.1 0) (by omega) x with h | ⟨p, hp, rfl⟩
  · refine Ag.goes H h1 h2 (Or.inr ⟨2, 1, 0, ?_, rfl, one_ne0, fun s' D' => ?_⟩)
    · unfold mX11_grind
      rw [onC_ok C.1, bnd_ex (need_part_no C h)]
    · unfold mX12_grind
      exact RQ.start D' fun s1 D1 => RQ.get (noPart_no D1 S.1.1 (by omega) h) (RQ.thr D1 1 fun _ => rfl)
  have cs := Sm.cols S hk
  by_cases hh : M.2 1 (13 + 8 * p) = 1
  · have hH : mX11_needHeadPart 0 (Int32.ofNat p) s = some (.inl (), s) := by
      unfold mX11_needHeadPart
      simp only [mbnd_app, kx_in, CC.all C, cs.1 p hp, hh, if_true, mret_app]
    rcases isN1 (hw.1 p hp).2.2.2.2.2.1 with hg | hg
    · obtain ⟨w, hw99, ew⟩ := (hw.1 p hp).2.2.1
      refine act_goes H h1 h2 (K' := kput (kput K 0 (Int32.ofNat p) 2 (Int32.ofNat (w - 30))) 0 (Int32.ofNat p) 5 1) (W' := upd (upd (M.2 1) (13 + 8 * p + 2) (Int32.ofNat (w - 30))) (13 + 8 * p + 5) 1) (v := Int32.ofNat (w - 30)) (fun _ => rfl) rfl (fun sa r1 CLa => ?_) (fun s2 s3 M3 D2 hr D3 e3 => ?_) ?_ ?_ ?_ ?_ ?_
      · unfold mX11_grind
        refine Ev.on C.1 (Ev.get (need_part_ok C hk hp) (Ev.get hH (Ev.get (gR_ok C.1 rfl) (Ev.get (gR_ok C.2.1 rfl) (Ev.get (show mX8_get 29 (Int32.ofNat p) 5 s = some (.inl (kget K 0 (Int32.ofNat p) 5), s) from get_ok C.2.t0) ?_)))))
        rw [if_pos (show kget K 0 (Int32.ofNat p) 5 = 0 from (cs.2.2.2.2.2.1 p hp).trans hg)]
        have Ca := CLa.1
        refine Ev.get (gR_ok C.1 rfl) (Ev.get (gR_ok C.1 rfl) (Ev.get r1 (Ev.kr (KRun.get (gR_ok Ca.1 rfl) (KRun.get (gR_ok Ca.2.1 rfl) (KRun.get (get_ok Ca.2.t0) (KRun.get (x := Int32.ofNat (w - 30)) ?_ (KRun.get (gR_ok Ca.1 rfl) (KRun.get (gR_ok Ca.2.1 rfl) (KRun.bnd (kr_put0 Ca) fun s5 C5 _ => KRun.get (gR_ok C5.1 rfl) (KRun.get (gR_ok C5.2.1 rfl) (KRun.bnd (kr_put0 C5) fun s6 C6 _ => KRun.ret C6))))))))) fun s' C' o' => act_fin CLa C' o')))
        show some (Sum.inl (imax 0 (kget K 0 (Int32.ofNat p) 2 - 30)), sa) = _
        rw [cs.2.2.1 p hp, ew, imax_sub hw99]
      · have ns := noPart_in D2 S.1.1 (by omega) hp
        refine Ev.get ns (Ev.get (thr_no D2 1) ?_)
        rw [if_pos rfl]
        refine Ev.get ((MD.is D2).2.2 p (by omega)) ?_
        rw [if_pos (show (mint M 0 0).2 1 (13 + 8 * p) = 1 from hh), if_neg one_ne0]
        refine Ev.get (x := 0) rfl (Ev.get (thr_no D2 2) ?_)
        rw [if_pos rfl]
        refine Ev.get ((MD.cols D2).2.2.2.2.2.1 p (by omega)) ?_
        rw [if_neg (show ¬ (mint M 0 0).2 1 (13 + 8 * p + 5) = 1 by rw [show (mint M 0 0).2 1 (13 + 8 * p + 5) = 0 from hg]; decide)]
        refine Ev.get (x := 0) rfl (Ev.get (thr_no D2 3) ?_)
        rw [if_pos rfl]
        refine Ev.get hr (Ev.ar (AR.get (MD.refs D3).2.1 (AR.get (part_at p 2 s3) (AR.get (x := Int32.ofNat w) ?_ (AR.bnd (x := ()) (W1 := upd (M.2 1) (13 + 8 * p + 2) (Int32.ofNat (w - 30))) ?_ fun s4 M4 D4 e4 _ => AR.get (MD.refs D4).2.1 (AR.get (part_at p 5 s4) (AR.bnd (AR.put D4 (by omega)) fun s5 M5 D5 e5 _ => AR.get (x := Int32.ofNat (w - 30)) ?_ (AR.fin D5 ?_))))))))
        · rw [← ew, ← e3]
          exact (MD.cols D3).2.2.1 p (by omega)
        · rw [imax_sub hw99, ← e3]
          exact AR.put D3 (by omega)
        · rw [(MD.cols D5).2.2.1 p (by omega), e5, e4]
          show some (Sum.inl (if 13 + 8 * p + 2 = 13 + 8 * p + 5 then _ else if 13 + 8 * p + 2 = 13 + 8 * p + 2 then _ else _), s5) = _
          rw [if_neg (by omega), if_pos rfl]
        · rw [e5, e4]
      · exact Sm.pput (Sm.pput S hk (q := p) (k := 2) hp (by decide) _) hk (q := p) (k := 5) hp (by decide) 1
      · exact hk
      · exact (((hw.pupd hk (q := p) (k := 2) (v := Int32.ofNat (w - 30)) hp (Or.inl ⟨rfl, w - 30, by omega, rfl⟩)).pupd hk (q := p) (k := 5) (v := 1) hp (Or.inr (Or.inl ⟨Or.inr rfl, 1, by omega, rfl⟩))).more h1)
      · show (if 4 = 13 + 8 * p + 5 then _ else if 4 = 13 + 8 * p + 2 then _ else _) = _
        rw [if_neg (by omega), if_neg (by omega)]
      · intro i hi
        show (if i = 13 + 8 * p + 5 then _ else if i = 13 + 8 * p + 2 then _ else _) = _
        rw [if_neg (by omega), if_neg (by omega)]
    · refine Ag.goes H h1 h2 (Or.inr ⟨4, 3, 0, ?_, rfl, by decide, fun s' D' => ?_⟩)
      · unfold mX11_grind
        rw [onC_ok C.1, bnd_ok (need_part_ok C hk hp), bnd_ok hH]
        simp only [mbnd_app, kx_in, CC.all C, cs.2.2.2.2.2.1 p hp, hg, one_ne0, if_false, mthr_app]
      · unfold mX12_grind
        refine RQ.start D' fun s1 D1 => RQ.get (noPart_in D1 S.1.1 (by omega) hp) (RQ.get (thr_no D1 1) ?_)
        rw [if_pos rfl]
        refine RQ.get ((MD.is D1).2.2 p (by omega)) ?_
        rw [if_pos (show (mint M 0 0).2 1 (13 + 8 * p) = 1 from hh), if_neg one_ne0]
        refine RQ.get (w := 0) rfl (RQ.get (thr_no D1 2) ?_)
        rw [if_pos rfl]
        refine RQ.get ((MD.cols D1).2.2.2.2.2.1 p (by omega)) ?_
        rw [if_pos (show (mint M 0 0).2 1 (13 + 8 * p + 5) = 1 from hg)]
        exact RQ.get (w := 1) rfl (RQ.thr D1 3 fun _ => rfl)
  · refine Ag.goes H h1 h2 (Or.inr ⟨0, 2, 0, ?_, rfl, by decide, fun s' D' => ?_⟩)
    · have hH : mX11_needHeadPart 0 (Int32.ofNat p) s = some (.inr 0, thS s) := by
        unfold mX11_needHeadPart
        simp only [mbnd_app, kx_in, CC.all C, cs.1 p hp, hh, if_false, mthr_app]
      unfold mX11_grind
      rw [onC_ok C.1, bnd_ok (need_part_ok C hk hp), bnd_ex hH]
    · unfold mX12_grind
      refine RQ.start D' fun s1 D1 => RQ.get (noPart_in D1 S.1.1 (by omega) hp) (RQ.get (thr_no D1 1) ?_)
      rw [if_pos rfl]
      refine RQ.get ((MD.is D1).2.2 p (by omega)) ?_
      rw [if_neg (show ¬ (mint M 0 0).2 1 (13 + 8 * p) = 1 from hh), if_pos rfl]
      exact RQ.get (w := 1) rfl (RQ.thr D1 2 fun _ => rfl)
/-- spare or not, on both sides -/
theorem spare_or (S : Sm K (M.2 1)) (hk : kOk K) (hw : wOk K (M.2 1) c) {p : Nat} (hp : p < K.1 0) : (M.2 1 (13 + 8 * p + 6) = -1 ∧ kget K 0 (Int32.ofNat p) 6 = -1) ∨ (¬ M.2 1 (13 + 8 * p + 6) = -1 ∧ ¬ kget K 0 (Int32.ofNat p) 6 = -1 ∧ 0 ≤ M.2 1 (13 + 8 * p + 6)) := by
  have hb1 : K.1 1 ≤ 6 := hk 1 (by decide)
  have e := (Sm.cols S hk).2.2.2.2.2.2.1 p hp
  rcases (hw.1 p hp).2.2.2.2.2.2 with q | ⟨t, ht, q, -⟩
  · exact Or.inl ⟨q, e.trans q⟩
  · refine Or.inr ⟨by rw [q]; exact ofN_ne1 (by omega), by rw [e, q]; exact ofN_ne1 (by omega), by rw [q]; exact le0_ofN (by omega)⟩
theorem go_nail (H : World s f K M LW c) (h1 : c ≤ c') (h2 : c' < 100000) : Both s (mX11_nail 0 x y) (mX12_nail 66 x y) [(2, 1), (4, 2)] c' := by
  obtain ⟨⟨⟨C, -, S, hk, hw, hc⟩, -, -⟩, -⟩ := id H
  have hb : K.1 0 ≤ 16 := hk 0 (by decide)
  rcases rg_or (K.1 0) (by omega) x with h | ⟨p, hp, rfl⟩
  · refine Ag.goes H h1 h2 (Or.inr ⟨2, 1, 0, ?_, rfl, one_ne0, fun s' D' => ?_⟩)
    · unfold mX11_nail
      rw [onC_ok C.1, bnd_ex (need_part_no C h)]
    · unfold mX12_nail
      exact RQ.start D' fun s1 D1 => RQ.get (noPart_no D1 S.1.1 (by omega) h) (RQ.thr D1 1 fun _ => rfl)
  have cs := Sm.cols S hk
  rcases spare_or S hk hw hp with ⟨q1, q2⟩ | ⟨q1, q2, q3⟩
  · refine Ag.goes H h1 h2 (Or.inr ⟨4, 2, 0, ?_, rfl, by decide, fun s' D' => ?_⟩)
    · unfold mX11_nail
      rw [onC_ok C.1, bnd_ok (need_part_ok C hk hp)]
      simp only [mbnd_app, kx_in, CC.all C, q2, one_ne0, if_true, if_false, mthr_app]
    · unfold mX12_nail
      refine RQ.start D' fun s1 D1 => RQ.get (noPart_in D1 S.1.1 (by omega) hp) (RQ.get (thr_no D1 1) ?_)
      rw [if_pos rfl]
      refine RQ.get ((MD.is D1).1 p (by omega)) ?_
      rw [if_neg (show ¬ (0 : Int32) ≤ (mint M 0 0).2 1 (13 + 8 * p + 6) by rw [show (mint M 0 0).2 1 (13 + 8 * p + 6) = -1 from q1]; decide)]
      exact RQ.thr D1 2 fun _ => rfl
  · have hN := isN1 (hw.1 p hp).2.2.2.2.1
    have eN : kget K 0 (Int32.ofNat p) 4 = M.2 1 (13 + 8 * p + 4) := cs.2.2.2.2.1 p hp
    have ite4 : ∀ v : Int32, (v = 0 ∨ v = 1) → (if v = 1 then (1 : Int32) else 0) = v := fun v hv => by
      rcases hv with rfl | rfl <;> decide
    refine act_goes H h1 h2 (K' := kput K 0 (Int32.ofNat p) 4 (if y = 0 then 0 else 1)) (W' := upd (M.2 1) (13 + 8 * p + 4) (if y = 0 then 0 else 1)) (v := if M.2 1 (13 + 8 * p + 4) = y then 0 else 1) (fun _ => rfl) rfl (fun sa r1 CLa => ?_) (fun s2 s3 M3 D2 hr D3 e3 => ?_) ?_ ?_ ?_ ?_ ?_
    · unfold mX11_nail
      refine Ev.on C.1 (Ev.get (need_part_ok C hk hp) (Ev.get (gR_ok C.1 rfl) (Ev.get (isSpare_run C.2) ?_)))
      rw [if_neg q2, if_pos rfl]
      have Ca := CLa.1
      refine Ev.get (gR_ok C.1 rfl) (Ev.get (gR_ok C.1 rfl) (Ev.get r1 (Ev.kr (KRun.get (gR_ok Ca.1 rfl) (KRun.get (isNailed_run Ca.2) (KRun.get (x := if M.2 1 (13 + 8 * p + 4) = y then 0 else 1) ?_ (KRun.get (gR_ok Ca.1 rfl) (KRun.get (gR_ok Ca.2.1 rfl) (KRun.get (x := if y = 0 then 0 else 1) ?_ (KRun.bnd (kr_put0 Ca) fun s5 C5 _ => ?_))))))) fun s' C' o' => act_fin CLa C' o')))
      · rw [eN, ite4 _ hN]
        split <;> rfl
      · split <;> rfl
      · refine ⟨s5, ?_, C5, Off.rf⟩
        exact mbool_ite2 s5
    · refine Ev.get (noPart_in D2 S.1.1 (by omega) hp) (Ev.get (thr_no D2 1) ?_)
      rw [if_pos rfl]
      refine Ev.get ((MD.is D2).1 p (by omega)) ?_
      rw [if_pos (show (0 : Int32) ≤ (mint M 0 0).2 1 (13 + 8 * p + 6) from q3)]
      refine Ev.get (thr_no D2 2) ?_
      rw [if_pos rfl]
      refine Ev.get hr (Ev.ar (AR.get ((MD.is D3).2.1 p (by omega)) (AR.get (x := if M.2 1 (13 + 8 * p + 4) = y then 0 else 1) ?_ (AR.get (MD.refs D3).2.1 (AR.get (part_at p 4 s3) (AR.get (x := if y = 0 then 0 else 1) ?_ (AR.bnd (AR.put D3 (by omega)) fun s4 M4 D4 e4 _ => ?_)))))))
      · rw [e3, ite4 _ hN]
        split <;> rfl
      · split <;> rfl
      · refine ⟨s4, M4, mbool_ite2 s4, D4, Off.rf, ?_, KeepA.rf⟩
        rw [e4, e3]
    · exact Sm.pput S hk (q := p) (k := 4) hp (by decide) _
    · exact hk
    · refine (hw.pupd hk (q := p) (k := 4) hp (Or.inr (Or.inl ⟨Or.inl rfl, ?_⟩))).more h1
      split
      · exact ⟨0, by omega, rfl⟩
      · exact ⟨1, by omega, rfl⟩
    · show (if 4 = 13 + 8 * p + 4 then _ else _) = _
      rw [if_neg (by omega)]
    · intro i hi
      show (if i = 13 + 8 * p + 4 then _ else _) = _
      rw [if_neg (by omega)]
end GN
