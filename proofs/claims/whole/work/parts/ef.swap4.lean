/-! ACTS: swap, seed: the calls -/
section SW4
variable {s : aS} {f : Int32} {K : CK} {M : MK} {LW : Option (List Ln)} {c c' : Nat} {x y z : Int32}
theorem rg3 (x : Int32) : rg 3 x → (x < 0 ∨ 2 < x) := (rg_9 x 2 (by decide)).mp
theorem go_swap (H : World s f K M LW c) (h1 : c ≤ c') (h2 : c' < 100000) : Both s (mX11_swap 0 x y z) (mX12_swap 66 x y z) [(2, 1), (0, 2), (4, 3)] c' := by
  obtain ⟨⟨⟨C, -, S, hk, hw, hc⟩, -, LR⟩, -⟩ := id H
  have b0 : K.1 0 ≤ 16 := hk 0 (by decide)
  have b1 : K.1 1 ≤ 6 := hk 1 (by decide)
  have cs := Sm.cols S hk
  have hm : ∀ x y z s', mX12_swap 66 x y z s' = onC 11 66 (mbnd (pI 11 0 66 0) fun _ => swBody x y z) s' := fun _ _ _ _ => rfl
  rcases rg_or (K.1 1) (by omega) x with h | ⟨t, ht, rfl⟩
  · refine Ag.goes H h1 h2 (Or.inr ⟨2, 1, 0, ?_, rfl, one_ne0, fun s' D' => RQ.eq (hm _ _ _ s') (RQ.start D' fun s1 D1 => ?_)⟩)
    · unfold mX11_swap
      rw [onC_ok C.1, bnd_ex (need_tool_no C h)]
    · unfold swBody
      refine RQ.get (noTool_no D1 S.1.2.1 (by omega) h) ?_
      rw [if_neg one_ne0]
      exact RQ.get (w := 1) rfl (RQ.thr D1 1 fun _ => rfl)
  rcases rg_or 3 (by decide) y with h | ⟨k, hk3, rfl⟩
  · refine Ag.goes H h1 h2 (Or.inr ⟨2, 1, 0, ?_, rfl, one_ne0, fun s' D' => RQ.eq (hm _ _ _ s') (RQ.start D' fun s1 D1 => ?_)⟩)
    · unfold mX11_swap
      rw [onC_ok C.1, bnd_ok (need_tool_ok C hk ht)]
      by_cases q : y < 0
      · rw [if_pos q]
        rfl
      · rw [if_neg q, if_neg (Int32.not_lt.mpr (show (3 : Int32) ≤ y from h.elim (fun z => absurd z q) id))]
        rfl
    · unfold swBody
      refine RQ.get (noTool_in D1 S.1.2.1 (by omega) ht) ?_
      rw [if_pos rfl]
      refine RQ.get (w := 1) ?_ (RQ.thr D1 1 fun _ => rfl)
      rw [bnd_ok (in_app y 0 2 s1), if_pos (rg3 y h), if_pos rfl]
      rfl
  have hin : ∀ s1, mX12_in (Int32.ofNat k) 0 2 s1 = some (.inl 1, s1) := fun s1 => by
    rw [in_app, if_neg (show ¬ (Int32.ofNat k < 0 ∨ 2 < Int32.ofNat k) from fun q => q.elim (ofN_nn (by omega)) fun q => absurd ((ofN_lt (n := 2) (by decide) (by omega)).mp q) (by omega))]
  by_cases hz : comeOk K (M.2 1) k z
  · have sg : ∀ g, badS K g z → M.2 1 (141 + 4 * t + k) = g → (g = -1 ∨ ∃ q, q < K.1 0 ∧ g = Int32.ofNat q) → Both s (mX11_swap 0 (Int32.ofNat t) (Int32.ofNat k) z) (mX12_swap 66 (Int32.ofNat t) (Int32.ofNat k) z) [(2, 1), (0, 2), (4, 3)] c' := fun g hb eg hg => by
      refine Ag.goes H h1 h2 (Or.inr ⟨4, 3, 0, ?_, rfl, by decide, fun s' D' => RQ.eq (hm _ _ _ s') (RQ.start D' fun s1 D1 => ?_)⟩)
      · rw [swap_preC C S hk ht hk3 hz, eg, bnd_ex ((need_swap C g z).1 hb)]
      · refine Ev.rq (swap_pre D1 S hk ht hk3 hz ?_)
        rw [show (mint M 0 0).2 1 (141 + 4 * t + k) = g from eg]
        exact RQ.ev ((swB_or (t := t) D1 S hk hw hk3 hg hz).1 hb)
    rcases slot_or hk hw ht hk3 with eg | ⟨q, hq, -, eg, -⟩
    · by_cases hb : badS K (-1) z
      · exact sg _ hb eg (Or.inl rfl)
      · rcases hz with rfl | ⟨p, hp, rfl, hs⟩
        · exact absurd (Or.inl ⟨rfl, rfl⟩) hb
        · exact go_swapA H h1 h2 ht hk3 hp hs eg hb
    · by_cases hb : badS K (Int32.ofNat q) z
      · exact sg _ hb eg (Or.inr ⟨q, hq, rfl⟩)
      · rcases hz with rfl | ⟨p, hp, rfl, hs⟩
        · exact go_swapB H h1 h2 ht hk3 hq eg hb
        · exact go_swapC H h1 h2 ht hk3 hp hs hq eg hb
  · have z1 : ¬ z = -1 := fun e => hz (Or.inl e)
    rcases rg_or (K.1 0) (by omega) z with h | ⟨p, hp, rfl⟩
    · refine Ag.goes H h1 h2 (Or.inr ⟨2, 1, 0, ?_, rfl, one_ne0, fun s' D' => RQ.eq (hm _ _ _ s') (RQ.start D' fun s1 D1 => ?_)⟩)
      · unfold mX11_swap
        rw [onC_ok C.1, bnd_ok (need_tool_ok C hk ht), if_neg (ofN_nn (by omega)), if_pos (show Int32.ofNat k < 3 from (ofN_lt (m := 3) (by omega) (by decide)).mpr hk3), if_neg z1, bnd_ex (bnd_ex (need_part_no C h))]
      · unfold swBody
        refine RQ.get (noTool_in D1 S.1.2.1 (by omega) ht) ?_
        rw [if_pos rfl]
        refine RQ.get (w := 1) ?_ (RQ.thr D1 1 fun _ => rfl)
        rw [bnd_ok (hin s1), if_neg one_ne0, if_neg z1, bnd_ok (noPart_no D1 S.1.1 (by omega) h), if_neg one_ne0]
        rfl
    · have hs : ¬ M.2 1 (13 + 8 * p) = Int32.ofNat k := fun e => hz (Or.inr ⟨p, hp, rfl, e⟩)
      refine Ag.goes H h1 h2 (Or.inr ⟨0, 2, 0, ?_, rfl, by decide, fun s' D' => RQ.eq (hm _ _ _ s') (RQ.start D' fun s1 D1 => ?_)⟩)
      · unfold mX11_swap
        rw [onC_ok C.1, bnd_ok (need_tool_ok C hk ht), if_neg (ofN_nn (by omega)), if_pos (show Int32.ofNat k < 3 from (ofN_lt (m := 3) (by omega) (by decide)).mpr hk3), if_neg z1]
        refine bnd_ex ?_
        rw [bnd_ok (need_part_ok C hk hp), bnd_ok (gR_ok C.1 rfl), bnd_ok (gR_ok C.2.1 rfl)]
        refine (bnd_ok (get_ok C.2.t0)).trans ?_
        rw [if_neg (show ¬ tget 8 (K.1 0) (K.2.1 0) (Int32.ofNat p) 0 = Int32.ofNat k from fun e => hs ((cs.1 p hp).symm.trans e))]
        rfl
      · unfold swBody
        refine RQ.get (noTool_in D1 S.1.2.1 (by omega) ht) ?_
        rw [if_pos rfl]
        refine RQ.get (w := 0) ?_ (RQ.get (thr_no D1 1) ?_)
        · rw [bnd_ok (hin s1), if_neg one_ne0, if_neg z1, bnd_ok (noPart_in D1 S.1.1 (by omega) hp), if_pos rfl]
          rfl
        · rw [if_pos rfl]
          refine RQ.get (w := 1) ?_ (RQ.thr D1 2 fun _ => rfl)
          rw [if_neg z1, bnd_ok ((MD.cols D1).1 p (by omega)), if_neg (show ¬ (mint M 0 0).2 1 (13 + 8 * p) = Int32.ofNat k from hs)]
          rfl
/-- wOk asks nothing of what was served, of the log and of the seed -/
theorem wOk.other {W W' : Nat → Int32} (hw : wOk K W c) (hk : kOk K) (e : ∀ i, i < 771 → i ≠ 9 → i ≠ 10 → i ≠ 12 → W' i = W i) : wOk K W' c := by
  have b0 : K.1 0 ≤ 16 := hk 0 (by decide)
  have b1 : K.1 1 ≤ 6 := hk 1 (by decide)
  have b2 : K.1 2 ≤ 6 := hk 2 (by decide)
  have b3 : K.1 3 ≤ 60 := hk 3 (by decide)
  have b5 : K.1 5 ≤ 30 := hk 5 (by decide)
  obtain ⟨p, t, m, d, so, sh, gs, x3, x5, x7, x8⟩ := hw
  refine ⟨fun i hi => ?_, fun i hi k hk => ?_, fun i hi => ?_, fun i hi => ?_, fun i hi => ?_, fun i hi k h1 h2 => ?_, ?_, ?_, ?_, ?_, ?_⟩
  · obtain ⟨a0, a1, a2, a3, a4, a5, a6⟩ := p i hi
    have hs : (W (13 + 8 * i)).toNatClampNeg ≤ 2 := by
      obtain ⟨n, h1, h2⟩ := a0
      rw [h2, ofN_cl (by omega)]
      exact h1
    unfold pOk
    rw [e (13 + 8 * i) (by omega) (by omega) (by omega) (by omega), e (13 + 8 * i + 1) (by omega) (by omega) (by omega) (by omega), e (13 + 8 * i + 2) (by omega) (by omega) (by omega) (by omega), e (13 + 8 * i + 3) (by omega) (by omega) (by omega) (by omega), e (13 + 8 * i + 4) (by omega) (by omega) (by omega) (by omega), e (13 + 8 * i + 5) (by omega) (by omega) (by omega) (by omega), e (13 + 8 * i + 6) (by omega) (by omega) (by omega) (by omega)]
    refine ⟨a0, a1, a2, a3, a4, a5, a6.imp id ?_⟩
    rintro ⟨q, hq, z1, z2⟩
    exact ⟨q, hq, z1, by rw [e _ (by omega) (by omega) (by omega) (by omega)]; exact z2⟩
  · rw [e _ (by omega) (by omega) (by omega) (by omega)]
    refine (t i hi k hk).imp id ?_
    rintro ⟨q, hq, z1, z2, z3⟩
    exact ⟨q, hq, z1, by rw [e _ (by omega) (by omega) (by omega) (by omega)]; exact z2, by rw [e _ (by omega) (by omega) (by omega) (by omega)]; exact z3⟩
  · rw [e _ (by omega) (by omega) (by omega) (by omega)]
    exact m i hi
  · have := d i hi
    unfold dOk at this ⊢
    rw [e (171 + 7 * i) (by omega) (by omega) (by omega) (by omega), e (171 + 7 * i + 1) (by omega) (by omega) (by omega) (by omega), e (171 + 7 * i + 2) (by omega) (by omega) (by omega) (by omega), e (171 + 7 * i + 3) (by omega) (by omega) (by omega) (by omega), e (171 + 7 * i + 4) (by omega) (by omega) (by omega) (by omega), e (171 + 7 * i + 5) (by omega) (by omega) (by omega) (by omega), e 5 (by omega) (by omega) (by omega) (by omega)]
    exact this
  · rw [e _ (by omega) (by omega) (by omega) (by omega), e _ (by omega) (by omega) (by omega) (by omega)]
    exact so i hi
  · rw [e _ (by omega) (by omega) (by omega) (by omega)]
    exact sh i hi k h1 h2
  · rw [gsum_congr _ b0 (fun i h1 h2 => e i (by omega) (by omega) (by omega) (by omega))]
    exact gs
  · rw [e 3 (by decide) (by decide) (by decide) (by decide)]
    exact x3
  · rw [e 5 (by decide) (by decide) (by decide) (by decide)]
    exact x5
  · rw [e 7 (by decide) (by decide) (by decide) (by decide)]
    exact x7
  · rw [e 8 (by decide) (by decide) (by decide) (by decide)]
    exact x8
/-- what changes a Court and a world only, no act -/
theorem World.step {s4 : aS} {K' : CK} {M4 : MK} (H : World s f K M LW c) (h1 : c ≤ c') (h2 : c' < 100000) (fr : Fr (fun k => pAct K.2.2.2 k ∨ k = 79 ∨ (66 ≤ k ∧ k ≤ 78)) s s4) (C4 : CC s4 f K') (Sc4 : ScOk K.2.2.2 s4) (el : K'.2.2.2 = K.2.2.2) (D4 : Mdl s4 66 M4) (O4 : Ot s4) (i6 : M4.1 6 = M.1 6) (i7 : M4.1 7 = M.1 7) (i9 : M4.1 9 = M.1 9) (i14 : M4.1 14 = M.1 14) (k2 : M4.2 2 = M.2 2) (k5 : M4.2 5 = M.2 5) (k6 : M4.2 6 = M.2 6) (S4 : Sm K' (M4.2 1)) (hk4 : kOk K') (hw4 : wOk K' (M4.2 1) c') (e4 : M4.2 1 4 = M.2 1 4) (e1071 : ∀ i, 1071 ≤ i → M4.2 1 i = M.2 1 i) : World s4 f K' M4 LW c' := by
  obtain ⟨hl2, hl⟩ := H.lt
  obtain ⟨⟨⟨C, D, S, hk, hw, hc⟩, ⟨-, Sc, L, -, Lok⟩, LR⟩, ef, T, R, O, li, o, h, A, mc, mr, ml⟩ := H
  have hl' := hl
  unfold lOk at hl'
  have nz : ∀ k, ¬ scr K.2.2.2 k → ¬ (28 ≤ k ∧ k ≤ 40) → k ≠ 79 → ¬ (66 ≤ k ∧ k ≤ 78) → ¬ (pAct K.2.2.2 k ∨ k = 79 ∨ (66 ≤ k ∧ k ≤ 78)) := fun k h1 h2 h3 h4 q => q.elim (fun q => q.elim h1 h2) fun q => q.elim h3 h4
  have n80 : ∀ k, 80 ≤ k → ¬ (K.2.2.2 ≤ k ∧ k ≤ K.2.2.2 + 2) → ¬ (pAct K.2.2.2 k ∨ k = 79 ∨ (66 ≤ k ∧ k ≤ 78)) := fun k h1 h2 => nz k (by unfold scr; omega) (by omega) (by omega) (by omega)
  have nll : ¬ (pAct K.2.2.2 K.2.2.2 ∨ K.2.2.2 = 79 ∨ (66 ≤ K.2.2.2 ∧ K.2.2.2 ≤ 78)) ∧ ¬ (pAct K.2.2.2 (K.2.2.2 + 1) ∨ K.2.2.2 + 1 = 79 ∨ (66 ≤ K.2.2.2 + 1 ∧ K.2.2.2 + 1 ≤ 78)) := ⟨nz _ (by unfold scr; omega) (by omega) (by omega) (by omega), nz _ (by unfold scr; omega) (by omega) (by omega) (by omega)⟩
  refine ⟨⟨⟨C4, D4, S4, hk4, hw4, h2⟩, ⟨C4, by rw [el]; exact Sc4, by rw [el]; exact L.fr fr nll.1 nll.2, by rw [el]; exact hl, Lok⟩, LR.congr e4 e1071⟩, ef.trans i14.symm, T.fr fr (nz 1 (by unfold scr; omega) (by decide) (by decide) (by decide)) (nz 2 (by unfold scr; omega) (by decide) (by decide) (by decide)) i9 k6, R.fr fr fun k h1 h2 => nz k (by unfold scr; omega) (by omega) (by omega) (by omega), O4, ?_⟩
  rw [el]
  exact ⟨li, o, h, A, mc.fr fr (nz 23 (by unfold scr; omega) (by decide) (by decide) (by decide)) (nz 24 (by unfold scr; omega) (by decide) (by decide) (by decide)) n80, mr.keep h1 i7 i6 k5 k2 e4, ml.fr fr hl nll (Sc4.stack hl) ⟨nz 25 (by unfold scr; omega) (by decide) (by decide) (by decide), nz 26 (by unfold scr; omega) (by decide) (by decide) (by decide)⟩ (fun e => nz 27 (by unfold scr; omega) (by decide) (by decide) (by decide)) n80 i6 k2⟩
theorem go_seed (H : World s f K M LW c) (h1 : c ≤ c') (h2 : c' < 100000) : Both s (mX11_seed 0 x) (mX12_seed 66 x) [] c' := by
  obtain ⟨⟨⟨C, D, S, hk, hw, hc⟩, ⟨-, Sc, -, hl, -⟩, LR⟩, -, -, -, O, -⟩ := id H
  have hl' := hl
  unfold lOk at hl'
  obtain ⟨sa, e1, Ca, o1⟩ : KRun (mX11_seed 0 x) s f (M.2 1 12) (kint K 11 x) := by
    unfold mX11_seed
    refine KRun.oC0 C (KRun.get (gR_ok C.1 rfl) (KRun.get (x := M.2 1 12) ?_ (KRun.get (gR_ok C.1 rfl) (KRun.bnd (KRun.of C (cint (k := 11) C.2 (by decide) (by decide))) fun s2 C2 _ => KRun.ret C2))))
    rw [← (Sm.ints S).2.2.2.2.1]
    exact gI_ok C.2.1 rfl
  have Oa : Ot sa := O.fr o1.fr (fun q : 28 ≤ 79 ∧ 79 ≤ 40 => by omega)
  refine Or.inl ⟨M.2 1 12, sa, e1, Oa, fun s1' h79 => ?_⟩
  have D1 : Mdl s1' 66 M := (D.fr o1.fr fun k k1 k2 (q : 28 ≤ k ∧ k ≤ 40) => by omega).fr h79.fr fun k k1 k2 (q : k = 79) => by omega
  obtain ⟨s2, p1, D2, o2⟩ := mint_run (k := 0) (v := 0) D1 rfl
  obtain ⟨s3, p2, D3, o3⟩ := wput (i := 12) (v := x) D2 (by decide)
  have fr : Fr (fun k => pAct K.2.2.2 k ∨ k = 79 ∨ (66 ≤ k ∧ k ≤ 78)) s s3 := Fr.tr (o1.fr.mono fun k q => Or.inl (Or.inr q)) (Fr.tr (h79.fr.mono fun k q => Or.inr (Or.inl q)) ((o2.trans o3).fr.mono fun k q => Or.inr (Or.inr q)))
  have f14 : Fr (fun k => k = 79 ∨ (66 ≤ k ∧ k ≤ 78)) sa s3 := Fr.tr (h79.fr.mono fun k q => Or.inl q) ((o2.trans o3).fr.mono fun k q => Or.inr q)
  refine ⟨s3, f, kint K 11 x, mput (mint M 0 0) 1 12 x, LW, ?_, (o2.trans o3).2 79 (by omega), rfl, ?_, H.step h1 h2 fr (Ca.fr f14 (by omega) fun k h1 h2 (q : k = 79 ∨ (66 ≤ k ∧ k ≤ 78)) => by omega) ?_ rfl D3 ⟨⟨h79.2.2.choose, ((o2.trans o3).2 79 (by omega)).trans h79.2.2.choose_spec⟩, by rw [(o2.trans o3).1, h79.1]; exact Oa.2⟩ rfl rfl rfl rfl rfl rfl rfl (Sm.seed S x) hk ?_ ?_ ?_⟩
  · unfold mX12_seed
    rw [onC_ok D1.1, bnd_ok p1, bnd_ok (MD.refs D2).2.1, bnd_ok (show ldI 0 67 12 s2 = some (.inl (M.2 1 12), s2) from (MD.wl D2).1 12 (by decide)), bnd_ok (MD.refs D2).2.1, bnd_ok (show stI 0 67 12 x s2 = some (.inl (), s3) from p2)]
    rfl
  · refine ⟨?_, ?_⟩
    · rw [(o2.trans o3).1, h79.1, o1.1]
      omega
    · rw [(o2.trans o3).1, h79.1, o1.1]
      omega
  · exact ((Sc.fr o1.fr fun k q (z : 28 ≤ k ∧ k ≤ 40) => by unfold scr at q; omega).fr h79.fr fun k q (z : k = 79) => by unfold scr at q; omega).fr (o2.trans o3).fr fun k q (z : 66 ≤ k ∧ k ≤ 78) => by unfold scr at q; omega
  · exact (wOk.other (W' := upd (M.2 1) 12 x) hw hk (fun i _ _ _ h => if_neg h)).more h1
  · show upd (M.2 1) 12 x 4 = M.2 1 4
    unfold upd
    rw [if_neg (by decide)]
  · intro i hi
    show upd (M.2 1) 12 x i = M.2 1 i
    unfold upd
    rw [if_neg (by omega)]
end SW4
