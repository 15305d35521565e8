/-! ACTS: swap, both sides -/
section SW3
variable {s : aS} {f : Int32} {K : CK} {M : MK} {W : Nat → Int32} {LW : Option (List Ln)} {c c' : Nat} {x y z : Int32}
theorem wplace_off (W : Nat → Int32) {p t k i : Nat} (h1 : i ≠ 141 + 4 * t + k) (h2 : i ≠ 13 + 8 * p + 6) : wplace W p t k i = W i := by
  unfold wplace upd
  rw [if_neg h2, if_neg h1]
theorem wtake_off (W : Nat → Int32) {g t k i : Nat} (h1 : i ≠ 141 + 4 * t + k) (h2 : i ≠ 13 + 8 * g + 6) : wtake W g t k i = W i := by
  unfold wtake upd
  rw [if_neg h1, if_neg h2]
theorem wpass_off (W : Nat → Int32) {g p n i : Nat} (h : i < 771 ∨ 1071 ≤ i) (h10 : i ≠ 10) (h1 : i ≠ 13 + 8 * g + 3) (h2 : i ≠ 13 + 8 * p + 3) (h3 : i ≠ 13 + 8 * p + 7) : wpass W g p n i = W i := by
  unfold wpass
  rw [wblame_off h h10 h2]
  unfold upd
  rw [if_neg h3, if_neg h1]
theorem kpass_0 (K : CK) (g p : Int32) : kpass K g p 0 = K := if_pos (Int32.le_refl 0)
/-- the class's side: what goes over is o -/
theorem swap_C (H : World s f K M LW c) {t k : Nat} (ht : t < K.1 1) (hk3 : k < 3) (hz : comeOk K (M.2 1) k z) (hb : ¬ badS K (M.2 1 (141 + 4 * t + k)) z) {o : Int32} (ho : ∀ sa, CL sa f K LW → ∃ sb, (if M.2 1 (141 + 4 * t + k) = -1 then mret 0 else if z = -1 then mret 0 else (mbnd (gR 10 3 0) fun (v21 : Nat) => mbnd (gR 10 7 0) fun (v22 : Nat) => mbnd (mX2_inherited v21 v22 (M.2 1 (141 + 4 * t + k))) fun (v23 : Int32) => mret v23) : MM Int32) sa = some (.inl o, sb) ∧ ScR K.2.2.2 sa sb) :
    ∀ sa, mX6_keepAct 23 28 s = some (.inl (), sa) → CL sa f K LW → Ev (mX11_swap 0 (Int32.ofNat t) (Int32.ofNat k) z) s o (fun s1 => CC s1 f (kswap K (Int32.ofNat t) (Int32.ofNat k) (M.2 1 (141 + 4 * t + k)) z o) ∧ ScOk K.2.2.2 s1 ∧ Fr (pAct K.2.2.2) sa s1 ∧ s1.2 = sa.2) := fun sa r1 CLa => by
  obtain ⟨⟨⟨C, -, S, hk, hw, hc⟩, -, -⟩, -⟩ := id H
  refine Ev.eq (swap_preC C S hk ht hk3 hz) (Ev.get ((need_swap C _ z).2 hb) ?_)
  unfold swC
  obtain ⟨sb, e1, e2⟩ := ho sa CLa
  have CLb := CLa.scR e2
  refine Ev.get (gR_ok C.1 rfl) (Ev.get (gR_ok C.1 rfl) (Ev.get r1 (Ev.get e1 (Ev.kr (c_swap CLb.1) fun s' C' o' => ?_))))
  obtain ⟨z1, z2, z3, z4⟩ := act_fin CLb C' o'
  exact ⟨z1, z2, Fr.tr (e2.fr.mono fun k q => Or.inl q) z3, z4.trans e2.1⟩
theorem go_swapA (H : World s f K M LW c) (h1 : c ≤ c') (h2 : c' < 100000) {t k p : Nat} (ht : t < K.1 1) (hk3 : k < 3) (hp : p < K.1 0) (hs : M.2 1 (13 + 8 * p) = Int32.ofNat k) (hg : M.2 1 (141 + 4 * t + k) = -1) (hb : ¬ badS K (-1) (Int32.ofNat p)) : Both s (mX11_swap 0 (Int32.ofNat t) (Int32.ofNat k) (Int32.ofNat p)) (mX12_swap 66 (Int32.ofNat t) (Int32.ofNat k) (Int32.ofNat p)) [(2, 1), (0, 2), (4, 3)] c' := by
  obtain ⟨⟨⟨C, -, S, hk, hw, hc⟩, -, LR⟩, -⟩ := id H
  have b0 : K.1 0 ≤ 16 := hk 0 (by decide)
  have b1 : K.1 1 ≤ 6 := hk 1 (by decide)
  have hz : comeOk K (M.2 1) k (Int32.ofNat p) := Or.inr ⟨p, hp, rfl, hs⟩
  have h6 : M.2 1 (13 + 8 * p + 6) = -1 := by
    rcases spare_or S hk hw hp with ⟨e, -⟩ | ⟨-, e, -⟩
    · exact e
    · exact absurd (Or.inr (Or.inr ⟨ofN_ne1 (by omega), e⟩)) hb
  have eK : kswap K (Int32.ofNat t) (Int32.ofNat k) (-1) (Int32.ofNat p) 0 = kput (kput K 1 (Int32.ofNat t) (Int32.ofNat k) (Int32.ofNat p)) 0 (Int32.ofNat p) 6 (Int32.ofNat t) := by
    unfold kswap
    rw [kput_neg, kpass_0]
  have hC := swap_C H ht hk3 hz (by rw [hg]; exact hb) (o := 0) (fun sa _ => ⟨sa, by rw [hg, if_pos rfl]; rfl, ScR.rf⟩)
  rw [hg, eK] at hC
  refine act_goes H h1 h2 (K' := kput (kput K 1 (Int32.ofNat t) (Int32.ofNat k) (Int32.ofNat p)) 0 (Int32.ofNat p) 6 (Int32.ofNat t)) (W' := wplace (M.2 1) p t k) (v := 0) (k := swBody (Int32.ofNat t) (Int32.ofNat k) (Int32.ofNat p)) (fun _ => rfl) rfl hC (fun s2 s3 M3 D2 hr D3 e3 => ?_) ?_ hk ((hw.place hk hp ht hk3 hg hs h6).more h1) ?_ ?_
  · refine swap_pre D2 S hk ht hk3 hz ?_
    rw [show (mint M 0 0).2 1 (141 + 4 * t + k) = -1 from hg]
    refine (swB_or (t := t) D2 S hk hw hk3 (Or.inl rfl) hz).2 hb _ _ ?_
    unfold swK
    refine Ev.get hr (Ev.ar (AR.get (x := 0) rfl (AR.get (x := ()) rfl (AR.get (MD.refs D3).2.1 ?_))))
    rw [show (141 : Int32) + 4 * Int32.ofNat t + Int32.ofNat k = Int32.ofNat (141 + 4 * t + k) from at_lin 141 4 t k]
    refine AR.bnd (AR.put D3 (by omega)) fun s4 M4 D4 e4 _ => ?_
    rw [if_pos (le0_ofN (by omega)), upd_self (M3.2 1) _ (show -1 = M3.2 1 (141 + 4 * t + k) by rw [e3, hg])] at *
    refine AR.bnd (m_puts D4 (t := t) (p := p) (k := k) (by omega) (by omega) hk3 (by rw [e4, e3]; exact hs)).ar fun s5 M5 D5 e5 _ => ?_
    rw [if_neg (by decide)]
    refine AR.fin D5 ?_
    rw [e5, e4, e3]
  · exact Sm.pput (Sm.toput S hk ht (show k < 4 by omega) (Int32.ofNat p)) hk (q := p) (k := 6) hp (by decide) (Int32.ofNat t)
  · exact wplace_off _ (by omega) (by omega)
  · exact fun i hi => wplace_off _ (by omega) (by omega)
theorem go_swapB (H : World s f K M LW c) (h1 : c ≤ c') (h2 : c' < 100000) {t k q : Nat} (ht : t < K.1 1) (hk3 : k < 3) (hq : q < K.1 0) (hg : M.2 1 (141 + 4 * t + k) = Int32.ofNat q) (hb : ¬ badS K (Int32.ofNat q) (-1)) : Both s (mX11_swap 0 (Int32.ofNat t) (Int32.ofNat k) (-1)) (mX12_swap 66 (Int32.ofNat t) (Int32.ofNat k) (-1)) [(2, 1), (0, 2), (4, 3)] c' := by
  obtain ⟨⟨⟨C, -, S, hk, hw, hc⟩, -, LR⟩, -⟩ := id H
  have b0 : K.1 0 ≤ 16 := hk 0 (by decide)
  have b1 : K.1 1 ≤ 6 := hk 1 (by decide)
  have hz : comeOk K (M.2 1) k (-1) := Or.inl rfl
  have eK : kswap K (Int32.ofNat t) (Int32.ofNat k) (Int32.ofNat q) (-1) 0 = kput (kput K 0 (Int32.ofNat q) 6 (-1)) 1 (Int32.ofNat t) (Int32.ofNat k) (-1) := by
    unfold kswap
    rw [kput_neg, kpass_0]
  have hC := swap_C H ht hk3 hz (by rw [hg]; exact hb) (o := 0) (fun sa _ => ⟨sa, by rw [hg, if_neg (ofN_ne1 (by omega)), if_pos rfl]; rfl, ScR.rf⟩)
  rw [hg, eK] at hC
  refine act_goes H h1 h2 (K' := kput (kput K 0 (Int32.ofNat q) 6 (-1)) 1 (Int32.ofNat t) (Int32.ofNat k) (-1)) (W' := wtake (M.2 1) q t k) (v := 0) (k := swBody (Int32.ofNat t) (Int32.ofNat k) (-1)) (fun _ => rfl) rfl hC (fun s2 s3 M3 D2 hr D3 e3 => ?_) ?_ hk ((hw.take hk hq ht hk3 hg).more h1) ?_ ?_
  · refine swap_pre D2 S hk ht hk3 hz ?_
    rw [show (mint M 0 0).2 1 (141 + 4 * t + k) = Int32.ofNat q from hg]
    refine (swB_or (t := t) D2 S hk hw hk3 (Or.inr ⟨q, hq, rfl⟩) hz).2 hb _ _ ?_
    unfold swK
    refine Ev.get hr (Ev.ar (AR.get (x := 0) ?_ (AR.bnd (W1 := upd (M.2 1) (13 + 8 * q + 6) (-1)) (x := ()) ?_ fun s4 M4 D4 e4 _ => AR.get (MD.refs D4).2.1 ?_)))
    · rw [if_neg (ofN_nn (by omega)), if_neg (by decide)]
      rfl
    · rw [if_neg (ofN_nn (by omega)), ← e3]
      exact AR.get (MD.refs D3).2.1 (AR.get (part_at q 6 s3) (AR.bnd (AR.put D3 (by omega)) fun s4 M4 D4 e4 _ => AR.fin D4 e4))
    · rw [show (141 : Int32) + 4 * Int32.ofNat t + Int32.ofNat k = Int32.ofNat (141 + 4 * t + k) from at_lin 141 4 t k]
      refine AR.bnd (AR.put D4 (by omega)) fun s5 M5 D5 e5 _ => ?_
      rw [if_neg (by decide)]
      refine AR.fin D5 ?_
      rw [e5, e4]
      rfl
  · exact Sm.toput (Sm.pput S hk (q := q) (k := 6) hq (by decide) (-1)) hk (q := t) (k := k) ht (by omega) (-1)
  · exact wtake_off _ (by omega) (by omega)
  · exact fun i hi => wtake_off _ (by omega) (by omega)
theorem go_swapC (H : World s f K M LW c) (h1 : c ≤ c') (h2 : c' < 100000) {t k p q : Nat} (ht : t < K.1 1) (hk3 : k < 3) (hp : p < K.1 0) (hs : M.2 1 (13 + 8 * p) = Int32.ofNat k) (hq : q < K.1 0) (hg : M.2 1 (141 + 4 * t + k) = Int32.ofNat q) (hb : ¬ badS K (Int32.ofNat q) (Int32.ofNat p)) : Both s (mX11_swap 0 (Int32.ofNat t) (Int32.ofNat k) (Int32.ofNat p)) (mX12_swap 66 (Int32.ofNat t) (Int32.ofNat k) (Int32.ofNat p)) [(2, 1), (0, 2), (4, 3)] c' := by
  obtain ⟨⟨⟨C, -, S, hk, hw, hc⟩, ⟨-, -, -, -, Lok⟩, LR⟩, -⟩ := id H
  have b0 : K.1 0 ≤ 16 := hk 0 (by decide)
  have b1 : K.1 1 ≤ 6 := hk 1 (by decide)
  have hz : comeOk K (M.2 1) k (Int32.ofNat p) := Or.inr ⟨p, hp, rfl, hs⟩
  have h6 : M.2 1 (13 + 8 * p + 6) = -1 := by
    rcases spare_or S hk hw hp with ⟨e, -⟩ | ⟨-, e, -⟩
    · exact e
    · exact absurd (Or.inr (Or.inr ⟨ofN_ne1 (by omega), e⟩)) hb
  have sg : M.2 1 (13 + 8 * q) = Int32.ofNat k ∧ M.2 1 (13 + 8 * q + 6) = Int32.ofNat t := by
    rcases hw.2.1 t ht k hk3 with e | ⟨q', hq', e, e1, e2⟩
    · rw [hg] at e
      exact absurd e (ofN_ne1 (by omega))
    · rw [hg] at e
      have := (ofN_inj (by omega) (by omega)).mp e
      subst this
      exact ⟨e1, e2⟩
  have hqp : q ≠ p := fun e => by
    rw [e, h6] at sg
    exact absurd sg.2.symm (ofN_ne1 (by omega))
  have hov := over_nn2 (hw.1 q hq).2.2.2.1 (lawTot_nn Lok (fRow (M.2 1) q 0 0 0) 2)
  obtain ⟨n, hn, en⟩ : isN (wOver (M.2 1) LW q) (M.2 1 (13 + 8 * q + 3)).toNatClampNeg := hov
  have hn31 : n < 2 ^ 31 := by
    obtain ⟨G, hG, eG⟩ := (hw.1 q hq).2.2.2.1
    rw [eG, ofN_cl (by omega)] at hn
    omega
  have hC := swap_C H ht hk3 hz (by rw [hg]; exact hb) (o := Int32.ofNat n) (fun sa CLa => by
    obtain ⟨sb, r1, r2⟩ := c_over (f := f) (LW := LW) S hk hw hq sa CLa
    refine ⟨sb, ?_, r2⟩
    rw [hg, if_neg (ofN_ne1 (by omega)), if_neg (ofN_ne1 (by omega)), bnd_ok (gR_ok CLa.1.1 rfl), bnd_ok (gR_ok CLa.1.1 rfl), bnd_ok r1, en]
    rfl)
  rw [hg] at hC
  have w1 := (hw.take hk hq ht hk3 hg).place hk hp ht hk3 (show wtake (M.2 1) q t k (141 + 4 * t + k) = -1 from if_pos rfl) ((if_neg (by omega)).trans ((if_neg (by omega)).trans hs)) ((if_neg (by omega)).trans ((if_neg (by omega)).trans h6))
  have W1e : wplace (wtake (M.2 1) q t k) p t k = upd (upd (upd (M.2 1) (13 + 8 * q + 6) (-1)) (141 + 4 * t + k) (Int32.ofNat p)) (13 + 8 * p + 6) (Int32.ofNat t) := by
    unfold wplace wtake
    rw [upd_upd]
  have S1 : Sm (kput (kput (kput K 0 (Int32.ofNat q) 6 (-1)) 1 (Int32.ofNat t) (Int32.ofNat k) (Int32.ofNat p)) 0 (Int32.ofNat p) 6 (Int32.ofNat t)) (wplace (wtake (M.2 1) q t k) p t k) := by
    rw [W1e]
    exact Sm.pput (Sm.toput (Sm.pput S hk (q := q) (k := 6) hq (by decide) (-1)) hk (q := t) (k := k) ht (by omega) (Int32.ofNat p)) hk (q := p) (k := 6) hp (by decide) (Int32.ofNat t)
  have o3 : ∀ i, i ≠ 13 + 8 * p + 6 → i ≠ 13 + 8 * q + 6 → i ≠ 141 + 4 * t + k → wplace (wtake (M.2 1) q t k) p t k i = M.2 1 i := fun i h1 h2 h3 => (if_neg h1).trans ((if_neg h3).trans ((if_neg h3).trans (if_neg h2)))
  obtain ⟨Sp, r4, hkp, rest⟩ := Sm.pass S1 hk (g := q) (p := p) (n := n) hq hp hn31
  have el : (kpass (kput (kput (kput K 0 (Int32.ofNat q) 6 (-1)) 1 (Int32.ofNat t) (Int32.ofNat k) (Int32.ofNat p)) 0 (Int32.ofNat p) 6 (Int32.ofNat t)) (Int32.ofNat q) (Int32.ofNat p) (Int32.ofNat n)).2.2.2 = K.2.2.2 := congrArg Prod.snd rest
  have wp := w1.pass hk hq hp hqp (n := n) (by rw [o3 _ (by omega) (by omega) (by omega)]; exact ⟨n, hn, rfl⟩) hn31
  refine act_goes H h1 h2 (K' := kswap K (Int32.ofNat t) (Int32.ofNat k) (Int32.ofNat q) (Int32.ofNat p) (Int32.ofNat n)) (W' := wpass (wplace (wtake (M.2 1) q t k) p t k) q p n) (v := Int32.ofNat n) (k := swBody (Int32.ofNat t) (Int32.ofNat k) (Int32.ofNat p)) (fun _ => rfl) el hC (fun s2 s3 M3 D2 hr D3 e3 => ?_) Sp hkp ?_ ?_ ?_
  · refine swap_pre D2 S hk ht hk3 hz ?_
    rw [show (mint M 0 0).2 1 (141 + 4 * t + k) = Int32.ofNat q from hg]
    refine (swB_or (t := t) D2 S hk hw hk3 (Or.inr ⟨q, hq, rfl⟩) hz).2 hb _ _ ?_
    unfold swK
    refine Ev.get hr (Ev.ar (AR.bnd (W1 := M.2 1) (x := Int32.ofNat n) ?_ fun s4 M4 D4 e4 _ => AR.bnd (W1 := upd (M.2 1) (13 + 8 * q + 6) (-1)) (x := ()) ?_ fun s5 M5 D5 e5 _ => AR.get (MD.refs D5).2.1 ?_))
    · rw [if_neg (ofN_nn (by omega)), if_pos (le0_ofN (by omega)), ← e3]
      have g := m_over D3 (LW := LW) (by rw [e3]; exact LR) Lok (p := q) (by omega) (by rw [e3]; exact (hw.1 q hq).2.2.2.1) (by rw [e3]; exact isN1 (hw.1 q hq).2.2.2.2.1)
      rw [e3, en] at g
      exact AR.bnd (W1 := M3.2 1) (by have := g.ar (Or.inl rfl); exact this) fun s9 M9 D9 e9 _ => AR.fin D9 e9
    · rw [if_neg (ofN_nn (by omega)), ← e4]
      exact AR.get (MD.refs D4).2.1 (AR.get (part_at q 6 s4) (AR.bnd (AR.put D4 (by omega)) fun s4 M4 D4 e4 _ => AR.fin D4 e4))
    · rw [show (141 : Int32) + 4 * Int32.ofNat t + Int32.ofNat k = Int32.ofNat (141 + 4 * t + k) from at_lin 141 4 t k]
      refine AR.bnd (AR.put D5 (by omega)) fun s6 M6 D6 e6 _ => ?_
      rw [if_pos (le0_ofN (by omega))]
      have e6' : M6.2 1 = wtake (M.2 1) q t k := by rw [e6, e5]; rfl
      refine AR.bnd (m_puts D6 (t := t) (p := p) (k := k) (by omega) (by omega) hk3 (by rw [e6']; exact (if_neg (by omega)).trans ((if_neg (by omega)).trans hs))).ar fun s7 M7 D7 e7 _ => ?_
      rw [e6'] at e7
      rw [if_pos (le0_ofN (by omega))]
      generalize wplace (wtake (M.2 1) q t k) p t k = V at e7 ⊢
      refine AR.get (MD.refs D7).2.1 (AR.get (part_at q 3 s7) (AR.get ((MD.wl D7).1 _ (by omega)) (AR.bnd (AR.put D7 (by omega)) fun s8 M8 D8 e8 _ => ?_)))
      refine AR.get (MD.refs D8).2.1 (AR.get (part_at p 3 s8) (AR.get ((MD.wl D8).1 _ (by omega)) (AR.bnd (AR.put D8 (by omega)) fun s9 M9 D9 e9 _ => ?_)))
      refine AR.get (MD.refs D9).2.1 (AR.get (part_at p 7 s9) (AR.get ((MD.wl D9).1 _ (by omega)) (AR.bnd (AR.put D9 (by omega)) fun sA MA DA eA _ => ?_)))
      refine AR.bnd (WRun.tells DA).ar fun sB MB DB eB _ => AR.fin DB ?_
      rw [eB, eA, e9, e8, e7]
      unfold wpass wblame
      have a1 : upd V (13 + 8 * q + 3) (V (13 + 8 * q + 3) - Int32.ofNat n) (13 + 8 * p + 3) = V (13 + 8 * p + 3) := if_neg (by omega)
      have a2 : upd (upd V (13 + 8 * q + 3) (V (13 + 8 * q + 3) - Int32.ofNat n)) (13 + 8 * p + 3) (V (13 + 8 * p + 3) + Int32.ofNat n) (13 + 8 * p + 7) = V (13 + 8 * p + 7) := (if_neg (by omega)).trans (if_neg (by omega))
      have a3 : upd (upd V (13 + 8 * q + 3) (V (13 + 8 * q + 3) - Int32.ofNat n)) (13 + 8 * p + 7) (V (13 + 8 * p + 7) + Int32.ofNat n) (13 + 8 * p + 3) = V (13 + 8 * p + 3) := (if_neg (by omega)).trans (if_neg (by omega))
      rw [a1, a2, a3, upd_comm (upd V (13 + 8 * q + 3) (V (13 + 8 * q + 3) - Int32.ofNat n)) (show 13 + 8 * p + 3 ≠ 13 + 8 * p + 7 by omega)]
  · exact wOk.rows (K := K) (wp.more h1) fun t' _ ht' => r4 t' ht'
  · exact (wpass_off _ (Or.inl (by decide)) (by decide) (by omega) (by omega) (by omega)).trans (o3 4 (by omega) (by omega) (by omega))
  · exact fun i hi => (wpass_off _ (Or.inr hi) (by omega) (by omega) (by omega) (by omega)).trans (o3 i (by omega) (by omega) (by omega))
end SW3
