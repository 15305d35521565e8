/-! THE CALL law on both sides, whole -/
section LG
variable {s s4 sm : aS} {f f' : Int32} {K : CK} {M M4 : MK} {LW : Option (List Ln)} {c c' : Nat}
theorem mint_mcur (X : MK) (W : Nat → Int32) (i b k : Nat) (v : Int32) (h1 : k ≠ 10) (h2 : k ≠ 12) : mint (mcur (mw X W) i b) k v = mcur (mw (mint X k v) W) i b := by
  refine Prod.ext (funext fun j => ?_) rfl
  show (if j = k then v else if j = 10 then Int32.ofNat i else if j = 12 then Int32.ofNat b else X.1 j) = (if j = 10 then Int32.ofNat i else if j = 12 then Int32.ofNat b else if j = k then v else X.1 j)
  by_cases h : j = k
  · rw [if_pos h, if_neg (by omega), if_neg (by omega), if_pos h]
  · rw [if_neg h, if_neg h]
def lcp (W : Nat → Int32) (k : Nat) : Nat → Int32 := fun j => if 1071 ≤ j ∧ j < 1071 + k then W (j + 849) else W j
theorem lcp_0 (W : Nat → Int32) : lcp W 0 = W := funext fun j => if_neg (by omega)
theorem lcp_step (W : Nat → Int32) (k : Nat) : upd (lcp W k) (1071 + k) (W (1920 + k)) = lcp W (k + 1) := by
  funext j
  show (if j = 1071 + k then W (1920 + k) else if 1071 ≤ j ∧ j < 1071 + k then W (j + 849) else W j) = (if 1071 ≤ j ∧ j < 1071 + (k + 1) then W (j + 849) else W j)
  by_cases h : j = 1071 + k
  · rw [if_pos h, if_pos (by omega), h]
    exact congrArg W (by omega)
  · rw [if_neg h]
    by_cases q : 1071 ≤ j ∧ j < 1071 + k
    · rw [if_pos q, if_pos (by omega)]
    · rw [if_neg q, if_neg (by omega)]
theorem m_lawL {X : MK} {W : Nat → Int32} {i b : Nat} (D : Mdl sm 66 (mcur (mw X W) i b)) : MRun (loopM (mX12_law_L52 66) 0) sm 66 () (mcur (mw X (lcp W 849)) i b) := by
  have D0 : Mdl sm 66 ((fun j => mcur (mw X (lcp W j)) i b) 0) := by
    show Mdl sm 66 (mcur (mw X (lcp W 0)) i b)
    rw [lcp_0]
    exact D
  refine MRun.loop (f := mX12_law_L52 66) (e := ()) (M' := mcur (mw X (lcp W 849)) i b) 849 (fun j => Int32.ofNat j) (fun j => mcur (mw X (lcp W j)) i b) (fun j s' hj D' => ?_) (fun s' D' => ?_) D0
  · have D' : Mdl s' 66 (mcur (mw X (lcp W j)) i b) := D'
    show MRun (mX12_law_L52 66 (Int32.ofNat j)) s' 66 (.inl (Int32.ofNat (j + 1))) (mcur (mw X (lcp W (j + 1))) i b)
    unfold mX12_law_L52
    rw [if_neg (show ¬ (849 : Int32) ≤ Int32.ofNat j from nle (n := 849) hj (by decide))]
    rw [show (1920 : Int32) + Int32.ofNat j = Int32.ofNat (1920 + j) from ofN_add 1920 j, show (1071 : Int32) + Int32.ofNat j = Int32.ofNat (1071 + j) from ofN_add 1071 j, ofN_succ]
    have ld := w_ld D' (j := 1920 + j) (by omega)
    rw [show lcp W j (1920 + j) = W (1920 + j) from if_neg (by omega)] at ld
    refine MRun.get (w_ref D') (MRun.get (w_ref D') (MRun.get ld (MRun.bnd (w_put D' (j := 1071 + j) (by omega) _) fun s2 D2 => ?_)))
    rw [lcp_step] at D2
    exact MRun.ret D2
  · have D' : Mdl s' 66 (mcur (mw X (lcp W 849)) i b) := D'
    show MRun (mX12_law_L52 66 (Int32.ofNat 849)) s' 66 (.inr ()) (mcur (mw X (lcp W 849)) i b)
    unfold mX12_law_L52
    rw [if_pos (show (849 : Int32) ≤ Int32.ofNat 849 from Int32.le_refl _)]
    exact MRun.ret D'
/-- how the reference's law goes on behind its reading -/
theorem m_law {r : Int32} {s1 : aS} (D : Mdl sm 66 M) (h : mX12_readAll 66 0 sm = some (.inl r, s1)) : mX12_law 66 sm = (mbnd (α := Int32) (if 0 ≤ r then mret (-1) else mbnd (gI 11 12 66) fun (v6 : Int32) => mret v6) fun (x3 : Int32) =>
  mbnd (pI 11 14 66 x3) fun _ =>
  mbnd (α := Int32) (if 0 ≤ r then mret 0 else mret 1) fun (x8 : Int32) =>
  mbnd (mX12_throwsIf 66 x8 1) fun (v11 : Int32) =>
  if v11 = 0 then (
    mbnd (gR 11 1 66) fun (v13 : Nat) =>
    mbnd (stI 0 v13 1920 r) fun _ =>
    mbnd (loopM (mX12_law_L52 66) 0) fun (e22 : Unit) =>
    mbnd (gR 11 1 66) fun (v23 : Nat) =>
    mbnd (stI 0 v23 4 1) fun _ =>
    mbnd (pI 11 7 66 0) fun _ =>
    mret r
  ) else (
    mret 0
  )) s1 := by
  unfold mX12_law
  rw [onC_ok D.1]
  exact bnd_ok h
theorem Sm.law {W : Nat → Int32} (S : Sm K W) (l : Nat) (v : Int32) : Sm (klaw K l) (upd W 4 v) := by
  obtain ⟨⟨a0, a1, a2, a3, a4, a5⟩, ⟨c0, c1, c2, c3, c4, c5⟩, p, t, m, d, lg, g⟩ := S
  have o : ∀ i, i ≠ 4 → upd W 4 v i = W i := fun i h => if_neg h
  exact ⟨⟨a0, a1, a2, a3, a4, a5⟩, ⟨c0, c1, c2, c3, c4, c5⟩, fun i hi c hc => (p i hi c hc).trans (o _ (by omega)).symm, fun i hi c hc => (t i hi c hc).trans (o _ (by omega)).symm, fun i hi => (m i hi).trans (o _ (by omega)).symm, fun i hi c hc => (d i hi c hc).trans (o _ (by omega)).symm, fun i hi c hc => (lg i hi c hc).trans (o _ (by omega)).symm, fun i hi c hc => (g i hi c hc).trans (o _ (by omega)).symm⟩
theorem Hld.law {W : Nat → Int32} (H : Hld K W c) (l : Nat) (v : Int32) : Hld (klaw K l) (upd W 4 v) c := by
  have o : ∀ i, i ≠ 4 → upd W 4 v i = W i := fun i h => if_neg h
  have hw := H.2.2
  obtain ⟨-, -, -, -, -, -, -, h3, -, h7, h8⟩ := id hw
  refine ⟨H.1.law l v, H.2.1, ?_⟩
  have := wOk.head hw H.2.1 (W' := upd W 4 v) (fun i hi => o i (by omega)) (o 5 (by decide)) (by rw [o 3 (by decide)]; exact h3) (by rw [o 7 (by decide)]; exact h7) (by rw [o 8 (by decide)]; exact h8)
  exact this.rows fun _ _ _ => rfl
/-- what a law's text leaves that was taken -/
theorem World.law {K4 : CK} {LW4 : Option (List Ln)} (H : World s f K M LW c) (h1 : c ≤ c') (h2 : c' < 100000) (fr : Fr (fun k => k = 0 ∨ k = 1 ∨ k = 23 ∨ (28 ≤ k ∧ k ≤ 40) ∨ (59 ≤ k ∧ k ≤ 79)) s s4) (O0 : hasO s4 0 10 (tF f')) (C4 : Crt s4 28 K4) (H4 : Hld K4 (M4.2 1) c) (hK : K4.2.2.2 = s.2.1) (hs : ∃ g, hasI s4 (s.2.1 + 2) 0 40 g) (L4 : LawC s4 s.2.1 LW4) (Lok4 : LWok LW4) (LR4 : LawR (M4.2 1) LW4) (O1 : hasO s4 1 9 [.ref 2, .int (Int32.ofNat 0)]) (R4 : Rdr s4) (D4 : Mdl s4 66 M4) (O4 : Ot s4) (m4 : ∀ li o h A, MemC s s.2.1 li o h A → MemC s4 s.2.1 li o 0 A) (e9 : M4.1 9 = 0) (e14 : f' = M4.1 14) (i6 : M4.1 6 = M.1 6) (i7 : M4.1 7 = 0) (k2 : M4.2 2 = M.2 2) : World s4 f' K4 M4 LW4 c' := by
  obtain ⟨hl2, hl⟩ := H.lt
  obtain ⟨⟨⟨C, D, S, hk, hw, hc⟩, ⟨-, Sc, L, -, Lok⟩, LR⟩, ef, ⟨n, g, hn, -, I2, -, -⟩, R, O, li, o, h, A, mc, mr, ml⟩ := H
  have hl' := hl
  unfold lOk at hl'
  have h80 : 80 ≤ s.2.1 := O.2
  have hlN : lOk s.2.1 := Or.inr h80
  have hli := Memo.lt ml
  have Sc4 : ScOk s.2.1 s4 := by
    have a : ScOk K.2.2.2 s4 := Sc.fr fr fun k q (z : k = 0 ∨ k = 1 ∨ k = 23 ∨ (28 ≤ k ∧ k ≤ 40) ∨ (59 ≤ k ∧ k ≤ 79)) => by
      unfold scr at q
      omega
    exact a.law hl hlN hs
  have T4 : Tp s4 M4 := ⟨0, g, by decide, O1, hasI_fr I2 fr (by omega), e9, fun k hk => absurd hk (Nat.not_lt_zero k)⟩
  have mc0 : MemC s s.2.1 li o h A := ⟨mc.1, mc.2.1, mc.2.2.1, fun i a Ka hi e => by
    obtain ⟨z1, z2, z3, z4⟩ := mc.2.2.2.1 i a Ka hi e
    exact ⟨z1, z2, Or.inr z2.lt, z4⟩, mc.2.2.2.2⟩
  refine ⟨⟨⟨⟨O0, C4⟩, D4, H4.1, H4.2.1, H4.2.2.more h1, h2⟩, ⟨⟨O0, C4⟩, by rw [hK]; exact Sc4, by rw [hK]; exact L4, by rw [hK]; exact hlN, Lok4⟩, LR4⟩, e14, T4, R4, O4, ?_⟩
  rw [hK]
  refine ⟨li, o, 0, A, m4 li o h A mc0, ⟨fun j hj => absurd hj (Nat.not_lt_zero j), i7, ?_⟩, ?_⟩
  · rw [i6, k2]
    exact mr.2.2.imp id fun ⟨x, K, z1, z2, ⟨z3, z4, z5⟩, z6⟩ => ⟨x, K, z1, z2, ⟨z3, z4, z5.more h1⟩, z6⟩
  · obtain ⟨b1, b2, ⟨LWi, d1, d2, d3⟩, gi, ei⟩ := ml
    have b1' := b1
    unfold lOk at b1'
    have np : ∀ k, li ≤ k → k ≤ li + 2 → ¬ (k = 0 ∨ k = 1 ∨ k = 23 ∨ (28 ≤ k ∧ k ≤ 40) ∨ (59 ≤ k ∧ k ≤ 79)) := fun k k1 k2 => by omega
    exact ⟨b1, Or.inr (Or.inr hli), ⟨LWi, d1.fr fr (np _ (Nat.le_refl _) (by omega)) (np _ (by omega) (by omega)), d2, by rw [i6, k2]; exact d3⟩, gi, hasI_fr ei fr (np _ (by omega) (Nat.le_refl _))⟩
theorem go_law (H : World s f K M LW c) (h1 : c ≤ c') (h2 : c' < 100000) : Both s (mX11_law 0) (mX12_law 66) [(0, 1)] c' := by
  obtain ⟨⟨⟨C, D, S, hk, hw, hc⟩, -, -⟩, ef, ⟨n, g, hn, O1, I2, e9, hb⟩, ⟨⟨Kd, Dd⟩, ⟨xs, Fs, RS⟩, -⟩, O, -⟩ := id H
  obtain ⟨s3, x, F, o3, R3, hr⟩ := law_read H e9 hn
  have gy : gI 5 11 59 s3 = some (.inl (x 11), s3) := rgil R3 (by decide) (by decide)
  generalize hy : x 11 = y at gy hr
  have f3 : Fr (fun k => 59 ≤ k ∧ k ≤ 65) s s3 := o3.fr
  have O3 : hasO s3 0 10 (tF f) := hasO_fr C.1 f3 (by omega)
  have p4 : pI 10 9 0 y s3 = some (.inl (), sup s3 0 (.inl (10, tF y))) := pF_ok O3 (Nat.le_of_ble_eq_true rfl)
  have O4 : hasO (sup s3 0 (.inl (10, tF y))) 0 10 (tF y) := hasO_put O3.2
  have f4 : Fr (fun q => q = 0) s3 (sup s3 0 (.inl (10, tF y))) := Fr.sup
  have e4 : (sup s3 0 (.inl (10, tF y))).2 = s3.2 := rfl
  generalize sup s3 0 (.inl (10, tF y)) = s4 at p4 O4 f4 e4
  have T4 : hasO s4 1 9 [.ref 2, .int (Int32.ofNat n)] := hasO_fr (hasO_fr O1 f3 (by omega)) f4 (by omega)
  have p5 : pI 9 1 1 0 s4 = some (.inl (), sup s4 1 (.inl (9, [.ref 2, .int (Int32.ofNat 0)]))) := pF_ok T4 (Nat.le_of_ble_eq_true rfl)
  have T5 : hasO (sup s4 1 (.inl (9, [.ref 2, .int (Int32.ofNat 0)]))) 1 9 [.ref 2, .int (Int32.ofNat 0)] := hasO_put T4.2
  have f5 : Fr (fun q => q = 1) s4 (sup s4 1 (.inl (9, [.ref 2, .int (Int32.ofNat 0)]))) := Fr.sup
  have e5 : (sup s4 1 (.inl (9, [.ref 2, .int (Int32.ofNat 0)]))).2 = s4.2 := rfl
  generalize sup s4 1 (.inl (9, [.ref 2, .int (Int32.ofNat 0)])) = s5 at p5 T5 f5 e5
  have cut : mX9_cut 1 0 s4 = some (.inl 1, s5) := by
    unfold mX9_cut
    rw [onC_ok T4, if_neg (show ¬ (0 : Int32) < 0 by decide), bnd_ok (gI_ok T4 (show _ = some (Value.int (Int32.ofNat n)) from rfl)), if_pos (show (0 : Int32) ≤ Int32.ofNat n from ge_ofN (by omega)), bnd_ok p5]
    rfl
  have f35 : Fr (fun k => k = 0 ∨ k = 1) s3 s5 := Fr.tr (f4.mono fun k q => Or.inl q) (f5.mono fun k q => Or.inr q)
  have fa : Fr (fun k => k = 0 ∨ k = 1 ∨ (59 ≤ k ∧ k ≤ 65)) s s5 := Fr.tr (f3.mono fun k q => Or.inr (Or.inr q)) (f35.mono fun k q => q.elim Or.inl fun q => Or.inr (Or.inl q))
  have O5 : hasO s5 0 10 (tF y) := hasO_fr O4 f5 (by omega)
  have e2 : s5.2 = s.2 := e5.trans (e4.trans o3.1)
  have C5 : Crt s5 28 K := C.2.fr fa fun k h1 h2 (q : k = 0 ∨ k = 1 ∨ (59 ≤ k ∧ k ≤ 65)) => by omega
  have R5 : RdL s5 x F := ⟨hasO_fr R3.1 f35 (by omega), fun k hk => hasI_fr (R3.2.1 k hk) f35 (by omega), hasI_fr R3.2.2 f35 (by omega)⟩
  have D5 : Crt s5 41 Kd := Dd.fr fa fun k h1 h2 (q : k = 0 ∨ k = 1 ∨ (59 ≤ k ∧ k ≤ 65)) => by omega
  have S5 : RdS s5 xs Fs := ⟨hasO_fr RS.1 fa (by omega), fun k hk => hasI_fr (RS.2 k hk) fa (by omega)⟩
  have run : ∀ v, mX10_readLinesl 59 12 s = some (.inl v, s3) → mX11_law 0 s = (if v = 0 then mthr 0 else
    mbnd (gR 10 7 0) fun (v8 : Nat) =>
    mbnd (gR 10 2 0) fun (v9 : Nat) =>
    mbnd (mX5_made v9) fun (v10 : Nat) =>
    mbnd (pR 1 6 v8 v10) fun _ =>
    mbnd (gR 10 6 0) fun (v11 : Nat) =>
    mbnd (mX6_forgetActs v11) fun _ =>
    mbnd (gR 10 7 0) fun (v12 : Nat) =>
    mbnd (gR 1 6 v12) fun (v13 : Nat) =>
    mbnd (gI 4 0 v13) fun (v14 : Int32) =>
    mret v14) s5 := fun v h => by
    unfold mX11_law
    rw [onC_ok C.1, bnd_ok (gR_ok C.1 (show _ = some (Value.ref 59) from rfl)), bnd_ok (nox_ok h), bnd_ok (gR_ok O3 (show _ = some (Value.ref 59) from rfl)), bnd_ok gy, bnd_ok p4, bnd_ok (gR_ok O4 (show _ = some (Value.ref 1) from rfl)), bnd_ok cut]
  rcases hr with ⟨r1, r2⟩ | ⟨r1, hym, r2⟩
  · -- what is refused
    have hm : mX11_law 0 s = mthr 0 s5 := (run 0 r1).trans (by rw [if_pos rfl])
    have f6 : Fr (fun k => k = 0 ∨ k = 1 ∨ (59 ≤ k ∧ k ≤ 65)) s (s5.1, s5.2.1, s5.2.2.1 + 1, s5.2.2.2 + 6) := ⟨fa.1, fa.2⟩
    have D6 : Mdl (s5.1, s5.2.1, s5.2.2.1 + 1, s5.2.2.2 + 6) 66 M := D.fr f6 fun k h1 h2 (q : k = 0 ∨ k = 1 ∨ (59 ≤ k ∧ k ≤ 65)) => by omega
    obtain ⟨z, hz, ⟨m1, a1, ⟨W, st, dp, i, D1, hW⟩, b1⟩⟩ := r2 _ D6
    obtain ⟨m2, a2, D2, b2⟩ := mint_run (k := 14) (v := Int32.ofNat z) D1 rfl
    obtain ⟨s7, a3, D7, b3⟩ := thr_yes D2 1
    have o7 := b1.trans (b2.trans b3)
    have f7 : Fr (fun k => 66 ≤ k ∧ k ≤ 78) s5 s7 := ⟨by rw [o7.1]; exact Nat.le_refl _, fun k _ hp => o7.2 k (by
      have hp' : ¬ (66 ≤ k ∧ k ≤ 78) := hp
      omega)⟩
    have fb : Fr (fun k => k = 0 ∨ k = 1 ∨ (41 ≤ k ∧ k ≤ 79)) s s7 := Fr.tr (fa.mono fun k q => q.imp id fun q => q.imp id fun q => ⟨by omega, by omega⟩) (f7.mono fun k q => Or.inr (Or.inr ⟨by omega, by omega⟩))
    have R7 : Rdr s7 := ⟨⟨Kd, D5.fr f7 fun k h1 h2 (q : 66 ≤ k ∧ k ≤ 78) => by omega⟩, ⟨xs, Fs, hasO_fr S5.1 f7 (by omega), fun k hk => hasI_fr (S5.2 k hk) f7 (by omega)⟩, x, F, hasO_fr R5.1 f7 (by omega), fun k hk => hasI_fr (R5.2.1 k hk) f7 (by omega), hasI_fr R5.2.2 f7 (by omega)⟩
    have O7 : Ot s7 := (O.fr fa (by omega)).fr f7 (by omega)
    refine Or.inr ⟨0, 1, 0, _, hm, rfl, by decide, s7, y, K, _, LW, ?_, rfl, ⟨?_, ?_⟩, H.read h1 h2 fb (hasO_fr O5 f7 (by omega)) (hasO_fr T5 f7 (by omega)) R7 D7 O7 rfl hz rfl rfl (fun i hi => hW i hi) rfl rfl⟩
    · rw [m_law D6 a1, if_neg (show ¬ (0 : Int32) ≤ -1 by decide), if_neg (show ¬ (0 : Int32) ≤ -1 by decide)]
      refine (bnd_ok (v := Int32.ofNat z) (s' := m1) ((bnd_ok (gI_ok D1.1 (show _ = some (Value.int (Int32.ofNat z)) from rfl))).trans rfl)).trans ?_
      rw [bnd_ok a2]
      refine (bnd_ok (v := 1) (s' := m2) rfl).trans ?_
      rw [bnd_ok a3, if_neg (show ¬ (1 : Int32) = 0 by decide)]
      rfl
    · rw [o7.1]
      show s5.2.2.1 + 1 ≤ _
      rw [e2]
      omega
    · rw [o7.1]
      show s5.2.2.2 + 6 ≤ _
      rw [e2]
      omega
  -- what is taken
  have run1 := run 1 r1
  rw [if_neg (show ¬ (1 : Int32) = 0 by decide)] at run1
  obtain ⟨L0, -, -, hx10, hx14, hN, -⟩ := r2 s D
  generalize hNN : (codeL L0).length = N at hx14 hN
  obtain ⟨s6, code, e6, LA6, hcode, hst6, f6, c6, z6⟩ := made_run R5 hN hx14
  have eL : s5.2.1 = s.2.1 := by rw [e2]
  rw [eL] at e6 LA6 hst6
  have h80 : 80 ≤ s.2.1 := O.2
  have C6 : Crt s6 28 K := C5.fr f6 fun k _ _ (q : nob k) => q
  have O6 : hasO s6 0 10 (tF y) := hasO_fr O5 f6 (fun q => q)
  obtain ⟨s7, e7, C7, o7⟩ := claw (r := s.2.1) C6
  have f7 : Fr (fun k => 28 ≤ k ∧ k ≤ 40) s6 s7 := o7.fr
  have O7 : hasO s7 0 10 (tF y) := hasO_off O6 o7 (by omega)
  have f07 : Fr (fun k => k = 0 ∨ k = 1 ∨ (28 ≤ k ∧ k ≤ 40) ∨ (59 ≤ k ∧ k ≤ 65)) s s7 := Fr.tr (fa.mono fun k q => q.imp id fun q => q.imp id fun q => Or.inr q) (Fr.tr (f6.mono fun k (q : nob k) => q.elim) (f7.mono fun k q => Or.inr (Or.inr (Or.inl q))))
  obtain ⟨li, oo, h, A, mc, mr, ml⟩ := id H.2.2.2.2.2
  have O23 : hasO s7 23 6 [.ref 24, .int (Int32.ofNat oo), .int (Int32.ofNat h), va_rf ((A 10).map Prod.fst)] := hasO_fr mc.2.1 f07 (by omega)
  have p8 : pI 6 2 23 0 s7 = some (.inl (), sup s7 23 (.inl (6, [.ref 24, .int (Int32.ofNat oo), .int (Int32.ofNat 0), va_rf ((A 10).map Prod.fst)]))) := pF_ok O23 (Nat.le_of_ble_eq_true rfl)
  have f8 : Fr (fun q => q = 23) s7 (sup s7 23 (.inl (6, [.ref 24, .int (Int32.ofNat oo), .int (Int32.ofNat 0), va_rf ((A 10).map Prod.fst)]))) := Fr.sup
  have e8 : (sup s7 23 (.inl (6, [.ref 24, .int (Int32.ofNat oo), .int (Int32.ofNat 0), va_rf ((A 10).map Prod.fst)]))).2 = s7.2 := rfl
  have m8 : ∀ li' o' h' A', MemC s s.2.1 li' o' h' A' → MemC (sup s7 23 (.inl (6, [.ref 24, .int (Int32.ofNat oo), .int (Int32.ofNat 0), va_rf ((A 10).map Prod.fst)]))) s.2.1 li' o' 0 A' := fun li' o' h' A' mc' => by
    have m1 := mc'.fr f07 (by omega) (by omega) fun k h1 h2 (q : k = 0 ∨ k = 1 ∨ (28 ≤ k ∧ k ≤ 40) ∨ (59 ≤ k ∧ k ≤ 65)) => by omega
    have m2 := m1.nums m1.1.1 (Nat.zero_le 10)
    have q : (Sum.inl (6, [Value.ref 24, .int (Int32.ofNat oo), .int (Int32.ofNat h), va_rf ((A 10).map Prod.fst)]) : AE) = Sum.inl (6, [.ref 24, .int (Int32.ofNat o'), .int (Int32.ofNat h'), va_rf ((A' 10).map Prod.fst)]) := O23.1.symm.trans m1.2.1.1
    have ql : [Value.ref 24, .int (Int32.ofNat oo), .int (Int32.ofNat h), va_rf ((A 10).map Prod.fst)] = [.ref 24, .int (Int32.ofNat o'), .int (Int32.ofNat h'), va_rf ((A' 10).map Prod.fst)] := congrArg Prod.snd (Sum.inl.inj q)
    have q1 : Value.int (Int32.ofNat oo) = .int (Int32.ofNat o') := Option.some.inj (show [Value.ref 24, .int (Int32.ofNat oo), .int (Int32.ofNat h), va_rf ((A 10).map Prod.fst)][1]? = [Value.ref 24, .int (Int32.ofNat o'), .int (Int32.ofNat h'), va_rf ((A' 10).map Prod.fst)][1]? by rw [ql])
    have q3 : va_rf ((A 10).map Prod.fst) = va_rf ((A' 10).map Prod.fst) := Option.some.inj (show [Value.ref 24, .int (Int32.ofNat oo), .int (Int32.ofNat h), va_rf ((A 10).map Prod.fst)][3]? = [Value.ref 24, .int (Int32.ofNat o'), .int (Int32.ofNat h'), va_rf ((A' 10).map Prod.fst)][3]? by rw [ql])
    rw [q1, q3]
    exact m2
  generalize sup s7 23 (.inl (6, [.ref 24, .int (Int32.ofNat oo), .int (Int32.ofNat 0), va_rf ((A 10).map Prod.fst)])) = s8 at p8 f8 e8 m8
  have fb : Fr (fun k => k = 0 ∨ k = 1 ∨ k = 23 ∨ (28 ≤ k ∧ k ≤ 40) ∨ (59 ≤ k ∧ k ≤ 65)) s s8 := Fr.tr (f07.mono fun k q => q.imp id fun q => q.imp id fun q => Or.inr q) (f8.mono fun k q => Or.inr (Or.inr (Or.inl q)))
  have O8 : hasO s8 0 10 (tF y) := hasO_fr O7 f8 (by omega)
  have C8 : Crt s8 28 (klaw K s.2.1) := C7.fr f8 fun k h1 h2 (q : k = 23) => by omega
  have f68 : Fr (fun k => k = 23 ∨ (28 ≤ k ∧ k ≤ 40)) s6 s8 := Fr.tr (f7.mono fun k q => Or.inr q) (f8.mono fun k q => Or.inl q)
  have LA8 : LawAt s8 s.2.1 (x 10) N code := ⟨hasO_fr LA6.1 f68 (by omega), hasI_fr LA6.2 f68 (by omega)⟩
  have st8 : ∃ g, hasI s8 (s.2.1 + 2) 0 40 g := by
    obtain ⟨g, e⟩ := hst6
    exact ⟨g, hasI_fr e f68 (by omega)⟩
  have forget : mX6_forgetActs 23 s7 = some (.inl (), s8) := by
    unfold mX6_forgetActs
    rw [onC_ok O23]
    exact (bnd_ok p8).trans rfl
  have run2 : mX11_law 0 s = some (.inl (x 10), s8) := by
    rw [run1, bnd_ok (gR_ok O5 (show _ = some (Value.ref 28) from rfl)), bnd_ok (gR_ok O5 (show _ = some (Value.ref 59) from rfl)), bnd_ok e6, bnd_ok e7, bnd_ok (gR_ok O7 (show _ = some (Value.ref 23) from rfl)), bnd_ok forget, bnd_ok (gR_ok O8 (show _ = some (Value.ref 28) from rfl)), bnd_ok (gR_ok C8.1 (show _ = some (Value.ref s.2.1) from rfl)), bnd_ok (gI_ok LA8.1 (show _ = some (Value.int (x 10)) from rfl))]
    rfl
  have Oa : Ot s8 := O.fr fb (by omega)
  refine Or.inl ⟨x 10, s8, run2, Oa, fun s1' h79 => ?_⟩
  have Dm : Mdl s1' 66 M := (D.fr fb fun k k1 k2 (q : k = 0 ∨ k = 1 ∨ k = 23 ∨ (28 ≤ k ∧ k ≤ 40) ∨ (59 ≤ k ∧ k ≤ 65)) => by omega).fr h79.fr fun k k1 k2 (q : k = 79) => by omega
  obtain ⟨Ls, B, k, y10, y14, hNl, hcod, hl12, hok, ⟨m1, a1, ⟨W, dp, i, b, hi, hx, D1, hI, hH, hW⟩, b1⟩⟩ := r2 s1' Dm
  have eN : N = (codeL Ls).length := (ofN_inj (by omega) (by omega)).mp (hx14.symm.trans y14)
  have eN2 : N = lsize Ls := eN.trans (codeL_len Ls)
  have eN3 := lsize_ps Ls
  have hm : ∀ i b k (v : Int32), k ≠ 10 → k ≠ 12 → ∀ X : MK, mint (mcur (mw X W) i b) k v = mcur (mw (mint X k v) W) i b := fun i b k v h1 h2 X => mint_mcur X W i b k v h1 h2
  obtain ⟨m2, a2, D2, b2⟩ := mint_run (k := 14) (v := -1) D1 rfl
  rw [hm _ _ _ _ (by decide) (by decide)] at D2
  obtain ⟨m3, a3, D3, b3⟩ := w_put D2 (j := 1920) (by decide) (Int32.ofNat Ls.length)
  obtain ⟨m4, a4, D4, b4⟩ := m_lawL D3
  obtain ⟨m5, a5, D5', b5⟩ := w_put D4 (j := 4) (by decide) 1
  obtain ⟨m6, a6, D6, b6⟩ := mint_run (k := 7) (v := 0) D5' rfl
  have bb : Off s1' m6 66 78 := b1.trans (b2.trans (b3.trans (b4.trans (b5.trans b6))))
  have eW : ∀ j, j < 1071 → lcp (upd W 1920 (Int32.ofNat Ls.length)) 849 j = M.2 1 j := fun j hj => (if_neg (by omega)).trans ((if_neg (by omega)).trans (hW j (by omega)))
  have eC : ∀ k, k < 849 → lcp (upd W 1920 (Int32.ofNat Ls.length)) 849 (1071 + k) = upd W 1920 (Int32.ofNat Ls.length) (1920 + k) := fun k hk => (if_pos (by omega)).trans (congrArg _ (by omega))
  generalize lcp (upd W 1920 (Int32.ofNat Ls.length)) 849 = V at D4 D5' D6 eW eC
  have HV : Hld K V c := ⟨S.congr hk eW, hk, hw.congr hk eW⟩
  have f89 : Fr (fun k => k = 79 ∨ (66 ≤ k ∧ k ≤ 78)) s8 m6 := Fr.tr (h79.fr.mono fun k q => Or.inl q) (bb.fr.mono fun k q => Or.inr q)
  have fc : Fr (fun k => k = 0 ∨ k = 1 ∨ k = 23 ∨ (28 ≤ k ∧ k ≤ 40) ∨ (59 ≤ k ∧ k ≤ 79)) s m6 := Fr.tr (fb.mono fun k q => q.imp id fun q => q.imp id fun q => q.imp id fun q => q.imp id fun q => ⟨by omega, by omega⟩) (f89.mono fun k q => Or.inr (Or.inr (Or.inr (Or.inr ⟨by omega, by omega⟩))))
  have f5t : Fr (fun k => k = 23 ∨ (28 ≤ k ∧ k ≤ 40) ∨ k = 79 ∨ (66 ≤ k ∧ k ≤ 78)) s5 m6 := Fr.tr (f6.mono fun k (q : nob k) => q.elim) (Fr.tr (f68.mono fun k q => q.imp id fun q => Or.inl q) (f89.mono fun k q => Or.inr (Or.inr q)))
  have R9 : Rdr m6 := ⟨⟨Kd, D5.fr f5t fun k h1 h2 (q : k = 23 ∨ (28 ≤ k ∧ k ≤ 40) ∨ k = 79 ∨ (66 ≤ k ∧ k ≤ 78)) => by omega⟩, ⟨xs, Fs, hasO_fr S5.1 f5t (by omega), fun k hk => hasI_fr (S5.2 k hk) f5t (by omega)⟩, x, F, hasO_fr R5.1 f5t (by omega), fun k hk => hasI_fr (R5.2.1 k hk) f5t (by omega), hasI_fr R5.2.2 f5t (by omega)⟩
  have T8 : hasO s8 1 9 [.ref 2, .int (Int32.ofNat 0)] := hasO_fr (hasO_fr T5 f6 (fun q => q)) f68 (by omega)
  have LC : LawC m6 s.2.1 (some Ls) := by
    refine ⟨code, ⟨?_, ?_⟩, codeLs_of Ls 0 fun j v hj => ?_⟩
    · rw [← y10]
      exact hasO_fr LA8.1 f89 (by omega)
    · rw [← eN2]
      exact hasI_fr LA8.2 f89 (by omega)
    · have hjl := (List.getElem?_eq_some_iff.mp hj).1
      rw [Nat.zero_add, hcode j (by omega)]
      exact hcod j v hj
  have LWo : LWok (some Ls) := ⟨hl12, by omega, hok, by omega⟩
  have hr1 : ∀ X : MK, ∀ U : Nat → Int32, (mint (mcur (mw X U) i b) 7 0).2 1 = U := fun X U => mw_row X U i b
  have LRn : LawR (upd V 4 1) (some Ls) := by
    have e4 : ∀ k, k < 849 → upd V 4 1 (1071 + k) = upd W 1920 (Int32.ofNat Ls.length) (1920 + k) := fun k hk => (if_neg (by omega)).trans (eC k hk)
    refine ⟨if_pos rfl, (e4 0 (by decide)).trans (if_pos rfl), ?_⟩
    refine lnsAt_of e4 Ls [] hl12 (by show psize Ls ≤ 400; omega) (fun j x hj => ?_) (fun j it hj => ?_)
    · have hj12 : j < Ls.length := (List.getElem?_eq_some_iff.mp hj).1
      obtain ⟨h0, h1, h2, h3⟩ := hH j x hj
      exact ⟨(if_neg (by omega)).trans h0, (if_neg (by omega)).trans h1, (if_neg (by omega)).trans h2, (if_neg (by omega)).trans h3⟩
    · have z := hI j it hj
      exact ⟨(if_neg (by omega)).trans z.1, fun y => (if_neg (by omega)).trans (z.2 y)⟩
  refine ⟨m6, y, klaw K s.2.1, _, some Ls, ?_, bb.2 79 (by omega), rfl, ⟨?_, ?_⟩, H.law h1 h2 fc (hasO_fr O8 f89 (by omega)) (C8.fr f89 fun k h1 h2 (q : k = 79 ∨ (66 ≤ k ∧ k ≤ 78)) => by omega) ?_ rfl ?_ LC LWo ?_ (hasO_fr T8 f89 (by omega)) R9 D6 ⟨⟨h79.2.2.choose, (bb.2 79 (by omega)).trans h79.2.2.choose_spec⟩, by rw [bb.1, h79.1]; exact Oa.2⟩ (fun li' o' h' A' mc' => (m8 li' o' h' A' mc').fr f89 (by omega) (by omega) fun k h1 h2 (q : k = 79 ∨ (66 ≤ k ∧ k ≤ 78)) => by omega) rfl hym rfl rfl rfl⟩
  · rw [m_law Dm a1, if_pos (ge_ofN (by omega)), if_pos (ge_ofN (by omega))]
    refine (bnd_ok (v := -1) (s' := m1) rfl).trans ?_
    rw [bnd_ok a2]
    refine (bnd_ok (v := 0) (s' := m2) rfl).trans ?_
    rw [bnd_ok (thr_no D2 1), if_pos rfl, bnd_ok (w_ref D2), bnd_ok (show stI 0 67 1920 (Int32.ofNat Ls.length) m2 = some (.inl (), m3) from a3), bnd_ok a4, bnd_ok (w_ref D4), bnd_ok (show stI 0 67 4 1 m4 = some (.inl (), m5) from a5), bnd_ok a6, y10]
    rfl
  · have e86 : s8.2.2.1 = s6.2.2.1 := by rw [e8, o7.1]
    rw [bb.1, h79.1, e86, c6, e2]
    omega
  · have e86 : s8.2.2.2 = s6.2.2.2 := by rw [e8, o7.1]
    rw [bb.1, h79.1, e86, z6, e2]
    omega
  · rw [hr1]
    exact HV.law s.2.1 1
  · obtain ⟨g, e⟩ := st8
    exact ⟨g, hasI_fr e f89 (by omega)⟩
  · rw [hr1]
    exact LRn
end LG
theorem shop_all : Shop := fun _ _ _ _ _ _ _ H h1 h2 => go_shop H h1 h2
theorem law_all : Law := fun _ _ _ _ _ _ _ H h1 h2 => go_law H h1 h2
theorem pure_all : PURE := pure_of shop_all law_all
