/-! THE CALL shop on both sides, whole -/
section SH3
variable {s : aS} {f : Int32} {K : CK} {M : MK} {LW : Option (List Ln)} {c c' : Nat}
/-- how the reference's shop goes on behind its reading -/
theorem m_shop {sm : aS} {r : Int32} {s1 : aS} (D : Mdl sm 66 M) (h : mref sm = some (.inl r, s1)) : mX12_shop 66 sm = (mbnd (α := Int32) (if 0 ≤ r then mret (-1) else mbnd (gI 11 12 66) fun (v15 : Int32) => mret v15) fun (x12 : Int32) =>
  mbnd (pI 11 14 66 x12) fun _ =>
  mbnd (α := Int32) (if 0 ≤ r then mret 0 else mret 1) fun (x17 : Int32) =>
  mbnd (mX12_throwsIf 66 x17 1) fun (v20 : Int32) =>
  if v20 = 0 then (
    mbnd (gR 11 1 66) fun (v22 : Nat) =>
    mbnd (ldI 0 v22 3) fun (v23 : Int32) =>
    mbnd (α := Int32) (if v23 = 12 then mret 1 else mret 0) fun (x25 : Int32) =>
    mbnd (mX12_throwsIf 66 x25 2) fun (v28 : Int32) =>
    if v28 = 0 then (
      mbnd (gR 11 1 66) fun (v30 : Nat) =>
      mbnd (ldI 0 v30 3) fun (v31 : Int32) =>
      mbnd (stI 0 v30 3 (v31 + 1)) fun _ =>
      mbnd (pI 11 7 66 0) fun _ =>
      mbnd (gR 11 1 66) fun (v32 : Nat) =>
      mbnd (ldI 0 v32 3) fun (v33 : Int32) =>
      mret v33
    ) else (
      mbnd (loopM (mX12_shop_L92 66) 0) fun (e42 : Unit) =>
      mret 0
    )
  ) else (
    mbnd (loopM (mX12_shop_L92b 66) 0) fun (e51 : Unit) =>
    mret 0
  )) s1 := by
  unfold mX12_shop
  rw [onC_ok D.1]
  have e : ∀ (G : Int32 → MM Int32), (mbnd (loopM (mX12_shop_L2 66) 0) fun _ => mbnd (mX12_readAll 66 1) G) = mbnd mref G := fun G => (mbnd_assoc _ _ G).symm
  exact (congrFun (e _) sm).trans (bnd_ok h)
theorem thr_yes {sm : aS} (D : Mdl sm 66 M) (t : Int32) : MRun (mX12_throwsIf 66 1 t) sm 66 1 (mint M 0 t) := by
  unfold mX12_throwsIf
  refine MRun.onC D ?_
  rw [if_neg (show ¬ (1 : Int32) = 0 by decide)]
  exact MRun.bnd (mint_run D rfl) fun s1 D1 => ⟨s1, mbool1 s1, D1, Off.rf⟩
theorem rst_low (W V : Nat → Int32) {i : Nat} (h : i < 1920) : rst W V 1920 i = V i := if_pos h
/-- a mark that both sides keep: the class goes on behind its reading -/
theorem go_shop (H : World s f K M LW c) (h1 : c ≤ c') (h2 : c' < 100000) : Both s (mX11_shop 0) (mX12_shop 66) [(0, 1), (1, 2)] c' := by
  obtain ⟨⟨⟨C, D, S, hk, hw, hc⟩, -, -⟩, ef, ⟨n, g, hn, O1, I2, e9, hb⟩, ⟨-, -, RL⟩, O, -⟩ := id H
  obtain ⟨s3, y, o3, gy, ⟨x, F, R3⟩, hr⟩ := shop_read H e9 hn
  have f3 : Fr (fun k => 41 ≤ k ∧ k ≤ 58) s s3 := o3.fr
  have O3 : hasO s3 0 10 (tF f) := hasO_fr C.1 f3 (by omega)
  have p4 : pI 10 9 0 y s3 = some (.inl (), sup s3 0 (.inl (10, tF y))) := pF_ok O3 (Nat.le_of_ble_eq_true rfl)
  have O4 : hasO (sup s3 0 (.inl (10, tF y))) 0 10 (tF y) := hasO_put O3.2
  have f4 : Fr (fun q => q = 0) s3 (sup s3 0 (.inl (10, tF y))) := Fr.sup
  have e4 : (sup s3 0 (.inl (10, tF y))).2 = s3.2 := rfl
  generalize sup s3 0 (.inl (10, tF y)) = s4 at p4 O4 f4 e4
  have T4 : hasO s4 1 9 [.ref 2, .int (Int32.ofNat n)] := hasO_fr (hasO_fr O1 f3 (by omega)) f4 (by omega)
  have p5 : pI 9 1 1 0 s4 = some (.inl (), sup s4 1 (.inl (9, [.ref 2, .int (Int32.ofNat 0)]))) := pF_ok T4 (Nat.le_of_ble_eq_true rfl)
  have T5 : hasO (sup s4 1 (.inl (9, [.ref 2, .int (Int32.ofNat 0)]))) 1 9 [.ref 2, .int (Int32.ofNat 0)] := hasO_put T4.2
  have f5 : Fr (fun q => q = 1) s4 (sup s4 1 (.inl (9, [.ref 2, .int (Int32.ofNat 0)]))) := Fr.sup
  have e5 : (sup s4 1 (.inl (9, [.ref 2, .int (Int32.ofNat 0)]))).2 = s4.2 := rfl
  generalize sup s4 1 (.inl (9, [.ref 2, .int (Int32.ofNat 0)])) = s5 at p5 T5 f5 e5
  have cut : mX9_cut 1 0 s4 = some (.inl 1, s5) := by
    unfold mX9_cut
    rw [onC_ok T4, if_neg (show ¬ (0 : Int32) < 0 by decide), bnd_ok (gI_ok T4 (show _ = some (Value.int (Int32.ofNat n)) from rfl)), if_pos (show (0 : Int32) ≤ Int32.ofNat n from ge_ofN (by omega)), bnd_ok p5]
    rfl
  have f35 : Fr (fun k => k = 0 ∨ k = 1) s3 s5 := Fr.tr (f4.mono fun k q => Or.inl q) (f5.mono fun k q => Or.inr q)
  have fa : Fr (fun k => k = 0 ∨ k = 1 ∨ (41 ≤ k ∧ k ≤ 58)) s s5 := Fr.tr (f3.mono fun k q => Or.inr (Or.inr q)) (f35.mono fun k q => q.elim Or.inl fun q => Or.inr (Or.inl q))
  have O5 : hasO s5 0 10 (tF y) := hasO_fr O4 f5 (by omega)
  have e2 : s5.2 = s.2 := e5.trans (e4.trans o3.1)
  have C5 : Crt s5 28 K := C.2.fr fa fun k h1 h2 (q : k = 0 ∨ k = 1 ∨ (41 ≤ k ∧ k ≤ 58)) => by omega
  have R5 : RdS s5 x F := ⟨hasO_fr R3.1 f35 (by omega), fun k hk => hasI_fr (R3.2 k hk) f35 (by omega)⟩
  have L5 : ∃ x F, RdL s5 x F := by
    obtain ⟨x, F, b1, b2, b3⟩ := RL
    exact ⟨x, F, hasO_fr b1 fa (by omega), fun k hk => hasI_fr (b2 k hk) fa (by omega), hasI_fr b3 fa (by omega)⟩
  have run : ∀ v, mX10_readLiness 54 14 s = some (.inl v, s3) → mX11_shop 0 s = (if v = 0 then mthr 0 else mbnd (gR 10 7 0) fun (v8 : Nat) =>
    mbnd (gI 1 7 v8) fun (v9 : Int32) =>
    if v9 < 12 then (
      mbnd (gR 10 8 0) fun (v11 : Nat) =>
      mbnd (gI 1 7 v11) fun (v12 : Int32) =>
      mbnd (pI 1 7 v11 (v12 + 1)) fun _ =>
      mbnd (gR 10 7 0) fun (v13 : Nat) =>
      mbnd (gR 10 8 0) fun (v14 : Nat) =>
      mbnd (mX1_copyFrom v13 v14) fun _ =>
      mbnd (gR 10 6 0) fun (v15 : Nat) =>
      mbnd (mX6_forgetActs v15) fun _ =>
      mbnd (gR 10 7 0) fun (v16 : Nat) =>
      mbnd (gI 1 7 v16) fun (v17 : Int32) =>
      mret v17
    ) else (
      mthr 1
    )) s5 := fun v h => by
    unfold mX11_shop
    rw [onC_ok C.1, bnd_ok (gR_ok C.1 (show _ = some (Value.ref 54) from rfl)), bnd_ok (nox_ok h), bnd_ok (gR_ok O3 (show _ = some (Value.ref 54) from rfl)), bnd_ok gy, bnd_ok p4, bnd_ok (gR_ok O4 (show _ = some (Value.ref 1) from rfl)), bnd_ok cut]
  -- what is refused
  have bad : ∀ (e : Nat) (t : Int32), mX11_shop 0 s = mthr e s5 → hsel [(0, 1), (1, 2)] e = mret t → ¬ t = 0 → (∃ Kd, Crt s3 41 Kd) → (∀ sm, Mdl sm 66 M → ∃ r s2 M', mX12_shop 66 sm = some (.inl r, s2) ∧ Mdl s2 66 M' ∧ Off sm s2 66 78 ∧ M'.1 0 = t ∧ M'.1 9 = 0 ∧ y = M'.1 14 ∧ M'.1 6 = M.1 6 ∧ M'.1 7 = M.1 7 ∧ (∀ i, i < 1920 → M'.2 1 i = M.2 1 i) ∧ M'.2 2 = M.2 2 ∧ M'.2 5 = M.2 5) → Both s (mX11_shop 0) (mX12_shop 66) [(0, 1), (1, 2)] c' := fun e t hm hs ht ⟨Kd, hd⟩ hr => by
    have f6 : Fr (fun k => k = 0 ∨ k = 1 ∨ (41 ≤ k ∧ k ≤ 58)) s (s5.1, s5.2.1, s5.2.2.1 + 1, s5.2.2.2 + 6) := ⟨fa.1, fa.2⟩
    obtain ⟨r, s7, M', q1, D7, o7, q2, q3, q4, q5, q6, q7, q8, q9⟩ := hr (s5.1, s5.2.1, s5.2.2.1 + 1, s5.2.2.2 + 6) (D.fr f6 fun k h1 h2 (q : k = 0 ∨ k = 1 ∨ (41 ≤ k ∧ k ≤ 58)) => by omega)
    have f7 : Fr (fun k => 66 ≤ k ∧ k ≤ 78) s5 s7 := ⟨by rw [o7.1]; exact Nat.le_refl _, fun k _ hp => o7.2 k (by
      have hp' : ¬ (66 ≤ k ∧ k ≤ 78) := hp
      omega)⟩
    have fb : Fr (fun k => k = 0 ∨ k = 1 ∨ (41 ≤ k ∧ k ≤ 79)) s s7 := Fr.tr (fa.mono fun k q => q.imp id fun q => q.imp id fun q => ⟨q.1, by omega⟩) (f7.mono fun k q => Or.inr (Or.inr ⟨by omega, by omega⟩))
    have D3 : Crt s7 41 Kd := (hd.fr f35 fun k h1 h2 (q : k = 0 ∨ k = 1) => by omega).fr f7 fun k h1 h2 (q : 66 ≤ k ∧ k ≤ 78) => by omega
    have R7 : Rdr s7 := by
      obtain ⟨y, G, b1, b2, b3⟩ := L5
      exact ⟨⟨Kd, D3⟩, ⟨x, F, hasO_fr R5.1 f7 (by omega), fun k hk => hasI_fr (R5.2 k hk) f7 (by omega)⟩, y, G, hasO_fr b1 f7 (by omega), fun k hk => hasI_fr (b2 k hk) f7 (by omega), hasI_fr b3 f7 (by omega)⟩
    have O7 : Ot s7 := (O.fr fa (by omega)).fr f7 (by omega)
    refine Or.inr ⟨e, t, r, _, hm, hs, ht, s7, y, K, M', LW, q1, q2, ⟨?_, ?_⟩, H.read h1 h2 fb (hasO_fr O5 f7 (by omega)) (hasO_fr T5 f7 (by omega)) R7 D7 O7 q3 q4 q5 q6 q7 q8 q9⟩
    · rw [o7.1]
      show s5.2.2.1 + 1 ≤ _
      rw [e2]
      omega
    · rw [o7.1]
      show s5.2.2.2 + 6 ≤ _
      rw [e2]
      omega
  rcases hr with ⟨r1, hd, r2⟩ | ⟨r1, hy, K', C3', hK, r2⟩
  · refine bad 0 1 ((run 0 r1).trans (by rw [if_pos rfl])) rfl (by decide) hd fun sm Dm => ?_
    obtain ⟨z, W', i', hz, ⟨s1, a1, D1, b1⟩, wk⟩ := r2 sm Dm
    obtain ⟨s2, a2, D2, b2⟩ := mint_run (k := 14) (v := Int32.ofNat z) D1 rfl
    obtain ⟨s3', a3, D3, b3⟩ := thr_yes D2 1
    obtain ⟨s4', a4, D4, b4⟩ := m_restoreB D3
    refine ⟨0, s4', _, ?_, D4, b1.trans (b2.trans (b3.trans b4)), rfl, rfl, hz, rfl, rfl, fun i hi => ?_, rfl, rfl⟩
    · rw [m_shop Dm a1, if_neg (show ¬ (0 : Int32) ≤ -1 by decide), if_neg (show ¬ (0 : Int32) ≤ -1 by decide)]
      refine (bnd_ok (v := Int32.ofNat z) (s' := s1) ((bnd_ok (gI_ok D1.1 (show _ = some (Value.int (Int32.ofNat z)) from rfl))).trans rfl)).trans ?_
      rw [bnd_ok a2]
      refine (bnd_ok (v := 1) (s' := s2) rfl).trans ?_
      rw [bnd_ok a3, if_neg (show ¬ (1 : Int32) = 0 by decide), bnd_ok a4]
      rfl
    · exact (rst_low _ _ hi).trans (rst_low (M.2 3) (M.2 1) hi)
  obtain ⟨t, ht, e3⟩ := hw.2.2.2.2.2.2.2.1
  have k7 : K.2.2.1 7 = Int32.ofNat t := S.ints.1.trans e3
  have run1 := run 1 r1
  rw [if_neg (show ¬ (1 : Int32) = 0 by decide), bnd_ok (gR_ok O5 (show _ = some (Value.ref 28) from rfl)), bnd_ok (gI_ok C5.1 (show _ = some (Value.int (K.2.2.1 7)) from rfl)), k7] at run1
  by_cases htt : t = 12
  · subst htt
    rw [if_neg (show ¬ Int32.ofNat 12 < 12 by decide)] at run1
    refine bad 1 2 run1 rfl (by decide) ⟨K', C3'⟩ fun sm Dm => ?_
    obtain ⟨W', i', b', m, ⟨s1, a1, D1, b1⟩, hm, -, wk⟩ := r2 sm Dm
    obtain ⟨s2, a2, D2, b2⟩ := mint_run (k := 14) (v := -1) D1 rfl
    obtain ⟨s3', a3, D3, b3⟩ := thr_yes D2 2
    obtain ⟨s4', a4, D4, b4⟩ := m_restore D3
    refine ⟨0, s4', _, ?_, D4, b1.trans (b2.trans (b3.trans b4)), rfl, rfl, hy, rfl, rfl, fun i hi => ?_, rfl, rfl⟩
    · rw [m_shop Dm a1, if_pos (ge_ofN (by omega)), if_pos (ge_ofN (by omega))]
      refine (bnd_ok (v := -1) (s' := s1) rfl).trans ?_
      rw [bnd_ok a2]
      refine (bnd_ok (v := 0) (s' := s2) rfl).trans ?_
      have w3 : ldI 0 67 3 s2 = some (.inl (Int32.ofNat 12), s2) := by
        have h := (MD.wl D2).1 3 (by decide)
        rw [show (mint (mcur (mw (msh M n) W') i' b') 14 (-1)).2 1 3 = Int32.ofNat 12 from ((congrFun (mw_row (msh M n) W' i' b') 3).trans wk.1).trans e3] at h
        exact h
      rw [bnd_ok (thr_no D2 1), if_pos rfl, bnd_ok (MD.refs D2).2.1, bnd_ok w3]
      refine (bnd_ok (v := 1) (s' := s2) rfl).trans ?_
      rw [bnd_ok a3, if_neg (show ¬ (1 : Int32) = 0 by decide), bnd_ok a4]
      rfl
    · exact (rst_low _ _ hi).trans (rst_low (M.2 3) (M.2 1) hi)
  -- what is taken
  have htl : t < 12 := by omega
  rw [if_pos (show Int32.ofNat t < 12 from (ofN_lt (m := 12) (by omega) (by decide)).mpr htl)] at run1
  have C5' : Crt s5 41 K' := C3'.fr f35 fun k h1 h2 (q : k = 0 ∨ k = 1) => by omega
  obtain ⟨W0, i0, b0, m0, -, -, H0, wk0⟩ := r2 s D
  have k7' : K'.2.2.1 7 = Int32.ofNat t := H0.1.ints.1.trans (wk0.1.trans e3)
  obtain ⟨s6, p6, C6, o6⟩ := cint (v := Int32.ofNat (t + 1)) C5' (k := 7) (by decide) (by decide)
  have C6a : Crt s6 28 K := C5.off o6 (Or.inl (by decide))
  obtain ⟨s7, p7, C7, o7⟩ := copy_run C6a C6 (by omega)
  have cp := kcopy_cpy K (kint K' 7 (Int32.ofNat (t + 1)))
  have f57 : Fr (fun k => 28 ≤ k ∧ k ≤ 58) s5 s7 := Fr.tr (o6.fr.mono fun k q => ⟨by omega, by omega⟩) (o7.fr.mono fun k q => ⟨by omega, by omega⟩)
  have f07 : Fr (fun k => k = 0 ∨ k = 1 ∨ (28 ≤ k ∧ k ≤ 58)) s s7 := Fr.tr (fa.mono fun k q => q.imp id fun q => q.imp id fun q => ⟨by omega, by omega⟩) (f57.mono fun k q => Or.inr (Or.inr q))
  obtain ⟨li, oo, h, A, mc, mr, ml⟩ := id H.2.2.2.2.2
  have mc7 := mc.fr f07 (by omega) (by omega) fun k h1 h2 (q : k = 0 ∨ k = 1 ∨ (28 ≤ k ∧ k ≤ 58)) => by omega
  have O23 := mc7.2.1
  have p8 : pI 6 2 23 0 s7 = some (.inl (), sup s7 23 (.inl (6, [.ref 24, .int (Int32.ofNat oo), .int (Int32.ofNat 0), va_rf ((A 10).map Prod.fst)]))) := pF_ok O23 (Nat.le_of_ble_eq_true rfl)
  have f8 : Fr (fun q => q = 23) s7 (sup s7 23 (.inl (6, [.ref 24, .int (Int32.ofNat oo), .int (Int32.ofNat 0), va_rf ((A 10).map Prod.fst)]))) := Fr.sup
  have e8 : (sup s7 23 (.inl (6, [.ref 24, .int (Int32.ofNat oo), .int (Int32.ofNat 0), va_rf ((A 10).map Prod.fst)]))).2 = s7.2 := rfl
  have m8 : ∀ li' o' h' A', MemC s K.2.2.2 li' o' h' A' → MemC (sup s7 23 (.inl (6, [.ref 24, .int (Int32.ofNat oo), .int (Int32.ofNat 0), va_rf ((A 10).map Prod.fst)]))) K.2.2.2 li' o' 0 A' := fun li' o' h' A' mc' => by
    have m1 := mc'.fr f07 (by omega) (by omega) fun k h1 h2 (q : k = 0 ∨ k = 1 ∨ (28 ≤ k ∧ k ≤ 58)) => by omega
    have m2 := m1.nums m1.1.1 (Nat.zero_le 10)
    have q : (Sum.inl (6, [Value.ref 24, .int (Int32.ofNat oo), .int (Int32.ofNat h), va_rf ((A 10).map Prod.fst)]) : AE) = Sum.inl (6, [.ref 24, .int (Int32.ofNat o'), .int (Int32.ofNat h'), va_rf ((A' 10).map Prod.fst)]) := O23.1.symm.trans m1.2.1.1
    have ql : [Value.ref 24, .int (Int32.ofNat oo), .int (Int32.ofNat h), va_rf ((A 10).map Prod.fst)] = [.ref 24, .int (Int32.ofNat o'), .int (Int32.ofNat h'), va_rf ((A' 10).map Prod.fst)] := congrArg Prod.snd (Sum.inl.inj q)
    have q1 : Value.int (Int32.ofNat oo) = .int (Int32.ofNat o') := Option.some.inj (show [Value.ref 24, .int (Int32.ofNat oo), .int (Int32.ofNat h), va_rf ((A 10).map Prod.fst)][1]? = [Value.ref 24, .int (Int32.ofNat o'), .int (Int32.ofNat h'), va_rf ((A' 10).map Prod.fst)][1]? by rw [ql])
    have q3 : va_rf ((A 10).map Prod.fst) = va_rf ((A' 10).map Prod.fst) := Option.some.inj (show [Value.ref 24, .int (Int32.ofNat oo), .int (Int32.ofNat h), va_rf ((A 10).map Prod.fst)][3]? = [Value.ref 24, .int (Int32.ofNat o'), .int (Int32.ofNat h'), va_rf ((A' 10).map Prod.fst)][3]? by rw [ql])
    rw [q1, q3]
    exact m2
  generalize sup s7 23 (.inl (6, [.ref 24, .int (Int32.ofNat oo), .int (Int32.ofNat 0), va_rf ((A 10).map Prod.fst)])) = s8 at p8 f8 e8 m8
  have fb : Fr (fun k => k = 0 ∨ k = 1 ∨ k = 23 ∨ (28 ≤ k ∧ k ≤ 58)) s s8 := Fr.tr (f07.mono fun k q => q.imp id fun q => q.imp id fun q => Or.inr q) (f8.mono fun k q => Or.inr (Or.inr (Or.inl q)))
  have e28 : s8.2 = s.2 := e8.trans (o7.1.trans (o6.1.trans e2))
  have O6 : hasO s6 0 10 (tF y) := hasO_off O5 o6 (by omega)
  have O7 : hasO s7 0 10 (tF y) := hasO_off O6 o7 (by omega)
  have O8 : hasO s8 0 10 (tF y) := hasO_fr O7 f8 (by omega)
  have C8 : Crt s8 28 (kcopy K (kint K' 7 (Int32.ofNat (t + 1)))) := C7.fr f8 fun k h1 h2 (q : k = 23) => by omega
  have kv : (kcopy K (kint K' 7 (Int32.ofNat (t + 1)))).2.2.1 7 = Int32.ofNat (t + 1) := cp.2.2.1 7 (by decide) (by decide)
  have forget : mX6_forgetActs 23 s7 = some (.inl (), s8) := by
    unfold mX6_forgetActs
    rw [onC_ok O23]
    exact (bnd_ok p8).trans rfl
  have run2 : mX11_shop 0 s = some (.inl (Int32.ofNat (t + 1)), s8) := by
    rw [run1, bnd_ok (gR_ok O5 (show _ = some (Value.ref 41) from rfl)), bnd_ok (gI_ok C5'.1 (show _ = some (Value.int (K'.2.2.1 7)) from rfl)), k7', ofN_succ, bnd_ok p6, bnd_ok (gR_ok O6 (show _ = some (Value.ref 28) from rfl)), bnd_ok (gR_ok O6 (show _ = some (Value.ref 41) from rfl)), bnd_ok p7, bnd_ok (gR_ok O7 (show _ = some (Value.ref 23) from rfl)), bnd_ok forget, bnd_ok (gR_ok O8 (show _ = some (Value.ref 28) from rfl)), bnd_ok (gI_ok C8.1 (show _ = some (Value.int ((kcopy K (kint K' 7 (Int32.ofNat (t + 1)))).2.2.1 7)) from rfl)), kv]
    rfl
  refine Or.inl ⟨Int32.ofNat (t + 1), s8, run2, O.fr fb (by omega), fun s1' h79 => ?_⟩
  have Dm : Mdl s1' 66 M := (D.fr fb fun k k1 k2 (q : k = 0 ∨ k = 1 ∨ k = 23 ∨ (28 ≤ k ∧ k ≤ 58)) => by omega).fr h79.fr fun k k1 k2 (q : k = 79) => by omega
  obtain ⟨W', i', b', m, ⟨s9, a1, D1, b1⟩, hm, H', wk⟩ := r2 s1' Dm
  have w3 : W' 3 = Int32.ofNat t := wk.1.trans e3
  obtain ⟨t2, a2, D2, b2⟩ := mint_run (k := 14) (v := -1) D1 rfl
  have ld3 : ∀ {s' : aS} {M' : MK} {v : Int32}, Mdl s' 66 M' → M'.2 1 3 = v → ldI 0 67 3 s' = some (.inl v, s') := fun D' hv => by
    have h := (MD.wl D').1 3 (by decide)
    rw [hv] at h
    exact h
  obtain ⟨t3, a3, D3, b3⟩ := mput_run (q := 1) (i := 3) (v := Int32.ofNat (t + 1)) D2 (by decide) (by decide) (by decide) (by decide)
  obtain ⟨t4, a4, D4, b4⟩ := mint_run (k := 7) (v := 0) D3 rfl
  have bb : Off s1' t4 66 78 := b1.trans (b2.trans (b3.trans b4))
  have r1W : (mint (mput (mint (mcur (mw (msh M n) W') i' b') 14 (-1)) 1 3 (Int32.ofNat (t + 1))) 7 0).2 1 = upd W' 3 (Int32.ofNat (t + 1)) := by
    show mrow (mrow (msh M n).2 1 W') 1 (upd (mrow (msh M n).2 1 W' 1) 3 (Int32.ofNat (t + 1))) 1 = _
    rw [mrow_at, mrow_at]
  have f89 : Fr (fun k => k = 79 ∨ (66 ≤ k ∧ k ≤ 78)) s8 t4 := Fr.tr (h79.fr.mono fun k q => Or.inl q) (bb.fr.mono fun k q => Or.inr q)
  have fc : Fr (fun k => k = 0 ∨ k = 1 ∨ k = 23 ∨ (28 ≤ k ∧ k ≤ 79)) s t4 := Fr.tr (fb.mono fun k q => q.imp id fun q => q.imp id fun q => q.imp id fun q => ⟨by omega, by omega⟩) (f89.mono fun k q => Or.inr (Or.inr (Or.inr ⟨by omega, by omega⟩)))
  have R9 : Rdr t4 := by
    obtain ⟨y, G, d1, d2, d3⟩ := L5
    have f5t : Fr (fun k => k = 23 ∨ (28 ≤ k ∧ k ≤ 53) ∨ k = 79 ∨ (66 ≤ k ∧ k ≤ 78)) s5 t4 := Fr.tr (o6.fr.mono fun k q => Or.inr (Or.inl ⟨by omega, by omega⟩)) (Fr.tr (o7.fr.mono fun k q => Or.inr (Or.inl ⟨by omega, by omega⟩)) (Fr.tr (f8.mono fun k q => Or.inl q) (f89.mono fun k q => Or.inr (Or.inr q))))
    have C9 : Crt t4 41 (kint K' 7 (Int32.ofNat (t + 1))) := ((C6.off o7 (Or.inr (by decide))).fr f8 fun k h1 h2 (q : k = 23) => by omega).fr f89 fun k h1 h2 (q : k = 79 ∨ (66 ≤ k ∧ k ≤ 78)) => by omega
    exact ⟨⟨_, C9⟩, ⟨x, F, hasO_fr R5.1 f5t (by omega), fun k hk => hasI_fr (R5.2 k hk) f5t (by omega)⟩, y, G, hasO_fr d1 f5t (by omega), fun k hk => hasI_fr (d2 k hk) f5t (by omega), hasI_fr d3 f5t (by omega)⟩
  have T8 : hasO s8 1 9 [.ref 2, .int (Int32.ofNat 0)] := hasO_fr (hasO_fr T5 f57 (by omega)) f8 (by omega)
  have Oa : Ot s8 := O.fr fb (by omega)
  refine ⟨t4, y, kcopy K (kint K' 7 (Int32.ofNat (t + 1))), _, LW, ?_, bb.2 79 (by omega), rfl, ⟨?_, ?_⟩, H.shop h1 h2 fc (hasO_fr O8 f89 (by omega)) (C8.fr f89 fun k h1 h2 (q : k = 79 ∨ (66 ≤ k ∧ k ≤ 78)) => by omega) ?_ (cp.2.2.2.trans hK) (hasO_fr T8 f89 (by omega)) R9 D4 ⟨⟨h79.2.2.choose, (bb.2 79 (by omega)).trans h79.2.2.choose_spec⟩, by rw [bb.1, h79.1]; exact Oa.2⟩ (fun li' o' h' A' mc' => (m8 li' o' h' A' mc').fr f89 (by omega) (by omega) fun k h1 h2 (q : k = 79 ∨ (66 ≤ k ∧ k ≤ 78)) => by omega) rfl hy rfl rfl ?_ ?_ rfl⟩
  · rw [m_shop Dm a1, if_pos (ge_ofN (by omega)), if_pos (ge_ofN (by omega))]
    refine (bnd_ok (v := -1) (s' := s9) rfl).trans ?_
    rw [bnd_ok a2]
    refine (bnd_ok (v := 0) (s' := t2) rfl).trans ?_
    have w2 : ldI 0 67 3 t2 = some (.inl (Int32.ofNat t), t2) := ld3 D2 ((congrFun (mw_row (msh M n) W' i' b') 3).trans w3)
    rw [bnd_ok (thr_no D2 1), if_pos rfl, bnd_ok (MD.refs D2).2.1, bnd_ok w2, if_neg (show ¬ Int32.ofNat t = 12 from fun q => by
      have q' : Int32.ofNat t = Int32.ofNat 12 := q
      rw [ofN_inj (by omega) (by decide)] at q'
      omega)]
    refine (bnd_ok (v := 0) (s' := t2) rfl).trans ?_
    rw [bnd_ok (thr_no D2 2), if_pos rfl, bnd_ok (MD.refs D2).2.1, bnd_ok w2, ofN_succ, bnd_ok (show stI 0 67 3 (Int32.ofNat (t + 1)) t2 = some (.inl (), t3) from a3), bnd_ok a4, bnd_ok (MD.refs D4).2.1, bnd_ok (ld3 D4 (show _ = Int32.ofNat (t + 1) by rw [r1W]; exact if_pos rfl))]
    rfl
  · rw [bb.1, h79.1, e28]
    omega
  · rw [bb.1, h79.1, e28]
    omega
  · rw [r1W]
    exact (H'.text (show t + 1 ≤ 12 by omega)).cpy cp
  · rw [r1W]
    exact (if_neg (by decide)).trans wk.2.1
  · intro i hi
    rw [r1W]
    exact (if_neg (by omega)).trans (wk.2.2 i hi)
end SH3
