/-! GOING BACK: the calls -/
theorem ScOk.law {s : aS} {l li : Nat} (S : ScOk l s) (hl : lOk l) (hli : lOk li) (hs : ∃ g, hasI s (li + 2) 0 40 g) : ScOk li s := by
  refine ⟨S.1, S.2.1, S.2.2.1, S.2.2.2.1, fun b n h => ?_⟩
  unfold lOk at hl hli
  by_cases hb : b ≤ 22
  · have e : scN l b = scN li b := by
      unfold scN
      rw [if_neg (show ¬ b = l + 2 by omega), if_neg (show ¬ b = li + 2 by omega)]
    exact S.2.2.2.2 b n (e.trans h)
  · unfold scN at h
    rw [if_neg (by omega), if_neg (by omega), if_neg (by omega), if_neg (by omega), if_neg (by omega)] at h
    by_cases q : b = li + 2
    · rw [if_pos q] at h
      cases h
      rw [q]
      exact hs
    · rw [if_neg q] at h
      cases h
section UB
variable {s : aS} {f : Int32} {K : CK} {M : MK} {LW : Option (List Ln)} {c c' : Nat}
theorem go_undo (H : World s f K M LW c) (h1 : c ≤ c') (h2 : c' < 100000) : Both s (mX11_undo 0) (mX12_undo 66) [] c' := by
  obtain ⟨⟨⟨C, D, S, hk, hw, hc⟩, ⟨-, Sc, L, hl, Lok⟩, LR⟩, ef, T, R, O, li, o, h, A, mc, mr, ml⟩ := id H
  have hl' := hl
  unfold lOk at hl'
  obtain ⟨ho, hh⟩ := mc.1
  have O23 := mc.2.1
  cases h with
  | zero =>
    refine Ag.goes H h1 h2 (Or.inl ⟨0, s, ?_, ScR.rf, fun s' D' => ?_⟩)
    · unfold mX11_undo
      rw [onC_ok C.1, bnd_ok (gR_ok C.1 rfl), bnd_ok (gR_ok C.1 rfl)]
      refine (bnd_ok (v := 0) (s' := s) ?_).trans rfl
      unfold mX6_takeBackAct
      rw [onC_ok O23, bnd_ok (gI_ok O23 rfl), if_neg (show ¬ (0 : Int32) < Int32.ofNat 0 by decide)]
      rfl
    · unfold mX12_undo
      refine RQ.start D' fun s1 D1 => RQ.get (w := 0) (by rw [show (0 : Int32) = (mint M 0 0).1 7 from mr.2.1.symm]; exact gI_ok D1.1 rfl) ?_
      rw [if_pos rfl]
      exact RQ.val D1 rfl rfl
  | succ n =>
    obtain ⟨a, Ka, eA, ela, ⟨Sa, ka, wa⟩, e4⟩ := mr.1 n (Nat.lt_succ_self n)
    have hat : (o + n) % 10 < 10 := Nat.mod_lt _ (by decide)
    obtain ⟨a80, Ca, al, ali⟩ := mc.2.2.2.1 _ a Ka (by omega) eA
    have mc1 := mc.nums (o' := o) (h' := n) ho (by omega)
    have O1 := mc1.2.1
    have C1 : Crt (sup s 23 (.inl (6, [.ref 24, .int (Int32.ofNat o), .int (Int32.ofNat n), va_rf ((A 10).map Prod.fst)]))) 28 K := C.2.frame (by omega)
    have Da : Crt (sup s 23 (.inl (6, [.ref 24, .int (Int32.ofNat o), .int (Int32.ofNat n), va_rf ((A 10).map Prod.fst)]))) a Ka := Ca.frame (by omega)
    have f1 : Fr (fun q => q = 23) s (sup s 23 (.inl (6, [.ref 24, .int (Int32.ofNat o), .int (Int32.ofNat n), va_rf ((A 10).map Prod.fst)]))) := Fr.sup
    have p1 : pI 6 2 23 (Int32.ofNat n) s = some (.inl (), sup s 23 (.inl (6, [.ref 24, .int (Int32.ofNat o), .int (Int32.ofNat n), va_rf ((A 10).map Prod.fst)]))) := pF_ok O23 (Nat.le_of_ble_eq_true rfl)
    have e1 : (sup s 23 (.inl (6, [.ref 24, .int (Int32.ofNat o), .int (Int32.ofNat n), va_rf ((A 10).map Prod.fst)]))).2 = s.2 := rfl
    generalize sup s 23 (.inl (6, [.ref 24, .int (Int32.ofNat o), .int (Int32.ofNat n), va_rf ((A 10).map Prod.fst)])) = s1 at mc1 O1 C1 Da f1 p1 e1
    obtain ⟨g, g1, g2, g3⟩ := mc1.2.2.1
    obtain ⟨s2, r2, C2, o2⟩ := copy_run C1 Da (by omega)
    have cp := kcopy_cpy K Ka
    have run : mX11_undo 0 s = some (.inl 1, s2) := by
      unfold mX11_undo
      rw [onC_ok C.1, bnd_ok (gR_ok C.1 rfl), bnd_ok (gR_ok C.1 rfl)]
      refine (bnd_ok (v := 1) (s' := s2) ?_).trans rfl
      unfold mX6_takeBackAct
      rw [onC_ok O23, bnd_ok (gI_ok O23 rfl), if_pos (show (0 : Int32) < Int32.ofNat (n + 1) from (ofN_lt (n := 0) (by decide) (by omega)).mpr (by omega)), bnd_ok (gI_ok O23 rfl), ofN_pred, bnd_ok p1, bnd_ok (gI_ok O1 rfl), bnd_ok (gI_ok O1 rfl), mret_mbnd, ofN_add, show Int32.ofNat (o + n) - Int32.ofNat (o + n) / 10 * 10 = Int32.ofNat ((o + n) % 10) from ofN_mod (k := 10) (by omega) (by decide) (by decide), if_neg (ofN_nn (by omega)), bnd_ok (gR_ok O1 rfl), bnd_ok (kq_len g1 g2), if_neg (show ¬ Int32.ofNat 10 ≤ Int32.ofNat ((o + n) % 10) from nle hat (by decide)), bnd_ok (gR_ok O1 rfl), bnd_ok (kq_ld g1 g2 hat (by decide)), g3 _ hat, eA]
      show (mbnd (gR 6 0 23) fun (v15 : Nat) => mbnd (ldQ 3 v15 (Int32.ofNat ((o + n) % 10))) fun (v16 : Option Nat) => mbnd (unq v16) fun (v17 : Nat) => mbnd (mX1_copyFrom 28 v17) fun _ => (mret 1 : MM Int32)) s1 = _
      rw [bnd_ok (gR_ok O1 rfl), bnd_ok (kq_ld g1 g2 hat (by decide)), g3 _ hat, eA, bnd_ok (show unq (Option.map Prod.fst (some (a, Ka))) s1 = some (.inl a, s1) from rfl), bnd_ok r2]
      rfl
    have f2 : Fr (fun k => k = 23 ∨ (28 ≤ k ∧ k ≤ 40)) s s2 := Fr.tr (f1.mono fun k q => Or.inl q) (o2.fr.mono fun k q => Or.inr q)
    have Oa : Ot s2 := O.fr f2 (by omega)
    refine Or.inl ⟨1, s2, run, Oa, fun s1' h79 => ?_⟩
    have D1 : Mdl s1' 66 M := (D.fr f2 fun k k1 k2 (q : k = 23 ∨ (28 ≤ k ∧ k ≤ 40)) => by omega).fr h79.fr fun k k1 k2 (q : k = 79) => by omega
    obtain ⟨s3, q3, D3, o3⟩ := mint_run (k := 0) (v := 0) D1 rfl
    obtain ⟨s4, q4, D4, o4⟩ := mint_run (k := 7) (v := Int32.ofNat n) D3 rfl
    obtain ⟨s5, q5, D5, o5⟩ := m_undo D4 (n := n) (by omega) rfl
    have oo : Off s1' s5 66 78 := o3.trans (o4.trans o5)
    have eW : ∀ i, i < 1071 → rst (M.2 1) (fun i => M.2 5 (1071 * n + i)) 1071 i = M.2 5 (1071 * n + i) := fun i hi => if_pos hi
    have eW2 : ∀ i, 1071 ≤ i → rst (M.2 1) (fun i => M.2 5 (1071 * n + i)) 1071 i = M.2 1 i := fun i hi => if_neg (by omega)
    have fz : Fr (fun k => (28 ≤ k ∧ k ≤ 40) ∨ k = 79 ∨ (66 ≤ k ∧ k ≤ 78)) s1 s5 := Fr.tr (o2.fr.mono fun k q => Or.inl q) (Fr.tr (h79.fr.mono fun k q => Or.inr (Or.inl q)) (oo.fr.mono fun k q => Or.inr (Or.inr q)))
    have fa : Fr (fun k => k = 23 ∨ (28 ≤ k ∧ k ≤ 40) ∨ k = 79 ∨ (66 ≤ k ∧ k ≤ 78)) s s5 := Fr.tr (f1.mono fun k q => Or.inl q) (fz.mono fun k q => Or.inr q)
    have f14 : Fr (fun k => k = 79 ∨ (66 ≤ k ∧ k ≤ 78)) s2 s5 := Fr.tr (h79.fr.mono fun k q => Or.inl q) (oo.fr.mono fun k q => Or.inr q)
    have C5 : CC s5 f (kcopy K Ka) := ⟨hasO_fr C.1 fa (by omega), C2.fr f14 fun k h1 h2 (q : k = 79 ∨ (66 ≤ k ∧ k ≤ 78)) => by omega⟩
    have Sc5 : ScOk K.2.2.2 s5 := Sc.fr fa fun k q (z : k = 23 ∨ (28 ≤ k ∧ k ≤ 40) ∨ k = 79 ∨ (66 ≤ k ∧ k ≤ 78)) => by
      unfold scr at q
      omega
    have el : (kcopy K Ka).2.2.2 = K.2.2.2 := ela
    refine ⟨s5, f, kcopy K Ka, _, LW, ?_, oo.2 79 (by omega), rfl, ⟨?_, ?_⟩, ⟨⟨C5, D5, (Sa.cpy cp).congr (ka.rows cp.1) eW, ka.rows cp.1, (wOk.congr (wa.rows fun t h _ => cp.1 t h) (ka.rows cp.1) eW).more h1, h2⟩, ⟨C5, by rw [el]; exact Sc5, by rw [el]; exact L.fr fa (by omega) (by omega), by rw [el]; exact hl, Lok⟩, LR.congr ((eW 4 (by decide)).trans e4) eW2⟩, ef, T.fr fa (by omega) (by omega) rfl rfl, R.fr fa fun k h1 h2 (z : k = 23 ∨ (28 ≤ k ∧ k ≤ 40) ∨ k = 79 ∨ (66 ≤ k ∧ k ≤ 78)) => by omega, ⟨⟨h79.2.2.choose, (oo.2 79 (by omega)).trans h79.2.2.choose_spec⟩, by rw [oo.1, h79.1]; exact Oa.2⟩, ?_⟩
    · unfold mX12_undo
      rw [onC_ok D1.1, bnd_ok q3, bnd_ok (show gI 11 7 66 s3 = some (.inl (Int32.ofNat (n + 1)), s3) by rw [← mr.2.1]; exact gI_ok D3.1 rfl), if_neg (show ¬ Int32.ofNat (n + 1) = 0 from fun z => absurd ((ofN_inj (m := 0) (by omega) (by decide)).mp z) (by omega)), bnd_ok (show gI 11 7 66 s3 = some (.inl (Int32.ofNat (n + 1)), s3) by rw [← mr.2.1]; exact gI_ok D3.1 rfl), ofN_pred, bnd_ok q4, bnd_ok q5]
      rfl
    · rw [oo.1, h79.1, o2.1, e1]
      omega
    · rw [oo.1, h79.1, o2.1, e1]
      omega
    · rw [el]
      refine ⟨li, o, n, A, mc1.fr fz (by omega) (by omega) (fun k h1 h2 (q : (28 ≤ k ∧ k ≤ 40) ∨ k = 79 ∨ (66 ≤ k ∧ k ≤ 78)) => by omega), ⟨fun j hj => ?_, rfl, ?_⟩, ml.fr fa hl ⟨by omega, by omega⟩ (Sc5.stack hl) ⟨by omega, by omega⟩ (fun _ => by omega) (fun k h1 h2 (q : k = 23 ∨ (28 ≤ k ∧ k ≤ 40) ∨ k = 79 ∨ (66 ≤ k ∧ k ≤ 78)) => by omega) rfl rfl⟩
      · obtain ⟨x, Kx, z1, z2, ⟨z3, z4, z5⟩, z6⟩ := mr.1 j (by omega)
        exact ⟨x, Kx, z1, z2, ⟨z3, z4, z5.more h1⟩, z6.trans ((eW 4 (by decide)).trans e4).symm⟩
      · exact mr.2.2.imp id fun ⟨x, Kx, z1, z2, ⟨z3, z4, z5⟩, z6⟩ => ⟨x, Kx, z1, z2, ⟨z3, z4, z5.more h1⟩, z6⟩
end UB
