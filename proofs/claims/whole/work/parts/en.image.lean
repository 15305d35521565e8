/-! GOING BACK: back, image -/
section BI
variable {s : aS} {f : Int32} {K : CK} {M : MK} {LW : Option (List Ln)} {c c' : Nat}
theorem go_back (H : World s f K M LW c) (h1 : c ≤ c') (h2 : c' < 100000) : Both s (mX11_back 0) (mX12_back 66) [] c' := by
  obtain ⟨⟨⟨C, D, S, hk, hw, hc⟩, ⟨-, Sc, L, hl, Lok⟩, LR⟩, ef, T, R, O, li, o, h, A, mc, mr, ml⟩ := id H
  have hl' := hl
  unfold lOk at hl'
  obtain ⟨ho, hh⟩ := mc.1
  have O23 := mc.2.1
  rcases mr.2.2 with ⟨eA, e6⟩ | ⟨a, Ka, eA, e6, ⟨Sa, ka, wa⟩, ela⟩
  · refine Ag.goes H h1 h2 (Or.inl ⟨0, s, ?_, ScR.rf, fun s' D' => ?_⟩)
    · unfold mX11_back
      rw [onC_ok C.1, bnd_ok (gR_ok C.1 rfl), bnd_ok (gR_ok C.1 rfl)]
      refine (bnd_ok (v := 0) (s' := s) ?_).trans rfl
      unfold mX6_goBack
      rw [onC_ok O23, bnd_ok (gQ_ok O23 rfl), eA]
      rfl
    · unfold mX12_back
      refine RQ.start D' fun s1 D1 => RQ.get (w := 0) (by rw [show (0 : Int32) = (mint M 0 0).1 6 from e6.symm]; exact gI_ok D1.1 rfl) ?_
      rw [if_pos rfl]
      exact RQ.val D1 rfl rfl
  · obtain ⟨a80, Ca, al, ali⟩ := mc.2.2.2.1 10 a Ka (by decide) eA
    obtain ⟨hli, hap, ⟨LWi, Li, Lik, Lir⟩, hst⟩ := id ml
    have hli' := hli
    unfold lOk at hli'
    obtain ⟨s1, r1, C1, o1⟩ := copy_run C.2 Ca (by omega)
    have cp := kcopy_cpy K Ka
    have mc0 : MemC s li li o h A := ⟨mc.1, mc.2.1, mc.2.2.1, fun i b Kb hi e => by
      obtain ⟨z1, z2, z3, z4⟩ := mc.2.2.2.1 i b Kb hi e
      exact ⟨z1, z2, z4, z4⟩, mc.2.2.2.2⟩
    have f1 : Fr (fun k => 28 ≤ k ∧ k ≤ 40) s s1 := o1.fr
    have mc1 := mc0.fr f1 (by omega) (by omega) fun k h1 h2 (q : 28 ≤ k ∧ k ≤ 40) => by omega
    have mc2 := mc1.nums (o' := o) (h' := 0) ho (by omega)
    have O1 := mc1.2.1
    have f2 : Fr (fun q => q = 23) s1 (sup s1 23 (.inl (6, [.ref 24, .int (Int32.ofNat o), .int (Int32.ofNat 0), va_rf ((A 10).map Prod.fst)]))) := Fr.sup
    have C2 : Crt (sup s1 23 (.inl (6, [.ref 24, .int (Int32.ofNat o), .int (Int32.ofNat 0), va_rf ((A 10).map Prod.fst)]))) 28 (kcopy K Ka) := C1.frame (by omega)
    have p2 : pI 6 2 23 0 s1 = some (.inl (), sup s1 23 (.inl (6, [.ref 24, .int (Int32.ofNat o), .int (Int32.ofNat 0), va_rf ((A 10).map Prod.fst)]))) := pF_ok O1 (Nat.le_of_ble_eq_true rfl)
    have e2 : (sup s1 23 (.inl (6, [.ref 24, .int (Int32.ofNat o), .int (Int32.ofNat 0), va_rf ((A 10).map Prod.fst)]))).2 = s.2 := o1.1
    generalize sup s1 23 (.inl (6, [.ref 24, .int (Int32.ofNat o), .int (Int32.ofNat 0), va_rf ((A 10).map Prod.fst)])) = s2 at mc2 f2 C2 p2 e2
    have run : mX11_back 0 s = some (.inl 1, s2) := by
      unfold mX11_back
      rw [onC_ok C.1, bnd_ok (gR_ok C.1 rfl), bnd_ok (gR_ok C.1 rfl)]
      refine (bnd_ok (v := 1) (s' := s2) ?_).trans rfl
      unfold mX6_goBack
      rw [onC_ok O23, bnd_ok (gQ_ok O23 rfl), eA]
      show (mbnd (gQ 6 3 23) fun (v4 : Option Nat) => mbnd (unq v4) fun (v5 : Nat) => mbnd (mX1_copyFrom 28 v5) fun _ => mbnd (mX6_forgetActs 23) fun _ => (mret 1 : MM Int32)) s = _
      rw [bnd_ok (gQ_ok O23 rfl), eA, bnd_ok (show unq (Option.map Prod.fst (some (a, Ka))) s = some (.inl a, s) from rfl), bnd_ok r1]
      refine (bnd_ok (v := ()) (s' := s2) ?_).trans rfl
      unfold mX6_forgetActs
      rw [onC_ok O1]
      exact (bnd_ok p2).trans rfl
    have fb : Fr (fun k => k = 23 ∨ (28 ≤ k ∧ k ≤ 40)) s s2 := Fr.tr (f1.mono fun k q => Or.inr q) (f2.mono fun k q => Or.inl q)
    have Oa : Ot s2 := O.fr fb (by omega)
    refine Or.inl ⟨1, s2, run, Oa, fun s1' h79 => ?_⟩
    have D1 : Mdl s1' 66 M := (D.fr fb fun k k1 k2 (q : k = 23 ∨ (28 ≤ k ∧ k ≤ 40)) => by omega).fr h79.fr fun k k1 k2 (q : k = 79) => by omega
    obtain ⟨s3, q3, D3, o3⟩ := mint_run (k := 0) (v := 0) D1 rfl
    obtain ⟨s4, q4, D4, o4⟩ := m_backL D3
    obtain ⟨s5, q5, D5, o5⟩ := mint_run (k := 7) (v := 0) D4 rfl
    have oo : Off s1' s5 66 78 := o3.trans (o4.trans o5)
    have eW : ∀ i, i < 1920 → rst (M.2 1) (M.2 2) 1920 i = M.2 2 i := fun i hi => if_pos hi
    have f14 : Fr (fun k => k = 79 ∨ (66 ≤ k ∧ k ≤ 78)) s2 s5 := Fr.tr (h79.fr.mono fun k q => Or.inl q) (oo.fr.mono fun k q => Or.inr q)
    have fa : Fr (fun k => k = 23 ∨ (28 ≤ k ∧ k ≤ 40) ∨ k = 79 ∨ (66 ≤ k ∧ k ≤ 78)) s s5 := Fr.tr (fb.mono fun k q => q.elim Or.inl fun q => Or.inr (Or.inl q)) (f14.mono fun k q => Or.inr (Or.inr q))
    have C5 : CC s5 f (kcopy K Ka) := ⟨hasO_fr C.1 fa (by omega), C2.fr f14 fun k h1 h2 (q : k = 79 ∨ (66 ≤ k ∧ k ≤ 78)) => by omega⟩
    have st5 : ∃ g, hasI s5 (li + 2) 0 40 g := by
      obtain ⟨g, e⟩ := hst
      exact ⟨g, hasI_fr e fa (by omega)⟩
    have Sc5 : ScOk li s5 := (Sc.fr fa fun k q (z : k = 23 ∨ (28 ≤ k ∧ k ≤ 40) ∨ k = 79 ∨ (66 ≤ k ∧ k ≤ 78)) => by
      unfold scr at q
      omega).law hl hli st5
    have Li5 : LawC s5 li LWi := Li.fr fa (by omega) (by omega)
    have el : (kcopy K Ka).2.2.2 = li := ela
    refine ⟨s5, f, kcopy K Ka, _, LWi, ?_, oo.2 79 (by omega), rfl, ⟨?_, ?_⟩, ⟨⟨C5, D5, (Sa.cpy cp).congr (ka.rows cp.1) fun i hi => eW i (by omega), ka.rows cp.1, (wOk.congr (wa.rows fun t h _ => cp.1 t h) (ka.rows cp.1) fun i hi => eW i (by omega)).more h1, h2⟩, ⟨C5, by rw [el]; exact Sc5, by rw [el]; exact Li5, by rw [el]; exact hli, Lik⟩, (Lir e6).low Lik eW⟩, ef, T.fr fa (by omega) (by omega) rfl rfl, R.fr fa fun k h1 h2 (z : k = 23 ∨ (28 ≤ k ∧ k ≤ 40) ∨ k = 79 ∨ (66 ≤ k ∧ k ≤ 78)) => by omega, ⟨⟨h79.2.2.choose, (oo.2 79 (by omega)).trans h79.2.2.choose_spec⟩, by rw [oo.1, h79.1]; exact Oa.2⟩, ?_⟩
    · unfold mX12_back
      rw [onC_ok D1.1, bnd_ok q3, bnd_ok (show gI 11 6 66 s3 = some (.inl 1, s3) by rw [← e6]; exact gI_ok D3.1 rfl), if_neg one_ne0, bnd_ok q4, bnd_ok q5]
      rfl
    · rw [oo.1, h79.1, e2]
      omega
    · rw [oo.1, h79.1, e2]
      omega
    · rw [el]
      refine ⟨li, o, 0, A, mc2.fr f14 (by omega) (by omega) (fun k h1 h2 (q : k = 79 ∨ (66 ≤ k ∧ k ≤ 78)) => by omega), ⟨fun j hj => absurd hj (Nat.not_lt_zero j), rfl, Or.inr ⟨a, Ka, eA, e6, ⟨Sa, ka, wa.more h1⟩, ela⟩⟩, hli, Or.inl rfl, ⟨LWi, Li5, Lik, fun _ => Lir e6⟩, st5⟩
/-- image answers nothing -/
theorem go_image (H : World s f K M LW c) (h1 : c ≤ c') (h2 : c' < 100000) : ∃ s1, mX11_image 0 s = some (.inl (), s1) ∧ ∃ s2 f K M' LW, mX12_image 66 s1 = some (.inl (), s2) ∧ Rm s s2 ∧ World s2 f K M' LW c' := by
  obtain ⟨hl2, -⟩ := H.lt
  obtain ⟨⟨⟨C, D, S, hk, hw, hc⟩, ⟨-, Sc, L, hl, Lok⟩, LR⟩, ef, T, R, O, li, o, h, A, mc, mr, ml⟩ := id H
  have hl' := hl
  unfold lOk at hl'
  have hli := Memo.lt ml
  obtain ⟨ho, hh⟩ := mc.1
  have O23 := mc.2.1
  obtain ⟨g, g1, g2, g3⟩ := mc.2.2.1
  obtain ⟨s1, a, K1, r1, D1, cp, f1, hor, m1, m2⟩ := copied_run C.2 (A 10) (fun a K0 e => ⟨by have := (mc.2.2.2.1 10 a K0 (by decide) e).1; omega, (mc.2.2.2.1 10 a K0 (by decide) e).2.1⟩)
  obtain ⟨a80, al, ali, aA⟩ := mc.copied hl2 hli O.2 (show 10 < 11 by decide) D1 f1 hor
  have O1 : hasO s1 23 6 [.ref 24, .int (Int32.ofNat o), .int (Int32.ofNat h), va_rf ((A 10).map Prod.fst)] := hasO_fr O23 f1 (fun q : a ≤ 23 ∧ 23 ≤ a + 12 => by omega)
  have p2 : pR 6 3 23 a s1 = some (.inl (), sup s1 23 (.inl (6, [.ref 24, .int (Int32.ofNat o), .int (Int32.ofNat h), va_rf (some a)]))) := pF_ok O1 (Nat.le_of_ble_eq_true rfl)
  have O2 : hasO (sup s1 23 (.inl (6, [.ref 24, .int (Int32.ofNat o), .int (Int32.ofNat h), va_rf (some a)]))) 23 6 [.ref 24, .int (Int32.ofNat o), .int (Int32.ofNat h), va_rf (some a)] := hasO_put O1.2
  have f2 : Fr (fun q => q = 23) s1 (sup s1 23 (.inl (6, [.ref 24, .int (Int32.ofNat o), .int (Int32.ofNat h), va_rf (some a)]))) := Fr.sup
  have e2 : (sup s1 23 (.inl (6, [.ref 24, .int (Int32.ofNat o), .int (Int32.ofNat h), va_rf (some a)]))).2 = s1.2 := rfl
  have D2 : Crt (sup s1 23 (.inl (6, [.ref 24, .int (Int32.ofNat o), .int (Int32.ofNat h), va_rf (some a)]))) a K1 := D1.frame (by omega)
  generalize sup s1 23 (.inl (6, [.ref 24, .int (Int32.ofNat o), .int (Int32.ofNat h), va_rf (some a)])) = s2 at p2 O2 f2 e2 D2
  -- where what changed may stand
  have np : ∀ k, k < 80 → ¬ (a ≤ k ∧ k ≤ a + 12) := fun k h1 h2 => by omega
  have fb : Fr (fun k => k = 23 ∨ (80 ≤ k ∧ ¬ (K.2.2.2 ≤ k ∧ k ≤ K.2.2.2 + 2))) s s2 := Fr.tr (f1.mono fun k (q : a ≤ k ∧ k ≤ a + 12) => Or.inr ⟨by omega, by omega⟩) (f2.mono fun k q => Or.inl q)
  have Cb : CC s2 f K := C.fr fb (by omega) fun k h1 h2 (q : k = 23 ∨ (80 ≤ k ∧ ¬ (K.2.2.2 ≤ k ∧ k ≤ K.2.2.2 + 2))) => by omega
  have Scb : ScOk K.2.2.2 s2 := Sc.fr fb fun k q (z : k = 23 ∨ (80 ≤ k ∧ ¬ (K.2.2.2 ≤ k ∧ k ≤ K.2.2.2 + 2))) => by
    unfold scr at q
    omega
  have Lb : LawC s2 K.2.2.2 LW := L.fr fb (by omega) (by omega)
  have Db : Mdl s2 66 M := D.fr fb fun k h1 h2 (q : k = 23 ∨ (80 ≤ k ∧ ¬ (K.2.2.2 ≤ k ∧ k ≤ K.2.2.2 + 2))) => by omega
  have Tb : Tp s2 M := T.fr fb (by omega) (by omega) rfl rfl
  have Rb : Rdr s2 := R.fr fb fun k h1 h2 (q : k = 23 ∨ (80 ≤ k ∧ ¬ (K.2.2.2 ≤ k ∧ k ≤ K.2.2.2 + 2))) => by omega
  have Ob : Ot s2 := O.fr fb (by omega)
  have mcb : MemC s2 K.2.2.2 K.2.2.2 o h (setA A 10 a K1) := by
    refine ⟨⟨ho, hh⟩, by rw [show setA A 10 a K1 10 = some (a, K1) from if_pos rfl]; exact O2, ⟨g, (f2.2 24 (Nat.lt_of_lt_of_le g2 f1.1) (by decide)).trans ((f1.2 24 g2 (np 24 (by decide))).trans g1), Nat.lt_of_lt_of_le g2 (Nat.le_trans f1.1 f2.1), fun i hi => ?_⟩, fun i b Kb hi e => ?_, fun i j b Kb d Kd hi hj hn eb ed => ?_⟩
    · rw [show setA A 10 a K1 i = A i from if_neg (by omega)]
      exact g3 i hi
    · have e' : (if i = 10 then some (a, K1) else A i) = some (b, Kb) := e
      by_cases q : i = 10
      · rw [if_pos q] at e'
        cases e'
        exact ⟨a80, D2, al, al⟩
      · rw [if_neg q] at e'
        obtain ⟨z1, z2, z3, z4⟩ := mc.2.2.2.1 i b Kb hi e'
        exact ⟨z1, (aA i b Kb hi q e').2.fr f2 fun k h1 h2 (q : k = 23) => by omega, z3, z3⟩
    · have eb' : (if i = 10 then some (a, K1) else A i) = some (b, Kb) := eb
      have ed' : (if j = 10 then some (a, K1) else A j) = some (d, Kd) := ed
      by_cases q : i = 10
      · rw [if_pos q] at eb'
        cases eb'
        rw [if_neg (fun z => hn (q.trans z.symm))] at ed'
        exact (aA j d Kd hj (fun z => hn (q.trans z.symm)) ed').1
      · rw [if_neg q] at eb'
        by_cases q2 : j = 10
        · rw [if_pos q2] at ed'
          cases ed'
          exact (aA i b Kb hi q eb').1.symm
        · rw [if_neg q2] at ed'
          exact mc.2.2.2.2 i j b Kb d Kd hi hj hn eb' ed'
  obtain ⟨s3, q3, D3, o3⟩ := mint_run (k := 0) (v := 0) Db rfl
  obtain ⟨s4, q4, D4, o4⟩ := m_imageL D3
  obtain ⟨s5, q5, D5, o5⟩ := mint_run (k := 6) (v := 1) D4 rfl
  have oo : Off s2 s5 66 78 := o3.trans (o4.trans o5)
  have f5 : Fr (fun k => 66 ≤ k ∧ k ≤ 78) s2 s5 := oo.fr
  have eW : ∀ i, i < 1920 → rst (M.2 2) (M.2 1) 1920 i = M.2 1 i := fun i hi => if_pos hi
  refine ⟨s2, ?_, s5, f, K, _, LW, ?_, ⟨?_, ?_⟩, ⟨⟨Cb.fr f5 (by omega) fun k h1 h2 (q : 66 ≤ k ∧ k ≤ 78) => by omega, D5, S, hk, hw.more h1, h2⟩, ⟨Cb.fr f5 (by omega) fun k h1 h2 (q : 66 ≤ k ∧ k ≤ 78) => by omega, Scb.fr f5 fun k q (z : 66 ≤ k ∧ k ≤ 78) => by unfold scr at q; omega, Lb.fr f5 (by omega) (by omega), hl, Lok⟩, LR⟩, ef, Tb.fr f5 (by omega) (by omega) rfl rfl, Rb.fr f5 fun k h1 h2 (z : 66 ≤ k ∧ k ≤ 78) => by omega, Ob.fr f5 (by omega), ?_⟩
  · unfold mX11_image
    rw [onC_ok C.1, bnd_ok (gR_ok C.1 rfl), bnd_ok (gR_ok C.1 rfl)]
    refine (bnd_ok (v := ()) (s' := s2) ?_).trans rfl
    unfold mX6_keepImage
    rw [onC_ok O23, bnd_ok (gQ_ok O23 rfl), bnd_ok r1]
    exact (bnd_ok p2).trans rfl
  · unfold mX12_image
    rw [onC_ok Db.1, bnd_ok q3, bnd_ok q4, bnd_ok q5]
    rfl
  · rw [oo.1, e2]
    omega
  · rw [oo.1, e2]
    omega
  · refine ⟨K.2.2.2, o, h, setA A 10 a K1, mcb.fr f5 (by omega) (by omega) (fun k h1 h2 (q : 66 ≤ k ∧ k ≤ 78) => by omega), ⟨fun j hj => ?_, mr.2.1, Or.inr ⟨a, K1, if_pos rfl, rfl, ⟨(S.cpy cp).congr (hk.rows cp.1) fun i hi => eW i (by omega), hk.rows cp.1, (wOk.congr (hw.rows fun t h _ => cp.1 t h) (hk.rows cp.1) fun i hi => eW i (by omega)).more h1⟩, cp.2.2.2⟩⟩, hl, Or.inl rfl, ⟨LW, Lb.fr f5 (by omega) (by omega), Lok, fun _ => LR.low Lok eW⟩, ?_⟩
    · obtain ⟨x, Kx, z1, z2, ⟨z3, z4, z5⟩, z6⟩ := mr.1 j hj
      exact ⟨x, Kx, (if_neg (by omega)).trans z1, z2, ⟨z3, z4, z5.more h1⟩, z6⟩
    · obtain ⟨g9, e9⟩ := Scb.stack hl
      exact ⟨g9, hasI_fr e9 f5 (by omega)⟩
end BI
