/-! THE TAPE: feed, end -/
section FD
variable {s : aS} {f : Int32} {K : CK} {M : MK} {LW : Option (List Ln)} {c c' : Nat} {x0 x1 x2 x3 x4 : Int32}
def five (x0 x1 x2 x3 x4 : Int32) (q : Nat) : Int32 := if q = 0 then x0 else if q = 1 then x1 else if q = 2 then x2 else if q = 3 then x3 else x4
/-- what only the tape and the reference's own numbers change -/
theorem World.tape {s4 : aS} {M4 : MK} (H : World s f K M LW c) (h1 : c ≤ c') (h2 : c' < 100000) (fr : Fr (fun k => k = 1 ∨ k = 2 ∨ k = 79 ∨ (66 ≤ k ∧ k ≤ 78)) s s4) (D4 : Mdl s4 66 M4) (O4 : Ot s4) (T4 : Tp s4 M4) (i6 : M4.1 6 = M.1 6) (i7 : M4.1 7 = M.1 7) (i14 : M4.1 14 = M.1 14) (k1 : M4.2 1 = M.2 1) (k2 : M4.2 2 = M.2 2) (k5 : M4.2 5 = M.2 5) : World s4 f K M4 LW c' := by
  obtain ⟨hl2, hl⟩ := H.lt
  obtain ⟨⟨⟨C, D, S, hk, hw, hc⟩, ⟨-, Sc, L, -, Lok⟩, LR⟩, ef, T, R, O, li, o, h, A, mc, mr, ml⟩ := H
  have hl' := hl
  unfold lOk at hl'
  have C4 : CC s4 f K := C.fr fr (by omega) fun k h1 h2 (q : k = 1 ∨ k = 2 ∨ k = 79 ∨ (66 ≤ k ∧ k ≤ 78)) => by omega
  have Sc4 : ScOk K.2.2.2 s4 := Sc.fr fr fun k q (z : k = 1 ∨ k = 2 ∨ k = 79 ∨ (66 ≤ k ∧ k ≤ 78)) => by
    unfold scr at q
    omega
  exact ⟨⟨⟨C4, D4, by rw [k1]; exact S, hk, by rw [k1]; exact hw.more h1, h2⟩, ⟨C4, Sc4, L.fr fr (by omega) (by omega), hl, Lok⟩, by rw [k1]; exact LR⟩, ef.trans i14.symm, T4, R.fr fr (fun k h1 h2 (q : k = 1 ∨ k = 2 ∨ k = 79 ∨ (66 ≤ k ∧ k ≤ 78)) => by omega), O4, li, o, h, A, mc.fr fr (by omega) (by omega) (fun k h1 h2 (q : k = 1 ∨ k = 2 ∨ k = 79 ∨ (66 ≤ k ∧ k ≤ 78)) => by omega), mr.keep h1 i7 i6 k5 k2 (by rw [k1]), ml.fr fr hl ⟨by omega, by omega⟩ (Sc4.stack hl) ⟨by omega, by omega⟩ (fun _ => by omega) (fun k h1 h2 (q : k = 1 ∨ k = 2 ∨ k = 79 ∨ (66 ≤ k ∧ k ≤ 78)) => by omega) i6 k2⟩
/-- the reference's bytes -/
def ffil (V : Nat → Int32) (n : Nat) (x : Nat → Int32) (k : Nat) : Nat → Int32 := fun i => if n ≤ i ∧ i < n + k then sb (byt (x ((i - n) / 4)) (24 - 8 * ((i - n) % 4))) else V i
theorem ffil_step (V : Nat → Int32) (n : Nat) (x : Nat → Int32) (k : Nat) : upd (ffil V n x k) (n + k) (sb (byt (x (k / 4)) (24 - 8 * (k % 4)))) = ffil V n x (k + 1) := by
  funext i
  unfold upd ffil
  by_cases h : i = n + k
  · rw [if_pos h, if_pos (by omega), h, Nat.add_sub_cancel_left]
  · rw [if_neg h]
    by_cases q : n ≤ i ∧ i < n + k
    · rw [if_pos q, if_pos (by omega)]
    · rw [if_neg q, if_neg (by omega)]
theorem m_feedL (C : Mdl s 66 M) {n : Nat} (hn : n + 20 ≤ 400) (h9 : M.1 9 = Int32.ofNat n) {x : Nat → Int32} (h7 : ∀ q, q < 5 → M.2 7 q = x q) : MRun (loopM (mX12_feed_L60 66) 0) s 66 () (M.1, mrow M.2 6 (ffil (M.2 6) n x 20)) := by
  have h0 : (M.1, mrow M.2 6 (ffil (M.2 6) n x 0)) = M := by
    have : ffil (M.2 6) n x 0 = M.2 6 := funext fun i => if_neg (by omega)
    rw [this, mrow_self]
  refine MRun.loop (f := mX12_feed_L60 66) (e := ()) (M' := (M.1, mrow M.2 6 (ffil (M.2 6) n x 20))) 20 (fun k => Int32.ofNat k) (fun k => (M.1, mrow M.2 6 (ffil (M.2 6) n x k))) (fun k s' hk C' => ?_) (fun s' C' => ?_) (by rw [h0]; exact C)
  · show MRun (mX12_feed_L60 66 (Int32.ofNat k)) s' 66 (.inl (Int32.ofNat (k + 1))) _
    unfold mX12_feed_L60
    rw [if_neg (show ¬ (20 : Int32) ≤ Int32.ofNat k from nle (n := 20) hk (by decide)), ofN_succ]
    have e4 : Int32.ofNat k / 4 = Int32.ofNat (k / 4) := ofN_div (m := 4) (by omega) (by decide)
    have ld := row_ld C' (q := 7) (i := k / 4) (by decide) (by decide) rfl (show k / 4 < 5 by omega) (by decide)
    rw [show (M.1, mrow M.2 6 (ffil (M.2 6) n x k)).2 7 = M.2 7 from rfl, h7 _ (by omega)] at ld
    have em : Int32.ofNat k - Int32.ofNat (k / 4) * 4 = Int32.ofNat (k % 4) := by
      rw [← e4]
      exact ofN_mod (k := 4) (by omega) (by decide) (by decide)
    have es : (24 : Int32) - 8 * Int32.ofNat (k % 4) = Int32.ofNat (24 - 8 * (k % 4)) := by
      rw [show (8 : Int32) = Int32.ofNat 8 from rfl, ofN_mul, show (24 : Int32) = Int32.ofNat 24 from rfl, ofN_sub (by omega)]
    have g9 : gI 11 9 66 s' = some (.inl (Int32.ofNat n), s') := by
      rw [← h9]
      exact gI_ok C'.1 rfl
    refine MRun.get (gR_ok C'.1 rfl) (MRun.get g9 (MRun.get (gR_ok C'.1 rfl) ?_))
    rw [e4]
    refine MRun.get ld ?_
    rw [em, es, byte_m (x (k / 4)) (by omega), ofN_add]
    have hv : vp_nar .byte (sb (byt (x (k / 4)) (24 - 8 * (k % 4)))) = sb (byt (x (k / 4)) (24 - 8 * (k % 4))) := by
      rw [← byte_m (x (k / 4)) (k := 24 - 8 * (k % 4)) (by omega)]
      exact pk_vb _
    rw [hv]
    have st := mput_run (q := 6) (i := n + k) (v := sb (byt (x (k / 4)) (24 - 8 * (k % 4)))) C' (by decide) (by decide) (show n + k < 400 by omega) (by decide)
    rw [mput_eq (R := M.2) (f := ffil (M.2 6) n x k) (g := ffil (M.2 6) n x (k + 1)) rfl (ffil_step _ _ _ _)] at st
    exact MRun.bnd st fun s2 C2 => MRun.ret C2
  · show MRun (mX12_feed_L60 66 (Int32.ofNat 20)) s' 66 (.inr ()) _
    unfold mX12_feed_L60
    rw [if_pos (show (20 : Int32) ≤ Int32.ofNat 20 from Int32.le_refl _)]
    exact MRun.ret C'
theorem go_feed (H : World s f K M LW c) (h1 : c ≤ c') (h2 : c' < 100000) : Both s (mX11_feed 0 x0 x1 x2 x3 x4) (mX12_feed 66 x0 x1 x2 x3 x4) [] c' := by
  obtain ⟨⟨⟨C, D, S, hk, hw, hc⟩, -, -⟩, ef, ⟨n, g, hn, O1, I2, e9, hb⟩, R, O, -⟩ := id H
  have room : mX9_hasRoom 1 20 s = some (.inl (if 400 < n + 20 then 0 else 1), s) := by
    unfold mX9_hasRoom
    rw [onC_ok O1, bnd_ok (gI_ok O1 rfl), bnd_ok (gR_ok O1 rfl), bnd_ok (lenI_ok I2), show Int32.ofNat n + 20 = Int32.ofNat (n + 20) from ofN_add n 20]
    by_cases q : 400 < n + 20
    · rw [if_pos ((ofN_lt (by decide) (by omega)).mpr q), if_pos q]
      rfl
    · rw [if_neg (fun z => q ((ofN_lt (by decide) (by omega)).mp z)), if_neg q]
      rfl
  by_cases q : 400 < n + 20
  · refine Ag.goes H h1 h2 (Or.inl ⟨-1, s, ?_, ScR.rf, fun s' D' => ?_⟩)
    · unfold mX11_feed
      rw [onC_ok C.1, bnd_ok (gR_ok C.1 rfl), bnd_ok room, if_pos q, if_pos rfl]
      rfl
    · unfold mX12_feed
      refine RQ.start D' fun s1 D1 => RQ.get (w := Int32.ofNat n) (by rw [← e9]; exact gI_ok D1.1 rfl) ?_
      rw [if_neg (show ¬ Int32.ofNat n + 20 ≤ 400 from fun z => by
        rw [show Int32.ofNat n + 20 = Int32.ofNat (n + 20) from ofN_add n 20] at z
        exact absurd ((ofN_le (m := 400) (by omega) (by decide)).mp z) (by omega))]
      exact RQ.val D1 rfl rfl
  · obtain ⟨s1, a1, T1, o1⟩ := append_run (show Tpc s n g from ⟨O1, I2⟩) (by omega) x0
    obtain ⟨s2, a2, T2, o2⟩ := append_run T1 (by omega) x1
    obtain ⟨s3, a3, T3, o3⟩ := append_run T2 (by omega) x2
    obtain ⟨s4, a4, T4, o4⟩ := append_run T3 (by omega) x3
    obtain ⟨s5, a5, T5, o5⟩ := append_run T4 (by omega) x4
    have oa : Off s s5 1 2 := o1.trans (o2.trans (o3.trans (o4.trans o5)))
    have cr : ∀ s', Off s s' 1 2 → hasO s' 0 10 (tF f) := fun s' o => hasO_off C.1 o (by decide)
    have c1 := cr s1 o1
    have c2 := cr s2 (o1.trans o2)
    have c3 := cr s3 (o1.trans (o2.trans o3))
    have c4 := cr s4 (o1.trans (o2.trans (o3.trans o4)))
    have c5 := cr s5 oa
    have run : mX11_feed 0 x0 x1 x2 x3 x4 s = some (.inl (Int32.ofNat (n + 20)), s5) := by
      unfold mX11_feed
      rw [onC_ok C.1, bnd_ok (gR_ok C.1 rfl), bnd_ok room, if_neg q, if_neg one_ne0, bnd_ok (gR_ok C.1 rfl), bnd_ok a1, bnd_ok (gR_ok c1 rfl), bnd_ok a2, bnd_ok (gR_ok c2 rfl), bnd_ok a3, bnd_ok (gR_ok c3 rfl), bnd_ok a4, bnd_ok (gR_ok c4 rfl), bnd_ok a5, bnd_ok (gR_ok c5 rfl)]
      exact (bnd_ok (gI_ok T5.1 rfl)).trans rfl
    have Oa : Ot s5 := O.fr oa.fr (fun z : 1 ≤ 79 ∧ 79 ≤ 2 => by omega)
    refine Or.inl ⟨Int32.ofNat (n + 20), s5, run, Oa, fun s1' h79 => ?_⟩
    have D1 : Mdl s1' 66 M := (D.fr oa.fr fun k k1 k2 (q : 1 ≤ k ∧ k ≤ 2) => by omega).fr h79.fr fun k k1 k2 (q : k = 79) => by omega
    obtain ⟨t1, q1, D2, p1⟩ := mint_run (k := 0) (v := 0) D1 rfl
    obtain ⟨t2, q2, D3, p2⟩ := mput_run (q := 7) (i := 0) (v := x0) D2 (by decide) (by decide) (by decide) (by decide)
    obtain ⟨t3, q3, D4, p3⟩ := mput_run (q := 7) (i := 1) (v := x1) D3 (by decide) (by decide) (by decide) (by decide)
    obtain ⟨t4, q4, D5, p4⟩ := mput_run (q := 7) (i := 2) (v := x2) D4 (by decide) (by decide) (by decide) (by decide)
    obtain ⟨t5, q5, D6, p5⟩ := mput_run (q := 7) (i := 3) (v := x3) D5 (by decide) (by decide) (by decide) (by decide)
    obtain ⟨t6, q6, D7, p6⟩ := mput_run (q := 7) (i := 4) (v := x4) D6 (by decide) (by decide) (by decide) (by decide)
    have e7 : ∀ q, q < 5 → (mput (mput (mput (mput (mput (mint M 0 0) 7 0 x0) 7 1 x1) 7 2 x2) 7 3 x3) 7 4 x4).2 7 q = five x0 x1 x2 x3 x4 q := fun q hq => by
      have : q = 0 ∨ q = 1 ∨ q = 2 ∨ q = 3 ∨ q = 4 := by omega
      rcases this with rfl | rfl | rfl | rfl | rfl <;> rfl
    have r7 : ∀ q, q ≠ 7 → (mput (mput (mput (mput (mput (mint M 0 0) 7 0 x0) 7 1 x1) 7 2 x2) 7 3 x3) 7 4 x4).2 q = M.2 q := fun q hq => by
      unfold mput mrow
      dsimp only
      rw [if_neg hq, if_neg hq, if_neg hq, if_neg hq, if_neg hq]
      rfl
    have n7 : (mput (mput (mput (mput (mput (mint M 0 0) 7 0 x0) 7 1 x1) 7 2 x2) 7 3 x3) 7 4 x4).1 = (mint M 0 0).1 := rfl
    generalize mput (mput (mput (mput (mput (mint M 0 0) 7 0 x0) 7 1 x1) 7 2 x2) 7 3 x3) 7 4 x4 = M7 at D7 e7 r7 n7
    have e9' : M7.1 9 = Int32.ofNat n := by
      rw [n7]
      exact e9
    obtain ⟨t7, q7, D8, p7⟩ := m_feedL D7 (n := n) (by omega) e9' e7
    obtain ⟨t8, q8, D9, p8⟩ := mint_run (k := 9) (v := Int32.ofNat (n + 20)) D8 rfl
    have oo : Off s1' t8 66 78 := p1.trans (p2.trans (p3.trans (p4.trans (p5.trans (p6.trans (p7.trans p8))))))
    have fr : Fr (fun k => k = 1 ∨ k = 2 ∨ k = 79 ∨ (66 ≤ k ∧ k ≤ 78)) s t8 := Fr.tr (oa.fr.mono fun k (z : 1 ≤ k ∧ k ≤ 2) => by omega) (Fr.tr (h79.fr.mono fun k q => Or.inr (Or.inr (Or.inl q))) (oo.fr.mono fun k q => Or.inr (Or.inr (Or.inr q))))
    have f14 : Fr (fun k => k = 79 ∨ (66 ≤ k ∧ k ≤ 78)) s5 t8 := Fr.tr (h79.fr.mono fun k q => Or.inl q) (oo.fr.mono fun k q => Or.inr q)
    refine ⟨t8, f, K, mint (M7.1, mrow M7.2 6 (ffil (M7.2 6) n (five x0 x1 x2 x3 x4) 20)) 9 (Int32.ofNat (n + 20)), LW, ?_, oo.2 79 (by omega), ?_, ⟨?_, ?_⟩, H.tape h1 h2 fr D9 ⟨⟨h79.2.2.choose, (oo.2 79 (by omega)).trans h79.2.2.choose_spec⟩, by rw [oo.1, h79.1]; exact Oa.2⟩ ?_ ?_ ?_ ?_ ?_ ?_ ?_⟩
    · have g9 : gI 11 9 66 t7 = some (.inl (Int32.ofNat n), t7) := by
        rw [← e9']
        exact gI_ok D8.1 rfl
      unfold mX12_feed
      rw [onC_ok D1.1, bnd_ok q1, bnd_ok (show gI 11 9 66 t1 = some (.inl (Int32.ofNat n), t1) by rw [← e9]; exact gI_ok D2.1 rfl), if_pos (show Int32.ofNat n + 20 ≤ 400 from by
        rw [show Int32.ofNat n + 20 = Int32.ofNat (n + 20) from ofN_add n 20]
        exact (ofN_le (m := 400) (by omega) (by decide)).mpr (by omega)), bnd_ok (gR_ok D2.1 rfl), bnd_ok (show stI 0 73 0 x0 t1 = some (.inl (), t2) from q2), bnd_ok (gR_ok D3.1 rfl), bnd_ok (show stI 0 73 1 x1 t2 = some (.inl (), t3) from q3), bnd_ok (gR_ok D4.1 rfl), bnd_ok (show stI 0 73 2 x2 t3 = some (.inl (), t4) from q4), bnd_ok (gR_ok D5.1 rfl), bnd_ok (show stI 0 73 3 x3 t4 = some (.inl (), t5) from q5), bnd_ok (gR_ok D6.1 rfl), bnd_ok (show stI 0 73 4 x4 t5 = some (.inl (), t6) from q6), bnd_ok q7, bnd_ok g9, show Int32.ofNat n + 20 = Int32.ofNat (n + 20) from ofN_add n 20, bnd_ok q8]
      exact (bnd_ok (show gI 11 9 66 t8 = some (.inl (Int32.ofNat (n + 20)), t8) from gI_ok D9.1 rfl)).trans rfl
    · show M7.1 0 = _
      rw [n7]
      rfl
    · rw [oo.1, h79.1, oa.1]
      omega
    · rw [oo.1, h79.1, oa.1]
      omega
    · have fA := fill4_at g n x0
      have fB := fill4_at (fill4 g n x0) (n + 4) x1
      have fC := fill4_at (fill4 (fill4 g n x0) (n + 4) x1) (n + 4 + 4) x2
      have fD := fill4_at (fill4 (fill4 (fill4 g n x0) (n + 4) x1) (n + 4 + 4) x2) (n + 4 + 4 + 4) x3
      have fE := fill4_at (fill4 (fill4 (fill4 (fill4 g n x0) (n + 4) x1) (n + 4 + 4) x2) (n + 4 + 4 + 4) x3) (n + 4 + 4 + 4 + 4) x4
      refine ⟨n + 20, fill4 (fill4 (fill4 (fill4 (fill4 g n x0) (n + 4) x1) (n + 4 + 4) x2) (n + 4 + 4 + 4) x3) (n + 4 + 4 + 4 + 4) x4, by omega, hasO_fr T5.1 f14 (by omega), hasI_fr T5.2 f14 (by omega), ?_, fun k hk9 => ?_⟩
      · rfl
      · have e6 : (mint (M7.1, mrow M7.2 6 (ffil (M7.2 6) n (five x0 x1 x2 x3 x4) 20)) 9 (Int32.ofNat (n + 20))).2 6 k = ffil (M.2 6) n (five x0 x1 x2 x3 x4) 20 k := by
          show mrow M7.2 6 (ffil (M7.2 6) n (five x0 x1 x2 x3 x4) 20) 6 k = _
          rw [mrow_at, r7 6 (by decide)]
        rw [e6]
        unfold ffil
        by_cases z : k < n
        · rw [if_neg (by omega), fE.1 k (by omega), fD.1 k (by omega), fC.1 k (by omega), fB.1 k (by omega), fA.1 k (by omega)]
          exact hb k z
        · rw [if_pos (by omega)]
          refine ⟨byt (five x0 x1 x2 x3 x4 ((k - n) / 4)) (24 - 8 * ((k - n) % 4)), byt_lt _ _, ?_, rfl⟩
          have hj : (k - n) % 4 < 4 := Nat.mod_lt _ (by decide)
          have hd := Nat.div_add_mod (k - n) 4
          have hq : (k - n) / 4 = 0 ∨ (k - n) / 4 = 1 ∨ (k - n) / 4 = 2 ∨ (k - n) / 4 = 3 ∨ (k - n) / 4 = 4 := by omega
          rcases hq with e | e | e | e | e
          · rw [e, show k = n + (k - n) % 4 by omega, fE.1 _ (by omega), fD.1 _ (by omega), fC.1 _ (by omega), fB.1 _ (by omega), fA.2 _ hj, Nat.add_sub_cancel_left, Nat.mod_mod]
            rfl
          · rw [e, fE.1 _ (by omega), fD.1 _ (by omega), fC.1 _ (by omega)]
            have := fB.2 _ hj
            rw [show n + 4 + (k - n) % 4 = k by omega] at this
            exact this
          · rw [e, fE.1 _ (by omega), fD.1 _ (by omega)]
            have := fC.2 _ hj
            rw [show n + 4 + 4 + (k - n) % 4 = k by omega] at this
            exact this
          · rw [e, fE.1 _ (by omega)]
            have := fD.2 _ hj
            rw [show n + 4 + 4 + 4 + (k - n) % 4 = k by omega] at this
            exact this
          · rw [e]
            have := fE.2 _ hj
            rw [show n + 4 + 4 + 4 + 4 + (k - n) % 4 = k by omega] at this
            exact this
    · show M7.1 6 = _
      rw [n7]
      rfl
    · show M7.1 7 = _
      rw [n7]
      rfl
    · show M7.1 14 = _
      rw [n7]
      rfl
    · exact r7 1 (by decide)
    · exact r7 2 (by decide)
    · exact r7 5 (by decide)
/-- a cut on both sides -/
theorem cut_or (n : Nat) (hn : n ≤ 400) (x : Int32) : (∃ k, k ≤ n ∧ x = Int32.ofNat k) ∨ (x < 0 ∨ Int32.ofNat n < x) := by
  by_cases h1 : x < 0
  · exact Or.inr (Or.inl h1)
  by_cases h2 : Int32.ofNat n < x
  · exact Or.inr (Or.inr h2)
  have e := i32_of h1
  have hb : x.toNatClampNeg < 2 ^ 31 := by
    have := Int32.toInt_lt x
    have := i32_nn h1
    omega
  refine Or.inl ⟨x.toNatClampNeg, ?_, e⟩
  rw [e] at h2
  exact Nat.not_lt.mp fun q => h2 ((ofN_lt (by omega) hb).mpr q)
theorem go_end (H : World s f K M LW c) (h1 : c ≤ c') (h2 : c' < 100000) : Both s (mX11_end 0 x0) (mX12_end 66 x0) [] c' := by
  obtain ⟨⟨⟨C, D, S, hk, hw, hc⟩, -, -⟩, ef, ⟨n, g, hn, O1, I2, e9, hb⟩, R, O, -⟩ := id H
  rcases cut_or n hn x0 with ⟨k, hkn, rfl⟩ | hx
  · have p1 : pI 9 1 1 (Int32.ofNat k) s = some (.inl (), sup s 1 (.inl (9, [.ref 2, .int (Int32.ofNat k)]))) := pF_ok O1 (Nat.le_of_ble_eq_true rfl)
    have le : Int32.ofNat k ≤ Int32.ofNat n := (ofN_le (by omega) (by omega)).mpr hkn
    have run : mX11_end 0 (Int32.ofNat k) s = some (.inl 1, sup s 1 (.inl (9, [.ref 2, .int (Int32.ofNat k)]))) := by
      unfold mX11_end
      rw [onC_ok C.1, bnd_ok (gR_ok C.1 rfl)]
      refine (bnd_ok (v := 1) (s' := sup s 1 (.inl (9, [.ref 2, .int (Int32.ofNat k)]))) ?_).trans rfl
      unfold mX9_cut
      rw [onC_ok O1, if_neg (ofN_nn (by omega)), bnd_ok (gI_ok O1 rfl), if_pos le, bnd_ok p1]
      rfl
    have f1 : Fr (fun q => q = 1) s (sup s 1 (.inl (9, [.ref 2, .int (Int32.ofNat k)]))) := Fr.sup
    have Oa : Ot (sup s 1 (.inl (9, [.ref 2, .int (Int32.ofNat k)]))) := O.fr f1 (by decide)
    have O2 : hasO (sup s 1 (.inl (9, [.ref 2, .int (Int32.ofNat k)]))) 1 9 [.ref 2, .int (Int32.ofNat k)] := hasO_put O1.2
    have I3 : hasI (sup s 1 (.inl (9, [.ref 2, .int (Int32.ofNat k)]))) 2 0 400 g := hasI_sup I2 (by decide)
    have es : (sup s 1 (.inl (9, [.ref 2, .int (Int32.ofNat k)]))).2 = s.2 := rfl
    generalize sup s 1 (.inl (9, [.ref 2, .int (Int32.ofNat k)])) = s5 at *
    refine Or.inl ⟨1, s5, run, Oa, fun s1' h79 => ?_⟩
    have D1 : Mdl s1' 66 M := (D.fr f1 fun k k1 k2 (q : k = 1) => by omega).fr h79.fr fun k k1 k2 (q : k = 79) => by omega
    obtain ⟨t1, q1, D2, u1⟩ := mint_run (k := 0) (v := 0) D1 rfl
    obtain ⟨t2, q2, D3, u2⟩ := mint_run (k := 9) (v := Int32.ofNat k) D2 rfl
    have oo : Off s1' t2 66 78 := u1.trans u2
    have f14 : Fr (fun k => k = 79 ∨ (66 ≤ k ∧ k ≤ 78)) s5 t2 := Fr.tr (h79.fr.mono fun k q => Or.inl q) (oo.fr.mono fun k q => Or.inr q)
    refine ⟨t2, f, K, _, LW, ?_, oo.2 79 (by omega), rfl, ⟨?_, ?_⟩, H.tape h1 h2 (Fr.tr (f1.mono fun k q => Or.inl q) (f14.mono fun k q => Or.inr (Or.inr q))) D3 ⟨⟨h79.2.2.choose, (oo.2 79 (by omega)).trans h79.2.2.choose_spec⟩, by rw [oo.1, h79.1]; exact Oa.2⟩ ⟨k, g, by omega, hasO_fr O2 f14 (by omega), hasI_fr I3 f14 (by omega), rfl, fun j hj => hb j (by omega)⟩ rfl rfl rfl rfl rfl rfl⟩
    · unfold mX12_end
      rw [onC_ok D1.1, bnd_ok q1, if_neg (ofN_nn (by omega)), bnd_ok (show gI 11 9 66 t1 = some (.inl (Int32.ofNat n), t1) by rw [← e9]; exact gI_ok D2.1 rfl), if_pos le, bnd_ok q2]
      rfl
    · rw [oo.1, h79.1, es]
      omega
    · rw [oo.1, h79.1, es]
      omega
  · refine Ag.goes H h1 h2 (Or.inl ⟨0, s, ?_, ScR.rf, fun s' D' => ?_⟩)
    · unfold mX11_end
      rw [onC_ok C.1, bnd_ok (gR_ok C.1 rfl)]
      refine (bnd_ok (v := 0) (s' := s) ?_).trans rfl
      unfold mX9_cut
      rw [onC_ok O1]
      by_cases q : x0 < 0
      · rw [if_pos q]
        rfl
      · rw [if_neg q, bnd_ok (gI_ok O1 rfl), if_neg (Int32.not_le.mpr (hx.elim (fun z => absurd z q) id))]
        rfl
    · unfold mX12_end
      refine RQ.start D' fun s1 D1 => ?_
      by_cases q : x0 < 0
      · rw [if_pos q]
        exact RQ.val D1 rfl rfl
      · rw [if_neg q]
        refine RQ.get (w := Int32.ofNat n) (by rw [← e9]; exact gI_ok D1.1 rfl) ?_
        rw [if_neg (Int32.not_le.mpr (hx.elim (fun z => absurd z q) id))]
        exact RQ.val D1 rfl rfl
end FD
