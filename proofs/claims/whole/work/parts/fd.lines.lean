/-! ALL LINES of the shop's text, both sides -/
section THG
variable {n k p : Nat} {B : Nat → Nat}
theorem thing_pos (hb : ∀ q, q < n → B q < 256) (hp : p < n) : ∃ v, v < 325 ∧ thing B n p = Int32.ofNat v := by
  unfold thing
  rw [if_pos hp]
  unfold thg
  by_cases hl : pL B p = true
  · rw [if_pos hl]
    have := wcode_lt (wd B p (wend B n p))
    exact ⟨_, by omega, rfl⟩
  · rw [if_neg hl]
    by_cases hd : pD B p = true
    · rw [if_pos hd]
      exact ⟨256, by decide, rfl⟩
    · rw [if_neg hd]
      have := hb p hp
      exact ⟨_, by omega, rfl⟩
theorem neg1_ofN {v : Nat} (h : v < 1000000) : ¬ Int32.ofNat v = -1 := fun q => by
  have := congrArg Int32.toInt q
  rw [ofN_toInt (by omega)] at this
  have e : (-1 : Int32).toInt = -1 := rfl
  omega
theorem thing_end : thing B n n = -1 := if_neg (Nat.lt_irrefl n)
theorem thing_not_end (hb : ∀ q, q < n → B q < 256) (hp : p < n) : ¬ thing B n p = -1 := by
  obtain ⟨v, hv, e⟩ := thing_pos hb hp
  rw [e]
  exact neg1_ofN (by omega)
/-- a sign that is no letter, no digit -/
theorem sign_thing (hb : ∀ q, q < n → B q < 256) {ch : Nat} (h1 : ch < 48) : thing B n p = Int32.ofNat ch ↔ p < n ∧ B p = ch := by
  unfold thing
  by_cases hp : p < n
  · have := hb p hp
    rw [if_pos hp]
    unfold thg
    by_cases hl : pL B p = true
    · have hl' := of_decide_eq_true hl
      rw [if_pos hl]
      have := wcode_lt (wd B p (wend B n p))
      rw [ofN_inj (by omega) (by omega)]
      omega
    · rw [if_neg hl]
      by_cases hd : pD B p = true
      · have hd' := of_decide_eq_true hd
        rw [if_pos hd]
        show Int32.ofNat 256 = _ ↔ _
        rw [ofN_inj (by omega) (by omega)]
        omega
      · rw [if_neg hd, ofN_inj (by omega) (by omega)]
        exact ⟨fun q => ⟨hp, q⟩, fun q => q.2⟩
  · rw [if_neg hp]
    exact ⟨fun q => absurd q.symm (neg1_ofN (by omega)), fun q => absurd q.1 hp⟩
theorem sign_thing2 (hb : ∀ q, q < n → B q < 256) {ch : Nat} (h1 : 57 < ch) (h2 : ch < 97) : thing B n p = Int32.ofNat ch ↔ p < n ∧ B p = ch := by
  unfold thing
  by_cases hp : p < n
  · have := hb p hp
    rw [if_pos hp]
    unfold thg
    by_cases hl : pL B p = true
    · have hl' := of_decide_eq_true hl
      rw [if_pos hl]
      have := wcode_lt (wd B p (wend B n p))
      rw [ofN_inj (by omega) (by omega)]
      omega
    · rw [if_neg hl]
      by_cases hd : pD B p = true
      · have hd' := of_decide_eq_true hd
        rw [if_pos hd]
        show Int32.ofNat 256 = _ ↔ _
        rw [ofN_inj (by omega) (by omega)]
        omega
      · rw [if_neg hd, ofN_inj (by omega) (by omega)]
        exact ⟨fun q => ⟨hp, q⟩, fun q => q.2⟩
  · rw [if_neg hp]
    exact ⟨fun q => absurd q.symm (neg1_ofN (by omega)), fun q => absurd q.1 hp⟩
theorem sign_next {ch : Nat} (hlt : tb B n k < n) (hB : B (tb B n k) = ch) (h : ch < 48 ∨ (57 < ch ∧ ch < 97)) : nxt B n (tb B n k + 1) = tb B n (k + 1) := by
  show _ = (if tb B n k < n then nxt B n (tend B n (tb B n k)) else n)
  rw [if_pos hlt]
  unfold tend
  rw [if_neg (fun q => by have := of_decide_eq_true q; omega), if_neg (fun q => by have := of_decide_eq_true q; omega)]
end THG
def AllR (mc : MM Int32) (sc : aS) (K : CK) (mr : MM Int32) (sm : aS) (M : MK) (W : Nat → Int32) (n c : Nat) : Prop :=
  (∃ z x' F' K' W' i', SC mc sc 0 x' F' K' ∧ x' 11 = Int32.ofNat z ∧ z ≤ n ∧ MRun mr sm 66 (-1) (mcur (mw M W') i' z) ∧ wkp W W') ∨
  (∃ x' F' K' W' i' b' m, SC mc sc 1 x' F' K' ∧ x' 11 = -1 ∧ MRun mr sm 66 (Int32.ofNat m) (mcur (mw M W') i' b') ∧ m ≤ 14 ∧ Hld K' W' c ∧ K'.2.2.2 = K.2.2.2 ∧ wkp W W')
theorem AllR.step {mc mc' mr mr' : MM Int32} {sc s1 sm s2 : aS} {K K1 : CK} {M : MK} {W W1 : Nat → Int32} {n c : Nat} (e1 : mc sc = mc' s1) (o1 : Off sc s1 41 58) (e2 : mr sm = mr' s2) (o2 : Off sm s2 66 (66 + 12)) (wk : wkp W W1) (hK : K1.2.2.2 = K.2.2.2) (g : AllR mc' s1 K1 mr' s2 M W1 n c) : AllR mc sc K mr sm M W n c := by
  rcases g with ⟨z, x', F', K', W', i', ⟨s3, a1, a2, a3, a4⟩, b1, b2, ⟨s4, d1, d2, d3⟩, b3⟩ | ⟨x', F', K', W', i', b', m, ⟨s3, a1, a2, a3, a4⟩, b1, ⟨s4, d1, d2, d3⟩, b3, b4, b5, b6⟩
  · exact Or.inl ⟨z, x', F', K', W', i', ⟨s3, e1.trans a1, a2, a3, o1.trans a4⟩, b1, b2, ⟨s4, e2.trans d1, d2, o2.trans d3⟩, wk.tr b3⟩
  · exact Or.inr ⟨x', F', K', W', i', b', m, ⟨s3, e1.trans a1, a2, a3, o1.trans a4⟩, b1, ⟨s4, e2.trans d1, d2, o2.trans d3⟩, b3, b4, b5.trans hK, wk.tr b6⟩
noncomputable def lK (e : Unit ⊕ Unit ⊕ Unit ⊕ Unit) : MM Int32 := match e with
  | .inl _ => mret 0
  | .inr (.inl _) => mret 1
  | .inr (.inr (.inl _)) => mret 0
  | .inr (.inr (.inr _)) => mbnd (gI 7 8 54) fun (v16 : Int32) => mbnd (nox (mX10_wrongs 54 v16)) fun (v17 : Int32) => mbool v17
noncomputable def lR (e : Unit ⊕ Int32 ⊕ Unit) : MM Int32 := match e with
  | .inl _ => mret (-1)
  | .inr (.inl e) => mret (e + 1)
  | .inr (.inr _) => mret (-1)
section LLP
variable {M : MK} {n c0 c : Nat} {B : Nat → Nat} {F : Nat → Nat → Int32}
theorem lines_loop (TB : Byt M n B) : ∀ m j k i b (sc sm : aS) (x : Nat → Int32) (K : CK) (W : Nat → Int32), m + j = 14 → Tc sc n B → RdS sc x F → Ats x F n B c0 k → k ≤ c0 → Crt sc 41 K → i ≤ n → nxt B n i = tb B n k → Mdl sm 66 (mcur (mw M W) i b) → Hld K W c → x 11 = -1 → AllR (mbnd (loopM (mX10_readLiness_L30 54 14) (Int32.ofNat j)) lK) sc K (mbnd (loopM (mX12_readAll_L28 66 1) (Int32.ofNat j)) lR) sm M W n c := by
  intro m
  induction m with
  | zero =>
    intro j k i b sc sm x K W hmj T R A hkc C hi hk D H h11
    have hj : j = 14 := (Nat.zero_add j).symm.trans hmj
    subst hj
    have e1 : mX10_readLiness_L30 54 14 (Int32.ofNat 14) sc = some (.inl (.inr (.inr (.inr (.inr ())))), sc) := by
      unfold mX10_readLiness_L30
      rw [if_pos (show (14 : Int32) ≤ Int32.ofNat 14 by decide)]
      rfl
    have hp0 := tb_le B n k
    have ml := m_letters TB.mw D hi
    rw [hk] at ml
    obtain ⟨s2, f1, D2, p2⟩ := ml
    have e2 : mX12_readAll_L28 66 1 (Int32.ofNat 14) sm = some (.inl (.inr (.inl ())), s2) := by
      unfold mX12_readAll_L28
      have e3 : mX12_readLine 66 1 (Int32.ofNat 14) sm = some (.inl 0, s2) := by
        unfold mX12_readLine
        rw [onC_ok D.1, bnd_ok f1]
        rfl
      rw [bnd_ok e3]
      rfl
    have w := wrongAts R
    rw [A.2.2.2.2] at w
    obtain ⟨s3, g1, g2, g3⟩ := SC.rd C w
    refine Or.inl ⟨tb B n k, _, F, K, W, wend B n (tb B n k), ⟨s3, ?_, g2, g3⟩, rfl, hp0, ⟨s2, ?_, D2, p2⟩, wkp.rf W⟩
    · rw [bnd_ok (loop_end e1)]
      exact g1
    · rw [bnd_ok (loop_end e2)]
      rfl
  | succ m ih =>
    intro j k i b sc sm x K W hmj T R A hkc C hi hk D H h11
    have hb : ∀ q, q < n → B q < 256 := fun q hq => (T.choose_spec.2.2 q hq).1
    have hj : j < 14 := by omega
    rcases line_shop T R A C hi hk hkc TB D H hj with ⟨z, x', K', W', i', ⟨s1, e1, R1, C1, o1⟩, z11, hz, ⟨s2, f1, D1, p1⟩, wk⟩ | ⟨x', K', W', k', i', b', ⟨s1, e1, R1, C1, o1⟩, A1, hk1, x10, x11, ⟨s2, f1, D1, p1⟩, hi1, hx1, H1, hK, wk⟩
    · have e2 : mX10_readLiness_L30 54 14 (Int32.ofNat j) sc = some (.inl (.inr (.inl ())), s1) := by
        unfold mX10_readLiness_L30
        rw [if_neg (show ¬ (14 : Int32) ≤ Int32.ofNat j from nle (n := 14) hj (by decide)), bnd_ok (nox_ok e1)]
        rfl
      have f2 : mX12_readAll_L28 66 1 (Int32.ofNat j) sm = some (.inl (.inr (.inl ())), s2) := by
        unfold mX12_readAll_L28
        rw [bnd_ok f1]
        rfl
      refine Or.inl ⟨z, x', F, K', W', i', ⟨s1, ?_, R1, C1, o1⟩, z11, hz, ⟨s2, ?_, D1, p1⟩, wk⟩
      · rw [bnd_ok (loop_end e2)]
        rfl
      · rw [bnd_ok (loop_end f2)]
        rfl
    · have T1 := T.off o1 (by decide)
      obtain ⟨s3, e3, R3, o3⟩ := puts R1 (k := 10) (by decide) (by decide) (x' 10 + 1)
      have T3 := T1.off o3 (by decide)
      have C3 : Crt s3 41 K' := C1.off o3 (Or.inl (by decide))
      have A3 : Ats (xsets x' 10 (x' 10 + 1)) F n B c0 k' := A1.keep fun j h1 h2 => if_neg (by omega)
      have g7 : gI 7 7 54 s3 = some (.inl (thing B n (tb B n k')), s3) := by
        rw [← A3.2.2.2.1]
        exact rgis R3 (by decide) (by decide)
      obtain ⟨s4, f4, D4, p4⟩ := m_blanks TB.mw D1 hi1
      rw [hx1] at D4
      have hp1 := tb_le B n k'
      have g10 : gI 11 10 66 s4 = some (.inl (Int32.ofNat (tb B n k')), s4) := gI_ok D4.1 rfl
      have g11 : gI 11 11 66 s4 = some (.inl (Int32.ofNat n), s4) := by
        rw [← TB.1]
        exact gI_ok D4.1 rfl
      have hn := TB.2.1
      by_cases hend : tb B n k' < n
      · have g7n := thing_not_end hb hend
        have is := m_isAt (M := mw M W') TB.mw D4 hp1 (lo := 59) (hi' := 59) (by decide) (by decide)
        by_cases hs : B (tb B n k') = 59
        · have ht := (sign_thing2 hb (ch := 59) (by decide) (by decide)).mpr ⟨hend, hs⟩
          obtain ⟨s5, e5, R5, o5⟩ := takeYess T3 R3 A3 ht
          have e2 : mX10_readLiness_L30 54 14 (Int32.ofNat j) sc = some (.inl (.inl (Int32.ofNat (j + 1))), s5) := by
            unfold mX10_readLiness_L30
            rw [if_neg (show ¬ (14 : Int32) ≤ Int32.ofNat j from nle (n := 14) hj (by decide)), bnd_ok (nox_ok e1), if_neg (show ¬ (1 : Int32) = 0 by decide), bnd_ok (rgis R1 (k := 10) (by decide) (by decide)), bnd_ok e3, bnd_ok g7, if_neg g7n]
            refine (bnd_ok e5).trans ?_
            rw [if_neg (show ¬ (1 : Int32) = 0 by decide), ofN_succ]
            rfl
          rw [if_pos ⟨hend, by omega, by omega⟩] at is
          obtain ⟨s6, f6, D6, p6⟩ := mint_run (k := 10) (v := Int32.ofNat (tb B n k' + 1)) D4 rfl
          rw [mcur_p] at D6
          have f2 : mX12_readAll_L28 66 1 (Int32.ofNat j) sm = some (.inl (.inl (Int32.ofNat (j + 1))), s6) := by
            unfold mX12_readAll_L28
            rw [bnd_ok f1, if_neg (show ¬ (1 : Int32) = 0 by decide), bnd_ok f4, bnd_ok g10, bnd_ok g11, if_neg (fun q => by rw [ofN_inj (by omega) (by omega)] at q; omega)]
            refine (bnd_ok is).trans ?_
            rw [if_neg (show ¬ (1 : Int32) = 0 by decide), bnd_ok g10, ofN_succ, bnd_ok f6, ofN_succ]
            rfl
          have A5 := A3.next (x' := xsets x' 10 (x' 10 + 1)) hk1 (fun _ _ _ => rfl)
          have hk2 : k' < c0 := A3.more hend
          exact AllR.step (mbnd_eq (loop_go e2)) (o1.trans ((o3.wide (by decide) (by decide)).trans (o5.wide (by decide) (by decide)))) (mbnd_eq (loop_go f2)) (p1.trans (p4.trans p6)) wk hK (ih (j + 1) (k' + 1) (tb B n k' + 1) _ s5 s6 _ K' W' (by omega) (T3.off o5 (by decide)) R5 A5 hk2 (C3.off o5 (Or.inl (by decide))) hend (sign_next hend hs (by decide)) D6 H1 ((show _ = x' 11 from rfl).trans (x11.trans h11)))
        · have ht : ¬ thing B n (tb B n k') = 59 := fun q => hs ((sign_thing2 hb (ch := 59) (by decide) (by decide)).mp q).2
          obtain ⟨s5, e5, R5, o5⟩ := takeNos R3 A3 ht
          have e2 : mX10_readLiness_L30 54 14 (Int32.ofNat j) sc = some (.inl (.inr (.inr (.inr (.inl ())))), s5) := by
            unfold mX10_readLiness_L30
            rw [if_neg (show ¬ (14 : Int32) ≤ Int32.ofNat j from nle (n := 14) hj (by decide)), bnd_ok (nox_ok e1), if_neg (show ¬ (1 : Int32) = 0 by decide), bnd_ok (rgis R1 (k := 10) (by decide) (by decide)), bnd_ok e3, bnd_ok g7, if_neg g7n]
            exact (bnd_ok e5).trans rfl
          rw [if_neg (fun q => hs (by omega))] at is
          have f2 : mX12_readAll_L28 66 1 (Int32.ofNat j) sm = some (.inl (.inr (.inr (.inr ()))), s4) := by
            unfold mX12_readAll_L28
            rw [bnd_ok f1, if_neg (show ¬ (1 : Int32) = 0 by decide), bnd_ok f4, bnd_ok g10, bnd_ok g11, if_neg (fun q => by rw [ofN_inj (by omega) (by omega)] at q; omega)]
            exact (bnd_ok is).trans rfl
          refine Or.inl ⟨tb B n k', _, F, K', W', tb B n k', ⟨s5, ?_, R5, C3.off o5 (Or.inl (by decide)), o1.trans ((o3.wide (by decide) (by decide)).trans (o5.wide (by decide) (by decide)))⟩, ?_, hp1, ⟨s4, ?_, D4, p1.trans p4⟩, wk⟩
          · rw [bnd_ok (loop_end e2)]
            rfl
          · exact (if_pos rfl).trans A3.2.2.2.2
          · rw [bnd_ok (loop_end f2)]
            rfl
      · have hen : tb B n k' = n := by omega
        have e2 : mX10_readLiness_L30 54 14 (Int32.ofNat j) sc = some (.inl (.inr (.inr (.inl ()))), s3) := by
          unfold mX10_readLiness_L30
          rw [if_neg (show ¬ (14 : Int32) ≤ Int32.ofNat j from nle (n := 14) hj (by decide)), bnd_ok (nox_ok e1), if_neg (show ¬ (1 : Int32) = 0 by decide), bnd_ok (rgis R1 (k := 10) (by decide) (by decide)), bnd_ok e3, bnd_ok g7, if_pos (by rw [hen]; exact thing_end)]
          rfl
        have f2 : mX12_readAll_L28 66 1 (Int32.ofNat j) sm = some (.inl (.inr (.inr (.inl (Int32.ofNat j)))), s4) := by
          unfold mX12_readAll_L28
          rw [bnd_ok f1, if_neg (show ¬ (1 : Int32) = 0 by decide), bnd_ok f4, bnd_ok g10, bnd_ok g11, if_pos (by rw [hen])]
          rfl
        refine Or.inr ⟨_, F, K', W', tb B n k', tb B n k', j + 1, ⟨s3, ?_, R3, C3, o1.trans (o3.wide (by decide) (by decide))⟩, (show _ = x' 11 from rfl).trans (x11.trans h11), ⟨s4, ?_, D4, p1.trans p4⟩, by omega, H1, hK, wk⟩
        · rw [bnd_ok (loop_end e2)]
          rfl
        · rw [bnd_ok (loop_end f2)]
          show some (Sum.inl (Int32.ofNat j + 1), s4) = _
          rw [ofN_succ]
end LLP
