/-! WORD: found by halving, found by counting -/
section WD
variable {s : aS} {f : Int32} {K : CK} {M : MK} {W : Nat → Int32} {LW : Option (List Ln)} {c t : Nat} {x : Int32}
abbrev noW (K : CK) (W : Nat → Int32) (LW : Option (List Ln)) (t h : Nat) : Prop := wFew K W LW (Int32.ofNat h) 0 t = 1000000
theorem nV_mono (hk : kOk K) (hw : wOk K W c) (ht : t < K.1 1) {k : Nat} (h3 : k < 3) {o : Nat} (ho : o ≤ K.1 0) {h h' : Nat} (hh : h ≤ h') (hb : h' ≤ 101) : nV W LW (Int32.ofNat h) 0 t k o ≤ nV W LW (Int32.ofNat h') 0 t k o := by
  have hb16 : K.1 0 ≤ 16 := hk 0 (by decide)
  unfold nV
  cases o with
  | zero => exact Nat.le_refl _
  | succ p =>
    show (if canB W 0 t k p = true then W (13 + 8 * p + 3) + wLau W LW (Int32.ofNat h) (vS W t k).toNatClampNeg else 1000000).toNatClampNeg ≤ (if canB W 0 t k p = true then W (13 + 8 * p + 3) + wLau W LW (Int32.ofNat h') (vS W t k).toNatClampNeg else 1000000).toNatClampNeg
    by_cases hc : canB W 0 t k p = true
    · rw [if_pos hc, if_pos hc]
      rcases slot_or hk hw ht h3 with q | ⟨q, hq, hq16, hs, -⟩
      · exact absurd hc (canB_no (Or.inl q) p)
      · rw [show vS W t k = Int32.ofNat q from hs, ofN_cl (by omega)]
        obtain ⟨m, hm, em⟩ := (hw.1 p (by omega)).2.2.2.1
        obtain ⟨n, hn, en⟩ := (hw.1 q hq).2.2.2.1
        have key : ∀ j, j ≤ 101 → W (13 + 8 * p + 3) + wLau W LW (Int32.ofNat j) q = Int32.ofNat (m + n * j / 100) := fun j hj => by
          have hnm : n * j ≤ n * 101 := Nat.mul_le_mul_left n hj
          unfold wLau
          rw [if_pos (le0_ofN (by omega)), em, en, ofN_mul, show (100 : Int32) = Int32.ofNat 100 from rfl, ofN_div (by omega) (by decide), ofN_add]
        have b1 : n * h ≤ n * 101 := Nat.mul_le_mul_left n (by omega)
        have b2 : n * h' ≤ n * 101 := Nat.mul_le_mul_left n hb
        have b3 : n * h ≤ n * h' := Nat.mul_le_mul_left n hh
        rw [key h (by omega), key h' hb, ofN_cl (by omega), ofN_cl (by omega)]
        have := Nat.div_le_div_right (c := 100) b3
        omega
    · rw [if_neg hc, if_neg hc]
      exact Nat.le_refl _
theorem EnvL.lhw (E : EnvL s f K M LW c) (ht : t < K.1 1) {h : Nat} (hb : h ≤ 101) : LHs K (M.2 1) LW c t (Int32.ofNat h) := E.lh ht (Or.inr ⟨h, hb, rfl⟩)
theorem noW_mono (E : EnvL s f K M LW c) (ht : t < K.1 1) {h h' : Nat} (hh : h ≤ h') (hb : h' ≤ 101) (hn : noW K (M.2 1) LW t h) : noW K (M.2 1) LW t h' := by
  refine few_none (E.lhw ht hb) fun x y z hf => ?_
  have H := E.lhw (h := h) ht (by omega)
  have hk := E.1.2.2.2.1
  have hw := E.1.2.2.2.2.1
  have m0 := nV_mono (LW := LW) hk hw ht (k := 0) (by decide) (o := x) hf.1 hh hb
  have m1 := nV_mono (LW := LW) hk hw ht (k := 1) (by decide) (o := y) hf.2.1 hh hb
  have m2 := nV_mono (LW := LW) hk hw ht (k := 2) (by decide) (o := z) hf.2.2.1 hh hb
  have hf2 : fe (nV (M.2 1) LW (Int32.ofNat h) 0 t) (K.1 0) (M.2 1 7).toInt x y z := ⟨hf.1, hf.2.1, hf.2.2.1, by have := hf.2.2.2; omega⟩
  have hco := co_le x y z
  have := (few_iff (gd := 0) H (m := (co x y z : Int)) (by omega)).mpr ⟨x, y, z, hf2, by rw [co_cs1]; exact Int.le_refl _⟩
  have hn' : wFew K (M.2 1) LW (Int32.ofNat h) 0 t = 1000000 := hn
  omega
theorem c_word (E : EnvL s f K M LW c) (ht : t < K.1 1) : ∀ (d a b i : Nat) (s : aS), b - a ≤ d → a ≤ b → b ≤ 101 → b - a + i ≤ 101 → (∀ h, h < a → ¬ noW K (M.2 1) LW t h) → (b ≤ 100 → noW K (M.2 1) LW t b) → CL s f K LW → ∃ r s1, loopM (mX11_word_L13 0 (Int32.ofNat t)) (Int32.ofNat a, Int32.ofNat b, Int32.ofNat i) s = some (.inl (Int32.ofNat r), s1) ∧ ScR K.2.2.2 s s1 ∧ r ≤ 101 ∧ (∀ h, h < r → ¬ noW K (M.2 1) LW t h) ∧ (r ≤ 100 → noW K (M.2 1) LW t r) := by
  intro d
  induction d with
  | zero =>
    intro a b i s hd hab hb hi h1 h2 C
    have e : a = b := by omega
    subst e
    refine ⟨a, s, ?_, ScR.rf, hb, h1, h2⟩
    rw [loopM_eq]
    refine (bnd_ok (v := .inr (Int32.ofNat a)) (s' := s) ?_).trans rfl
    unfold mX11_word_L13
    dsimp only
    by_cases q : (100 : Int32) < Int32.ofNat i
    · rw [if_pos q]
      rfl
    · rw [if_neg q, if_pos (Int32.le_refl _)]
      rfl
  | succ d ih =>
    intro a b i s hd hab hb hi h1 h2 C
    by_cases e : a = b
    · exact ih a b i s (by omega) hab hb hi h1 h2 C
    · obtain ⟨⟨-, -, S, hk, hw, hc⟩, -, -⟩ := id E
      have q1 : ¬ (100 : Int32) < Int32.ofNat i := fun z => absurd ((ofN_lt (n := 100) (by decide) (by omega)).mp z) (by omega)
      have q2 : ¬ Int32.ofNat b ≤ Int32.ofNat a := nle (by omega) (by omega)
      have em : (Int32.ofNat a + Int32.ofNat b) / 2 = Int32.ofNat ((a + b) / 2) := by
        rw [ofN_add]
        exact ofN_div (m := 2) (by omega) (by decide)
      have hm : (a + b) / 2 ≤ 101 := by omega
      obtain ⟨s2, p1, p2, p3, -⟩ := search_res (wd := Int32.ofNat ((a + b) / 2)) (gd := 0) C S hk hw ht (Or.inr (le0_ofN (by omega)))
      have C2 := C.scR p2
      have H := E.lhw (h := (a + b) / 2) ht hm
      have body : mX11_word_L13 0 (Int32.ofNat t) (Int32.ofNat a, Int32.ofNat b, Int32.ofNat i) s = some (.inl (.inl (if noW K (M.2 1) LW t ((a + b) / 2) then (Int32.ofNat a, Int32.ofNat ((a + b) / 2), Int32.ofNat (i + 1)) else (Int32.ofNat ((a + b) / 2 + 1), Int32.ofNat b, Int32.ofNat (i + 1)))), s2) := by
        unfold mX11_word_L13
        dsimp only
        rw [if_neg q1, if_neg q2, em, mret_mbnd, bnd_ok (show gR 10 4 0 s = some (.inl 8, s) from gR_ok C.1.1 rfl), bnd_ok (show gR 10 7 0 s = some (.inl 28, s) from gR_ok C.1.1 rfl), bnd_ok (show gR 10 3 0 s = some (.inl 3, s) from gR_ok C.1.1 rfl), bnd_ok p1, bnd_ok (show gR 10 4 0 s2 = some (.inl 8, s2) from gR_ok C2.1.1 rfl), bnd_ok p3]
        by_cases q : noW K (M.2 1) LW t ((a + b) / 2)
        · rw [if_pos (by rw [few_neg1 H]; exact q), if_pos q, ← ofN_succ]
          rfl
        · rw [if_neg (by rw [few_neg1 H]; exact q), if_neg q, ← ofN_succ, ← ofN_succ]
          rfl
      by_cases q : noW K (M.2 1) LW t ((a + b) / 2)
      · rw [if_pos q] at body
        obtain ⟨r, s3, r1, r2, r3⟩ := ih a ((a + b) / 2) (i + 1) s2 (by omega) (by omega) (by omega) (by omega) h1 (fun _ => q) C2
        refine ⟨r, s3, ?_, p2.tr r2, r3⟩
        rw [loopM_eq]
        exact (bnd_ok body).trans r1
      · rw [if_neg q] at body
        obtain ⟨r, s3, r1, r2, r3⟩ := ih ((a + b) / 2 + 1) b (i + 1) s2 (by omega) (by omega) hb (by omega) (fun h hh z => q (noW_mono E ht (show h ≤ (a + b) / 2 by omega) hm z)) h2 C2
        refine ⟨r, s3, ?_, p2.tr r2, r3⟩
        rw [loopM_eq]
        exact (bnd_ok body).trans r1
theorem m_word (E : EnvL s f K M LW c) (ht : t < K.1 1) {r : Nat} (hr : r ≤ 101) (hn : ∀ h, h < r → ¬ noW K (M.2 1) LW t h) (hy : r ≤ 100 → noW K (M.2 1) LW t r) : ∀ (q h : Nat) (s' : aS) (M' : MK), q + h = r → Mdl s' 66 M' → LHm (M.2 1) (Int32.ofNat h) 0 M' → ∃ s1 M1, loopM (mX12_word_L29 66 (Int32.ofNat t)) () s' = some (.inl (if r ≤ 100 then .inl () else .inr ()), s1) ∧ Mdl s1 66 M1 ∧ Off s' s1 66 78 ∧ Keep M' M1 ∧ M1.1 0 = M'.1 0 ∧ M1.1 23 = Int32.ofNat r
  | 0, h, s', M', e, C, hm => by
    have e2 : h = r := by omega
    subst e2
    have g23 : gI 11 23 66 s' = some (.inl (Int32.ofNat h), s') := by rw [← hm.2.1]; exact gI_ok C.1 rfl
    by_cases q : h ≤ 100
    · have H := E.lhw (h := h) ht (by omega)
      obtain ⟨s1, M1, a1, a2, a3, a4, a5⟩ := m_fewest H C hm
      have hF : wFew K (M.2 1) LW (Int32.ofNat h) 0 t = 1000000 := hy q
      refine ⟨s1, M1, ?_, a2, a3, a4, a5 0 (Or.inl rfl), (a5 23 (Or.inr (Or.inl rfl))).trans hm.2.1⟩
      rw [loopM_eq, if_pos q]
      refine (bnd_ok (v := .inr (.inl ())) (s' := s1) ?_).trans rfl
      unfold mX12_word_L29
      rw [bnd_ok g23, if_neg (show ¬ (100 : Int32) < Int32.ofNat h from fun z => absurd ((ofN_lt (n := 100) (by decide) (by omega)).mp z) (by omega)), bnd_ok a1, hF, if_pos (by rfl)]
      rfl
    · refine ⟨s', M', ?_, C, Off.rf, Keep.rf, rfl, hm.2.1⟩
      rw [loopM_eq, if_neg q]
      refine (bnd_ok (v := .inr (.inr ())) (s' := s') ?_).trans rfl
      unfold mX12_word_L29
      rw [bnd_ok g23, if_pos (show (100 : Int32) < Int32.ofNat h from (ofN_lt (n := 100) (by decide) (by omega)).mpr (by omega))]
      rfl
  | q + 1, h, s', M', e, C, hm => by
    have g23 : gI 11 23 66 s' = some (.inl (Int32.ofNat h), s') := by rw [← hm.2.1]; exact gI_ok C.1 rfl
    have H := E.lhw (h := h) ht (by omega)
    obtain ⟨s1, M1, a1, a2, a3, a4, a5⟩ := m_fewest H C hm
    have hF : ¬ wFew K (M.2 1) LW (Int32.ofNat h) 0 t = 1000000 := hn h (by omega)
    have hle := (few_same (gd := 0) H).2.elim (fun z => absurd z hF) id
    have e23 : M1.1 23 = Int32.ofNat h := (a5 23 (Or.inr (Or.inl rfl))).trans hm.2.1
    have g23' : gI 11 23 66 s1 = some (.inl (Int32.ofNat h), s1) := by rw [← e23]; exact gI_ok a2.1 rfl
    obtain ⟨s2, b1, b2, b3⟩ := mint_run (k := 23) (v := Int32.ofNat (h + 1)) a2 rfl
    obtain ⟨s3, M3, d1, d2, d3, d4, d5, d6⟩ := m_word E ht hr hn hy q (h + 1) s2 _ (by omega) b2 ⟨a4.1.trans hm.1, rfl, (a5 24 (Or.inr (Or.inr rfl))).trans hm.2.2⟩
    refine ⟨s3, M3, ?_, d2, a3.trans (b3.trans d3), a4.tr (Keep.tr ⟨rfl, rfl, rfl, rfl, rfl, rfl, rfl, rfl⟩ d4), d5.trans (a5 0 (Or.inl rfl)), d6⟩
    rw [loopM_eq]
    refine (bnd_ok (v := (.inl () : Unit ⊕ (Unit ⊕ Unit))) (s' := s2) ?_).trans ?_
    case refine_2 => exact d1
    unfold mX12_word_L29
    rw [bnd_ok g23, if_neg (show ¬ (100 : Int32) < Int32.ofNat h from fun z => absurd ((ofN_lt (n := 100) (by decide) (by omega)).mp z) (by omega)), bnd_ok a1, if_neg (show ¬ Int32.ofNat (wFew K (M.2 1) LW (Int32.ofNat h) 0 t) = 1000000 from fun z => hF ((ofN_inj (m := 1000000) (by omega) (by decide)).mp z)), bnd_ok g23', ofN_succ, bnd_ok b1]
    rfl
theorem ag_word (E : EnvL s f K M LW c) : Ag K.2.2.2 (mX11_word 0 x) (mX12_word 66 x) s M [(2, 1)] := by
  have E0 := E
  obtain ⟨⟨C, -, S, hk, hw, hc⟩, CLs, LR⟩ := E
  have hb1 : K.1 1 ≤ 6 := hk 1 (by decide)
  rcases rg_or (K.1 1) (by omega) x with h | ⟨t, ht, rfl⟩
  · refine Or.inr ⟨2, 1, 0, ?_, rfl, one_ne0, fun s' D' => ?_⟩
    · unfold mX11_word
      rw [onC_ok C.1, bnd_ex (need_tool_no C h)]
    · unfold mX12_word
      exact RQ.start D' fun s1 D1 => RQ.get (noTool_no D1 S.1.2.1 (by omega) h) (RQ.thr D1 1 fun _ => rfl)
  obtain ⟨r, s1, a1, a2, a3, a4, a5⟩ := c_word E0 ht 101 0 101 0 s (by decide) (by decide) (by decide) (by decide) (fun h hh => absurd hh (Nat.not_lt_zero h)) (fun q => absurd q (by decide)) CLs
  refine Or.inl ⟨if r ≤ 100 then Int32.ofNat r else -1, s1, ?_, a2, fun s' D' => ?_⟩
  · unfold mX11_word
    rw [onC_ok C.1, bnd_ok (need_tool_ok C hk ht), bnd_ok (show loopM (mX11_word_L13 0 (Int32.ofNat t)) (0, 101, 0) s = _ from a1)]
    by_cases q : r ≤ 100
    · rw [if_pos q, if_pos (show Int32.ofNat r ≤ 100 from (ofN_le (m := 100) (by omega) (by decide)).mpr q)]
      rfl
    · rw [if_neg q, if_neg (show ¬ Int32.ofNat r ≤ 100 from fun z => q ((ofN_le (m := 100) (by omega) (by decide)).mp z))]
      rfl
  · unfold mX12_word
    refine RQ.start D' fun s2 D1 => RQ.get (noTool_in D1 S.1.2.1 (by omega) ht) (RQ.get (thr_no D1 1) ?_)
    rw [if_pos rfl]
    obtain ⟨s3, M3, b1, b2, b3, b4, b5, b6, b7⟩ := asItIs_run D1
    refine RQ.step b1 b3 b4 ?_
    obtain ⟨s4, d1, d2, d3⟩ := mint_run (k := 23) (v := 0) b2 rfl
    obtain ⟨s5, M5, e1, e2, e3, e4, e5, e6⟩ := m_word E0 ht a3 a4 a5 r 0 s4 _ (by omega) d2 ⟨b4.1, rfl, b7⟩
    refine RQ.step d1 d3 ⟨rfl, rfl, rfl, rfl, rfl, rfl, rfl, rfl⟩ (RQ.step e1 e3 e4 ?_)
    by_cases q : r ≤ 100
    · rw [if_pos q, if_pos q]
      exact RQ.get (show gI 11 23 66 s5 = some (.inl (Int32.ofNat r), s5) by rw [← e6]; exact gI_ok e2.1 rfl) (RQ.val e2 rfl (e5.trans b5))
    · rw [if_neg q, if_neg q]
      exact RQ.val e2 rfl (e5.trans b5)
end WD
