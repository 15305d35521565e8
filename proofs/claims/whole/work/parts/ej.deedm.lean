/-! A DEED, the reference's loops -/
/-- what sort k's place gains, what it is blunted -/
def wBl (W : Nat → Int32) (LW : Option (List Ln)) (t : Nat) (harm hard master : Int32) (k : Nat) : Int32 := if 0 ≤ W (141 + 4 * t + k) then lawTot LW (fRow W (W (141 + 4 * t + k)).toNatClampNeg harm hard master) 3 + (if Int32.ofNat k = 1 then hard else 0) else 0
section DM
variable {s : aS} {K : CK} {M M0 : MK} {LW : Option (List Ln)} {c : Nat}
theorem gain_val (C : Mdl s 66 M) (L : LawR (M.2 1) LW) (ok : LWok LW) {p : Nat} (hp : p < 300) (h9 : M.2 1 (13 + 8 * p + 4) = 0 ∨ M.2 1 (13 + 8 * p + 4) = 1) : ∃ s' g', mX12_gain 66 (Int32.ofNat p) s = some (.inl (wGain (M.2 1) LW p (M.1 18) (M.1 19) (M.1 20)), s') ∧ Mdl s' 66 (mval M g') ∧ Off s s' 66 78 := by
  obtain ⟨s1, g1, a1, a2, a3⟩ := says_run C L ok hp (show mF9 M p 9 = 0 ∨ mF9 M p 9 = 1 from h9) (w := 0) (by decide)
  obtain ⟨s2, g2, b1, b2, b3⟩ := says_run a2 L ok hp (show mF9 (mval M g1) p 9 = 0 ∨ mF9 (mval M g1) p 9 = 1 from h9) (w := 1) (by decide)
  have e : mval (mval M g1) g2 = mval M g2 := by
    unfold mval
    dsimp only
    rw [mrow_mrow]
  rw [e] at b2
  refine ⟨s2, g2, ?_, b2, a3.trans b3⟩
  unfold mX12_gain
  rw [onC_ok C.1, bnd_ok (show gI 11 18 66 s = some (.inl (M.1 18), s) from gI_ok C.1 rfl), bnd_ok (show mX12_says 66 0 (Int32.ofNat p) s = _ from a1), bnd_ok (show mX12_says 66 1 (Int32.ofNat p) s1 = _ from b1)]
  rfl
/-- gains and blunts of the first n sorts stand in rows 9 and 10 -/
def GBs (M0 M : MK) (G B : Nat → Int32) (n : Nat) : Prop := M.1 = M0.1 ∧ (∀ q, q ≠ 8 → q ≠ 9 → q ≠ 10 → M.2 q = M0.2 q) ∧ (∀ k, k < n → M.2 9 k = G k) ∧ ∀ k, k < n → M.2 10 k = B k
theorem GBs.val {G B : Nat → Int32} {n : Nat} (H : GBs M0 M G B n) (g : Nat → Int32) : GBs M0 (mval M g) G B n := by
  obtain ⟨a, b, c, d⟩ := H
  exact ⟨a, fun q h8 h9 h10 => (mrow_ne _ _ h8).trans (b q h8 h9 h10), c, d⟩
theorem gb_step (C : Mdl s 66 M) (hk : kOk K) (hw : wOk K (M0.2 1) c) (LR : LawR (M0.2 1) LW) (ok : LWok LW) {t : Nat} (ht : t < K.1 1) {harm hard master : Int32} (e1 : M0.1 18 = harm) (e2 : M0.1 19 = hard) (e3 : M0.1 20 = master) {n : Nat} (hn : n < 3) (H : GBs M0 M (wG (M0.2 1) LW t harm hard master) (wBl (M0.2 1) LW t harm hard master) n) : ∃ s' M', mX12_deed_L109 66 (Int32.ofNat t) hard (Int32.ofNat n) s = some (.inl (.inl (Int32.ofNat (n + 1))), s') ∧ Mdl s' 66 M' ∧ Off s s' 66 78 ∧ GBs M0 M' (wG (M0.2 1) LW t harm hard master) (wBl (M0.2 1) LW t harm hard master) (n + 1) := by
  have b0 : K.1 0 ≤ 16 := hk 0 (by decide)
  have b1 : K.1 1 ≤ 6 := hk 1 (by decide)
  have hW : M.2 1 = M0.2 1 := H.2.1 1 (by decide) (by decide) (by decide)
  have n3 : ¬ (3 : Int32) ≤ Int32.ofNat n := nle (n := 3) hn (by decide)
  have it := (MD.cols C).2.2.2.2.2.2.2.2.2.2.2.2.2.1 t n (by omega) (by omega)
  -- the gain
  obtain ⟨s1, M1, g1, D1, o1, H1⟩ : ∃ s1 M1, (if 0 ≤ M.2 1 (141 + 4 * t + n) then (mbnd (mX12_gain 66 (M.2 1 (141 + 4 * t + n))) fun (v38 : Int32) => mret v38) else mret 0 : MM Int32) s = some (.inl (wG (M0.2 1) LW t harm hard master n), s1) ∧ Mdl s1 66 M1 ∧ Off s s1 66 78 ∧ GBs M0 M1 (wG (M0.2 1) LW t harm hard master) (wBl (M0.2 1) LW t harm hard master) n := by
    unfold wG
    rw [hW]
    rcases slot_or hk hw ht hn with h | ⟨p, hp, hp16, h, h9, -⟩
    · rw [h, if_neg (by decide), if_neg (by decide)]
      exact ⟨s, M, rfl, C, Off.rf, H⟩
    · rw [h, if_pos (le0_ofN (by omega)), if_pos (le0_ofN (by omega)), ofN_cl (by omega)]
      obtain ⟨s1, g', a1, a2, a3⟩ := gain_val C (by rw [hW]; exact LR) ok (p := p) (by omega) (by rw [hW]; exact h9)
      rw [hW, H.1, e1, e2, e3] at a1
      exact ⟨s1, _, (bnd_ok a1).trans rfl, a2, a3, H.val g'⟩
  obtain ⟨s2, g2, D2, o2⟩ := mput_run (q := 9) (i := n) (v := wG (M0.2 1) LW t harm hard master n) D1 (by decide) (by decide) (show n < 3 from hn) (by decide)
  have H2 : GBs M0 (mput M1 9 n (wG (M0.2 1) LW t harm hard master n)) (wG (M0.2 1) LW t harm hard master) (wBl (M0.2 1) LW t harm hard master) n ∧ (mput M1 9 n (wG (M0.2 1) LW t harm hard master n)).2 9 n = wG (M0.2 1) LW t harm hard master n := by
    obtain ⟨a, b, c, d⟩ := H1
    refine ⟨⟨a, fun q h8 h9 h10 => (mrow_ne _ _ h9).trans (b q h8 h9 h10), fun k hk => ?_, d⟩, ?_⟩
    · show mrow M1.2 9 (upd (M1.2 9) n _) 9 k = _
      rw [mrow_at]
      unfold upd
      rw [if_neg (by omega)]
      exact c k hk
    · show mrow M1.2 9 (upd (M1.2 9) n _) 9 n = _
      rw [mrow_at]
      unfold upd
      rw [if_pos rfl]
  generalize mput M1 9 n (wG (M0.2 1) LW t harm hard master n) = M2 at D2 H2
  -- the blunt
  have hW2 : M2.2 1 = M0.2 1 := H2.1.2.1 1 (by decide) (by decide) (by decide)
  obtain ⟨s3, M3, g3, D3, o3, H3⟩ : ∃ s3 M3, (if 0 ≤ M.2 1 (141 + 4 * t + n) then (mbnd (mX12_says 66 3 (M.2 1 (141 + 4 * t + n))) fun (v44 : Int32) => mbnd (if Int32.ofNat n = 1 then mret hard else mret 0 : MM Int32) fun (x46 : Int32) => mret (v44 + x46)) else mret 0 : MM Int32) s2 = some (.inl (wBl (M0.2 1) LW t harm hard master n), s3) ∧ Mdl s3 66 M3 ∧ Off s2 s3 66 78 ∧ (GBs M0 M3 (wG (M0.2 1) LW t harm hard master) (wBl (M0.2 1) LW t harm hard master) n ∧ M3.2 9 n = wG (M0.2 1) LW t harm hard master n) := by
    unfold wBl
    rw [hW]
    rcases slot_or hk hw ht hn with h | ⟨p, hp, hp16, h, h9, -⟩
    · rw [h, if_neg (by decide), if_neg (by decide)]
      exact ⟨s2, M2, rfl, D2, Off.rf, H2⟩
    · rw [h, if_pos (le0_ofN (by omega)), if_pos (le0_ofN (by omega)), ofN_cl (by omega)]
      obtain ⟨s1, g', a1, a2, a3⟩ := says_run D2 (by rw [hW2]; exact LR) ok (p := p) (by omega) (show mF9 M2 p 9 = 0 ∨ mF9 M2 p 9 = 1 from by
        show M2.2 1 (13 + 8 * p + 4) = 0 ∨ M2.2 1 (13 + 8 * p + 4) = 1
        rw [hW2]
        exact h9) (w := 3) (by decide)
      have er : mF9 M2 p = fRow (M0.2 1) p harm hard master := by
        show fRow (M2.2 1) p (M2.1 18) (M2.1 19) (M2.1 20) = _
        rw [hW2, H2.1.1, e1, e2, e3]
      rw [er] at a1
      refine ⟨s1, _, (bnd_ok (show mX12_says 66 3 (Int32.ofNat p) s2 = _ from a1)).trans ((bnd_ok (v := if Int32.ofNat n = 1 then hard else 0) (s' := s1) ?_).trans rfl), a2, a3, H2.1.val g', H2.2⟩
      split <;> rfl
  obtain ⟨s4, g4, D4, o4⟩ := mput_run (q := 10) (i := n) (v := wBl (M0.2 1) LW t harm hard master n) D3 (by decide) (by decide) (show n < 3 from hn) (by decide)
  refine ⟨s4, _, ?_, D4, o1.trans (o2.trans (o3.trans o4)), ?_⟩
  · unfold mX12_deed_L109
    rw [if_neg n3, bnd_ok it, bnd_ok (show gR 11 21 66 s = some (.inl 75, s) from gR_ok C.1 rfl), bnd_ok g1, bnd_ok (show stI 0 75 (Int32.ofNat n) _ s1 = _ from g2), bnd_ok (show gR 11 22 66 s2 = some (.inl 76, s2) from gR_ok D2.1 rfl), bnd_ok g3, bnd_ok (show stI 0 76 (Int32.ofNat n) _ s3 = _ from g4), ofN_succ]
    rfl
  · obtain ⟨⟨a, b, c, d⟩, e⟩ := H3
    refine ⟨a, fun q h8 h9 h10 => (mrow_ne _ _ h10).trans (b q h8 h9 h10), fun k hk => ?_, fun k hk => ?_⟩
    · show M3.2 9 k = _
      by_cases z : k = n
      · rw [z]
        exact e
      · exact c k (by omega)
    · show mrow M3.2 10 (upd (M3.2 10) n _) 10 k = _
      rw [mrow_at]
      unfold upd
      by_cases z : k = n
      · rw [if_pos z, z]
      · rw [if_neg z]
        exact d k (by omega)
theorem gb_run (C : Mdl s 66 M0) (hk : kOk K) (hw : wOk K (M0.2 1) c) (LR : LawR (M0.2 1) LW) (ok : LWok LW) {t : Nat} (ht : t < K.1 1) {harm hard master : Int32} (e1 : M0.1 18 = harm) (e2 : M0.1 19 = hard) (e3 : M0.1 20 = master) : ∃ s' M', loopM (mX12_deed_L109 66 (Int32.ofNat t) hard) 0 s = some (.inl (), s') ∧ Mdl s' 66 M' ∧ Off s s' 66 78 ∧ GBs M0 M' (wG (M0.2 1) LW t harm hard master) (wBl (M0.2 1) LW t harm hard master) 3 := by
  have key : ∀ m, m ≤ 3 → ∀ s M, Mdl s 66 M → GBs M0 M (wG (M0.2 1) LW t harm hard master) (wBl (M0.2 1) LW t harm hard master) (3 - m) → ∃ s' M', loopM (mX12_deed_L109 66 (Int32.ofNat t) hard) (Int32.ofNat (3 - m)) s = some (.inl (), s') ∧ Mdl s' 66 M' ∧ Off s s' 66 78 ∧ GBs M0 M' (wG (M0.2 1) LW t harm hard master) (wBl (M0.2 1) LW t harm hard master) 3 := by
    intro m
    induction m with
    | zero =>
      intro _ s M C H
      exact ⟨s, M, by rw [loopM_eq]; exact bnd_ok (show mX12_deed_L109 66 (Int32.ofNat t) hard (Int32.ofNat 3) s = some (.inl (.inr ()), s) from rfl), C, Off.rf, H⟩
    | succ m ih =>
      intro hm s M C H
      obtain ⟨s1, M1, a1, a2, a3, a4⟩ := gb_step C hk hw LR ok ht e1 e2 e3 (n := 3 - (m + 1)) (by omega) H
      rw [show 3 - (m + 1) + 1 = 3 - m by omega] at a1 a4
      obtain ⟨s2, M2, b1, b2, b3, b4⟩ := ih (by omega) s1 M1 a2 a4
      refine ⟨s2, M2, ?_, b2, a3.trans b3, b4⟩
      rw [loopM_eq]
      exact (bnd_ok a1).trans b1
  exact key 3 (Nat.le_refl 3) s M0 C ⟨rfl, fun _ _ _ _ => rfl, fun k hk => absurd hk (Nat.not_lt_zero k), fun k hk => absurd hk (Nat.not_lt_zero k)⟩
/-- the second loop: what comes to the parts -/
theorem m_com (C : Mdl s 66 M) (S : Sm K (M.2 1)) (hk : kOk K) (hw : wOk K (M.2 1) c) {t : Nat} (ht : t < K.1 1) {G B : Nat → Int32} (h9 : ∀ k, k < 3 → M.2 9 k = G k) (h10 : ∀ k, k < 3 → M.2 10 k = B k) (hG : ∀ k, k < 3 → isN (G k) 999) (hB : ∀ k, k < 3 → isN (B k) 109) (hs : gsum (M.2 1) (K.1 0) + 2997 ≤ 2997 * K.1 3) {r : Nat} (h6 : M.2 1 6 = Int32.ofNat (r + 1)) : WRun (loopM (mX12_deed_L205 66 (Int32.ofNat t)) 0) s M () (wcom (M.2 1) t (Int32.ofNat r) G B 3) := by
  have b0 : K.1 0 ≤ 16 := hk 0 (by decide)
  have b1 : K.1 1 ≤ 6 := hk 1 (by decide)
  have key : ∀ m, m ≤ 3 → ∀ s' M', Mdl s' 66 M' → M'.2 1 = wcom (M.2 1) t (Int32.ofNat r) G B (3 - m) → (∀ q, q ≠ 1 → M'.2 q = M.2 q) → WRun (loopM (mX12_deed_L205 66 (Int32.ofNat t)) (Int32.ofNat (3 - m))) s' M' () (wcom (M.2 1) t (Int32.ofNat r) G B 3) := by
    intro m
    induction m with
    | zero =>
      intro _ s' M' C' h' _
      rw [loopM_eq]
      refine WRun.bnd (x := (.inr () : Int32 ⊕ Unit)) (W1 := wcom (M.2 1) t (Int32.ofNat r) G B 3) ?_ fun s2 M2 C2 h2 _ _ => WRun.fin C2 h2
      unfold mX12_deed_L205
      rw [if_pos (show (3 : Int32) ≤ Int32.ofNat (3 - 0) from Int32.le_refl _)]
      exact WRun.fin C' h'
    | succ m ih =>
      intro hm s' M' C' h' hq
      rw [loopM_eq]
      have hn : 3 - (m + 1) < 3 := by omega
      have en : 3 - m = 3 - (m + 1) + 1 := by omega
      rw [en] at ih
      generalize 3 - (m + 1) = n at hn h' ih ⊢
      obtain ⟨-, -, -, -, w1, -, o1, -⟩ := com_same S hk hw ht (d := Int32.ofNat r) hG hB hs n (by omega)
      have ew : wcom (M.2 1) t (Int32.ofNat r) G B (n + 1) = if 0 ≤ wcom (M.2 1) t (Int32.ofNat r) G B n (141 + 4 * t + n) then upd (wblame (wcom (M.2 1) t (Int32.ofNat r) G B n) (wcom (M.2 1) t (Int32.ofNat r) G B n (141 + 4 * t + n)).toNatClampNeg (G n) (Int32.ofNat r) (-1)) (13 + 8 * (wcom (M.2 1) t (Int32.ofNat r) G B n (141 + 4 * t + n)).toNatClampNeg + 2) (imin 99 (wblame (wcom (M.2 1) t (Int32.ofNat r) G B n) (wcom (M.2 1) t (Int32.ofNat r) G B n (141 + 4 * t + n)).toNatClampNeg (G n) (Int32.ofNat r) (-1) (13 + 8 * (wcom (M.2 1) t (Int32.ofNat r) G B n (141 + 4 * t + n)).toNatClampNeg + 2) + B n)) else wcom (M.2 1) t (Int32.ofNat r) G B n := rfl
      have e6 : wcom (M.2 1) t (Int32.ofNat r) G B n 6 = Int32.ofNat (r + 1) := (o1 6 (by omega) (by decide) (fun p _ => by omega)).trans h6
      refine WRun.bnd (x := (.inl (Int32.ofNat (n + 1)) : Int32 ⊕ Unit)) (W1 := wcom (M.2 1) t (Int32.ofNat r) G B (n + 1)) ?_ fun s2 M2 C2 e2 _ q2 => ih (by omega) s2 M2 C2 e2 fun q hq1 => (q2 q hq1).trans (hq q hq1)
      rw [ew]
      rw [← h'] at w1 e6 ⊢
      unfold mX12_deed_L205
      rw [if_neg (show ¬ (3 : Int32) ≤ Int32.ofNat n from nle (n := 3) hn (by decide)), ← ofN_succ]
      refine WRun.get ((MD.cols C').2.2.2.2.2.2.2.2.2.2.2.2.2.1 t n (by omega) (by omega)) ?_
      rcases slot_or hk w1 ht hn with h | ⟨p, hp, hp16, h, -⟩
      · rw [h, if_neg (by decide), if_neg (by decide)]
        exact WRun.get (x := ()) rfl (WRun.ret C')
      · rw [h, if_pos (le0_ofN (by omega)), if_pos (le0_ofN (by omega)), ofN_cl (by omega)]
        have l9 : ∀ {s9 : aS} {M9 : MK}, Mdl s9 66 M9 → (∀ q, q ≠ 1 → M9.2 q = M'.2 q) → ldI 0 75 (Int32.ofNat n) s9 = some (.inl (G n), s9) := fun {s9 M9} D9 q9 => by
          have := row_ld D9 (q := 9) (i := n) (by decide) (by decide) rfl (show n < 3 from hn) (by decide)
          rw [q9 9 (by decide), hq 9 (by decide), h9 n hn] at this
          exact this
        have l10 : ∀ {s9 : aS} {M9 : MK}, Mdl s9 66 M9 → (∀ q, q ≠ 1 → M9.2 q = M'.2 q) → ldI 0 76 (Int32.ofNat n) s9 = some (.inl (B n), s9) := fun {s9 M9} D9 q9 => by
          have := row_ld D9 (q := 10) (i := n) (by decide) (by decide) rfl (show n < 3 from hn) (by decide)
          rw [q9 10 (by decide), hq 10 (by decide), h10 n hn] at this
          exact this
        refine WRun.bnd (x := ()) (W1 := upd (wblame (M'.2 1) p (G n) (Int32.ofNat r) (-1)) (13 + 8 * p + 2) (imin 99 (wblame (M'.2 1) p (G n) (Int32.ofNat r) (-1) (13 + 8 * p + 2) + B n))) ?_ fun s9 M9 D9 e9 _ _ => WRun.fin D9 e9
        refine WRun.get (MD.refs C').2.1 (WRun.get (part_at p 3 s') (WRun.get ((MD.wl C').1 _ (by omega)) (WRun.get (show gR 11 21 66 s' = some (.inl 75, s') from gR_ok C'.1 rfl) (WRun.get (l9 C' fun _ _ => rfl) ((WRun.put C' (by omega)).bnd fun s2 M2 D2 e2 _ q2 => ?_)))))
        refine WRun.get (show gR 11 21 66 s2 = some (.inl 75, s2) from gR_ok D2.1 rfl) (WRun.get (l9 D2 q2) (WRun.get (x := Int32.ofNat (r + 1)) ?_ ?_))
        · rw [deeds_run D2, e2]
          unfold upd
          rw [if_neg (by omega), e6]
        · rw [ofN_pred]
          refine (WRun.tells D2).bnd fun s3 M3 D3 e3 _ q3 => ?_
          have q3' : ∀ q, q ≠ 1 → M3.2 q = M'.2 q := fun q hq1 => (q3 q hq1).trans (q2 q hq1)
          refine WRun.get (show gR 11 22 66 s3 = some (.inl 76, s3) from gR_ok D3.1 rfl) (WRun.get (l10 D3 q3') ((MRun.wrun (m_wears_run D3 (by omega))).bnd fun s4 M4 D4 e4 _ _ => WRun.fin D4 ?_))
          rw [e4, e3, e2]
          rfl
  exact key 3 (Nat.le_refl 3) s M C rfl fun _ _ => rfl
end DM
