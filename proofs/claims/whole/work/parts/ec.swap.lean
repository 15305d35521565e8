/-! ACTS: swap -/
theorem isN_sub {x y : Int32} {B : Nat} (h : isN x B) (hB : B < 2 ^ 31) (hy : isN y x.toNatClampNeg) : ∃ a b, a ≤ b ∧ b ≤ B ∧ x = Int32.ofNat b ∧ y = Int32.ofNat a ∧ x - y = Int32.ofNat (b - a) := by
  obtain ⟨b, hb, rfl⟩ := h
  obtain ⟨a, ha, rfl⟩ := hy
  rw [ofN_cl (by omega)] at ha
  exact ⟨a, b, ha, hb, rfl, rfl, ofN_sub ha⟩
theorem lawTot_100 {LW : Option (List Ln)} (ok : LWok LW) (F : Nat → Int32) (w : Nat) : isN (lawTot LW F w) 100 := lawTot_nn ok F w
section SW
variable {s : aS} {f : Int32} {K : CK} {M : MK} {W : Nat → Int32} {LW : Option (List Ln)} {c c' : Nat} {x y z : Int32}
theorem over_nn2 {b t : Int32} (h : isN b 179820) (ht : isN t 100) : isN (b * t / 100) b.toNatClampNeg := by
  obtain ⟨n, hn, rfl⟩ := h
  obtain ⟨m, hm, rfl⟩ := ht
  have hle : n * m ≤ 179820 * 100 := Nat.mul_le_mul hn hm
  have hle2 : n * m ≤ n * 100 := Nat.mul_le_mul_left n hm
  rw [ofN_mul, show (100 : Int32) = Int32.ofNat 100 from rfl, ofN_div (by omega) (by decide), ofN_cl (by omega)]
  exact ⟨_, by omega, rfl⟩
/-- a part goes: its home and its place are none -/
def wtake (W : Nat → Int32) (g t k : Nat) : Nat → Int32 := upd (upd W (13 + 8 * g + 6) (-1)) (141 + 4 * t + k) (-1)
def wplace (W : Nat → Int32) (p t k : Nat) : Nat → Int32 := upd (upd W (141 + 4 * t + k) (Int32.ofNat p)) (13 + 8 * p + 6) (Int32.ofNat t)
/-- what homes and places must be, all else as it was -/
theorem wOk.homes {W' : Nat → Int32} (hw : wOk K W c) (hk : kOk K) (e : ∀ i, i < 771 → (i < 13 ∨ 165 ≤ i) → W' i = W i) (ep : ∀ p k, p < K.1 0 → k < 8 → k ≠ 6 → W' (13 + 8 * p + k) = W (13 + 8 * p + k)) (hh : ∀ p, p < K.1 0 → W' (13 + 8 * p + 6) = -1 ∨ ∃ t, t < K.1 1 ∧ W' (13 + 8 * p + 6) = Int32.ofNat t ∧ W' (141 + 4 * t + (W (13 + 8 * p)).toNatClampNeg) = Int32.ofNat p) (hp : ∀ t k, t < K.1 1 → k < 3 → W' (141 + 4 * t + k) = -1 ∨ ∃ p, p < K.1 0 ∧ W' (141 + 4 * t + k) = Int32.ofNat p ∧ W (13 + 8 * p) = Int32.ofNat k ∧ W' (13 + 8 * p + 6) = Int32.ofNat t) : wOk K W' c := by
  have b0 : K.1 0 ≤ 16 := hk 0 (by decide)
  have b1 : K.1 1 ≤ 6 := hk 1 (by decide)
  have b2 : K.1 2 ≤ 6 := hk 2 (by decide)
  have b3 : K.1 3 ≤ 60 := hk 3 (by decide)
  have b5 : K.1 5 ≤ 30 := hk 5 (by decide)
  obtain ⟨p, t, m, d, so, sh, gs, x3, x5, x7, x8⟩ := hw
  have e0 : ∀ i, i < K.1 0 → W' (13 + 8 * i) = W (13 + 8 * i) := fun i hi => ep i 0 hi (by decide) (by decide)
  refine ⟨fun i hi => ?_, fun i hi k hk => ?_, fun i hi => ?_, fun i hi => ?_, fun i hi => ?_, fun i hi k h1 h2 => ?_, ?_, ?_, ?_, ?_, ?_⟩
  · obtain ⟨a0, a1, a2, a3, a4, a5, -⟩ := p i hi
    refine ⟨by rw [e0 i hi]; exact a0, by rw [ep i 1 hi (by decide) (by decide)]; exact a1, by rw [ep i 2 hi (by decide) (by decide)]; exact a2, by rw [ep i 3 hi (by decide) (by decide)]; exact a3, by rw [ep i 4 hi (by decide) (by decide)]; exact a4, by rw [ep i 5 hi (by decide) (by decide)]; exact a5, ?_⟩
    rw [e0 i hi]
    exact hh i hi
  · refine (hp i k hi hk).imp id ?_
    rintro ⟨q, hq, z1, z2, z3⟩
    exact ⟨q, hq, z1, by rw [e0 q hq]; exact z2, z3⟩
  · rw [e _ (by omega) (by omega)]
    exact m i hi
  · have := d i hi
    unfold dOk at this ⊢
    rw [e (171 + 7 * i) (by omega) (by omega), e (171 + 7 * i + 1) (by omega) (by omega), e (171 + 7 * i + 2) (by omega) (by omega), e (171 + 7 * i + 3) (by omega) (by omega), e (171 + 7 * i + 4) (by omega) (by omega), e (171 + 7 * i + 5) (by omega) (by omega), e 5 (by omega) (by omega)]
    exact this
  · rw [e _ (by omega) (by omega), e _ (by omega) (by omega)]
    exact so i hi
  · rw [e _ (by omega) (by omega)]
    exact sh i hi k h1 h2
  · rw [gsum_eq _ fun p hp => ep p 3 hp (by decide) (by decide)]
    exact gs
  · rw [e 3 (by decide) (by decide)]
    exact x3
  · rw [e 5 (by decide) (by decide)]
    exact x5
  · rw [e 7 (by decide) (by decide)]
    exact x7
  · rw [e 8 (by decide) (by decide)]
    exact x8
theorem sort_le (hw : wOk K W c) {p : Nat} (hp : p < K.1 0) : ∃ n, n ≤ 2 ∧ W (13 + 8 * p) = Int32.ofNat n ∧ (W (13 + 8 * p)).toNatClampNeg = n := by
  obtain ⟨n, h1, h2⟩ := (hw.1 p hp).1
  exact ⟨n, h1, h2, by rw [h2, ofN_cl (by omega)]⟩
theorem wOk.take (hw : wOk K W c) (hk : kOk K) {g t k : Nat} (hg : g < K.1 0) (ht : t < K.1 1) (hk3 : k < 3) (hpl : W (141 + 4 * t + k) = Int32.ofNat g) : wOk K (wtake W g t k) c := by
  have b0 : K.1 0 ≤ 16 := hk 0 (by decide)
  have b1 : K.1 1 ≤ 6 := hk 1 (by decide)
  have o : ∀ i, i ≠ 141 + 4 * t + k → i ≠ 13 + 8 * g + 6 → wtake W g t k i = W i := fun i h1 h2 => (if_neg h1).trans (if_neg h2)
  have t6 : wtake W g t k (13 + 8 * g + 6) = -1 := (if_neg (by omega)).trans (if_pos rfl)
  have tp : wtake W g t k (141 + 4 * t + k) = -1 := if_pos rfl
  have sg : W (13 + 8 * g) = Int32.ofNat k ∧ W (13 + 8 * g + 6) = Int32.ofNat t := by
    rcases hw.2.1 t ht k hk3 with q | ⟨p, hp, q, q1, q2⟩
    · rw [hpl] at q
      exact absurd q (ofN_ne1 (by omega))
    · rw [hpl] at q
      have := (ofN_inj (by omega) (by omega)).mp q
      subst this
      exact ⟨q1, q2⟩
  refine hw.homes hk (fun i h1 h2 => o i (by omega) (by omega)) (fun p k' hp h8 h6 => o _ (by omega) (by omega)) (fun p hp => ?_) (fun t' k' ht' hk' => ?_)
  · by_cases e : p = g
    · rw [e]
      exact Or.inl t6
    · rw [o (13 + 8 * p + 6) (by omega) (by omega)]
      refine (hw.1 p hp).2.2.2.2.2.2.imp id ?_
      rintro ⟨t', ht', z1, z2⟩
      obtain ⟨n, hn, en, en2⟩ := sort_le hw hp
      refine ⟨t', ht', z1, ?_⟩
      rw [o _ ?_ (by omega)]
      · exact z2
      · intro q
        rw [q, hpl] at z2
        exact e ((ofN_inj (by omega) (by omega)).mp z2).symm
  · by_cases e : t' = t ∧ k' = k
    · obtain ⟨rfl, rfl⟩ := e
      exact Or.inl tp
    · rw [o (141 + 4 * t' + k') (by omega) (by omega)]
      refine (hw.2.1 t' ht' k' hk').imp id ?_
      rintro ⟨p, hp, z1, z2, z3⟩
      refine ⟨p, hp, z1, z2, ?_⟩
      rw [o _ (by omega) ?_]
      · exact z3
      · intro q
        have : p = g := by omega
        subst this
        rw [sg.1] at z2
        rw [sg.2] at z3
        exact e ⟨((ofN_inj (by omega) (by omega)).mp z3).symm, ((ofN_inj (by omega) (by omega)).mp z2).symm⟩
theorem wOk.place (hw : wOk K W c) (hk : kOk K) {p t k : Nat} (hp : p < K.1 0) (ht : t < K.1 1) (hk3 : k < 3) (hpl : W (141 + 4 * t + k) = -1) (hs : W (13 + 8 * p) = Int32.ofNat k) (h6 : W (13 + 8 * p + 6) = -1) : wOk K (wplace W p t k) c := by
  have b0 : K.1 0 ≤ 16 := hk 0 (by decide)
  have b1 : K.1 1 ≤ 6 := hk 1 (by decide)
  have o : ∀ i, i ≠ 141 + 4 * t + k → i ≠ 13 + 8 * p + 6 → wplace W p t k i = W i := fun i h1 h2 => (if_neg h2).trans (if_neg h1)
  have t6 : wplace W p t k (13 + 8 * p + 6) = Int32.ofNat t := if_pos rfl
  have tp : wplace W p t k (141 + 4 * t + k) = Int32.ofNat p := (if_neg (by omega)).trans (if_pos rfl)
  refine hw.homes hk (fun i h1 h2 => o i (by omega) (by omega)) (fun p' k' hp' h8 h6 => o _ (by omega) (by omega)) (fun p' hp' => ?_) (fun t' k' ht' hk' => ?_)
  · by_cases e : p' = p
    · rw [e]
      refine Or.inr ⟨t, ht, t6, ?_⟩
      rw [hs, ofN_cl (by omega)]
      exact tp
    · rw [o (13 + 8 * p' + 6) (by omega) (by omega)]
      refine (hw.1 p' hp').2.2.2.2.2.2.imp id ?_
      rintro ⟨t', ht', z1, z2⟩
      obtain ⟨n, hn, en, en2⟩ := sort_le hw hp'
      refine ⟨t', ht', z1, ?_⟩
      rw [o _ ?_ (by omega)]
      · exact z2
      · intro q
        rw [q, hpl] at z2
        exact absurd z2.symm (ofN_ne1 (by omega))
  · by_cases e : t' = t ∧ k' = k
    · obtain ⟨rfl, rfl⟩ := e
      exact Or.inr ⟨p, hp, tp, hs, t6⟩
    · rw [o (141 + 4 * t' + k') (by omega) (by omega)]
      refine (hw.2.1 t' ht' k' hk').imp id ?_
      rintro ⟨p', hp', z1, z2, z3⟩
      refine ⟨p', hp', z1, z2, ?_⟩
      rw [o _ (by omega) ?_]
      · exact z3
      · intro q
        have : p' = p := by omega
        subst this
        rw [h6] at z3
        exact absurd z3.symm (ofN_ne1 (by omega))
/-- what the class's swap makes of its Court -/
def kswap (K : CK) (t s g p o : Int32) : CK := kpass (kput (kput (kput K 0 g 6 (-1)) 1 t s p) 0 p 6 t) g p o
theorem c_swap (C : CC s f K) {t so g p o : Int32} : KRun (mbnd (gR 10 7 0) fun (v24 : Nat) => mbnd (mX1_take v24 g) fun _ => mbnd (gR 10 7 0) fun (v25 : Nat) => mbnd (mX1_place v25 t so p) fun _ => mbnd (gR 10 7 0) fun (v26 : Nat) => mbnd (mX1_passOn v26 g p o) fun _ => mret o) s f o (kswap K t so g p o) :=
  KRun.get (gR_ok C.1 rfl) (KRun.bnd (KRun.of C (take_run C.2)) fun s1 C1 _ => KRun.get (gR_ok C1.1 rfl) (KRun.bnd (KRun.of C1 (place_run C1.2)) fun s2 C2 _ => KRun.get (gR_ok C2.1 rfl) (KRun.bnd (KRun.of C2 (passOn_run C2.2)) fun s3 C3 _ => KRun.ret C3)))
/-- GUILT passes on, on both sides: what goes over is n -/
def wpass (W : Nat → Int32) (g p n : Nat) : Nat → Int32 := wblame (upd (upd W (13 + 8 * g + 3) (W (13 + 8 * g + 3) - Int32.ofNat n)) (13 + 8 * p + 7) (W (13 + 8 * p + 7) + Int32.ofNat n)) p (Int32.ofNat n) (-1) (Int32.ofNat g)
theorem Sm.pass (S : Sm K W) (hk : kOk K) {g p n : Nat} (hg : g < K.1 0) (hp : p < K.1 0) (hn : n < 2 ^ 31) : Sm (kpass K (Int32.ofNat g) (Int32.ofNat p) (Int32.ofNat n)) (wpass W g p n) ∧ (∀ t, t ≠ 4 → (kpass K (Int32.ofNat g) (Int32.ofNat p) (Int32.ofNat n)).1 t = K.1 t) ∧ kOk (kpass K (Int32.ofNat g) (Int32.ofNat p) (Int32.ofNat n)) ∧ (kpass K (Int32.ofNat g) (Int32.ofNat p) (Int32.ofNat n)).2.2 = K.2.2 := by
  unfold kpass wpass
  by_cases h0 : n = 0
  · subst h0
    rw [if_pos (show Int32.ofNat 0 ≤ 0 by decide), upd_self W _ (show W (13 + 8 * g + 3) - Int32.ofNat 0 = W (13 + 8 * g + 3) from Int32.sub_zero _), upd_self W _ (show W (13 + 8 * p + 7) + Int32.ofNat 0 = W (13 + 8 * p + 7) from Int32.add_zero _)]
    unfold wblame
    rw [upd_self W _ (show W (13 + 8 * p + 3) + Int32.ofNat 0 = W (13 + 8 * p + 3) from Int32.add_zero _)]
    unfold wtells
    rw [if_pos (show Int32.ofNat 0 = 0 from rfl)]
    exact ⟨S, fun _ _ => rfl, hk, rfl⟩
  · rw [if_neg (show ¬ Int32.ofNat n ≤ 0 from fun q => absurd ((ofN_le (m := 0) hn (by decide)).mp q) (by omega))]
    have e3 : kget K 0 (Int32.ofNat g) 3 = W (13 + 8 * g + 3) := S.part hk hg (c := 3) (by decide)
    rw [e3, show W (13 + 8 * g + 3) + -Int32.ofNat n = W (13 + 8 * g + 3) - Int32.ofNat n from (Int32.sub_eq_add_neg _ _).symm]
    generalize W (13 + 8 * g + 3) - Int32.ofNat n = v3
    have S1 : Sm (kput K 0 (Int32.ofNat g) 3 v3) (upd W (13 + 8 * g + 3) v3) := Sm.pput S hk (q := g) (k := 3) hg (by decide) v3
    have hk1 : kOk (kput K 0 (Int32.ofNat g) 3 v3) := hk
    have e7 : kget (kput K 0 (Int32.ofNat g) 3 v3) 0 (Int32.ofNat p) 7 = W (13 + 8 * p + 7) := (S1.part hk1 (p := p) (c := 7) hp (by decide)).trans (if_neg (by omega))
    dsimp only
    rw [e7]
    generalize W (13 + 8 * p + 7) + Int32.ofNat n = v7
    have S2 : Sm (kput (kput K 0 (Int32.ofNat g) 3 v3) 0 (Int32.ofNat p) 7 v7) (upd (upd W (13 + 8 * g + 3) v3) (13 + 8 * p + 7) v7) := Sm.pput S1 hk1 (q := p) (k := 7) hp (by decide) v7
    have hk2 : kOk (kput (kput K 0 (Int32.ofNat g) 3 v3) 0 (Int32.ofNat p) 7 v7) := hk
    have r2 : (kput (kput K 0 (Int32.ofNat g) 3 v3) 0 (Int32.ofNat p) 7 v7).1 = K.1 ∧ (kput (kput K 0 (Int32.ofNat g) 3 v3) 0 (Int32.ofNat p) 7 v7).2.2 = K.2.2 := ⟨rfl, rfl⟩
    have hp2 : p < (kput (kput K 0 (Int32.ofNat g) 3 v3) 0 (Int32.ofNat p) 7 v7).1 0 := hp
    generalize kput (kput K 0 (Int32.ofNat g) 3 v3) 0 (Int32.ofNat p) 7 v7 = K2 at S2 hk2 r2 hp2 ⊢
    have b := Sm.blame (d := -1) (f := Int32.ofNat g) S2 hk2 (q := p) hp2 hn
    rw [r2.1, r2.2] at b
    exact b
theorem wOk.pass (hw : wOk K W c) (hk : kOk K) {g p n : Nat} (hg : g < K.1 0) (hp : p < K.1 0) (hgp : g ≠ p) (hn : isN (Int32.ofNat n) (W (13 + 8 * g + 3)).toNatClampNeg) (hn31 : n < 2 ^ 31) : wOk K (wpass W g p n) c := by
  have b0 : K.1 0 ≤ 16 := hk 0 (by decide)
  have b3 : K.1 3 ≤ 60 := hk 3 (by decide)
  obtain ⟨G, hG, eG⟩ := (hw.1 g hg).2.2.2.1
  obtain ⟨P, hP, eP⟩ := (hw.1 p hp).2.2.2.1
  have hnG : n ≤ G := by
    obtain ⟨a, h1, h2⟩ := hn
    rw [eG, ofN_cl (by omega)] at h1
    have := (ofN_inj hn31 (by omega)).mp h2
    omega
  have eg : wpass W g p n (13 + 8 * g + 3) = Int32.ofNat (G - n) := by
    unfold wpass
    rw [wblame_off (by omega) (by omega) (by omega)]
    show (if 13 + 8 * g + 3 = 13 + 8 * p + 7 then _ else if 13 + 8 * g + 3 = 13 + 8 * g + 3 then _ else _) = _
    rw [if_neg (by omega), if_pos rfl, eG]
    exact ofN_sub hnG
  have ep : wpass W g p n (13 + 8 * p + 3) = Int32.ofNat (P + n) := by
    unfold wpass wblame
    rw [wtells_off _ _ _ _ _ (by omega) (by omega)]
    show (if 13 + 8 * p + 3 = 13 + 8 * p + 3 then (if 13 + 8 * p + 3 = 13 + 8 * p + 7 then _ else if 13 + 8 * p + 3 = 13 + 8 * g + 3 then _ else W (13 + 8 * p + 3)) + Int32.ofNat n else _) = _
    rw [if_pos rfl, if_neg (by omega), if_neg (by omega), eP, ofN_add]
  have o : ∀ i, i < 771 → i ≠ 10 → i ≠ 13 + 8 * p + 3 → i ≠ 13 + 8 * p + 7 → i ≠ 13 + 8 * g + 3 → wpass W g p n i = W i := fun i h1 h10 h2 h3 h4 => by
    unfold wpass
    rw [wblame_off (Or.inl h1) h10 h2]
    exact (if_neg h3).trans (if_neg h4)
  -- all GUILT stays
  have hsum : gsum (wpass W g p n) (K.1 0) = gsum W (K.1 0) := by
    have e1 : gsum (wpass W g p n) (K.1 0) = gsum (upd (upd W (13 + 8 * g + 3) (Int32.ofNat (G - n))) (13 + 8 * p + 3) (Int32.ofNat (P + n))) (K.1 0) := gsum_eq _ fun q hq => by
      show _ = (if 13 + 8 * q + 3 = 13 + 8 * p + 3 then _ else if 13 + 8 * q + 3 = 13 + 8 * g + 3 then _ else _)
      by_cases h1 : q = p
      · rw [h1, ep, if_pos rfl]
      · rw [if_neg (by omega)]
        by_cases h2 : q = g
        · rw [h2, eg, if_pos rfl]
        · rw [if_neg (by omega), o _ (by omega) (by omega) (by omega) (by omega) (by omega)]
    rw [e1]
    have h1 := gsum_upd (upd W (13 + 8 * g + 3) (Int32.ofNat (G - n))) (p := p) (Int32.ofNat (P + n)) (K.1 0) hp
    have h2 := gsum_upd W (p := g) (Int32.ofNat (G - n)) (K.1 0) hg
    rw [show upd W (13 + 8 * g + 3) (Int32.ofNat (G - n)) (13 + 8 * p + 3) = W (13 + 8 * p + 3) from if_neg (by omega), eP, ofN_cl (by omega), ofN_cl (by omega)] at h1
    rw [eG, ofN_cl (by omega), ofN_cl (by omega)] at h2
    omega
  have hPn : P + n ≤ 179820 := by
    have h1 := hw.2.2.2.2.2.2.1
    have h2 := gsum_ge (wpass W g p n) (p := p) (K.1 0) hp
    rw [hsum, ep, ofN_cl (by omega)] at h2
    omega
  refine hw.parts hk (fun i h1 h2 h9 h10 => o i h1 h10 (by omega) (by omega) (by omega)) (fun q hq => ?_) (by rw [hsum]; exact hw.2.2.2.2.2.2.1)
  obtain ⟨a0, a1, a2, a3, a4, a5, a6⟩ := hw.1 q hq
  refine ⟨o _ (by omega) (by omega) (by omega) (by omega) (by omega), o _ (by omega) (by omega) (by omega) (by omega) (by omega), by rw [o _ (by omega) (by omega) (by omega) (by omega) (by omega)]; exact a2, ?_, by rw [o _ (by omega) (by omega) (by omega) (by omega) (by omega)]; exact a4, by rw [o _ (by omega) (by omega) (by omega) (by omega) (by omega)]; exact a5, o _ (by omega) (by omega) (by omega) (by omega) (by omega)⟩
  by_cases h1 : q = p
  · rw [h1, ep]
    exact ⟨_, hPn, rfl⟩
  · by_cases h2 : q = g
    · rw [h2, eg]
      exact ⟨_, by omega, rfl⟩
    · rw [o _ (by omega) (by omega) (by omega) (by omega) (by omega)]
      exact a3
end SW
