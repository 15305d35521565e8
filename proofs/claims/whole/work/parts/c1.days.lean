/-! CELL: the days of an order, on both sides -/
section DY
variable {s : aS} {F : Nat → Int32} {l : List Nat} {M : MK} {K : CK} {W : Nat → Int32} {c : Nat} {y : Int32}
theorem sen_le (hw : wOk K W c) {t : Nat} (ht : t < K.1 1) : sen W t ≤ 53946 ∧ (wans W t + 10 - 1) / 10 = Int32.ofNat (sen W t) := by
  obtain ⟨n, h, e⟩ := wans_nn hw ht
  unfold sen
  rw [e, ofN_cl (by omega)]
  refine ⟨by omega, ?_⟩
  have h9 : Int32.ofNat n + 10 - 1 = Int32.ofNat (n + 9) := by
    rw [show (10 : Int32) = Int32.ofNat 10 from rfl, ofN_add, show n + 10 = n + 9 + 1 from rfl, ← ofN_succ]
    grind
  rw [h9]
  exact ofN_div (m := 10) (by omega) (by decide)
theorem svN_le (W : Nat → Int32) (l : List Nat) (h : ∀ i, i < l.length → sen W (gt l i) ≤ 53946) : ∀ i, i ≤ l.length → svN W l i ≤ 60000 * i
  | 0, _ => Nat.le_refl 0
  | i + 1, hi => by
    have ih := svN_le W l h i (by omega)
    have g := sv_ge (ndB W (gt l i)) (sen W (gt l i) + 32) (svN W l i) (sen W (gt l i))
    have := h i (by omega)
    show sv (ndB W (gt l i)) (sen W (gt l i) + 32) (svN W l i) (sen W (gt l i)) ≤ _
    omega
theorem m_need (C : Mdl s 66 M) {t d : Nat} (ht : t < 600) (hd : d < 2 ^ 31) : mX12_isNeeded 66 (Int32.ofNat t) (Int32.ofNat d) s = some (.inl (if ndB (M.2 1) t d = true then 1 else 0), s) := by
  unfold mX12_isNeeded
  rw [onC_ok C.1]
  by_cases h : 32 ≤ d
  · rw [if_pos (show (32 : Int32) ≤ Int32.ofNat d from (ofN_le (n := 32) (by decide) hd).mpr h), ndB_32 _ _ _ h]
    rfl
  · rw [if_neg (show ¬ (32 : Int32) ≤ Int32.ofNat d from nle (n := 32) (by omega) (by decide)), bnd_ok ((MD.cols C).2.2.2.2.2.2.2.2.2.2.2.2.1 t ht), bnd_ok (has_app _ _ s)]
    have e : ndB (M.2 1) t d = bt (M.2 1 (141 + 4 * t + 3)) d := by
      unfold ndB
      rw [decide_eq_true (by omega)]
      rfl
    rw [e]
    simp only [has_bt (M.2 1 (141 + 4 * t + 3)) (show d < 32 by omega)]
    by_cases q : bt (M.2 1 (141 + 4 * t + 3)) d = true
    · rw [if_pos q, if_neg one_ne0]
      rfl
    · rw [if_neg q, if_pos rfl]
      rfl
theorem m_sv (C : Mdl s 66 M) (hF : OrdF (M.2 11) l) (v : Lv l) (h6 : l.length ≤ 6) {i : Nat} (hi : i < l.length) {x : Int32} : ∀ F d n, n + (32 - d) ≤ F → d + F < 1000000 → loopM (mX12_serves_L21 66 (x, Int32.ofNat i)) (Int32.ofNat d, Int32.ofNat n) s = some (.inl (Int32.ofNat (sv (ndB (M.2 1) (gt l i)) F d n)), s)
  | F, d, 0, h, hb => by
    have e : sv (ndB (M.2 1) (gt l i)) F d 0 = d := by cases F <;> rfl
    rw [loopM_eq, e]
    refine (bnd_ok (v := .inr (Int32.ofNat d)) (s' := s) ?_).trans rfl
    unfold mX12_serves_L21
    dsimp only
    rw [if_pos (show Int32.ofNat 0 ≤ 0 from Int32.le_refl _)]
    rfl
  | 0, d, n + 1, h, hb => absurd h (by omega)
  | F + 1, d, n + 1, h, hb => by
    have hg := v i hi
    have g0 : gR 11 25 66 s = some (.inl 77, s) := gR_ok C.1 rfl
    have l1 : ldI 0 77 (Int32.ofNat i) s = some (.inl (Int32.ofNat (gt l i)), s) := by
      rw [← hF i hi]
      have := ldI_ok (i := Int32.ofNat i) (C.2 11 (by decide) (by decide)) (ofN_nn (by omega)) (by rw [ofN_cl (by omega)]; show i < 6; omega)
      rwa [ofN_cl (by omega)] at this
    have e : sv (ndB (M.2 1) (gt l i)) (F + 1) d (n + 1) = sv (ndB (M.2 1) (gt l i)) F (d + 1) (if ndB (M.2 1) (gt l i) d = true then n + 1 else n) := by
      show (if n + 1 = 0 then d else _) = _
      rw [if_neg (Nat.succ_ne_zero n)]
      rfl
    have h0 : ¬ Int32.ofNat (n + 1) ≤ 0 := fun z => absurd ((ofN_le (m := 0) (by omega) (by decide)).mp z) (by omega)
    rw [loopM_eq, e]
    by_cases q : ndB (M.2 1) (gt l i) d = true
    · rw [if_pos q]
      have hd : d < 32 := by
        rcases Nat.lt_or_ge d 32 with z | z
        · exact z
        · rw [ndB_32 _ _ _ z] at q
          nomatch q
      refine (bnd_ok (v := (.inl (Int32.ofNat (d + 1), Int32.ofNat (n + 1)) : (Int32 × Int32) ⊕ Int32)) (s' := s) ?_).trans (m_sv C hF v h6 hi F (d + 1) (n + 1) (by omega) (by omega))
      unfold mX12_serves_L21
      dsimp only
      rw [if_neg h0, bnd_ok g0, bnd_ok l1, bnd_ok (m_need C (by omega) (by omega)), if_pos q, if_neg one_ne0, mret_mbnd, mret_mbnd, ofN_succ, show Int32.ofNat (n + 1) - 0 = Int32.ofNat (n + 1) by grind]
      rfl
    · rw [if_neg q]
      refine (bnd_ok (v := (.inl (Int32.ofNat (d + 1), Int32.ofNat n) : (Int32 × Int32) ⊕ Int32)) (s' := s) ?_).trans (m_sv C hF v h6 hi F (d + 1) n (by omega) (by omega))
      unfold mX12_serves_L21
      dsimp only
      rw [if_neg h0, bnd_ok g0, bnd_ok l1, bnd_ok (m_need C (by omega) (by omega)), if_neg q, if_pos rfl, mret_mbnd, mret_mbnd, ofN_succ, show Int32.ofNat (n + 1) - 1 = Int32.ofNat n by rw [← ofN_succ]; grind]
      rfl
  termination_by F => F
theorem m_serves (hk : kOk K) (hw : wOk K (M.2 1) c) (C : Mdl s 66 M) (hF : OrdF (M.2 11) l) (hl : ∀ i, i < l.length → gt l i < K.1 1) (h6 : l.length ≤ 6) : mX12_serves 66 (Int32.ofNat l.length) s = some (.inl (Int32.ofNat (svN (M.2 1) l l.length)), s) := by
  have hb1 : K.1 1 ≤ 6 := hk 1 (by decide)
  have v : Lv l := fun i hi => Nat.lt_of_lt_of_le (hl i hi) hb1
  have hsn : ∀ i, i < l.length → sen (M.2 1) (gt l i) ≤ 53946 := fun i hi => (sen_le hw (hl i hi)).1
  have key : loopM (mX12_serves_L4 66 (Int32.ofNat l.length)) (Int32.ofNat (svN (M.2 1) l 0), Int32.ofNat 0) s = some (.inl (Int32.ofNat (svN (M.2 1) l l.length)), s) := by
    refine loop_steps l.length (fun j => (Int32.ofNat (svN (M.2 1) l j), Int32.ofNat j)) (fun _ => s) (fun j hj => ?_) ?_
    · show mX12_serves_L4 66 (Int32.ofNat l.length) (Int32.ofNat (svN (M.2 1) l j), Int32.ofNat j) s = some (.inl (.inl (Int32.ofNat (svN (M.2 1) l (j + 1)), Int32.ofNat (j + 1))), s)
      have g0 : gR 11 25 66 s = some (.inl 77, s) := gR_ok C.1 rfl
      have l1 : ldI 0 77 (Int32.ofNat j) s = some (.inl (Int32.ofNat (gt l j)), s) := by
        rw [← hF j hj]
        have := ldI_ok (i := Int32.ofNat j) (C.2 11 (by decide) (by decide)) (ofN_nn (by omega)) (by rw [ofN_cl (by omega)]; show j < 6; omega)
        rwa [ofN_cl (by omega)] at this
      have hg := hl j hj
      have sn : mX12_sentence 66 (Int32.ofNat (gt l j)) s = some (.inl (Int32.ofNat (sen (M.2 1) (gt l j))), s) := by
        unfold mX12_sentence
        rw [onC_ok C.1, bnd_ok (m_answered_run C (by omega) ((hw.2.1 _ hg).ok hk)), (sen_le hw hg).2]
        rfl
      have b1 := svN_le (M.2 1) l hsn j (by omega)
      have b2 := hsn j hj
      unfold mX12_serves_L4
      dsimp only
      rw [if_neg (nle hj (by omega)), bnd_ok g0, bnd_ok l1, bnd_ok sn, bnd_ok (m_sv C hF v h6 hj (sen (M.2 1) (gt l j) + 32) (svN (M.2 1) l j) (sen (M.2 1) (gt l j)) (by omega) (by omega)), ofN_succ]
      rfl
    · show mX12_serves_L4 66 (Int32.ofNat l.length) (Int32.ofNat (svN (M.2 1) l l.length), Int32.ofNat l.length) s = _
      unfold mX12_serves_L4
      dsimp only
      rw [if_pos (Int32.le_refl _)]
      rfl
  unfold mX12_serves
  rw [onC_ok C.1]
  exact (bnd_ok key).trans rfl
theorem c_dv {x : Int32} {p : Nat → Bool} (hp : ∀ d, p d = (decide (d < 32) && bt x d)) (s : aS) : ∀ F d n, n + (32 - d) ≤ F → d + F < 1000000 → loopM (mX0_lasts_L69 x) (Int32.ofNat d, Int32.ofNat n) s = some (.inl (Int32.ofNat (dv p F d n)), s)
  | F, d, 0, h, hb => by
    have e : dv p F d 0 = d := by cases F <;> rfl
    rw [loopM_eq, e]
    refine (bnd_ok (v := .inr (Int32.ofNat d)) (s' := s) ?_).trans rfl
    unfold mX0_lasts_L69
    dsimp only
    rw [if_pos (show Int32.ofNat 0 ≤ 0 from Int32.le_refl _)]
    rfl
  | 0, d, n + 1, h, hb => absurd h (by omega)
  | F + 1, d, n + 1, h, hb => by
    have e : dv p (F + 1) d (n + 1) = if 64 < d then d else dv p F (d + 1) (if p d = true then n + 1 else n) := by
      show (if n + 1 = 0 then d else _) = _
      rw [if_neg (Nat.succ_ne_zero n)]
      rfl
    have h0 : ¬ Int32.ofNat (n + 1) ≤ 0 := fun z => absurd ((ofN_le (m := 0) (by omega) (by decide)).mp z) (by omega)
    rw [loopM_eq, e]
    by_cases q6 : 64 < d
    · rw [if_pos q6]
      refine (bnd_ok (v := .inr (Int32.ofNat d)) (s' := s) ?_).trans rfl
      unfold mX0_lasts_L69
      dsimp only
      rw [if_neg h0, if_pos (show (64 : Int32) < Int32.ofNat d from (ofN_lt (n := 64) (by decide) (by omega)).mpr q6)]
      rfl
    rw [if_neg q6]
    have n6 : ¬ (64 : Int32) < Int32.ofNat d := fun z => q6 ((ofN_lt (n := 64) (by decide) (by omega)).mp z)
    have body : mX0_lasts_L69 x (Int32.ofNat d, Int32.ofNat (n + 1)) s = some (.inl (.inl (Int32.ofNat (d + 1), Int32.ofNat (if p d = true then n + 1 else n))), s) := by
      unfold mX0_lasts_L69
      dsimp only
      rw [if_neg h0, if_neg n6, hp d]
      by_cases q : 32 ≤ d
      · rw [if_pos (show (32 : Int32) ≤ Int32.ofNat d from (ofN_le (n := 32) (by decide) (by omega)).mpr q), decide_eq_false (by omega), mret_mbnd, mret_mbnd, ofN_succ, show Int32.ofNat (n + 1) - 1 = Int32.ofNat n by rw [← ofN_succ]; grind]
        rfl
      · rw [if_neg (show ¬ (32 : Int32) ≤ Int32.ofNat d from nle (n := 32) (by omega) (by decide)), decide_eq_true (by omega), Bool.true_and]
        by_cases z : bt x d = true
        · rw [if_pos z, if_neg (by rw [iushr_bt x (by omega)]; exact fun w => w z), mret_mbnd, mret_mbnd, ofN_succ, show Int32.ofNat (n + 1) - 0 = Int32.ofNat (n + 1) by grind]
          rfl
        · rw [if_neg z, if_pos (by rw [iushr_bt x (by omega)]; exact z), mret_mbnd, mret_mbnd, ofN_succ, show Int32.ofNat (n + 1) - 1 = Int32.ofNat n by rw [← ofN_succ]; grind]
          rfl
    refine (bnd_ok body).trans ?_
    refine c_dv hp s F (d + 1) _ ?_ (by omega)
    by_cases z : p d = true
    · rw [if_pos z]
      have hd : d < 32 := by
        rcases Nat.lt_or_ge d 32 with w | w
        · exact w
        · rw [hp d, decide_eq_false (by omega)] at z
          nomatch z
      omega
    · rw [if_neg z]
      omega
  termination_by F => F
theorem c_lasts (hk : kOk K) (hw : wOk K W c) (O : hasO s 18 0 (oc (Int32.ofNat l.length) y)) (R : hasI s 19 0 6 F) (hF : OrdF F l) (hl : ∀ i, i < l.length → gt l i < K.1 1) (h6 : l.length ≤ 6) {G H : Nat → Int32} (R1 : hasI s 21 0 6 G) (R2 : hasI s 22 0 6 H) (hG : ∀ t, t < K.1 1 → G t = Int32.ofNat (sen W t)) (hH : ∀ t, t < K.1 1 → H t = W (141 + 4 * t + 3)) : mX0_lasts 18 s = some (.inl (Int32.ofNat (clN W l l.length)), s) := by
  have hb1 : K.1 1 ≤ 6 := hk 1 (by decide)
  have key : loopM (mX0_lasts_L4 18) (Int32.ofNat (clN W l 0), Int32.ofNat 0) s = some (.inl (Int32.ofNat (clN W l l.length)), s) := by
    have g4 : gI 0 4 18 s = some (.inl (Int32.ofNat l.length), s) := gI_ok O rfl
    have g2 : gR 0 2 18 s = some (.inl 21, s) := gR_ok O rfl
    have g3 : gR 0 3 18 s = some (.inl 22, s) := gR_ok O rfl
    refine loop_steps l.length (fun j => (Int32.ofNat (clN W l j), Int32.ofNat j)) (fun _ => s) (fun j hj => ?_) ?_
    · show mX0_lasts_L4 18 (Int32.ofNat (clN W l j), Int32.ofNat j) s = some (.inl (.inl (Int32.ofNat (clN W l (j + 1)), Int32.ofNat (j + 1))), s)
      have hg := hl j hj
      have l1 : mX0_toolAt 18 (Int32.ofNat j) s = some (.inl (Int32.ofNat (gt l j)), s) := by
        rw [← hF j hj]
        exact c_at O R (by omega)
      have l2 : ldI 0 21 (Int32.ofNat (gt l j)) s = some (.inl (Int32.ofNat (sen W (gt l j))), s) := by
        rw [← hG _ hg]
        have := ldI_ok (i := Int32.ofNat (gt l j)) R1 (ofN_nn (by omega)) (by rw [ofN_cl (by omega)]; omega)
        rwa [ofN_cl (by omega)] at this
      have l3 : ldI 0 22 (Int32.ofNat (gt l j)) s = some (.inl (W (141 + 4 * gt l j + 3)), s) := by
        rw [← hH _ hg]
        have := ldI_ok (i := Int32.ofNat (gt l j)) R2 (ofN_nn (by omega)) (by rw [ofN_cl (by omega)]; omega)
        rwa [ofN_cl (by omega)] at this
      have b1 := (clN_svN W l j).2.2
      have b2 := (sen_le hw hg).1
      unfold mX0_lasts_L4
      dsimp only
      rw [bnd_ok g4, if_neg (nle hj (by omega)), bnd_ok l1, if_neg (ofN_nn (by omega)), if_neg (show ¬ (6 : Int32) ≤ Int32.ofNat (gt l j) from nle (n := 6) (by omega) (by decide)), mret_mbnd, if_neg one_ne0]
      simp only [if_neg one_ne0]
      rw [bnd_ok ((bnd_ok g2).trans ((bnd_ok l2).trans rfl)), bnd_ok ((bnd_ok g3).trans ((bnd_ok l3).trans rfl)), bnd_ok (c_dv (p := ndB W (gt l j)) (fun d => rfl) s (sen W (gt l j) + 32) (clN W l j) (sen W (gt l j)) (by omega) (by omega)), ofN_succ]
      rfl
    · show mX0_lasts_L4 18 (Int32.ofNat (clN W l l.length), Int32.ofNat l.length) s = _
      unfold mX0_lasts_L4
      dsimp only
      rw [bnd_ok g4, if_pos (Int32.le_refl _)]
      rfl
  unfold mX0_lasts
  rw [onC_ok O]
  exact (bnd_ok key).trans rfl
end DY
