/-! A DEED, the reference's side: what it brings, the row of TRUTH, what comes to the parts -/
def fill7 (F : Nat → Int32) (b : Nat) (v : Nat → Int32) : Nat → Int32 := fun i => if b ≤ i ∧ i < b + 7 then v (i - b) else F i
theorem fill7_upd (F : Nat → Int32) (b : Nat) (v : Nat → Int32) : upd (upd (upd (upd (upd (upd (upd F b (v 0)) (b + 1) (v 1)) (b + 2) (v 2)) (b + 3) (v 3)) (b + 4) (v 4)) (b + 5) (v 5)) (b + 6) (v 6) = fill7 F b v := by
  funext i
  unfold upd fill7
  by_cases h6 : i = b + 6
  · rw [if_pos h6, if_pos (by omega), show i - b = 6 by omega]
  rw [if_neg h6]
  by_cases h5 : i = b + 5
  · rw [if_pos h5, if_pos (by omega), show i - b = 5 by omega]
  rw [if_neg h5]
  by_cases h4 : i = b + 4
  · rw [if_pos h4, if_pos (by omega), show i - b = 4 by omega]
  rw [if_neg h4]
  by_cases h3 : i = b + 3
  · rw [if_pos h3, if_pos (by omega), show i - b = 3 by omega]
  rw [if_neg h3]
  by_cases h2 : i = b + 2
  · rw [if_pos h2, if_pos (by omega), show i - b = 2 by omega]
  rw [if_neg h2]
  by_cases h1 : i = b + 1
  · rw [if_pos h1, if_pos (by omega), show i - b = 1 by omega]
  rw [if_neg h1]
  by_cases h0 : i = b
  · rw [if_pos h0, if_pos (by omega), show i - b = 0 by omega]
  rw [if_neg h0, if_neg (by omega)]
/-- the world with one DEED more -/
def wtru (W : Nat → Int32) (r : Nat) (v : Nat → Int32) : Nat → Int32 := upd (fill7 W (171 + 7 * r) v) 6 (W 6 + 1)
theorem wtru_off (W : Nat → Int32) {r : Nat} (v : Nat → Int32) {i : Nat} (h6 : i ≠ 6) (h : i < 171 + 7 * r ∨ 171 + 7 * r + 7 ≤ i) : wtru W r v i = W i := by
  unfold wtru upd fill7
  rw [if_neg h6, if_neg (by omega)]
theorem wtru_at (W : Nat → Int32) {r j : Nat} (v : Nat → Int32) (hj : j < 7) : wtru W r v (171 + 7 * r + j) = v j := by
  unfold wtru upd fill7
  rw [if_neg (by omega), if_pos (by omega), Nat.add_sub_cancel_left]
theorem wtru_6 (W : Nat → Int32) (r : Nat) (v : Nat → Int32) : wtru W r v 6 = W 6 + 1 := by
  unfold wtru upd
  rw [if_pos rfl]
section TRW
variable {K : CK} {W : Nat → Int32} {c : Nat}
def ktru (K : CK) (r : Nat) (v : Nat → Int32) : CK := krows K 3 (r + 1) (fill7 (K.2.1 3) (r * 7) v)
theorem Sm.tru (S : Sm K W) (hk : kOk K) (h60 : K.1 3 < 60) (v : Nat → Int32) : Sm (ktru K (K.1 3) v) (wtru W (K.1 3) v) := by
  have b0 : K.1 0 ≤ 16 := hk 0 (by decide)
  have b1 : K.1 1 ≤ 6 := hk 1 (by decide)
  have b2 : K.1 2 ≤ 6 := hk 2 (by decide)
  have b4 : K.1 4 ≤ 60 := hk 4 (by decide)
  have b5 : K.1 5 ≤ 30 := hk 5 (by decide)
  obtain ⟨⟨a0, a1, a2, a3, a4, a5⟩, ⟨c0, c1, c2, c3, c4, c5⟩, p, t, m, d, l, g⟩ := S
  have o : ∀ i, i ≠ 6 → i < 171 + 7 * K.1 3 ∨ 171 + 7 * K.1 3 + 7 ≤ i → wtru W (K.1 3) v i = W i := fun i h1 h2 => wtru_off W v h1 h2
  refine ⟨⟨(o 0 (by decide) (by omega)).trans a0, (o 1 (by decide) (by omega)).trans a1, (o 2 (by decide) (by omega)).trans a2, ?_, (o 10 (by decide) (by omega)).trans a4, (o 11 (by decide) (by omega)).trans a5⟩, ⟨(o 3 (by decide) (by omega)).trans c0, (o 5 (by decide) (by omega)).trans c1, (o 8 (by decide) (by omega)).trans c2, (o 7 (by decide) (by omega)).trans c3, (o 12 (by decide) (by omega)).trans c4, (o 9 (by decide) (by omega)).trans c5⟩, fun i hi c hc => ?_, fun i hi c hc => ?_, fun i hi => ?_, fun i hi c hc => ?_, fun i hi c hc => ?_, fun i hi c hc => ?_⟩
  · rw [wtru_6, a3, ofN_succ]
    rfl
  · have hi' : i < K.1 0 := hi
    exact (p i hi' c hc).trans (o _ (by omega) (by omega)).symm
  · have hi' : i < K.1 1 := hi
    exact (t i hi' c hc).trans (o _ (by omega) (by omega)).symm
  · have hi' : i < K.1 2 := hi
    exact (m i hi').trans (o _ (by omega) (by omega)).symm
  · have hi' : i < K.1 3 + 1 := hi
    show fill7 (K.2.1 3) (K.1 3 * 7) v (i * 7 + c) = _
    by_cases e : i = K.1 3
    · subst e
      rw [wtru_at W v hc]
      unfold fill7
      rw [if_pos (by omega), Nat.add_sub_cancel_left]
    · rw [o _ (by omega) (by omega)]
      unfold fill7
      rw [if_neg (by omega)]
      exact d i (by omega) c hc
  · have hi' : i < K.1 4 := hi
    exact (l i hi' c hc).trans (o _ (by omega) (by omega)).symm
  · have hi' : i < K.1 5 := hi
    exact (g i hi' c hc).trans (o _ (by omega) (by omega)).symm
theorem wOk.tru (hw : wOk K W c) (hk : kOk K) (h60 : K.1 3 < 60) {v : Nat → Int32} (v0 : v 0 = W 5) (v1 : ∃ t, t < K.1 1 ∧ v 1 = Int32.ofNat t) (v2 : ∃ m, m < K.1 2 ∧ v 2 = Int32.ofNat m) (v3 : isN (v 3) 999) (v4 : isN (v 4) 9) (v5 : isN (v 5) 9) (hc : c < 100000) : wOk (ktru K (K.1 3) v) (wtru W (K.1 3) v) c := by
  have b0 : K.1 0 ≤ 16 := hk 0 (by decide)
  have b1 : K.1 1 ≤ 6 := hk 1 (by decide)
  have b2 : K.1 2 ≤ 6 := hk 2 (by decide)
  have b5 : K.1 5 ≤ 30 := hk 5 (by decide)
  obtain ⟨p, t, m, d, so, sh, gs, x3, x5, x7, x8⟩ := hw
  have o : ∀ i, i ≠ 6 → i < 171 + 7 * K.1 3 ∨ 171 + 7 * K.1 3 + 7 ≤ i → wtru W (K.1 3) v i = W i := fun i h1 h2 => wtru_off W v h1 h2
  have r3 : (ktru K (K.1 3) v).1 3 = K.1 3 + 1 := rfl
  have r0 : (ktru K (K.1 3) v).1 0 = K.1 0 := rfl
  have r1 : (ktru K (K.1 3) v).1 1 = K.1 1 := rfl
  have r2 : (ktru K (K.1 3) v).1 2 = K.1 2 := rfl
  have r5 : (ktru K (K.1 3) v).1 5 = K.1 5 := rfl
  unfold wOk pOk tOk dOk
  rw [r0, r1, r2, r3, r5, o 5 (by decide) (by omega)]
  refine ⟨fun i hi => ?_, fun i hi k hk => ?_, fun i hi => ?_, fun i hi => ?_, fun i hi => ?_, fun i hi k h1 h2 => ?_, ?_, ?_, x5, ?_, ?_⟩
  · obtain ⟨a0, a1, a2, a3, a4, a5, a6⟩ := p i hi
    have hs : (W (13 + 8 * i)).toNatClampNeg ≤ 2 := by
      obtain ⟨n, h1, h2⟩ := a0
      rw [h2, ofN_cl (by omega)]
      exact h1
    rw [o (13 + 8 * i) (by omega) (by omega), o (13 + 8 * i + 1) (by omega) (by omega), o (13 + 8 * i + 2) (by omega) (by omega), o (13 + 8 * i + 3) (by omega) (by omega), o (13 + 8 * i + 4) (by omega) (by omega), o (13 + 8 * i + 5) (by omega) (by omega), o (13 + 8 * i + 6) (by omega) (by omega)]
    refine ⟨a0, a1, a2, a3, a4, a5, a6.imp id ?_⟩
    rintro ⟨q, hq, z1, z2⟩
    exact ⟨q, hq, z1, by rw [o _ (by omega) (by omega)]; exact z2⟩
  · rw [o _ (by omega) (by omega)]
    refine (t i hi k hk).imp id ?_
    rintro ⟨q, hq, z1, z2, z3⟩
    exact ⟨q, hq, z1, by rw [o _ (by omega) (by omega)]; exact z2, by rw [o _ (by omega) (by omega)]; exact z3⟩
  · rw [o _ (by omega) (by omega)]
    exact m i hi
  · by_cases e : i = K.1 3
    · subst e
      rw [show wtru W (K.1 3) v (171 + 7 * K.1 3) = v 0 from wtru_at W (j := 0) v (by decide), wtru_at W (j := 1) v (by decide), wtru_at W (j := 2) v (by decide), wtru_at W (j := 3) v (by decide), wtru_at W (j := 4) v (by decide), wtru_at W (j := 5) v (by decide), v0]
      obtain ⟨n, h1, h2⟩ := x5
      exact ⟨⟨n, by rw [h2, ofN_cl (by omega)]; exact Nat.le_refl n, h2⟩, v1, v2, v3, v4, v5⟩
    · have := d i (by omega)
      unfold dOk at this
      rw [o (171 + 7 * i) (by omega) (by omega), o (171 + 7 * i + 1) (by omega) (by omega), o (171 + 7 * i + 2) (by omega) (by omega), o (171 + 7 * i + 3) (by omega) (by omega), o (171 + 7 * i + 4) (by omega) (by omega), o (171 + 7 * i + 5) (by omega) (by omega)]
      exact this
  · by_cases e : i + 1 = K.1 3
    · rw [e, show wtru W (K.1 3) v (171 + 7 * K.1 3) = v 0 from wtru_at W (j := 0) v (by decide), o (171 + 7 * i) (by omega) (by omega), v0]
      obtain ⟨n, h1, h2⟩ := x5
      obtain ⟨n2, h3, h4⟩ := (d i (by omega)).1
      rw [h2, ofN_cl (by omega)] at h3
      rw [h2, h4]
      exact (ofN_le (by omega) (by omega)).mpr h3
    · rw [o _ (by omega) (by omega), o _ (by omega) (by omega)]
      exact so i (by omega)
  · rw [o _ (by omega) (by omega)]
    exact sh i hi k h1 h2
  · rw [gsum_eq _ fun q hq => o _ (by omega) (by omega)]
    omega
  · rw [o 3 (by decide) (by omega)]
    exact x3
  · rw [o 7 (by decide) (by omega)]
    exact x7
  · rw [o 8 (by decide) (by omega)]
    exact x8
end TRW
theorem wbits_congr {W W' : Nat → Int32} {t : Nat} (e : ∀ k, k < 3 → W' (141 + 4 * t + k) = W (141 + 4 * t + k)) : ∀ n, n ≤ 3 → wbits W' t n = wbits W t n
  | 0, _ => rfl
  | n + 1, h => by
    show (if 0 ≤ W' (141 + 4 * t + n) then wbits W' t n ||| _ else wbits W' t n) = (if 0 ≤ W (141 + 4 * t + n) then wbits W t n ||| _ else wbits W t n)
    rw [wbits_congr e n (by omega), e n (by omega)]
section MT
variable {s : aS} {K : CK} {M : MK} {LW : Option (List Ln)} {c : Nat}
theorem m_partsIn (C : Mdl s 66 M) {t : Nat} (ht : t < 600) : mX12_partsIn 66 (Int32.ofNat t) s = some (.inl (wbits (M.2 1) t 3), s) := by
  unfold mX12_partsIn
  rw [onC_ok C.1]
  have key : loopM (mX12_partsIn_L4 66 (Int32.ofNat t)) (wbits (M.2 1) t 0, Int32.ofNat 0) s = some (.inl (wbits (M.2 1) t 3), s) := by
    refine loop_steps 3 (fun j => (wbits (M.2 1) t j, Int32.ofNat j)) (fun _ => s) (fun j hj => ?_) ?_
    · show mX12_partsIn_L4 66 (Int32.ofNat t) (wbits (M.2 1) t j, Int32.ofNat j) s = some (.inl (.inl ((if 0 ≤ M.2 1 (141 + 4 * t + j) then wbits (M.2 1) t j ||| (1 <<< (M.2 1 (141 + 4 * t + j) &&& (31 : Int32))) else wbits (M.2 1) t j), Int32.ofNat (j + 1))), s)
      unfold mX12_partsIn_L4
      dsimp only
      have it := (MD.cols C).2.2.2.2.2.2.2.2.2.2.2.2.2.1 t j ht (by omega)
      rw [if_neg (show ¬ (3 : Int32) ≤ Int32.ofNat j from nle (n := 3) hj (by decide)), bnd_ok it, ← ofN_succ]
      by_cases q : 0 ≤ M.2 1 (141 + 4 * t + j)
      · rw [if_pos q, if_pos q]
        exact (bnd_ok ((bnd_ok it).trans rfl)).trans rfl
      · rw [if_neg q, if_neg q]
        refine (bnd_ok (v := 0) (s' := s) rfl).trans ?_
        rw [Int32.or_zero]
        rfl
    · rfl
  exact (bnd_ok key).trans rfl
/-- the row of TRUTH -/
def vtru (W : Nat → Int32) (t p : Nat) (u h : Int32) : Nat → Int32 := fun j => if j = 0 then W 5 else if j = 1 then Int32.ofNat t else if j = 2 then u else if j = 3 then h else if j = 4 then W (13 + 8 * p + 1) else if j = 5 then W (13 + 8 * p + 2) / 10 else wbits W t 3
theorem vtru_at (W : Nat → Int32) (t p : Nat) (u h : Int32) : vtru W t p u h 0 = W 5 ∧ vtru W t p u h 1 = Int32.ofNat t ∧ vtru W t p u h 2 = u ∧ vtru W t p u h 3 = h ∧ vtru W t p u h 4 = W (13 + 8 * p + 1) ∧ vtru W t p u h 5 = W (13 + 8 * p + 2) / 10 ∧ vtru W t p u h 6 = wbits W t 3 := by
  unfold vtru
  refine ⟨?_, ?_, ?_, ?_, ?_, ?_, ?_⟩
  · rw [if_pos rfl]
  · rw [if_neg (by decide), if_pos rfl]
  · rw [if_neg (by decide), if_neg (by decide), if_pos rfl]
  · rw [if_neg (by decide), if_neg (by decide), if_neg (by decide), if_pos rfl]
  · rw [if_neg (by decide), if_neg (by decide), if_neg (by decide), if_neg (by decide), if_pos rfl]
  · rw [if_neg (by decide), if_neg (by decide), if_neg (by decide), if_neg (by decide), if_neg (by decide), if_pos rfl]
  · rw [if_neg (by decide), if_neg (by decide), if_neg (by decide), if_neg (by decide), if_neg (by decide), if_neg (by decide)]
theorem m_isTrue (C : Mdl s 66 M) {t p r : Nat} (ht : t < 6) (hp : p < 16) (hr : r < 60) (hh : M.2 1 (141 + 4 * t + 1) = Int32.ofNat p) (h6 : M.2 1 6 = Int32.ofNat r) {u h : Int32} : WRun (mX12_isTrue 66 (Int32.ofNat t) u h) s M () (wtru (M.2 1) r (vtru (M.2 1) t p u h)) := by
  unfold mX12_isTrue
  have e0 : (171 : Int32) + 7 * Int32.ofNat r = Int32.ofNat (171 + 7 * r) := by rw [show (7 : Int32) = Int32.ofNat 7 from rfl, ofN_mul, show (171 : Int32) = Int32.ofNat 171 from rfl, ofN_add]
  have ea : ∀ j : Nat, Int32.ofNat (171 + 7 * r) + Int32.ofNat j = Int32.ofNat (171 + 7 * r + j) := fun j => ofN_add _ j
  refine WRun.o11 C (WRun.get (x := Int32.ofNat r) (by rw [← h6]; exact deeds_run C) (WRun.get (x := Int32.ofNat (171 + 7 * r)) (by rw [← e0]; rfl) (WRun.get (x := Int32.ofNat p) (by rw [← hh]; exact (MD.cols C).2.2.2.2.2.2.2.2.2.2.1 t (by omega)) (WRun.get (MD.refs C).2.1 (WRun.get (today_run C) ?_)))))
  rw [show Int32.ofNat (171 + 7 * r) + 0 = Int32.ofNat (171 + 7 * r) from Int32.add_zero _]
  refine (WRun.put C (by omega)).bnd fun s1 M1 C1 e1 _ _ => ?_
  refine WRun.get (MD.refs C1).2.1 ?_
  rw [show Int32.ofNat (171 + 7 * r) + 1 = Int32.ofNat (171 + 7 * r + 1) from ea 1]
  refine (WRun.put C1 (by omega)).bnd fun s2 M2 C2 e2 _ _ => WRun.get (MD.refs C2).2.1 ?_
  rw [show Int32.ofNat (171 + 7 * r) + 2 = Int32.ofNat (171 + 7 * r + 2) from ea 2]
  refine (WRun.put C2 (by omega)).bnd fun s3 M3 C3 e3 _ _ => WRun.get (MD.refs C3).2.1 ?_
  rw [show Int32.ofNat (171 + 7 * r) + 3 = Int32.ofNat (171 + 7 * r + 3) from ea 3]
  refine (WRun.put C3 (by omega)).bnd fun s4 M4 C4 e4 _ _ => WRun.get (MD.refs C4).2.1 ?_
  have low4 : ∀ i, i < 171 → M4.2 1 i = M.2 1 i := fun i hi => by
    rw [e4, e3, e2, e1]
    unfold upd
    rw [if_neg (by omega), if_neg (by omega), if_neg (by omega), if_neg (by omega)]
  refine WRun.get (x := M.2 1 (13 + 8 * p + 1)) (by rw [← low4 _ (by omega)]; exact (MD.cols C4).2.1 p (by omega)) ?_
  rw [show Int32.ofNat (171 + 7 * r) + 4 = Int32.ofNat (171 + 7 * r + 4) from ea 4]
  refine (WRun.put C4 (by omega)).bnd fun s5 M5 C5 e5 _ _ => WRun.get (MD.refs C5).2.1 ?_
  have low5 : ∀ i, i < 171 → M5.2 1 i = M.2 1 i := fun i hi => by
    rw [e5, ← low4 i hi]
    unfold upd
    rw [if_neg (by omega)]
  refine WRun.get (x := M.2 1 (13 + 8 * p + 2)) (by rw [← low5 _ (by omega)]; exact (MD.cols C5).2.2.1 p (by omega)) ?_
  rw [show Int32.ofNat (171 + 7 * r) + 5 = Int32.ofNat (171 + 7 * r + 5) from ea 5]
  refine (WRun.put C5 (by omega)).bnd fun s6 M6 C6 e6 _ _ => WRun.get (MD.refs C6).2.1 ?_
  have low6 : ∀ i, i < 171 → M6.2 1 i = M.2 1 i := fun i hi => by
    rw [e6, ← low5 i hi]
    unfold upd
    rw [if_neg (by omega)]
  refine WRun.get (x := wbits (M.2 1) t 3) (by rw [m_partsIn C6 (by omega), wbits_congr (fun k hk => low6 _ (by omega)) 3 (Nat.le_refl 3)]) ?_
  rw [show Int32.ofNat (171 + 7 * r) + 6 = Int32.ofNat (171 + 7 * r + 6) from ea 6]
  refine (WRun.put C6 (by omega)).bnd fun s7 M7 C7 e7 _ _ => WRun.get (MD.refs C7).2.1 (WRun.get (x := M7.2 1 6) ((MD.wl C7).1 6 (by decide)) (WRun.bnd (x := ()) (W1 := upd (M7.2 1) 6 (M7.2 1 6 + 1)) (WRun.put (i := 6) C7 (by decide)) fun s8 M8 C8 e8 _ _ => WRun.fin C8 ?_))
  have ef : M7.2 1 = fill7 (M.2 1) (171 + 7 * r) (vtru (M.2 1) t p u h) := by
    obtain ⟨v0, v1, v2, v3, v4, v5, v6⟩ := vtru_at (M.2 1) t p u h
    rw [e7, e6, e5, e4, e3, e2, e1, ← fill7_upd, v0, v1, v2, v3, v4, v5, v6]
  have e6' : M7.2 1 6 = M.2 1 6 := by
    rw [ef]
    unfold fill7
    rw [if_neg (by omega)]
  rw [e8, e6', ef]
  rfl
end MT
