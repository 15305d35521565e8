/-! ACTS: deed -/
noncomputable def ddR (a1 a2 a3 a4 : Int32) : MM Int32 :=
  mbnd (mX12_deeds 66) fun (v20 : Int32) =>
  mbnd (α := Int32) (
    if v20 = 60 then (
      mret 1
    ) else (
      mret 0
    )
  ) fun (x22 : Int32) =>
  mbnd (mX12_throwsIf 66 x22 4) fun (v25 : Int32) =>
  if v25 = 0 then (
    mbnd (mX12_remembers 66) fun _ =>
    mbnd (mX12_ofDeed 66 a2 a3 a4) fun _ =>
    mbnd (loopM (mX12_deed_L109 66 a1 a4) 0) fun (e49 : Unit) =>
    mbnd (mX12_isTrue 66 a1 a2 a3) fun _ =>
    mbnd (mX12_markNow 66 a1) fun (v50 : Int32) =>
    mbnd (loopM (mX12_deed_L205 66 a1) 0) fun (e71 : Unit) =>
    mret v50
  ) else (
    mret 0
  )
section EKD
variable {s : aS} {f : Int32} {K : CK} {M : MK} {LW : Option (List Ln)} {c c' : Nat} {x m h hd : Int32} {G A B : Nat → Int32}
theorem kblame_ints (K : CK) (p g d f : Int32) : (kblame K p g d f).2.2 = K.2.2 := by
  unfold kblame
  split
  · exact klast_ints _ 4 0
  · rfl
theorem kcom_ints (K : CK) (t d : Int32) (G B : Nat → Int32) : ∀ n, (kcom K t d G B n).2.2.2 = K.2.2
  | 0 => rfl
  | n + 1 => by
    show (if kget (kcom K t d G B n).2 1 t (Int32.ofNat n) = -1 then kcom K t d G B n else _ : Int32 × CK).2.2.2 = _
    split
    · exact kcom_ints K t d G B n
    · exact (kblame_ints _ _ _ _ _).trans (kcom_ints K t d G B n)
theorem kcom_congr (K : CK) (t d : Int32) {G B G' B' : Nat → Int32} (h : ∀ k, k < 3 → G k = G' k ∧ B k = B' k) : ∀ n, n ≤ 3 → kcom K t d G B n = kcom K t d G' B' n
  | 0, _ => rfl
  | n + 1, hn => by
    show (if kget (kcom K t d G B n).2 1 t (Int32.ofNat n) = -1 then kcom K t d G B n else ((kcom K t d G B n).1 ||| (1 <<< (kget (kcom K t d G B n).2 1 t (Int32.ofNat n) &&& (31 : Int32))), kwear (kblame (kcom K t d G B n).2 (kget (kcom K t d G B n).2 1 t (Int32.ofNat n)) (G n) d (-1)) (kget (kcom K t d G B n).2 1 t (Int32.ofNat n)) (B n))) = (if kget (kcom K t d G' B' n).2 1 t (Int32.ofNat n) = -1 then kcom K t d G' B' n else ((kcom K t d G' B' n).1 ||| (1 <<< (kget (kcom K t d G' B' n).2 1 t (Int32.ofNat n) &&& (31 : Int32))), kwear (kblame (kcom K t d G' B' n).2 (kget (kcom K t d G' B' n).2 1 t (Int32.ofNat n)) (G' n) d (-1)) (kget (kcom K t d G' B' n).2 1 t (Int32.ofNat n)) (B' n)))
    rw [kcom_congr K t d h n (by omega), (h n (by omega)).1, (h n (by omega)).2]
theorem kr_open3 (C : CC s f K) (h60 : K.1 3 < 60) : KRun (mX8_open 35 0) s f (Int32.ofNat (K.1 3)) (krows K 3 (K.1 3 + 1) (fillR 7 (K.1 3) (K.2.1 3) 0 7)) := by
  have h := open_run (v := 0) C.2.t3
  rw [if_pos h60, if_pos h60] at h
  have o : Off s (sup (sup s 35 (tO 36 60 7 (K.1 3 + 1))) 36 (tE 60 7 (fillR 7 (K.1 3) (K.2.1 3) 0 7))) 28 40 := Off.trans (Off.sup (by decide) (by decide)) (Off.sup (by decide) (by decide))
  exact ⟨_, h, ⟨hasO_off C.1 o (by decide), C.2.tab (t := 3) (by decide) h60⟩, o⟩
theorem kr_put3 {X : CK} {r j : Nat} {g : Nat → Int32} {v : Int32} (C : CC s f (krows X 3 (r + 1) g)) (hr : r + 1 ≤ 1000) (hj : j < 7) : KRun (mX8_put 35 (Int32.ofNat r) (Int32.ofNat j) v) s f () (krows X 3 (r + 1) (upd g (r * 7 + j) v)) := by
  rw [← kput3 (K := X) (r := r + 1) (g := g) (d := r) (Nat.lt_succ_self r) hr hj v]
  exact KRun.of C (cput3 C.2)
def vC (K : CK) (t u h acc : Int32) : Nat → Int32 := fun j => if j = 0 then K.2.2.1 8 else if j = 1 then t else if j = 2 then u else if j = 3 then h else if j = 4 then kmark K t / 10 else if j = 5 then kmark K t - kmark K t / 10 * 10 else acc
theorem vC_at (K : CK) (t u h acc : Int32) : vC K t u h acc 0 = K.2.2.1 8 ∧ vC K t u h acc 1 = t ∧ vC K t u h acc 2 = u ∧ vC K t u h acc 3 = h ∧ vC K t u h acc 4 = kmark K t / 10 ∧ vC K t u h acc 5 = kmark K t - kmark K t / 10 * 10 ∧ vC K t u h acc 6 = acc := by
  unfold vC
  refine ⟨?_, ?_, ?_, ?_, ?_, ?_, ?_⟩
  · rw [if_pos rfl]
  · rw [if_neg (by decide), if_pos rfl]
  · rw [if_neg (by decide), if_neg (by decide), if_pos rfl]
  · rw [if_neg (by decide), if_neg (by decide), if_neg (by decide), if_pos rfl]
  · rw [if_neg (by decide), if_neg (by decide), if_neg (by decide), if_neg (by decide), if_pos rfl]
  · rw [if_neg (by decide), if_neg (by decide), if_neg (by decide), if_neg (by decide), if_neg (by decide), if_pos rfl]
  · rw [if_neg (by decide), if_neg (by decide), if_neg (by decide), if_neg (by decide), if_neg (by decide), if_neg (by decide)]
theorem fill7_fillR (F : Nat → Int32) (r : Nat) (v : Nat → Int32) : fill7 (fillR 7 r F 0 7) (r * 7) v = fill7 F (r * 7) v := by
  funext i
  unfold fill7 fillR
  by_cases q : r * 7 ≤ i ∧ i < r * 7 + 7
  · rw [if_pos q, if_pos q]
  · rw [if_neg q, if_neg q, if_neg q]
theorem c_commit (C : CC s f K) (H : Hrd s G A B) (h60 : K.1 3 < 60) (t u h hd : Int32) {X : Int32 × CK} (hX : kcom K t (Int32.ofNat (K.1 3)) (fun k => hGain h (G k) (A k)) (fun k => B k + (if Int32.ofNat k = 1 then hd else 0)) 3 = X) : KRun (mX11_commit 0 t u h hd) s f (kmark K t) (krows X.2 3 (K.1 3 + 1) (fill7 (K.2.1 3) (K.1 3 * 7) (vC K t u h X.1))) := by
  unfold mX11_commit
  refine KRun.oC0 C (KRun.get (gR_ok C.1 rfl) (KRun.get (markOf_run C.2) (KRun.get (gR_ok C.1 rfl) (KRun.get (gR_ok C.2.1 rfl) (KRun.bnd (kr_open3 C h60) fun s1 C1 o1 => ?_)))))
  have cl := c_com C1 (H.off o1) t (Int32.ofNat (K.1 3)) h hd
  rw [kcom_k3, hX] at cl
  refine KRun.bnd cl fun s2 C2 o2 => ?_
  have i8 : X.2.2.2.1 8 = K.2.2.1 8 := by
    rw [← hX, kcom_ints]
  have hr : K.1 3 + 1 ≤ 1000 := by omega
  obtain ⟨v0, v1, v2, v3, v4, v5, v6⟩ := vC_at K t u h X.1
  rw [← fill7_fillR, ← fill7_upd, v0, v1, v2, v3, v4, v5, v6]
  refine KRun.get (gR_ok C2.1 rfl) (KRun.get (gR_ok C2.2.1 rfl) (KRun.get (gR_ok C2.1 rfl) (KRun.get (x := K.2.2.1 8) ?_ (KRun.bnd (kr_put3 (j := 0) C2 hr (by decide)) fun s3 C3 _ => ?_))))
  · rw [← i8]
    exact gI_ok C2.2.1 rfl
  refine KRun.get (gR_ok C3.1 rfl) (KRun.get (gR_ok C3.2.1 rfl) (KRun.bnd (kr_put3 (j := 1) C3 hr (by decide)) fun s4 C4 _ => ?_))
  refine KRun.get (gR_ok C4.1 rfl) (KRun.get (gR_ok C4.2.1 rfl) (KRun.bnd (kr_put3 (j := 2) C4 hr (by decide)) fun s5 C5 _ => ?_))
  refine KRun.get (gR_ok C5.1 rfl) (KRun.get (gR_ok C5.2.1 rfl) (KRun.bnd (kr_put3 (j := 3) C5 hr (by decide)) fun s6 C6 _ => ?_))
  refine KRun.get (gR_ok C6.1 rfl) (KRun.get (gR_ok C6.2.1 rfl) (KRun.bnd (kr_put3 (j := 4) C6 hr (by decide)) fun s7 C7 _ => ?_))
  refine KRun.get (gR_ok C7.1 rfl) (KRun.get (gR_ok C7.2.1 rfl) (KRun.bnd (kr_put3 (j := 5) C7 hr (by decide)) fun s8 C8 _ => ?_))
  exact KRun.get (gR_ok C8.1 rfl) (KRun.get (gR_ok C8.2.1 rfl) (KRun.bnd (kr_put3 (j := 6) C8 hr (by decide)) fun s9 C9 _ => KRun.ret C9))
/-- gains are small -/
theorem gain_nn {a p : Int32} (hh : isN h 999) (ha : isN a 100) (hp : isN p 100) : isN (hGain h a p) 999 := by
  obtain ⟨n, hn, rfl⟩ := hh
  obtain ⟨i, hi, rfl⟩ := ha
  obtain ⟨j, hj, rfl⟩ := hp
  have h1 : n * i ≤ n * 100 := Nat.mul_le_mul_left n hi
  have h2 : n * i / 100 ≤ n := by omega
  have h3 : n * i / 100 * (100 - j) ≤ n * i / 100 * 100 := Nat.mul_le_mul_left _ (by omega)
  unfold hGain
  rw [ofN_mul, show (100 : Int32) = Int32.ofNat 100 from rfl, ofN_div (by omega) (by decide), ofN_sub hj, ofN_mul, ofN_div (by omega) (by decide)]
  exact ⟨_, by omega, rfl⟩
theorem ev_preD {nh k : MM Int32} {v : Int32} {Q : aS → Prop} (D : Mdl s 66 M) (S : Sm K (M.2 1)) (hk : kOk K) {t u p : Nat} (ht : t < K.1 1) (hu : u < K.1 2) (hn : nh s = some (.inl 0, s)) (hh : M.2 1 (141 + 4 * t + 1) = Int32.ofNat p) (hp : p < 16) (hkk : Ev k s v Q) : Ev (preD (Int32.ofNat t) (Int32.ofNat u) nh k) s v Q := by
  have hb1 : K.1 1 ≤ 6 := hk 1 (by decide)
  have hb2 : K.1 2 ≤ 6 := hk 2 (by decide)
  unfold preD
  refine Ev.get (noTool_in D S.1.2.1 (by omega) ht) ?_
  rw [if_pos rfl]
  refine Ev.get (x := 0) ((bnd_ok (noMaster_in D S.1.2.2.1 (by omega) hu)).trans rfl) (Ev.get (thr_no D 1) ?_)
  rw [if_pos rfl]
  refine Ev.get hn (Ev.get (thr_no D 2) ?_)
  rw [if_pos rfl]
  refine Ev.get ((MD.cols D).2.2.2.2.2.2.2.2.2.2.1 t (by omega)) ?_
  rw [hh, if_pos (le0_ofN (by omega))]
  refine Ev.get (x := 0) rfl (Ev.get (thr_no D 3) ?_)
  rw [if_pos rfl]
  exact hkk
theorem go_deedS (H : World s f K M LW c) (h1 : c ≤ c') (h2 : c' < 100000) {t u p : Nat} (ht : t < K.1 1) (hu : u < K.1 2) (nb : ¬ badD h hd) (hp : p < K.1 0) (hh : M.2 1 (141 + 4 * t + 1) = Int32.ofNat p) (h60 : K.1 3 < 60) (e : mX11_needDeed 0 (Int32.ofNat t) (Int32.ofNat u) h hd s = some (.inl (), s)) : Both s (mX11_deed 0 (Int32.ofNat t) (Int32.ofNat u) h hd) (mX12_deed 66 (Int32.ofNat t) (Int32.ofNat u) h hd) [(2, 1), (0, 2), (4, 3), (1, 4)] c' := by
  obtain ⟨⟨⟨C, -, S, hk, hw, hc⟩, CLs, LR⟩, -⟩ := id H
  have b0 : K.1 0 ≤ 16 := hk 0 (by decide)
  have b1 : K.1 1 ≤ 6 := hk 1 (by decide)
  have Lok := CLs.2.2.2.2
  have hh9 : isN h 999 ∧ isN hd 9 := by
    have q1 : ¬ h < 1 := fun z => nb (Or.inl z)
    have q2 : ¬ 999 < h := fun z => nb (Or.inr (Or.inl z))
    have q3 : ¬ hd < 0 := fun z => nb (Or.inr (Or.inr (Or.inl z)))
    have q4 : ¬ 9 < hd := fun z => nb (Or.inr (Or.inr (Or.inr z)))
    have z1 := (i32_le 1 h).mp (Int32.not_lt.mp q1)
    have z2 := (i32_le h 999).mp (Int32.not_lt.mp q2)
    have z3 := (i32_le 0 hd).mp (Int32.not_lt.mp q3)
    have z4 := (i32_le hd 9).mp (Int32.not_lt.mp q4)
    have e1 : (1 : Int32).toInt = 1 := rfl
    have e2 : (999 : Int32).toInt = 999 := rfl
    have e3 : (0 : Int32).toInt = 0 := rfl
    have e4 : (9 : Int32).toInt = 9 := rfl
    exact ⟨isN.of (by omega) (by omega), isN.of (by omega) (by omega)⟩
  -- the numbers of the deed
  have hG : ∀ k, k < 3 → isN (wG (M.2 1) LW t h hd (Int32.ofNat u) k) 999 := fun k _ => by
    unfold wG
    split
    · exact gain_nn hh9.1 (lawTot_nn Lok _ 0) (lawTot_nn Lok _ 1)
    · exact ⟨0, by omega, rfl⟩
  have hB : ∀ k, k < 3 → isN (wBl (M.2 1) LW t h hd (Int32.ofNat u) k) 109 := fun k _ => by
    unfold wBl
    split
    · refine isN_add (A := 100) (B := 9) (lawTot_nn Lok _ 3) ?_
      split
      · exact hh9.2
      · exact ⟨0, by omega, rfl⟩
    · exact ⟨0, by omega, rfl⟩
  have emark : kmark K (Int32.ofNat t) = wmark (M.2 1) t := mark_same S hk ht (hw.2.1 t ht).toolIn
  obtain ⟨E, hE, eE⟩ := (hw.1 p hp).2.1
  obtain ⟨wr, hwr, eW⟩ := (hw.1 p hp).2.2.1
  have emk : wmark (M.2 1) t = Int32.ofNat (10 * E + wr / 10) := by
    unfold wmark
    rw [hh, if_pos (le0_ofN (by omega)), ofN_cl (by omega), eE, eW, show (10 : Int32) = Int32.ofNat 10 from rfl, ofN_mul, ofN_div (by omega) (by decide), ofN_add]
  have em4 : kmark K (Int32.ofNat t) / 10 = M.2 1 (13 + 8 * p + 1) := by
    rw [emark, emk, eE, show (10 : Int32) = Int32.ofNat 10 from rfl, ofN_div (by omega) (by decide)]
    congr 1
    omega
  have em5 : kmark K (Int32.ofNat t) - kmark K (Int32.ofNat t) / 10 * 10 = M.2 1 (13 + 8 * p + 2) / 10 := by
    rw [emark, emk, eW, show (10 : Int32) = Int32.ofNat 10 from rfl, ofN_mod (by omega) (by decide) (by decide), ofN_div (by omega) (by decide)]
    congr 1
    omega
  -- the row of TRUTH on both sides
  have hV : vtru (M.2 1) t p (Int32.ofNat u) h = vC K (Int32.ofNat t) (Int32.ofNat u) h (wbits (M.2 1) t 3) := by
    funext j
    unfold vtru vC
    rw [em5, em4, (Sm.ints S).2.1]
  have St := Sm.tru S hk h60 (vtru (M.2 1) t p (Int32.ofNat u) h)
  obtain ⟨a0, a1, a2, a3, a4, a5, a6⟩ := vtru_at (M.2 1) t p (Int32.ofNat u) h
  have wt := hw.tru hk h60 a0 ⟨t, ht, a1⟩ ⟨u, hu, a2⟩ (by rw [a3]; exact hh9.1) (by rw [a4, eE]; exact ⟨E, hE, rfl⟩) (by rw [a5, eW, show (10 : Int32) = Int32.ofNat 10 from rfl, ofN_div (by omega) (by decide)]; exact ⟨_, by omega, rfl⟩) hc
  have kt : kOk (ktru K (K.1 3) (vtru (M.2 1) t p (Int32.ofNat u) h)) := fun q hq => by
    by_cases z : q = 3
    · subst z
      show K.1 3 + 1 ≤ 60
      omega
    · show (if q = 3 then _ else K.1 q) ≤ tM q
      rw [if_neg z]
      exact hk q hq
  have low : ∀ i, i < 171 → i ≠ 6 → wtru (M.2 1) (K.1 3) (vtru (M.2 1) t p (Int32.ofNat u) h) i = M.2 1 i := fun i hi h6 => wtru_off _ _ h6 (Or.inl (by omega))
  have hs : gsum (wtru (M.2 1) (K.1 3) (vtru (M.2 1) t p (Int32.ofNat u) h)) ((ktru K (K.1 3) (vtru (M.2 1) t p (Int32.ofNat u) h)).1 0) + 2997 ≤ 2997 * (ktru K (K.1 3) (vtru (M.2 1) t p (Int32.ofNat u) h)).1 3 := by
    show gsum _ (K.1 0) + 2997 ≤ 2997 * (K.1 3 + 1)
    rw [gsum_eq _ fun q hq => low _ (by omega) (by omega)]
    have := hw.2.2.2.2.2.2.1
    omega
  obtain ⟨cS, cr, ck, ci, cw, -, co, ca⟩ := com_same St kt wt (t := t) ht (d := Int32.ofNat (K.1 3)) hG hB hs 3 (Nat.le_refl 3)
  -- the class's Court at the end is that
  have hfun : ∀ k, k < 3 → hGain h (hVal K LW (Int32.ofNat t) h hd (Int32.ofNat u) 0 k) (hVal K LW (Int32.ofNat t) h hd (Int32.ofNat u) 1 k) = wG (M.2 1) LW t h hd (Int32.ofNat u) k ∧ hVal K LW (Int32.ofNat t) h hd (Int32.ofNat u) 3 k + (if Int32.ofNat k = 1 then hd else 0) = wBl (M.2 1) LW t h hd (Int32.ofNat u) k := fun k hk3 => by
    refine ⟨hG_same S hk hw ht hk3 h hd (Int32.ofNat u), ?_⟩
    rw [hVal_same S hk hw ht hk3 h hd (Int32.ofNat u) 3]
    unfold wBl
    by_cases q : 0 ≤ M.2 1 (141 + 4 * t + k)
    · rw [if_pos q, if_pos q]
    · rw [if_neg q, if_neg q]
      have k1 : k ≠ 1 := fun z => by
        rw [z, hh] at q
        exact q (le0_ofN (by omega))
      rw [if_neg (show ¬ Int32.ofNat k = 1 from fun z => k1 ((ofN_inj (m := 1) (by omega) (by decide)).mp z))]
      rfl
  have hX := kcom_congr K (Int32.ofNat t) (Int32.ofNat (K.1 3)) hfun 3 (Nat.le_refl 3)
  have hKt : kcom (ktru K (K.1 3) (vtru (M.2 1) t p (Int32.ofNat u) h)) (Int32.ofNat t) (Int32.ofNat (K.1 3)) (wG (M.2 1) LW t h hd (Int32.ofNat u)) (wBl (M.2 1) LW t h hd (Int32.ofNat u)) 3 = ((kcom K (Int32.ofNat t) (Int32.ofNat (K.1 3)) (wG (M.2 1) LW t h hd (Int32.ofNat u)) (wBl (M.2 1) LW t h hd (Int32.ofNat u)) 3).1, krows (kcom K (Int32.ofNat t) (Int32.ofNat (K.1 3)) (wG (M.2 1) LW t h hd (Int32.ofNat u)) (wBl (M.2 1) LW t h hd (Int32.ofNat u)) 3).2 3 (K.1 3 + 1) (fill7 (K.2.1 3) (K.1 3 * 7) (vtru (M.2 1) t p (Int32.ofNat u) h))) := kcom_k3 _ _ _ _ 3
  rw [wbits_congr (fun k _ => low _ (by omega) (by omega)) 3 (Nat.le_refl 3)] at ca
  rw [hKt] at cS cr ck ci ca
  dsimp only at cS cr ck ci ca
  have b3 : (ktru K (K.1 3) (vtru (M.2 1) t p (Int32.ofNat u) h)).2.2 = K.2.2 := rfl
  rw [b3] at ci
  have el : (krows (kcom K (Int32.ofNat t) (Int32.ofNat (K.1 3)) (wG (M.2 1) LW t h hd (Int32.ofNat u)) (wBl (M.2 1) LW t h hd (Int32.ofNat u)) 3).2 3 (K.1 3 + 1) (fill7 (K.2.1 3) (K.1 3 * 7) (vtru (M.2 1) t p (Int32.ofNat u) h))).2.2.2 = K.2.2.2 := congrArg Prod.snd ci
  refine act_goes H h1 h2 (K' := krows (kcom K (Int32.ofNat t) (Int32.ofNat (K.1 3)) (wG (M.2 1) LW t h hd (Int32.ofNat u)) (wBl (M.2 1) LW t h hd (Int32.ofNat u)) 3).2 3 (K.1 3 + 1) (fill7 (K.2.1 3) (K.1 3 * 7) (vtru (M.2 1) t p (Int32.ofNat u) h))) (W' := wcom (wtru (M.2 1) (K.1 3) (vtru (M.2 1) t p (Int32.ofNat u) h)) t (Int32.ofNat (K.1 3)) (wG (M.2 1) LW t h hd (Int32.ofNat u)) (wBl (M.2 1) LW t h hd (Int32.ofNat u)) 3) (v := wmark (M.2 1) t) (k := preD (Int32.ofNat t) (Int32.ofNat u) (mX12_noHarm h hd) (ddR (Int32.ofNat t) (Int32.ofNat u) h hd)) (fun _ => rfl) el (fun sa r1 CLa => ?_) (fun s2 s3 M3 D2 hr D3 e3 => ?_) cS ck (wOk.rows (cw.more h1) fun q _ h4 => cr q h4) ?_ ?_
  · unfold mX11_deed
    refine Ev.on C.1 (Ev.get e (Ev.get (gR_ok C.1 rfl) (Ev.get (gR_ok C.2.1 rfl) (Ev.get (isFull_ok C.2.t3) ?_))))
    rw [if_pos h60, if_pos rfl]
    have ho := hOk_of S hk hw ht
    obtain ⟨sb, g1, g2, g3⟩ := hearG_run (t := Int32.ofNat t) (master := Int32.ofNat u) (harm := h) (hard := hd) CLa ho
    have CLb := CLa.scR g2
    obtain ⟨sc, w1, w2, w3, w4⟩ := hearW_run CLb ho g3
    have CLc := CLb.scR w2
    have cm := c_commit CLc.1 ⟨CLc.2.1.1, w3.1, w3.2, w4⟩ h60 (Int32.ofNat t) (Int32.ofNat u) h hd hX
    rw [ca, ← hV, emark] at cm
    refine Ev.get (gR_ok C.1 rfl) (Ev.get (gR_ok C.1 rfl) (Ev.get r1 (Ev.get (gR_ok CLa.1.1 rfl) (Ev.get (gR_ok CLa.1.1 rfl) (Ev.get g1 (Ev.get (gR_ok CLb.1.1 rfl) (Ev.get (gR_ok CLb.1.1 rfl) (Ev.get w1 (Ev.kr (KRun.bnd cm fun s5 C5 _ => KRun.ret C5) fun s' C' o' => ?_)))))))))
    obtain ⟨z1, z2, z3, z4⟩ := act_fin CLc C' o'
    exact ⟨z1, z2, Fr.tr ((g2.tr w2).fr.mono fun k q => Or.inl q) z3, z4.trans (g2.tr w2).1⟩
  · refine ev_preD D2 S hk ht hu ((noHarm_run h hd s2).2 nb) hh (by omega) ?_
    unfold ddR
    refine Ev.get (x := Int32.ofNat (K.1 3)) (by rw [deeds_run D2]; exact congrArg (fun z => some (Sum.inl z, s2)) S.1.2.2.2.1) ?_
    rw [if_neg (show ¬ Int32.ofNat (K.1 3) = 60 from fun z => absurd ((ofN_inj (m := 60) (by omega) (by decide)).mp z) (by omega))]
    refine Ev.get (x := 0) rfl (Ev.get (thr_no D2 4) ?_)
    rw [if_pos rfl]
    refine Ev.get hr ?_
    obtain ⟨s4, M4, q1, D4, o4, kp4, i4, x18, x19, x20⟩ := deed_told D3 (Int32.ofNat u) h hd
    have W4 : M4.2 1 = M.2 1 := kp4.1.trans e3
    obtain ⟨s5, M5, g1, D5, o5, H5⟩ := gb_run D4 hk (by rw [W4]; exact hw) (by rw [W4]; exact LR) Lok ht x18 x19 x20
    have W5 : M5.2 1 = M.2 1 := (H5.2.1 1 (by decide) (by decide) (by decide)).trans W4
    rw [W4] at H5
    obtain ⟨s6, M6, t1, D6, o6, i6, e6, q6⟩ := m_isTrue (r := K.1 3) (u := Int32.ofNat u) (h := h) D5 (t := t) (p := p) (by omega) (by omega) h60 (by rw [W5]; exact hh) (by rw [W5]; exact S.1.2.2.2.1)
    rw [W5] at e6
    have mk : mX12_markNow 66 (Int32.ofNat t) s6 = some (.inl (wmark (M.2 1) t), s6) := by
      have tok : toolOk (M6.2 1) t := fun k hk3 => by
        rw [e6, low _ (by omega) (by omega)]
        exact (hw.2.1 t ht).ok hk k hk3
      rw [m_markNow_run D6 (t := t) (by omega) tok]
      congr 3
      unfold wmark
      rw [e6, low (141 + 4 * t + 1) (by omega) (by omega), hh, ofN_cl (by omega), low (13 + 8 * p + 1) (by omega) (by omega), low (13 + 8 * p + 2) (by omega) (by omega)]
    obtain ⟨s7, M7, t2, D7, o7, i7, e7, q7⟩ := m_com (K := ktru K (K.1 3) (vtru (M.2 1) t p (Int32.ofNat u) h)) (c := c) D6 (by rw [e6]; exact St) kt (by rw [e6]; exact wt) (t := t) ht (G := wG (M.2 1) LW t h hd (Int32.ofNat u)) (B := wBl (M.2 1) LW t h hd (Int32.ofNat u)) (fun k hk3 => by rw [q6 9 (by decide)]; exact H5.2.2.1 k hk3) (fun k hk3 => by rw [q6 10 (by decide)]; exact H5.2.2.2 k hk3) hG hB (by rw [e6]; exact hs) (r := K.1 3) (by rw [e6, wtru_6, S.1.2.2.2.1, ofN_succ])
    rw [e6] at e7
    refine ⟨s7, ?_, M7, D7, o4.trans (o5.trans (o6.trans o7)), e7, ?_⟩
    · rw [bnd_ok q1, bnd_ok g1, bnd_ok t1, bnd_ok mk, bnd_ok t2]
      rfl
    · have r5 : ∀ q, q ≠ 1 → q ≠ 8 → q ≠ 9 → q ≠ 10 → M7.2 q = M4.2 q := fun q z1 z8 z9 z10 => (q7 q z1).trans ((q6 q z1).trans (H5.2.1 q z8 z9 z10))
      have n5 : M7.1 = M4.1 := i7.trans (i6.trans H5.1)
      obtain ⟨-, k2, k5, k6, j6, j7, j9, j14⟩ := kp4
      refine ⟨(r5 2 (by decide) (by decide) (by decide) (by decide)).trans k2, (r5 5 (by decide) (by decide) (by decide) (by decide)).trans k5, (r5 6 (by decide) (by decide) (by decide) (by decide)).trans k6, ?_, ?_, ?_, ?_, ?_⟩
      · rw [n5]
        exact i4 0 (Or.inl rfl)
      · rw [n5]
        exact j6
      · rw [n5]
        exact j7
      · rw [n5]
        exact j9
      · rw [n5]
        exact j14
  · rw [co 4 (by omega) (by decide) (fun q _ => by omega)]
    exact low 4 (by decide) (by decide)
  · intro i hi
    rw [co i (Or.inr hi) (by omega) (fun q _ => by omega)]
    exact wtru_off _ _ (by omega) (Or.inr (by omega))
theorem go_deed (H : World s f K M LW c) (h1 : c ≤ c') (h2 : c' < 100000) : Both s (mX11_deed 0 x m h hd) (mX12_deed 66 x m h hd) [(2, 1), (0, 2), (4, 3), (1, 4)] c' := by
  obtain ⟨⟨⟨C, -, S, hk, hw, hc⟩, -, -⟩, -⟩ := id H
  have b3 : K.1 3 ≤ 60 := hk 3 (by decide)
  have hpre : ∀ s', mX12_deed 66 x m h hd s' = onC 11 66 (mbnd (pI 11 0 66 0) fun _ => preD x m (mX12_noHarm h hd) (ddR x m h hd)) s' := fun s' => rfl
  rcases need_deed C S hk hw x m h hd with ⟨hA, e⟩ | ⟨t, u, ht, hu, rfl, rfl, ⟨hB, e⟩ | ⟨nb, hh, e⟩ | ⟨nb, ⟨p, hp, hp16, hh⟩, e⟩⟩
  · refine Ag.goes H h1 h2 (Or.inr ⟨2, 1, 0, ?_, rfl, one_ne0, fun s' D' => RQ.eq (hpre s') (RQ.start D' fun s1 D1 => pre_A D1 S hk hA)⟩)
    unfold mX11_deed
    rw [onC_ok C.1, bnd_ex e]
  · refine Ag.goes H h1 h2 (Or.inr ⟨0, 2, 0, ?_, rfl, by decide, fun s' D' => RQ.eq (hpre s') (RQ.start D' fun s1 D1 => pre_B D1 S hk ht hu ((noHarm_run h hd s1).1 hB))⟩)
    unfold mX11_deed
    rw [onC_ok C.1, bnd_ex e]
  · refine Ag.goes H h1 h2 (Or.inr ⟨4, 3, 0, ?_, rfl, by decide, fun s' D' => RQ.eq (hpre s') (RQ.start D' fun s1 D1 => pre_C D1 S hk ht hu ((noHarm_run h hd s1).2 nb) hh)⟩)
    unfold mX11_deed
    rw [onC_ok C.1, bnd_ex e]
  · by_cases h60 : K.1 3 < 60
    · exact go_deedS H h1 h2 ht hu nb hp hh h60 e
    · have e60 : K.1 3 = 60 := by omega
      refine Ag.goes H h1 h2 (Or.inr ⟨1, 4, 0, ?_, rfl, by decide, fun s' D' => RQ.eq (hpre s') (RQ.start D' fun s1 D1 => pre_D D1 S hk ht hu ((noHarm_run h hd s1).2 nb) hh hp16 ?_)⟩)
      · unfold mX11_deed
        rw [onC_ok C.1, bnd_ok e, bnd_ok (gR_ok C.1 rfl), bnd_ok (gR_ok C.2.1 rfl), bnd_ok (isFull_ok C.2.t3), if_neg h60, if_neg one_ne0]
        rfl
      · unfold ddR
        refine RQ.get (w := 60) ?_ ?_
        · rw [deeds_run D1]
          show some (Sum.inl (M.2 1 6), s1) = _
          rw [S.1.2.2.2.1, e60]
          rfl
        · rw [if_pos rfl]
          exact RQ.get (w := 1) rfl (RQ.thr D1 4 fun _ => rfl)
end EKD
