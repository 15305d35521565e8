/-! ACTS: serve -/
theorem kput_neg (K : CK) (t : Nat) (j v : Int32) : kput K t (-1) j v = K := by
  have e : tput (tW t) (K.1 t) (K.2.1 t) (-1) j v = K.2.1 t := if_pos (Or.inl (by decide))
  have e2 : kset K.2.1 t (K.2.1 t) = K.2.1 := funext fun k => by
    unfold kset
    split
    · next h => rw [h]
    · rfl
  unfold kput
  rw [e, e2]
theorem gsum_upd (W : Nat → Int32) {p : Nat} (v : Int32) : ∀ n, p < n → gsum (upd W (13 + 8 * p + 3) v) n + (W (13 + 8 * p + 3)).toNatClampNeg = gsum W n + v.toNatClampNeg
  | 0, h => absurd h (Nat.not_lt_zero _)
  | n + 1, h => by
    show gsum (upd W (13 + 8 * p + 3) v) n + (if 13 + 8 * n + 3 = 13 + 8 * p + 3 then v else W (13 + 8 * n + 3)).toNatClampNeg + _ = gsum W n + (W (13 + 8 * n + 3)).toNatClampNeg + _
    by_cases e : p = n
    · subst e
      rw [if_pos rfl, gsum_eq (W := W) p fun q hq => if_neg (by omega)]
      omega
    · rw [if_neg (by omega)]
      have := gsum_upd W (p := p) v n (by omega)
      omega
theorem gsum_ge (W : Nat → Int32) {p : Nat} : ∀ n, p < n → (W (13 + 8 * p + 3)).toNatClampNeg ≤ gsum W n
  | 0, h => absurd h (Nat.not_lt_zero _)
  | n + 1, h => by
    show _ ≤ gsum W n + (W (13 + 8 * n + 3)).toNatClampNeg
    by_cases e : p = n
    · rw [e]
      omega
    · have := gsum_ge W (p := p) n (by omega)
      omega
section SV
variable {s : aS} {f : Int32} {K : CK} {M : MK} {W : Nat → Int32} {LW : Option (List Ln)} {c c' : Nat} {x y : Int32}
theorem Sm.serv (S : Sm K W) (v : Int32) : Sm (kint K 12 v) (upd W 9 v) := by
  obtain ⟨⟨a0, a1, a2, a3, a4, a5⟩, ⟨b0, b1, b2, b3, b4, b5⟩, p, t, m, d, l, g⟩ := S
  refine ⟨⟨a0, a1, a2, a3, a4, a5⟩, ⟨b0, b1, b2, b3, b4, rfl⟩, fun i hi c hc => ?_, fun i hi c hc => ?_, fun i hi => ?_, fun i hi c hc => ?_, fun i hi c hc => ?_, fun i hi c hc => ?_⟩
  · rw [show upd W 9 v (13 + 8 * i + c) = W (13 + 8 * i + c) from if_neg (by omega)]
    exact p i hi c hc
  · rw [show upd W 9 v (141 + 4 * i + c) = W (141 + 4 * i + c) from if_neg (by omega)]
    exact t i hi c hc
  · rw [show upd W 9 v (165 + i) = W (165 + i) from if_neg (by omega)]
    exact m i hi
  · rw [show upd W 9 v (171 + 7 * i + c) = W (171 + 7 * i + c) from if_neg (by omega)]
    exact d i hi c hc
  · rw [show upd W 9 v (771 + 5 * i + c) = W (771 + 5 * i + c) from if_neg (by omega)]
    exact l i hi c hc
  · rw [show upd W 9 v (591 + 6 * i + c) = W (591 + 6 * i + c) from if_neg (by omega)]
    exact g i hi c hc
/-- another GUILT of a part -/
theorem wOk.gupd (hw : wOk K W c) (hk : kOk K) {q : Nat} {v : Int32} (hq : q < K.1 0) (hv : isN v 179820) (hg : gsum (upd W (13 + 8 * q + 3) v) (K.1 0) ≤ 2997 * K.1 3) : wOk K (upd W (13 + 8 * q + 3) v) c := by
  have b0 : K.1 0 ≤ 16 := hk 0 (by decide)
  have o : ∀ i, i ≠ 13 + 8 * q + 3 → upd W (13 + 8 * q + 3) v i = W i := fun i hi => if_neg hi
  refine hw.parts hk (fun i _ hi _ _ => o i (by omega)) (fun p hp => ?_) hg
  obtain ⟨a0, a1, a2, a3, a4, a5, a6⟩ := hw.1 p hp
  refine ⟨o _ (by omega), o _ (by omega), by rw [o _ (by omega)]; exact a2, ?_, by rw [o _ (by omega)]; exact a4, by rw [o _ (by omega)]; exact a5, o _ (by omega)⟩
  show isN (if 13 + 8 * p + 3 = 13 + 8 * q + 3 then v else _) 179820
  split
  · exact hv
  · exact a3
/-- work done by the first n sorts: what is left, and the world -/
def wwork (W : Nat → Int32) (t : Nat) (m : Int32) : Nat → Int32 × (Nat → Int32)
  | 0 => (m, W)
  | n + 1 =>
    let W1 := (wwork W t m n).2
    let q := W1 (141 + 4 * t + n)
    if 0 ≤ q then ((wwork W t m n).1 - imin (wwork W t m n).1 (W1 (13 + 8 * q.toNatClampNeg + 3)), upd W1 (13 + 8 * q.toNatClampNeg + 3) (W1 (13 + 8 * q.toNatClampNeg + 3) - imin (wwork W t m n).1 (W1 (13 + 8 * q.toNatClampNeg + 3)))) else ((wwork W t m n).1, W1)
theorem imin_0 {x : Int32} {B : Nat} (h : isN x B) (hB : B < 2 ^ 31) : imin x 0 = 0 := by
  obtain ⟨n, h1, rfl⟩ := h
  have := imin_of (n := n) (k := 0) (by omega) (by decide)
  rw [Nat.min_zero] at this
  exact this
theorem work_same (S : Sm K W) (hk : kOk K) (hw : wOk K W c) {t : Nat} (ht : t < K.1 1) {m : Int32} (hm : isN m 990) : ∀ n, n ≤ 3 → (kwork K (Int32.ofNat t) m n).1 = (wwork W t m n).1 ∧ isN (wwork W t m n).1 990 ∧ (kwork K (Int32.ofNat t) m n).2.1 = K.1 ∧ (kwork K (Int32.ofNat t) m n).2.2.2 = K.2.2 ∧ Sm (kwork K (Int32.ofNat t) m n).2 (wwork W t m n).2 ∧ wOk K (wwork W t m n).2 c ∧ ∀ i, i < 13 ∨ 141 ≤ i → (wwork W t m n).2 i = W i := by
  have b0 : K.1 0 ≤ 16 := hk 0 (by decide)
  have b1 : K.1 1 ≤ 6 := hk 1 (by decide)
  have b3 : K.1 3 ≤ 60 := hk 3 (by decide)
  intro n
  induction n with
  | zero => exact fun _ => ⟨rfl, hm, rfl, rfl, S, hw, fun _ _ => rfl⟩
  | succ n ih =>
    intro hn
    obtain ⟨e1, i1, r1, r2, S1, w1, o1⟩ := ih (by omega)
    have hk1 : kOk (kwork K (Int32.ofNat t) m n).2 := hk.rows fun t _ => by rw [r1]
    have ht1 : t < (kwork K (Int32.ofNat t) m n).2.1 1 := by rw [r1]; exact ht
    have et : kget (kwork K (Int32.ofNat t) m n).2 1 (Int32.ofNat t) (Int32.ofNat n) = (wwork W t m n).2 (141 + 4 * t + n) := S1.tool hk1 ht1 (by omega)
    have ek : kwork K (Int32.ofNat t) m (n + 1) = ((kwork K (Int32.ofNat t) m n).1 - imin (kwork K (Int32.ofNat t) m n).1 (kguilt (kwork K (Int32.ofNat t) m n).2 (kget (kwork K (Int32.ofNat t) m n).2 1 (Int32.ofNat t) (Int32.ofNat n))), kput (kwork K (Int32.ofNat t) m n).2 0 (kget (kwork K (Int32.ofNat t) m n).2 1 (Int32.ofNat t) (Int32.ofNat n)) 3 (kget (kwork K (Int32.ofNat t) m n).2 0 (kget (kwork K (Int32.ofNat t) m n).2 1 (Int32.ofNat t) (Int32.ofNat n)) 3 + -imin (kwork K (Int32.ofNat t) m n).1 (kguilt (kwork K (Int32.ofNat t) m n).2 (kget (kwork K (Int32.ofNat t) m n).2 1 (Int32.ofNat t) (Int32.ofNat n))))) := rfl
    have ew : wwork W t m (n + 1) = if 0 ≤ (wwork W t m n).2 (141 + 4 * t + n) then ((wwork W t m n).1 - imin (wwork W t m n).1 ((wwork W t m n).2 (13 + 8 * ((wwork W t m n).2 (141 + 4 * t + n)).toNatClampNeg + 3)), upd (wwork W t m n).2 (13 + 8 * ((wwork W t m n).2 (141 + 4 * t + n)).toNatClampNeg + 3) ((wwork W t m n).2 (13 + 8 * ((wwork W t m n).2 (141 + 4 * t + n)).toNatClampNeg + 3) - imin (wwork W t m n).1 ((wwork W t m n).2 (13 + 8 * ((wwork W t m n).2 (141 + 4 * t + n)).toNatClampNeg + 3)))) else ((wwork W t m n).1, (wwork W t m n).2) := rfl
    rw [ek, ew, et, e1]
    clear ek ew et e1
    generalize (kwork K (Int32.ofNat t) m n).2 = K1 at r1 r2 S1 hk1 ht1 ⊢
    generalize (wwork W t m n).2 = W1 at S1 w1 o1 ⊢
    generalize (wwork W t m n).1 = l1 at i1 ⊢
    rcases slot_or hk w1 ht (show n < 3 by omega) with h | ⟨p, hp, hp16, h, -⟩
    · rw [h, if_neg (by decide), kguilt_none, kput_neg, imin_0 i1 (by decide)]
      exact ⟨Int32.sub_zero _, i1, r1, r2, S1, w1, o1⟩
    · have hp1 : p < K1.1 0 := by rw [r1]; exact hp
      have eg : kguilt K1 (Int32.ofNat p) = W1 (13 + 8 * p + 3) := kguilt_in S1 hk1 hp1
      have eg2 : kget K1 0 (Int32.ofNat p) 3 = W1 (13 + 8 * p + 3) := S1.part hk1 hp1 (c := 3) (by decide)
      rw [h, if_pos (le0_ofN (by omega)), ofN_cl (by omega), eg, eg2]
      obtain ⟨a, ha, ea⟩ := i1
      obtain ⟨g, hg, eg9⟩ := (w1.1 p hp).2.2.2.1
      have em : imin l1 (W1 (13 + 8 * p + 3)) = Int32.ofNat (min a g) := by rw [ea, eg9]; exact imin_of (by omega) (by omega)
      rw [em]
      have e5 : l1 - Int32.ofNat (min a g) = Int32.ofNat (a - min a g) := by rw [ea]; exact ofN_sub (Nat.min_le_left _ _)
      have e6 : W1 (13 + 8 * p + 3) - Int32.ofNat (min a g) = Int32.ofNat (g - min a g) := by rw [eg9]; exact ofN_sub (Nat.min_le_right _ _)
      have e7 : W1 (13 + 8 * p + 3) + -Int32.ofNat (min a g) = W1 (13 + 8 * p + 3) - Int32.ofNat (min a g) := (Int32.sub_eq_add_neg _ _).symm
      rw [e7]
      refine ⟨rfl, by show isN (l1 - Int32.ofNat (min a g)) 990; rw [e5]; exact ⟨_, by omega, rfl⟩, r1, r2, Sm.pput S1 hk1 (q := p) (k := 3) hp1 (by decide) _, ?_, fun i hi => ?_⟩
      · refine w1.gupd hk hp (by rw [e6]; exact ⟨_, by omega, rfl⟩) ?_
        have h9 := gsum_upd W1 (p := p) (W1 (13 + 8 * p + 3) - Int32.ofNat (min a g)) (K.1 0) hp
        rw [e6, eg9, ofN_cl (by omega), ofN_cl (by omega)] at h9
        have h8 := w1.2.2.2.2.2.2.1
        rw [e6]
        omega
      · show (if i = 13 + 8 * p + 3 then _ else _) = _
        rw [if_neg (by omega)]
        exact o1 i hi
theorem m_work (D : Mdl s 66 M) (S : Sm K (M.2 1)) (hk : kOk K) (hw : wOk K (M.2 1) c) {t : Nat} (ht : t < K.1 1) {m : Int32} (hm : isN m 990) : WRun (loopM (mX12_serve_L55 66 (Int32.ofNat t)) (m, 0)) s M (wwork (M.2 1) t m 3).1 (wwork (M.2 1) t m 3).2 := by
  have b0 : K.1 0 ≤ 16 := hk 0 (by decide)
  have b1 : K.1 1 ≤ 6 := hk 1 (by decide)
  refine WRun.loop 3 (fun n => ((wwork (M.2 1) t m n).1, Int32.ofNat n)) (fun n => (wwork (M.2 1) t m n).2) (fun n hn s' M' C' h' => ?_) (fun s' M' C' h' => ?_) D rfl
  · have w1 := (work_same S hk hw ht hm n (by omega)).2.2.2.2.2.1
    have ew : wwork (M.2 1) t m (n + 1) = if 0 ≤ (wwork (M.2 1) t m n).2 (141 + 4 * t + n) then ((wwork (M.2 1) t m n).1 - imin (wwork (M.2 1) t m n).1 ((wwork (M.2 1) t m n).2 (13 + 8 * ((wwork (M.2 1) t m n).2 (141 + 4 * t + n)).toNatClampNeg + 3)), upd (wwork (M.2 1) t m n).2 (13 + 8 * ((wwork (M.2 1) t m n).2 (141 + 4 * t + n)).toNatClampNeg + 3) ((wwork (M.2 1) t m n).2 (13 + 8 * ((wwork (M.2 1) t m n).2 (141 + 4 * t + n)).toNatClampNeg + 3) - imin (wwork (M.2 1) t m n).1 ((wwork (M.2 1) t m n).2 (13 + 8 * ((wwork (M.2 1) t m n).2 (141 + 4 * t + n)).toNatClampNeg + 3)))) else ((wwork (M.2 1) t m n).1, (wwork (M.2 1) t m n).2) := rfl
    show WRun (mX12_serve_L55 66 (Int32.ofNat t) ((wwork (M.2 1) t m n).1, Int32.ofNat n)) s' M' (.inl ((wwork (M.2 1) t m (n + 1)).1, Int32.ofNat (n + 1))) (wwork (M.2 1) t m (n + 1)).2
    rw [ew]
    rw [← h'] at w1 ⊢
    generalize (wwork (M.2 1) t m n).1 = l1
    unfold mX12_serve_L55
    dsimp only
    rw [if_neg (show ¬ (3 : Int32) ≤ Int32.ofNat n from nle (n := 3) hn (by decide)), ← ofN_succ]
    refine WRun.get ((MD.cols C').2.2.2.2.2.2.2.2.2.2.2.2.2.1 t n (by omega) (by omega)) ?_
    rcases slot_or hk w1 ht (show n < 3 by omega) with h | ⟨p, hp, hp16, h, -⟩
    · rw [h, if_neg (by decide), if_neg (by decide)]
      refine WRun.get (x := 0) rfl ?_
      rw [if_pos (show (-1 : Int32) < 0 by decide)]
      refine WRun.get (x := ()) rfl (WRun.get (x := l1) ?_ (WRun.ret C'))
      show some (Sum.inl (l1 - 0), s') = _
      rw [Int32.sub_zero]
    · rw [h, if_pos (le0_ofN (by omega)), if_pos (le0_ofN (by omega)), ofN_cl (by omega)]
      refine WRun.get (x := imin l1 (M'.2 1 (13 + 8 * p + 3))) ((bnd_ok ((MD.cols C').2.2.2.1 p (by omega))).trans rfl) ?_
      rw [if_neg (ofN_nn (by omega))]
      refine (WRun.bnd (W1 := upd (M'.2 1) (13 + 8 * p + 3) (M'.2 1 (13 + 8 * p + 3) - imin l1 (M'.2 1 (13 + 8 * p + 3)))) (x := ()) ?_ fun s2 M2 C2 e2 _ _ => WRun.get (x := l1 - imin l1 (M'.2 1 (13 + 8 * p + 3))) rfl (WRun.fin C2 e2))
      exact WRun.get (MD.refs C').2.1 (WRun.get (part_at p 3 s') (WRun.get ((MD.wl C').1 _ (by omega)) (WRun.bnd (WRun.put C' (by omega)) fun s2 M2 C2 e2 _ _ => WRun.fin C2 e2)))
  · show WRun (mX12_serve_L55 66 (Int32.ofNat t) ((wwork (M.2 1) t m 3).1, Int32.ofNat 3)) s' M' (.inr (wwork (M.2 1) t m 3).1) (wwork (M.2 1) t m 3).2
    unfold mX12_serve_L55
    dsimp only
    rw [if_pos (show (3 : Int32) ≤ Int32.ofNat 3 from Int32.le_refl _)]
    exact WRun.fin C' h'
theorem go_serve2 (H : World s f K M LW c) (h1 : c ≤ c') (h2 : c' < 100000) {t : Nat} (ht : t < K.1 1) (q1 : ¬ y < 1) (q2 : y ≤ 99) (hy : ¬ (y < 1 ∨ 99 < y)) {KW : Int32 × CK} {WW : Int32 × (Nat → Int32)} (e1 : KW.1 = WW.1) (r1 : KW.2.1 = K.1) (r2 : KW.2.2.2 = K.2.2) (S1 : Sm KW.2 WW.2) (w1 : wOk K WW.2 c) (o1 : ∀ i, i < 13 ∨ 141 ≤ i → WW.2 i = M.2 1 i)
    (hc : ∀ sa, CC sa f K → KRun (mX1_workOff 28 (Int32.ofNat t) (10 * y)) sa f (10 * y - KW.1) (kint KW.2 12 (KW.2.2.2.1 12 + (10 * y - KW.1)))) (hm : ∀ s M', Mdl s 66 M' → M'.2 1 = M.2 1 → WRun (loopM (mX12_serve_L55 66 (Int32.ofNat t)) (10 * y, 0)) s M' WW.1 WW.2) : Both s (mX11_serve 0 (Int32.ofNat t) y) (mX12_serve 66 (Int32.ofNat t) y) [(2, 1), (0, 2)] c' := by
  obtain ⟨⟨⟨C, -, S, hk, hw, hc9⟩, -, -⟩, -⟩ := id H
  have hb : K.1 1 ≤ 6 := hk 1 (by decide)
  have el : KW.2.2.2.2 = K.2.2.2 := congrArg Prod.snd r2
  refine act_goes H h1 h2 (K' := kint KW.2 12 (KW.2.2.2.1 12 + (10 * y - KW.1))) (W' := upd WW.2 9 (WW.2 9 + (10 * y - WW.1))) (v := 10 * y - WW.1) (fun _ => rfl) el (fun sa r1 CLa => ?_) (fun s2 s3 M3 D2 hr D3 e3 => ?_) ?_ ?_ ?_ ?_ ?_
  · unfold mX11_serve
    refine Ev.on C.1 (Ev.get (need_tool_ok C hk ht) ?_)
    rw [if_neg q1, if_pos q2, Int32.mul_comm y 10]
    have Ca := CLa.1
    have wo := hc sa Ca
    refine Ev.get (gR_ok C.1 rfl) (Ev.get (gR_ok C.1 rfl) (Ev.get r1 (Ev.kr (KRun.get (gR_ok Ca.1 rfl) (KRun.bnd wo fun s5 C5 _ => ?_)) fun s' C' o' => act_fin CLa C' o')))
    rw [e1]
    rw [e1] at C5
    exact KRun.ret C5
  · refine Ev.get (noTool_in D2 S.1.2.1 (by omega) ht) (Ev.get (thr_no D2 1) ?_)
    rw [if_pos rfl]
    refine Ev.get (in_app y 1 99 s2) ?_
    rw [if_neg hy, if_neg one_ne0]
    refine Ev.get (x := 0) rfl (Ev.get (thr_no D2 2) ?_)
    rw [if_pos rfl]
    have wr := hm s3 M3 D3 e3
    refine Ev.get hr (Ev.ar (AR.get (x := 10 * y) rfl (AR.bnd wr.ar fun s4 M4 D4 e4 _ => AR.get (MD.refs D4).2.1 (AR.get (x := WW.2 9) ?_ (AR.bnd (x := ()) (W1 := upd WW.2 9 (WW.2 9 + (10 * y - WW.1))) ?_ fun s5 M5 D5 e5 _ => AR.fin D5 e5)))))
    · rw [← e4]
      exact (MD.wl D4).1 9 (by decide)
    · rw [← e4]
      exact AR.put (i := 9) D4 (by decide)
  · have := Sm.serv S1 (WW.2 9 + (10 * y - WW.1))
    rw [e1, (Sm.ints S1).2.2.2.2.2]
    exact this
  · intro t ht
    show KW.2.1 t ≤ _
    rw [r1]
    exact hk t ht
  · refine wOk.rows (K := K) (wOk.more (c := c) (w1.parts (W' := upd WW.2 9 (WW.2 9 + (10 * y - WW.1))) hk (fun i _ _ h9 _ => if_neg h9) (fun p hp => ?_) ?_) h1) fun t _ _ => by
      show KW.2.1 t = _
      rw [r1]
    · have o : ∀ i, 13 ≤ i → upd WW.2 9 (WW.2 9 + (10 * y - WW.1)) i = WW.2 i := fun i hi => if_neg (by omega)
      obtain ⟨a0, a1, a2, a3, a4, a5, a6⟩ := w1.1 p hp
      exact ⟨o _ (by omega), o _ (by omega), by rw [o _ (by omega)]; exact a2, by rw [o _ (by omega)]; exact a3, by rw [o _ (by omega)]; exact a4, by rw [o _ (by omega)]; exact a5, o _ (by omega)⟩
    · rw [gsum_eq _ fun p _ => if_neg (by omega)]
      exact w1.2.2.2.2.2.2.1
  · exact (if_neg (by decide)).trans (o1 4 (by omega))
  · exact fun i hi => (if_neg (by omega)).trans (o1 i (by omega))
theorem go_serve (H : World s f K M LW c) (h1 : c ≤ c') (h2 : c' < 100000) : Both s (mX11_serve 0 x y) (mX12_serve 66 x y) [(2, 1), (0, 2)] c' := by
  obtain ⟨⟨⟨C, -, S, hk, hw, hc⟩, -, -⟩, -⟩ := id H
  have hb : K.1 1 ≤ 6 := hk 1 (by decide)
  rcases rg_or (K.1 1) (by omega) x with h | ⟨t, ht, rfl⟩
  · refine Ag.goes H h1 h2 (Or.inr ⟨2, 1, 0, ?_, rfl, one_ne0, fun s' D' => ?_⟩)
    · unfold mX11_serve
      rw [onC_ok C.1, bnd_ex (need_tool_no C h)]
    · unfold mX12_serve
      exact RQ.start D' fun s1 D1 => RQ.get (noTool_no D1 S.1.2.1 (by omega) h) (RQ.thr D1 1 fun _ => rfl)
  by_cases hy : y < 1 ∨ 99 < y
  · refine Ag.goes H h1 h2 (Or.inr ⟨0, 2, 0, ?_, rfl, by decide, fun s' D' => ?_⟩)
    · unfold mX11_serve
      rw [onC_ok C.1, bnd_ok (need_tool_ok C hk ht)]
      by_cases q : y < 1
      · rw [if_pos q]
        rfl
      · rw [if_neg q, if_neg (Int32.not_le.mpr (hy.elim (fun z => absurd z q) id))]
        rfl
    · unfold mX12_serve
      refine RQ.start D' fun s1 D1 => RQ.get (noTool_in D1 S.1.2.1 (by omega) ht) (RQ.get (thr_no D1 1) ?_)
      rw [if_pos rfl]
      refine RQ.get (in_app y 1 99 s1) ?_
      rw [if_pos hy, if_pos rfl]
      exact RQ.get (w := 1) rfl (RQ.thr D1 2 fun _ => rfl)
  · have q1 : ¬ y < 1 := fun z => hy (Or.inl z)
    have q2 : y ≤ 99 := Int32.not_lt.mp fun z => hy (Or.inr z)
    have hm : isN (10 * y) 990 := by
      have h1 : (1 : Int32).toInt = 1 := rfl
      have h99 : (99 : Int32).toInt = 99 := rfl
      have h10 : (10 : Int32).toInt = 10 := rfl
      have z1 := (i32_le 1 y).mp (Int32.not_lt.mp q1)
      have z2 := (i32_le y 99).mp q2
      have := i_mul (a := 10) (b := y) (by rw [h10]; omega) (by rw [h10]; omega)
      exact isN.of (by rw [this, h10]; omega) (by rw [this, h10]; omega)
    obtain ⟨e1, i1, r1, r2, S1, w1, o1⟩ := work_same S hk hw ht hm 3 (Nat.le_refl 3)
    exact go_serve2 H h1 h2 ht q1 q2 hy e1 r1 r2 S1 w1 o1 (fun sa Ca => KRun.of Ca (workOff_run Ca.2)) (fun s' M' D' e' => by
      have := m_work (s := s') (M := M') D' (by rw [e']; exact S) hk (by rw [e']; exact hw) ht hm
      rw [e'] at this
      exact this)
end SV
