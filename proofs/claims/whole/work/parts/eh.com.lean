/-! A DEED IS COMMITTED: GUILT and wear come to the tool's parts, on both sides -/
def kcom (K : CK) (t d : Int32) (G B : Nat → Int32) : Nat → Int32 × CK
  | 0 => (0, K)
  | n + 1 => if kget (kcom K t d G B n).2 1 t (Int32.ofNat n) = -1 then kcom K t d G B n else ((kcom K t d G B n).1 ||| (1 <<< (kget (kcom K t d G B n).2 1 t (Int32.ofNat n) &&& (31 : Int32))), kwear (kblame (kcom K t d G B n).2 (kget (kcom K t d G B n).2 1 t (Int32.ofNat n)) (G n) d (-1)) (kget (kcom K t d G B n).2 1 t (Int32.ofNat n)) (B n))
def wcom (W : Nat → Int32) (t : Nat) (d : Int32) (G B : Nat → Int32) : Nat → Nat → Int32
  | 0 => W
  | n + 1 => if 0 ≤ wcom W t d G B n (141 + 4 * t + n) then upd (wblame (wcom W t d G B n) (wcom W t d G B n (141 + 4 * t + n)).toNatClampNeg (G n) d (-1)) (13 + 8 * (wcom W t d G B n (141 + 4 * t + n)).toNatClampNeg + 2) (imin 99 (wblame (wcom W t d G B n) (wcom W t d G B n (141 + 4 * t + n)).toNatClampNeg (G n) d (-1) (13 + 8 * (wcom W t d G B n (141 + 4 * t + n)).toNatClampNeg + 2) + B n)) else wcom W t d G B n
/-- the parts of a tool as bits -/
def wbits (W : Nat → Int32) (t : Nat) : Nat → Int32
  | 0 => 0
  | n + 1 => if 0 ≤ W (141 + 4 * t + n) then wbits W t n ||| (1 <<< (W (141 + 4 * t + n) &&& (31 : Int32))) else wbits W t n
section K3
variable {K : CK} {r : Nat} {g : Nat → Int32}
theorem kset_comm (F : Nat → Nat → Int32) {t u : Nat} (h : t ≠ u) (x y : Nat → Int32) : kset (kset F t x) u y = kset (kset F u y) t x := by
  funext k
  unfold kset
  by_cases h1 : k = u
  · rw [if_pos h1, if_neg (fun e => h (e.symm.trans h1)), if_pos h1]
  · rw [if_neg h1, if_neg h1]
theorem kset_kset (F : Nat → Nat → Int32) (t : Nat) (x y : Nat → Int32) : kset (kset F t x) t y = kset F t y := by
  funext k
  unfold kset
  by_cases h1 : k = t
  · rw [if_pos h1, if_pos h1]
  · rw [if_neg h1, if_neg h1, if_neg h1]
theorem krows_comm (K : CK) {t u : Nat} (h : t ≠ u) (a b : Nat) (x y : Nat → Int32) : krows (krows K t a x) u b y = krows (krows K u b y) t a x := by
  refine Prod.ext (funext fun k => ?_) (Prod.ext (kset_comm _ h _ _) rfl)
  show (if k = u then b else if k = t then a else K.1 k) = (if k = t then a else if k = u then b else K.1 k)
  by_cases h1 : k = u
  · rw [if_pos h1, if_neg (fun e => h (e.symm.trans h1)), if_pos h1]
  · rw [if_neg h1, if_neg h1]
theorem kget_k3 {t : Nat} (h : t ≠ 3) (i j : Int32) : kget (krows K 3 r g) t i j = kget K t i j := by
  unfold kget krows kset
  dsimp only
  rw [if_neg h, if_neg h]
theorem kput_k3 {t : Nat} (h : t ≠ 3) (i j v : Int32) : kput (krows K 3 r g) t i j v = krows (kput K t i j v) 3 r g := by
  refine Prod.ext rfl (Prod.ext ?_ rfl)
  show kset (kset K.2.1 3 g) t (tput (tW t) (if t = 3 then r else K.1 t) (if t = 3 then g else K.2.1 t) i j v) = kset (kset K.2.1 t (tput (tW t) (K.1 t) (K.2.1 t) i j v)) 3 g
  rw [if_neg h, if_neg h]
  exact kset_comm _ (Ne.symm h) _ _
theorem klast_k3 (v : Int32) : klast (krows K 3 r g) 4 v = krows (klast K 4 v) 3 r g ∧ klastR (krows K 3 r g) 4 = klastR K 4 := by
  have e1 : (krows K 3 r g).1 4 = K.1 4 := rfl
  have e2 : (krows K 3 r g).2.1 4 = K.2.1 4 := rfl
  unfold klast klastR
  rw [e1, e2]
  by_cases h : K.1 4 < tM 4
  · rw [if_pos h, if_pos h, if_pos h]
    exact ⟨krows_comm K (by decide) _ _ _ _, rfl⟩
  · rw [if_neg h, if_neg h, if_neg h]
    exact ⟨krows_comm K (by decide) _ _ _ _, rfl⟩
theorem kblame_k3 (p v d f : Int32) : kblame (krows K 3 r g) p v d f = krows (kblame K p v d f) 3 r g := by
  unfold kblame
  by_cases h : 0 < v
  · rw [if_pos h, if_pos h]
    dsimp only
    rw [kget_k3 (by decide), kput_k3 (by decide), (klast_k3 _).1, (klast_k3 0).2, kput_k3 (by decide), kput_k3 (by decide), kput_k3 (by decide), kput_k3 (by decide), kput_k3 (by decide)]
    rfl
  · rw [if_neg h, if_neg h]
theorem kcom_k3 (t d : Int32) (G B : Nat → Int32) : ∀ n, kcom (krows K 3 r g) t d G B n = ((kcom K t d G B n).1, krows (kcom K t d G B n).2 3 r g)
  | 0 => rfl
  | n + 1 => by
    have ih := kcom_k3 t d G B n
    show (if kget (kcom (krows K 3 r g) t d G B n).2 1 t (Int32.ofNat n) = -1 then kcom (krows K 3 r g) t d G B n else ((kcom (krows K 3 r g) t d G B n).1 ||| (1 <<< (kget (kcom (krows K 3 r g) t d G B n).2 1 t (Int32.ofNat n) &&& (31 : Int32))), kwear (kblame (kcom (krows K 3 r g) t d G B n).2 (kget (kcom (krows K 3 r g) t d G B n).2 1 t (Int32.ofNat n)) (G n) d (-1)) (kget (kcom (krows K 3 r g) t d G B n).2 1 t (Int32.ofNat n)) (B n))) = ((if kget (kcom K t d G B n).2 1 t (Int32.ofNat n) = -1 then kcom K t d G B n else ((kcom K t d G B n).1 ||| (1 <<< (kget (kcom K t d G B n).2 1 t (Int32.ofNat n) &&& (31 : Int32))), kwear (kblame (kcom K t d G B n).2 (kget (kcom K t d G B n).2 1 t (Int32.ofNat n)) (G n) d (-1)) (kget (kcom K t d G B n).2 1 t (Int32.ofNat n)) (B n))).1, krows (if kget (kcom K t d G B n).2 1 t (Int32.ofNat n) = -1 then kcom K t d G B n else ((kcom K t d G B n).1 ||| (1 <<< (kget (kcom K t d G B n).2 1 t (Int32.ofNat n) &&& (31 : Int32))), kwear (kblame (kcom K t d G B n).2 (kget (kcom K t d G B n).2 1 t (Int32.ofNat n)) (G n) d (-1)) (kget (kcom K t d G B n).2 1 t (Int32.ofNat n)) (B n))).2 3 r g)
    rw [ih]
    generalize kcom K t d G B n = X
    dsimp only
    rw [kget_k3 (by decide)]
    by_cases h : kget X.2 1 t (Int32.ofNat n) = -1
    · rw [if_pos h, if_pos h]
    · rw [if_neg h, if_neg h]
      unfold kwear
      rw [kblame_k3, kget_k3 (by decide), kput_k3 (by decide)]
theorem kput3 {d j : Nat} (hd : d < r) (hr : r ≤ 1000) (hj : j < 7) (v : Int32) : kput (krows K 3 r g) 3 (Int32.ofNat d) (Int32.ofNat j) v = krows K 3 r (upd g (d * 7 + j) v) := by
  refine Prod.ext rfl (Prod.ext ?_ rfl)
  show kset (kset K.2.1 3 g) 3 (tput 7 r g (Int32.ofNat d) (Int32.ofNat j) v) = kset K.2.1 3 (upd g (d * 7 + j) v)
  rw [kset_kset, tput_in hd hj hr (by decide)]
end K3
section CM
variable {s : aS} {f : Int32} {K : CK} {W : Nat → Int32} {c : Nat} {G A B : Nat → Int32}
theorem c_com (C : CC s f K) (H : Hrd s G A B) (t d h hd : Int32) : KRun (loopM (mX11_commit_L29 0 t h hd d) (0, 0)) s f (kcom K t d (fun k => hGain h (G k) (A k)) (fun k => B k + (if Int32.ofNat k = 1 then hd else 0)) 3).1 (kcom K t d (fun k => hGain h (G k) (A k)) (fun k => B k + (if Int32.ofNat k = 1 then hd else 0)) 3).2 := by
  refine KRun.loop 3 (fun n => ((kcom K t d (fun k => hGain h (G k) (A k)) (fun k => B k + (if Int32.ofNat k = 1 then hd else 0)) n).1, Int32.ofNat n)) (fun n => (kcom K t d (fun k => hGain h (G k) (A k)) (fun k => B k + (if Int32.ofNat k = 1 then hd else 0)) n).2) (fun n s' hn C' o' => ?_) (fun s' C' => ?_) C
  · have H' := H.off o'
    show KRun (mX11_commit_L29 0 t h hd d ((kcom K t d (fun k => hGain h (G k) (A k)) (fun k => B k + (if Int32.ofNat k = 1 then hd else 0)) n).1, Int32.ofNat n)) s' f (.inl ((if kget (kcom K t d (fun k => hGain h (G k) (A k)) (fun k => B k + (if Int32.ofNat k = 1 then hd else 0)) n).2 1 t (Int32.ofNat n) = -1 then kcom K t d (fun k => hGain h (G k) (A k)) (fun k => B k + (if Int32.ofNat k = 1 then hd else 0)) n else ((kcom K t d (fun k => hGain h (G k) (A k)) (fun k => B k + (if Int32.ofNat k = 1 then hd else 0)) n).1 ||| (1 <<< (kget (kcom K t d (fun k => hGain h (G k) (A k)) (fun k => B k + (if Int32.ofNat k = 1 then hd else 0)) n).2 1 t (Int32.ofNat n) &&& (31 : Int32))), kwear (kblame (kcom K t d (fun k => hGain h (G k) (A k)) (fun k => B k + (if Int32.ofNat k = 1 then hd else 0)) n).2 (kget (kcom K t d (fun k => hGain h (G k) (A k)) (fun k => B k + (if Int32.ofNat k = 1 then hd else 0)) n).2 1 t (Int32.ofNat n)) (hGain h (G n) (A n)) d (-1)) (kget (kcom K t d (fun k => hGain h (G k) (A k)) (fun k => B k + (if Int32.ofNat k = 1 then hd else 0)) n).2 1 t (Int32.ofNat n)) (B n + (if Int32.ofNat n = 1 then hd else 0))) : Int32 × CK).1, Int32.ofNat (n + 1))) (if kget (kcom K t d (fun k => hGain h (G k) (A k)) (fun k => B k + (if Int32.ofNat k = 1 then hd else 0)) n).2 1 t (Int32.ofNat n) = -1 then kcom K t d (fun k => hGain h (G k) (A k)) (fun k => B k + (if Int32.ofNat k = 1 then hd else 0)) n else ((kcom K t d (fun k => hGain h (G k) (A k)) (fun k => B k + (if Int32.ofNat k = 1 then hd else 0)) n).1 ||| (1 <<< (kget (kcom K t d (fun k => hGain h (G k) (A k)) (fun k => B k + (if Int32.ofNat k = 1 then hd else 0)) n).2 1 t (Int32.ofNat n) &&& (31 : Int32))), kwear (kblame (kcom K t d (fun k => hGain h (G k) (A k)) (fun k => B k + (if Int32.ofNat k = 1 then hd else 0)) n).2 (kget (kcom K t d (fun k => hGain h (G k) (A k)) (fun k => B k + (if Int32.ofNat k = 1 then hd else 0)) n).2 1 t (Int32.ofNat n)) (hGain h (G n) (A n)) d (-1)) (kget (kcom K t d (fun k => hGain h (G k) (A k)) (fun k => B k + (if Int32.ofNat k = 1 then hd else 0)) n).2 1 t (Int32.ofNat n)) (B n + (if Int32.ofNat n = 1 then hd else 0))) : Int32 × CK).2
    generalize kcom K t d (fun k => hGain h (G k) (A k)) (fun k => B k + (if Int32.ofNat k = 1 then hd else 0)) n = X at C' ⊢
    unfold mX11_commit_L29
    dsimp only
    rw [if_neg (show ¬ (3 : Int32) ≤ Int32.ofNat n from nle (n := 3) hn (by decide)), ← ofN_succ]
    refine KRun.get (gR_ok C'.1 rfl) (KRun.get (gR_ok C'.2.1 rfl) (KRun.get (show mX8_get 31 t (Int32.ofNat n) s' = some (.inl (kget X.2 1 t (Int32.ofNat n)), s') from get_ok C'.2.t1) ?_))
    by_cases q : kget X.2 1 t (Int32.ofNat n) = -1
    · rw [if_pos q, if_pos q]
      exact KRun.get (x := X.1) rfl (KRun.ret C')
    · rw [if_neg q, if_neg q]
      refine KRun.bnd (K := kwear (kblame X.2 (kget X.2 1 t (Int32.ofNat n)) (hGain h (G n) (A n)) d (-1)) (kget X.2 1 t (Int32.ofNat n)) (B n + (if Int32.ofNat n = 1 then hd else 0))) (x := X.1 ||| (1 <<< (kget X.2 1 t (Int32.ofNat n) &&& (31 : Int32)))) ?_ fun s6 C6 _ => KRun.ret C6
      refine KRun.get (x := X.1 ||| (1 <<< (kget X.2 1 t (Int32.ofNat n) &&& (31 : Int32)))) rfl (KRun.get (gR_ok C'.1 rfl) (KRun.get (gR_ok C'.1 rfl) (KRun.get (H'.gain hn h) (KRun.bnd (KRun.of C' (blame_run C'.2)) fun s5 C5 o5 => KRun.get (gR_ok C5.1 rfl) (KRun.get (gR_ok C5.1 rfl) (KRun.get ((H'.off o5).blunt hn) (KRun.get (x := if Int32.ofNat n = 1 then hd else 0) ?_ (KRun.bnd (KRun.of C5 (wearOff_run C5.2)) fun s6 C6 _ => KRun.ret C6))))))))
      split <;> rfl
  · show KRun (mX11_commit_L29 0 t h hd d ((kcom K t d (fun k => hGain h (G k) (A k)) (fun k => B k + (if Int32.ofNat k = 1 then hd else 0)) 3).1, Int32.ofNat 3)) s' f _ _
    unfold mX11_commit_L29
    dsimp only
    rw [if_pos (show (3 : Int32) ≤ Int32.ofNat 3 from Int32.le_refl _)]
    exact KRun.ret C'
theorem com_same (S : Sm K W) (hk : kOk K) (hw : wOk K W c) {t : Nat} (ht : t < K.1 1) {d : Int32} (hG : ∀ k, k < 3 → isN (G k) 999) (hB : ∀ k, k < 3 → isN (B k) 109) (hs : gsum W (K.1 0) + 2997 ≤ 2997 * K.1 3) : ∀ n, n ≤ 3 →
    Sm (kcom K (Int32.ofNat t) d G B n).2 (wcom W t d G B n) ∧ (∀ q, q ≠ 4 → (kcom K (Int32.ofNat t) d G B n).2.1 q = K.1 q) ∧ kOk (kcom K (Int32.ofNat t) d G B n).2 ∧ (kcom K (Int32.ofNat t) d G B n).2.2.2 = K.2.2 ∧ wOk K (wcom W t d G B n) c ∧ gsum (wcom W t d G B n) (K.1 0) ≤ gsum W (K.1 0) + 999 * n ∧ (∀ i, i < 771 ∨ 1071 ≤ i → i ≠ 10 → (∀ p, p < 16 → i ≠ 13 + 8 * p + 3 ∧ i ≠ 13 + 8 * p + 2) → wcom W t d G B n i = W i) ∧ (kcom K (Int32.ofNat t) d G B n).1 = wbits W t n := by
  have b0 : K.1 0 ≤ 16 := hk 0 (by decide)
  have b1 : K.1 1 ≤ 6 := hk 1 (by decide)
  have b3 : K.1 3 ≤ 60 := hk 3 (by decide)
  intro n
  induction n with
  | zero => exact fun _ => ⟨S, fun _ _ => rfl, hk, rfl, hw, Nat.le_add_right _ _, fun _ _ _ _ => rfl, rfl⟩
  | succ n ih =>
    intro hn
    obtain ⟨S1, r1, k1, i1, w1, g1, o1, a1⟩ := ih (by omega)
    have ek : kcom K (Int32.ofNat t) d G B (n + 1) = if kget (kcom K (Int32.ofNat t) d G B n).2 1 (Int32.ofNat t) (Int32.ofNat n) = -1 then kcom K (Int32.ofNat t) d G B n else ((kcom K (Int32.ofNat t) d G B n).1 ||| (1 <<< (kget (kcom K (Int32.ofNat t) d G B n).2 1 (Int32.ofNat t) (Int32.ofNat n) &&& (31 : Int32))), kwear (kblame (kcom K (Int32.ofNat t) d G B n).2 (kget (kcom K (Int32.ofNat t) d G B n).2 1 (Int32.ofNat t) (Int32.ofNat n)) (G n) d (-1)) (kget (kcom K (Int32.ofNat t) d G B n).2 1 (Int32.ofNat t) (Int32.ofNat n)) (B n)) := rfl
    have ew : wcom W t d G B (n + 1) = if 0 ≤ wcom W t d G B n (141 + 4 * t + n) then upd (wblame (wcom W t d G B n) (wcom W t d G B n (141 + 4 * t + n)).toNatClampNeg (G n) d (-1)) (13 + 8 * (wcom W t d G B n (141 + 4 * t + n)).toNatClampNeg + 2) (imin 99 (wblame (wcom W t d G B n) (wcom W t d G B n (141 + 4 * t + n)).toNatClampNeg (G n) d (-1) (13 + 8 * (wcom W t d G B n (141 + 4 * t + n)).toNatClampNeg + 2) + B n)) else wcom W t d G B n := rfl
    have eb : wbits W t (n + 1) = if 0 ≤ W (141 + 4 * t + n) then wbits W t n ||| (1 <<< (W (141 + 4 * t + n) &&& (31 : Int32))) else wbits W t n := rfl
    have et : kget (kcom K (Int32.ofNat t) d G B n).2 1 (Int32.ofNat t) (Int32.ofNat n) = wcom W t d G B n (141 + 4 * t + n) := S1.tool k1 (by rw [r1 1 (by decide)]; exact ht) (by omega)
    have et2 : wcom W t d G B n (141 + 4 * t + n) = W (141 + 4 * t + n) := o1 _ (by omega) (by omega) (fun p _ => by omega)
    rw [ek, ew, eb, et, ← a1]
    rw [et2]
    clear ek ew eb et a1
    have w1' := w1
    generalize kcom K (Int32.ofNat t) d G B n = X at S1 r1 k1 i1 ⊢
    generalize wcom W t d G B n = W1 at S1 w1 g1 o1 et2 ⊢
    rcases slot_or hk w1 ht (show n < 3 by omega) with h | ⟨p, hp, hp16, h, -⟩
    · rw [et2] at h
      rw [h, if_pos rfl, if_neg (by decide), if_neg (by decide)]
      exact ⟨S1, r1, k1, i1, w1, by omega, o1, rfl⟩
    · rw [et2] at h
      rw [h, if_neg (ofN_ne1 (by omega)), if_pos (le0_ofN (by omega)), if_pos (le0_ofN (by omega)), ofN_cl (by omega)]
      obtain ⟨gn, hgn, eg⟩ := hG n (by omega)
      obtain ⟨bn, hbn, ebn⟩ := hB n (by omega)
      have hp1 : p < X.2.1 0 := by rw [r1 0 (by decide)]; exact hp
      have bl := Sm.blame (d := d) (f := -1) S1 k1 (q := p) hp1 (n := gn) (by omega)
      rw [← eg] at bl
      obtain ⟨S2, r2, k2, i2⟩ := bl
      obtain ⟨a, ha, ea⟩ := (w1.1 p hp).2.2.2.1
      -- the world behind the blame
      have o2 : ∀ i, i < 771 ∨ 1071 ≤ i → i ≠ 10 → i ≠ 13 + 8 * p + 3 → wblame W1 p (G n) d (-1) i = W1 i := fun i h1 h2 h3 => wblame_off h1 h2 h3
      have e3 : wblame W1 p (G n) d (-1) (13 + 8 * p + 3) = Int32.ofNat (a + gn) := by
        unfold wblame
        rw [wtells_off _ _ _ _ _ (Or.inl (by omega)) (by omega)]
        unfold upd
        rw [if_pos rfl, ea, eg, ofN_add]
      have gs2 : gsum (wblame W1 p (G n) d (-1)) (K.1 0) = gsum W1 (K.1 0) + gn := by
        have e9 : gsum (wblame W1 p (G n) d (-1)) (K.1 0) = gsum (upd W1 (13 + 8 * p + 3) (Int32.ofNat (a + gn))) (K.1 0) := gsum_eq _ fun q hq => by
          unfold upd
          by_cases z : q = p
          · rw [z, e3, if_pos rfl]
          · rw [o2 _ (by omega) (by omega) (by omega), if_neg (by omega)]
        have h9 := gsum_upd W1 (p := p) (Int32.ofNat (a + gn)) (K.1 0) hp
        rw [ea, ofN_cl (by omega), ofN_cl (by omega)] at h9
        omega
      have hle : gsum (wblame W1 p (G n) d (-1)) (K.1 0) ≤ 2997 * K.1 3 := by omega
      have hge := gsum_ge (wblame W1 p (G n) d (-1)) (p := p) (K.1 0) hp
      rw [e3, ofN_cl (by omega)] at hge
      have w2 : wOk K (wblame W1 p (G n) d (-1)) c := by
        refine w1.parts hk (fun i h1 h2 h9 h10 => o2 i (Or.inl h1) h10 (by omega)) (fun q hq => ?_) hle
        obtain ⟨z0, z1, z2, z3, z4, z5, z6⟩ := w1.1 q hq
        refine ⟨o2 _ (by omega) (by omega) (by omega), o2 _ (by omega) (by omega) (by omega), by rw [o2 _ (by omega) (by omega) (by omega)]; exact z2, ?_, by rw [o2 _ (by omega) (by omega) (by omega)]; exact z4, by rw [o2 _ (by omega) (by omega) (by omega)]; exact z5, o2 _ (by omega) (by omega) (by omega)⟩
        by_cases z : q = p
        · rw [z, e3]
          exact ⟨_, by omega, rfl⟩
        · rw [o2 _ (by omega) (by omega) (by omega)]
          exact z3
      obtain ⟨w, hw99, ew⟩ := (w2.1 p hp).2.2.1
      have hp2 : p < (kblame X.2 (Int32.ofNat p) (G n) d (-1)).1 0 := by rw [r2 0 (by decide)]; exact hp1
      have e2 : kget (kblame X.2 (Int32.ofNat p) (G n) d (-1)) 0 (Int32.ofNat p) 2 = wblame W1 p (G n) d (-1) (13 + 8 * p + 2) := S2.part k2 hp2 (c := 2) (by decide)
      have em : imin 99 (wblame W1 p (G n) d (-1) (13 + 8 * p + 2) + B n) = Int32.ofNat (min 99 (w + bn)) := by
        rw [ew, ebn, ofN_add]
        exact imin_of (n := 99) (by decide) (by omega)
      unfold kwear
      rw [e2, em]
      generalize hV : wblame W1 p (G n) d (-1) = W2 at *
      generalize kblame X.2 (Int32.ofNat p) (G n) d (-1) = K2 at *
      refine ⟨Sm.pput S2 k2 (q := p) (k := 2) hp2 (by decide) _, fun q hq => (r2 q hq).trans (r1 q hq), k2, i2.trans i1, w2.pupd hk hp (Or.inl ⟨rfl, _, by omega, rfl⟩), ?_, fun i h1 h10 hi => ?_, rfl⟩
      · rw [gsum_eq (W := W2) _ fun q hq => if_neg (by omega)]
        omega
      · have h16 := hi p hp16
        unfold upd
        rw [if_neg h16.2, o2 i h1 h10 h16.1]
        exact o1 i h1 h10 hi
end CM
