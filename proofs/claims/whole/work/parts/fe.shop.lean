/-! THE CALL shop on both sides -/
section SH0
variable {s s' : aS} {a : Nat} {K K1 : CK} {W W' : Nat → Int32} {M : MK} {c n : Nat}
theorem all_ofN (v : Int32) : ∃ b, v = Int32.ofNat b := by
  refine ⟨v.toBitVec.toNat, ?_⟩
  rcases v with ⟨⟨bv⟩⟩
  exact congrArg (fun z => Int32.ofUInt32 (UInt32.ofBitVec z)) (BitVec.eq_of_toNat_eq (by rw [BitVec.toNat_ofNat]; exact (Nat.mod_eq_of_lt bv.isLt).symm))
theorem wOk.head (hw : wOk K W c) (hk : kOk K) (e : ∀ i, 9 ≤ i → W' i = W i) (e5 : W' 5 = W 5) (h3 : isN (W' 3) 12) (h7 : isN (W' 7) 9999) (h8 : isN (W' 8) 100) : wOk K W' c := by
  have b0 : K.1 0 ≤ 16 := hk 0 (by decide)
  have b1 : K.1 1 ≤ 6 := hk 1 (by decide)
  have b2 : K.1 2 ≤ 6 := hk 2 (by decide)
  have b3 : K.1 3 ≤ 60 := hk 3 (by decide)
  have b5 : K.1 5 ≤ 30 := hk 5 (by decide)
  have z : ∀ j, 9 ≤ j → W j = W' j := fun j hj => (e j hj).symm
  obtain ⟨h1, h2, h3', g4, h5, h6, h7', -, g9, -, -⟩ := hw
  refine ⟨fun p hp => ?_, fun t ht k hk3 => ?_, fun m hm => ?_, fun d hd => ?_, fun d hd => ?_, fun g hg t ht ht6 => ?_, ?_, h3, ?_, h7, h8⟩
  · obtain ⟨p0, p1, p2, p3, p4, p5, p6⟩ := h1 p hp
    rw [z _ (by omega)] at p0 p1 p2 p3 p4 p5
    refine ⟨p0, p1, p2, p3, p4, p5, ?_⟩
    rw [z _ (by omega)] at p6
    refine p6.imp id fun ⟨t, ht, q1, q2⟩ => ⟨t, ht, q1, ?_⟩
    rwa [z (13 + 8 * p) (by omega), z _ (by omega)] at q2
  · have := h2 t ht k hk3
    rw [z _ (by omega)] at this
    rcases this with q | ⟨p, q1, q2, q3, q4⟩
    · exact Or.inl q
    · rw [z _ (by omega)] at q3 q4
      exact Or.inr ⟨p, q1, q2, q3, q4⟩
  · have := h3' m hm
    rwa [z _ (by omega)] at this
  · have := g4 d hd
    unfold dOk at this ⊢
    rw [e (171 + 7 * d) (by omega), e (171 + 7 * d + 1) (by omega), e (171 + 7 * d + 2) (by omega), e (171 + 7 * d + 3) (by omega), e (171 + 7 * d + 4) (by omega), e (171 + 7 * d + 5) (by omega), e5]
    exact this
  · have := h5 d hd
    rwa [z _ (by omega), z _ (by omega)] at this
  · have := h6 g hg t ht ht6
    rwa [z _ (by omega)] at this
  · have hg : gsum W' (K.1 0) = gsum W (K.1 0) := gsum_row _ fun p hp => (z _ (by omega)).symm
    rw [hg]
    exact h7'
  · rw [e5]
    exact g9
theorem Sm.text (S : Sm K W) (v : Int32) : Sm (kint K 7 v) (upd W 3 v) := by
  obtain ⟨⟨a0, a1, a2, a3, a4, a5⟩, ⟨c0, c1, c2, c3, c4, c5⟩, p, t, m, d, l, g⟩ := S
  have o : ∀ i, i ≠ 3 → upd W 3 v i = W i := fun i h => if_neg h
  exact ⟨⟨a0, a1, a2, a3, a4, a5⟩, ⟨rfl, c1, c2, c3, c4, c5⟩, fun i hi c hc => (p i hi c hc).trans (o _ (by omega)).symm, fun i hi c hc => (t i hi c hc).trans (o _ (by omega)).symm, fun i hi => (m i hi).trans (o _ (by omega)).symm, fun i hi c hc => (d i hi c hc).trans (o _ (by omega)).symm, fun i hi c hc => (l i hi c hc).trans (o _ (by omega)).symm, fun i hi c hc => (g i hi c hc).trans (o _ (by omega)).symm⟩
theorem Hld.text (H : Hld K W c) {t : Nat} (ht : t ≤ 12) : Hld (kint K 7 (Int32.ofNat t)) (upd W 3 (Int32.ofNat t)) c := by
  have o : ∀ i, i ≠ 3 → upd W 3 (Int32.ofNat t) i = W i := fun i h => if_neg h
  have hw := H.2.2
  obtain ⟨-, -, -, -, -, -, -, -, -, h7, h8⟩ := id hw
  refine ⟨H.1.text _, H.2.1, ?_⟩
  have := wOk.head hw H.2.1 (W' := upd W 3 (Int32.ofNat t)) (fun i hi => o i (by omega)) (o 5 (by decide)) ⟨t, ht, if_pos rfl⟩ (by rw [o 7 (by decide)]; exact h7) (by rw [o 8 (by decide)]; exact h8)
  exact this.rows fun _ _ _ => rfl
/-- what stands at a place is one Court alone -/
theorem Crt.uniq (C : Crt s a K) (D : Crt s a K1) : Cpy K1 K := by
  have e0 : (Sum.inl (1, cF a K) : AE) = Sum.inl (1, cF a K1) := C.1.1.symm.trans D.1.1
  have e1 : cF a K = cF a K1 := congrArg Prod.snd (Sum.inl.inj e0)
  have ge : ∀ k : Nat, (cF a K)[k]? = (cF a K1)[k]? := fun k => by rw [e1]
  refine ⟨fun t ht => ?_, fun t ht i hi => ?_, fun k h1 h2 => ?_, ?_⟩
  · obtain ⟨c1, -, c3, -, c5, -⟩ := C.2 t ht
    obtain ⟨d1, -, d3, -, d5, -⟩ := D.2 t ht
    have q : (Sum.inl (8, [Value.ref (a + 2 + 2 * t), .int (Int32.ofNat (tM t)), .int (Int32.ofNat (tW t)), .int (Int32.ofNat (K.1 t))]) : AE) = Sum.inl (8, [.ref (a + 2 + 2 * t), .int (Int32.ofNat (tM t)), .int (Int32.ofNat (tW t)), .int (Int32.ofNat (K1.1 t))]) := c1.1.symm.trans d1.1
    have q3 : some (Value.int (Int32.ofNat (K.1 t))) = some (Value.int (Int32.ofNat (K1.1 t))) := congrArg (fun z : Nat × List Value => z.2[3]?) (Sum.inl.inj q)
    exact ((ofN_inj (by omega) (by omega)).mp (Value.int.inj (Option.some.inj q3))).symm
  · have c2 := (C.2 t ht).2.1
    have d2 := (D.2 t ht).2.1
    have q : (Sum.inr (Sum.inl (0, tM t * tW t, K.2.1 t)) : AE) = Sum.inr (Sum.inl (0, tM t * tW t, K1.2.1 t)) := c2.1.symm.trans d2.1
    have q2 := congrArg (fun z : Nat × Nat × (Nat → Int32) => z.2.2 i) (Sum.inl.inj (Sum.inr.inj q))
    exact q2.symm
  · have h : k = 7 ∨ k = 8 ∨ k = 9 ∨ k = 10 ∨ k = 11 ∨ k = 12 := by omega
    have := ge k
    rcases h with rfl | rfl | rfl | rfl | rfl | rfl <;> exact (Value.int.inj (Option.some.inj this)).symm
  · exact (Value.ref.inj (Option.some.inj (ge 6))).symm
theorem Hld.cpy (H : Hld K W c) (h : Cpy K1 K) : Hld K1 W c := ⟨H.1.cpy h, H.2.1.rows h.1, H.2.2.rows fun t h1 _ => h.1 t h1⟩
/-- the reference's object as a reader finds it -/
def mrd (M : MK) (R : Nat → Nat → Int32) (n : Nat) : MK := ((fun j => if j = 16 then 0 else if j = 10 then 0 else if j = 9 then 0 else if j = 11 then Int32.ofNat n else if j = 0 then 0 else M.1 j), R)
theorem mrd_at (M : MK) (R : Nat → Nat → Int32) (n : Nat) : ∃ b, mrd M R n = mcur (mw (mrd M R n) (R 1)) 0 b := by
  obtain ⟨b, hb⟩ := all_ofN (M.1 12)
  refine ⟨b, Prod.ext (funext fun j => ?_) (mrow_self R 1).symm⟩
  show (if j = 16 then 0 else if j = 10 then 0 else if j = 9 then 0 else if j = 11 then Int32.ofNat n else if j = 0 then 0 else M.1 j) = (if j = 10 then Int32.ofNat 0 else if j = 12 then Int32.ofNat b else (if j = 16 then 0 else if j = 10 then 0 else if j = 9 then 0 else if j = 11 then Int32.ofNat n else if j = 0 then 0 else M.1 j))
  by_cases h10 : j = 10
  · rw [if_pos h10, if_neg (by omega), if_pos h10]
    rfl
  · rw [if_neg h10]
    by_cases h12 : j = 12
    · rw [if_pos h12, ← hb, if_neg (by omega), if_neg h10, if_neg (by omega), if_neg (by omega), if_neg (by omega), h12]
    · rw [if_neg h12, if_neg h10]
theorem m_uses (D : Mdl s 66 M) (h9 : M.1 9 = Int32.ofNat n) : ∃ s1, (∀ (β : Type) (g : Unit → MM β), (mbnd (mX12_uses 66) fun _ => mbnd (pI 11 16 66 0) fun x => g x) s = g () s1) ∧ Mdl s1 66 (mrd M M.2 n) ∧ Off s s1 66 (66 + 12) := by
  have u : MRun (mX12_uses 66) s 66 () (mint (mint (mint (mint M 0 0) 11 (Int32.ofNat n)) 9 0) 10 0) := by
    unfold mX12_uses
    refine MRun.onC D (MRun.bnd (mint_run D rfl) fun s1 D1 => MRun.get (x := Int32.ofNat n) (by rw [← h9]; exact gI_ok D1.1 rfl) (MRun.bnd (mint_run D1 rfl) fun s2 D2 => MRun.bnd (mint_run D2 rfl) fun s3 D3 => MRun.bnd (mint_run D3 rfl) fun s4 D4 => MRun.ret D4))
  obtain ⟨s1, e1, D1, o1⟩ := u
  obtain ⟨s2, e2, D2, o2⟩ := mint_run (k := 16) (v := 0) D1 rfl
  exact ⟨s2, fun β g => by rw [bnd_ok e1, bnd_ok e2], D2, o1.trans o2⟩
end SH0
section SH1
variable {s s4 : aS} {f f' : Int32} {K : CK} {M M4 : MK} {LW : Option (List Ln)} {c c' : Nat}
/-- what a text leaves that was refused -/
theorem World.read (H : World s f K M LW c) (h1 : c ≤ c') (h2 : c' < 100000) (fr : Fr (fun k => k = 0 ∨ k = 1 ∨ (41 ≤ k ∧ k ≤ 79)) s s4) (O0 : hasO s4 0 10 (tF f')) (O1 : hasO s4 1 9 [.ref 2, .int (Int32.ofNat 0)]) (R4 : Rdr s4) (D4 : Mdl s4 66 M4) (O4 : Ot s4) (e9 : M4.1 9 = 0) (e14 : f' = M4.1 14) (i6 : M4.1 6 = M.1 6) (i7 : M4.1 7 = M.1 7) (k1 : ∀ i, i < 1920 → M4.2 1 i = M.2 1 i) (k2 : M4.2 2 = M.2 2) (k5 : M4.2 5 = M.2 5) : World s4 f' K M4 LW c' := by
  obtain ⟨hl2, hl⟩ := H.lt
  obtain ⟨⟨⟨C, D, S, hk, hw, hc⟩, ⟨-, Sc, L, -, Lok⟩, LR⟩, ef, ⟨n, g, hn, -, I2, -, -⟩, R, O, li, o, h, A, mc, mr, ml⟩ := H
  have hl' := hl
  unfold lOk at hl'
  have C4 : CC s4 f' K := ⟨O0, C.2.fr fr fun k h1 h2 (q : k = 0 ∨ k = 1 ∨ (41 ≤ k ∧ k ≤ 79)) => by omega⟩
  have Sc4 : ScOk K.2.2.2 s4 := Sc.fr fr fun k q (z : k = 0 ∨ k = 1 ∨ (41 ≤ k ∧ k ≤ 79)) => by
    unfold scr at q
    omega
  have T4 : Tp s4 M4 := ⟨0, g, by decide, O1, hasI_fr I2 fr (by omega), e9, fun k hk => absurd hk (Nat.not_lt_zero k)⟩
  exact ⟨⟨⟨C4, D4, S.congr hk fun i hi => k1 i (by omega), hk, (hw.congr hk fun i hi => k1 i (by omega)).more h1, h2⟩, ⟨C4, Sc4, L.fr fr (by omega) (by omega), hl, Lok⟩, LR.low Lok k1⟩, e14, T4, R4, O4, li, o, h, A, mc.fr fr (by omega) (by omega) (fun k h1 h2 (q : k = 0 ∨ k = 1 ∨ (41 ≤ k ∧ k ≤ 79)) => by omega), mr.keep h1 i7 i6 k5 k2 (k1 4 (by decide)), ml.fr fr hl ⟨by omega, by omega⟩ (Sc4.stack hl) ⟨by omega, by omega⟩ (fun _ => by omega) (fun k h1 h2 (q : k = 0 ∨ k = 1 ∨ (41 ≤ k ∧ k ≤ 79)) => by omega) i6 k2⟩
/-- what a shop's text leaves that was taken -/
theorem World.shop {K4 : CK} (H : World s f K M LW c) (h1 : c ≤ c') (h2 : c' < 100000) (fr : Fr (fun k => k = 0 ∨ k = 1 ∨ k = 23 ∨ (28 ≤ k ∧ k ≤ 79)) s s4) (O0 : hasO s4 0 10 (tF f')) (C4 : Crt s4 28 K4) (H4 : Hld K4 (M4.2 1) c) (hK : K4.2.2.2 = K.2.2.2) (O1 : hasO s4 1 9 [.ref 2, .int (Int32.ofNat 0)]) (R4 : Rdr s4) (D4 : Mdl s4 66 M4) (O4 : Ot s4) (m4 : ∀ li o h A, MemC s K.2.2.2 li o h A → MemC s4 K.2.2.2 li o 0 A) (e9 : M4.1 9 = 0) (e14 : f' = M4.1 14) (i6 : M4.1 6 = M.1 6) (i7 : M4.1 7 = 0) (k4 : M4.2 1 4 = M.2 1 4) (k1 : ∀ i, 1071 ≤ i → M4.2 1 i = M.2 1 i) (k2 : M4.2 2 = M.2 2) : World s4 f' K4 M4 LW c' := by
  obtain ⟨hl2, hl⟩ := H.lt
  obtain ⟨⟨⟨C, D, S, hk, hw, hc⟩, ⟨-, Sc, L, -, Lok⟩, LR⟩, ef, ⟨n, g, hn, -, I2, -, -⟩, R, O, li, o, h, A, mc, mr, ml⟩ := H
  have hl' := hl
  unfold lOk at hl'
  have Sc4 : ScOk K.2.2.2 s4 := Sc.fr fr fun k q (z : k = 0 ∨ k = 1 ∨ k = 23 ∨ (28 ≤ k ∧ k ≤ 79)) => by
    unfold scr at q
    omega
  have T4 : Tp s4 M4 := ⟨0, g, by decide, O1, hasI_fr I2 fr (by omega), e9, fun k hk => absurd hk (Nat.not_lt_zero k)⟩
  refine ⟨⟨⟨⟨O0, C4⟩, D4, H4.1, H4.2.1, H4.2.2.more h1, h2⟩, ⟨⟨O0, C4⟩, by rw [hK]; exact Sc4, by rw [hK]; exact L.fr fr (by omega) (by omega), by rw [hK]; exact hl, Lok⟩, LR.congr k4 k1⟩, e14, T4, R4, O4, ?_⟩
  rw [hK]
  refine ⟨li, o, 0, A, m4 li o h A mc, ⟨fun j hj => absurd hj (Nat.not_lt_zero j), i7, ?_⟩, ml.fr fr hl ⟨by omega, by omega⟩ (Sc4.stack hl) ⟨by omega, by omega⟩ (fun _ => by omega) (fun k h1 h2 (q : k = 0 ∨ k = 1 ∨ k = 23 ∨ (28 ≤ k ∧ k ≤ 79)) => by omega) i6 k2⟩
  rw [i6, k2]
  exact mr.2.2.imp id fun ⟨x, K, z1, z2, ⟨z3, z4, z5⟩, z6⟩ => ⟨x, K, z1, z2, ⟨z3, z4, z5.more h1⟩, z6⟩
end SH1
section SH2
variable {s sm : aS} {f : Int32} {K : CK} {M : MK} {LW : Option (List Ln)} {c c' : Nat}
theorem m_before (C : Mdl s 66 M) : MRun (loopM (mX12_shop_L2 66) 0) s 66 () (M.1, mrow M.2 3 (rst (M.2 3) (M.2 1) 1920)) := by
  refine row_loop (q := 3) (M.2 1) (by decide) (by decide) rfl (by decide) (by decide) (fun k s' M' hk C' e1 e2 => ?_) (fun s' => ?_) C
  · unfold mX12_shop_L2
    have ld := row_ld C' (q := 1) (i := k) (by decide) (by decide) rfl (show k < 2769 by omega) (by decide)
    rw [e2 1 (by decide)] at ld
    rw [if_neg (show ¬ (1920 : Int32) ≤ Int32.ofNat k from nle (n := 1920) hk (by decide)), ofN_succ, bnd_ok (gR_ok C'.1 rfl), bnd_ok (gR_ok C'.1 rfl), bnd_ok ld]
  · unfold mX12_shop_L2
    rw [if_pos (show (1920 : Int32) ≤ Int32.ofNat 1920 from Int32.le_refl _)]
    rfl
theorem m_restore (C : Mdl s 66 M) : MRun (loopM (mX12_shop_L92 66) 0) s 66 () (M.1, mrow M.2 1 (rst (M.2 1) (M.2 3) 1920)) := by
  refine row_loop (q := 1) (M.2 3) (by decide) (by decide) rfl (by decide) (by decide) (fun k s' M' hk C' e1 e2 => ?_) (fun s' => ?_) C
  · unfold mX12_shop_L92
    have ld := row_ld C' (q := 3) (i := k) (by decide) (by decide) rfl (show k < 1920 by omega) (by decide)
    rw [e2 3 (by decide)] at ld
    rw [if_neg (show ¬ (1920 : Int32) ≤ Int32.ofNat k from nle (n := 1920) hk (by decide)), ofN_succ, bnd_ok (gR_ok C'.1 rfl), bnd_ok (gR_ok C'.1 rfl), bnd_ok ld]
  · unfold mX12_shop_L92
    rw [if_pos (show (1920 : Int32) ≤ Int32.ofNat 1920 from Int32.le_refl _)]
    rfl
theorem m_restoreB (C : Mdl s 66 M) : MRun (loopM (mX12_shop_L92b 66) 0) s 66 () (M.1, mrow M.2 1 (rst (M.2 1) (M.2 3) 1920)) := by
  refine row_loop (q := 1) (M.2 3) (by decide) (by decide) rfl (by decide) (by decide) (fun k s' M' hk C' e1 e2 => ?_) (fun s' => ?_) C
  · unfold mX12_shop_L92b
    have ld := row_ld C' (q := 3) (i := k) (by decide) (by decide) rfl (show k < 1920 by omega) (by decide)
    rw [e2 3 (by decide)] at ld
    rw [if_neg (show ¬ (1920 : Int32) ≤ Int32.ofNat k from nle (n := 1920) hk (by decide)), ofN_succ, bnd_ok (gR_ok C'.1 rfl), bnd_ok (gR_ok C'.1 rfl), bnd_ok ld]
  · unfold mX12_shop_L92b
    rw [if_pos (show (1920 : Int32) ≤ Int32.ofNat 1920 from Int32.le_refl _)]
    rfl
/-- the reference's object while it reads a shop's text -/
def msh (M : MK) (n : Nat) : MK := mrd M (mrow M.2 3 (rst (M.2 3) (M.2 1) 1920)) n
noncomputable def mref : MM Int32 := mbnd (loopM (mX12_shop_L2 66) 0) fun _ => mX12_readAll 66 1
theorem shop_key (H : World s f K M LW c) {n : Nat} (h9 : M.1 9 = Int32.ofNat n) (hn4 : n ≤ 400) (D : Mdl sm 66 M) : AllR (mX10_readLiness 54 14) s K mref sm (msh M n) (M.2 1) n c := by
  obtain ⟨⟨⟨C, -, S, hk, hw, hc⟩, -, -⟩, ef, ⟨n', g, hn, O1, I2, e9, hb⟩, ⟨⟨Kd, Dd⟩, ⟨x, F, R⟩, -⟩, O, -⟩ := id H
  have hnn : n' = n := (ofN_inj (by omega) (by omega)).mp (e9.symm.trans h9)
  subst hnn
  obtain ⟨B, hB⟩ : ∃ B : Nat → Nat, ∀ k, k < n' → B k < 256 ∧ g k = Int32.ofNat (B k) ∧ M.2 6 k = sb (B k) := ⟨fun k => if h : k < n' then (hb k h).choose else 0, fun k hk => by
    dsimp only
    rw [dif_pos hk]
    exact (hb k hk).choose_spec⟩
  have T : Tc s n' B := ⟨g, ⟨O1, I2⟩, hn, fun k hk => ⟨(hB k hk).1, (hB k hk).2.1⟩⟩
  have TB : Byt (msh M n') n' B := ⟨rfl, hn, fun k hk => ⟨(hB k hk).1, (congrFun (mrow_ne M.2 (rst (M.2 3) (M.2 1) 1920) (show (6 : Nat) ≠ 3 by decide)) k).trans (hB k hk).2.2⟩⟩
  -- the class
  obtain ⟨s1, e1, C1, o1⟩ := copy_run Dd C.2 (by omega)
  have cp := kcopy_cpy Kd K
  have R1 : RdS s1 x F := R.off o1 (Or.inr (by decide))
  have T1 : Tc s1 n' B := T.off o1 (by decide)
  have st : mX7_start 54 s = some (.inl (), s1) := by
    unfold mX7_start
    rw [onC_ok R.1, bnd_ok (gR_ok R.1 (show _ = some (Value.ref 41) from rfl)), bnd_ok (gR_ok R.1 (show _ = some (Value.ref 28) from rfl)), bnd_ok e1]
    rfl
  obtain ⟨c0, F', x', ⟨s2, e2, R2, o2⟩, A2, -, -⟩ := splits T1 R1
  obtain ⟨s3, e3, R3, o3⟩ := puts R2 (k := 10) (by decide) (by decide) 0
  obtain ⟨s4, e4, R4, o4⟩ := puts R3 (k := 11) (by decide) (by decide) (-1)
  have A4 : Ats (xsets (xsets x' 10 0) 11 (-1)) F' n' B c0 0 := A2.keep fun j h1 h2 => (if_neg (by omega)).trans (if_neg (by omega))
  have o14 : Off s1 s4 54 58 := o2.trans (o3.trans o4)
  have oo : Off s s4 41 58 := (o1.wide (by decide) (by decide)).trans (o14.wide (by decide) (by decide))
  have C4 : Crt s4 41 (kcopy Kd K) := C1.off o14 (Or.inl (by decide))
  have T4 : Tc s4 n' B := T1.off o14 (by decide)
  have H4 : Hld (kcopy Kd K) (M.2 1) c := Hld.cpy ⟨S, hk, hw⟩ cp
  have g7 : gI 7 7 54 s4 = some (.inl (thing B n' (tb B n' 0)), s4) := by
    rw [← A4.2.2.2.1]
    exact rgis R4 (by decide) (by decide)
  have run : ∀ {o : (Int32 ⊕ Nat) × aS}, (if thing B n' (tb B n' 0) = -1 then mret 1 else mbnd (loopM (mX10_readLiness_L30 54 14) 0) lK) s4 = some o → mX10_readLiness 54 14 s = some o := fun h => by
    unfold mX10_readLiness
    rw [onC_ok R.1, bnd_ok (nox_ok st), bnd_ok e2, bnd_ok e3, bnd_ok e4, bnd_ok g7]
    exact h
  -- the reference
  obtain ⟨m1, f1, D1, p1⟩ := m_before D
  obtain ⟨m2, f2, D2, p2⟩ := m_uses D1 h9
  have D2 : Mdl m2 66 (msh M n') := D2
  obtain ⟨b0, hb0⟩ := mrd_at M (mrow M.2 3 (rst (M.2 3) (M.2 1) 1920)) n'
  have er : mrow M.2 3 (rst (M.2 3) (M.2 1) 1920) 1 = M.2 1 := mrow_ne _ _ (by decide)
  rw [er] at hb0
  have hb0 : msh M n' = mcur (mw (msh M n') (M.2 1)) 0 b0 := hb0
  rw [hb0] at D2
  obtain ⟨m3, f3, D3, p3⟩ := m_blanks (M := mw (msh M n') (M.2 1)) TB.mw D2 (Nat.zero_le n')
  have D3 : Mdl m3 66 (mcur (mw (msh M n') (M.2 1)) (tb B n' 0) (tb B n' 0)) := D3
  have g10 : gI 11 10 66 m3 = some (.inl (Int32.ofNat (tb B n' 0)), m3) := gI_ok D3.1 rfl
  have g11 : gI 11 11 66 m3 = some (.inl (Int32.ofNat n'), m3) := gI_ok D3.1 rfl
  have pp : Off sm m3 66 (66 + 12) := p1.trans (p2.trans p3)
  have runm : ∀ {o : (Int32 ⊕ Nat) × aS}, (if Int32.ofNat (tb B n' 0) = Int32.ofNat n' then mret 0 else mbnd (loopM (mX12_readAll_L28 66 1) 0) lR) m3 = some o → mref sm = some o := fun h => by
    unfold mref
    rw [bnd_ok f1]
    unfold mX12_readAll
    rw [onC_ok D1.1]
    refine (f2 _ _).trans ?_
    rw [bnd_ok f3, bnd_ok g10, bnd_ok g11]
    exact h
  have hp := tb_le B n' 0
  by_cases he : tb B n' 0 < n'
  · have hbb : ∀ q, q < n' → B q < 256 := fun q hq => (hB q hq).1
    have key := lines_loop TB 14 0 0 (tb B n' 0) (tb B n' 0) s4 m3 _ (kcopy Kd K) (M.2 1) rfl T4 R4 A4 (Nat.zero_le _) C4 hp (tb_nxt B n' 0) D3 H4 (if_pos rfl)
    rw [if_neg (thing_not_end hbb he)] at run
    rw [if_neg (fun q => by rw [ofN_inj (by omega) (by omega)] at q; omega)] at runm
    rcases key with ⟨z, x', F', K', W', i', ⟨s5, a1, a2, a3, a4⟩, b1, b2, ⟨m5, d1, d2, d3⟩, b3⟩ | ⟨x', F', K', W', i', b', m, ⟨s5, a1, a2, a3, a4⟩, b1, ⟨m5, d1, d2, d3⟩, b3, b4, b5, b6⟩
    · exact Or.inl ⟨z, x', F', K', W', i', ⟨s5, run a1, a2, a3, oo.trans a4⟩, b1, b2, ⟨m5, runm d1, d2, pp.trans d3⟩, b3⟩
    · exact Or.inr ⟨x', F', K', W', i', b', m, ⟨s5, run a1, a2, a3, oo.trans a4⟩, b1, ⟨m5, runm d1, d2, pp.trans d3⟩, b3, b4, b5.trans cp.2.2.2, b6⟩
  · have hen : tb B n' 0 = n' := by omega
    rw [if_pos (by rw [hen]; exact thing_end)] at run
    rw [if_pos (by rw [hen])] at runm
    exact Or.inr ⟨_, F', kcopy Kd K, M.2 1, tb B n' 0, tb B n' 0, 0, ⟨s4, run rfl, R4, C4, oo⟩, if_pos rfl, ⟨m3, runm rfl, D3, pp⟩, by decide, H4, cp.2.2.2, wkp.rf _⟩
theorem shop_read (H : World s f K M LW c) {n : Nat} (h9 : M.1 9 = Int32.ofNat n) (hn4 : n ≤ 400) : ∃ s3 y, Off s s3 41 58 ∧ gI 7 11 54 s3 = some (.inl y, s3) ∧ (∃ x F, RdS s3 x F) ∧
    ((mX10_readLiness 54 14 s = some (.inl 0, s3) ∧ (∃ Kd, Crt s3 41 Kd) ∧ ∀ sm, Mdl sm 66 M → ∃ z W' i', y = Int32.ofNat z ∧ MRun mref sm 66 (-1) (mcur (mw (msh M n) W') i' z) ∧ wkp (M.2 1) W') ∨
    (mX10_readLiness 54 14 s = some (.inl 1, s3) ∧ y = -1 ∧ ∃ K', Crt s3 41 K' ∧ K'.2.2.2 = K.2.2.2 ∧ ∀ sm, Mdl sm 66 M → ∃ W' i' b' m, MRun mref sm 66 (Int32.ofNat m) (mcur (mw (msh M n) W') i' b') ∧ m ≤ 14 ∧ Hld K' W' c ∧ wkp (M.2 1) W')) := by
  have D := H.1.1.2.1
  rcases shop_key H h9 hn4 D with ⟨z, x', F', K', W', i', ⟨s5, a1, a2, a3, a4⟩, b1, -⟩ | ⟨x', F', K', W', i', b', m, ⟨s5, a1, a2, a3, a4⟩, b1, -, -, -, b5, -⟩
  · have gy : gI 7 11 54 s5 = some (.inl (x' 11), s5) := rgis a2 (by decide) (by decide)
    refine ⟨s5, x' 11, a4, gy, ⟨x', F', a2⟩, Or.inl ⟨a1, ⟨K', a3⟩, fun sm Dm => ?_⟩⟩
    rcases shop_key H h9 hn4 Dm with ⟨z, x2, F2, K2, W2, i2, ⟨s6, q1, q2, q3, q4⟩, r1, -, r3, r4⟩ | ⟨x2, F2, K2, W2, i2, b2, m2, ⟨s6, q1, -⟩, -⟩
    · have e := a1.symm.trans q1
      have es : s5 = s6 := congrArg Prod.snd (Option.some.inj e)
      subst es
      have gz : gI 7 11 54 s5 = some (.inl (x2 11), s5) := rgis q2 (by decide) (by decide)
      have ey := Sum.inl.inj (congrArg Prod.fst (Option.some.inj (gy.symm.trans gz)))
      exact ⟨z, W2, i2, ey.trans r1, r3, r4⟩
    · have e := congrArg Prod.fst (Option.some.inj (a1.symm.trans q1))
      exact absurd (Sum.inl.inj e) (by decide)
  · have gy : gI 7 11 54 s5 = some (.inl (x' 11), s5) := rgis a2 (by decide) (by decide)
    refine ⟨s5, x' 11, a4, gy, ⟨x', F', a2⟩, Or.inr ⟨a1, b1, K', a3, b5, fun sm Dm => ?_⟩⟩
    rcases shop_key H h9 hn4 Dm with ⟨z, x2, F2, K2, W2, i2, ⟨s6, q1, -⟩, -⟩ | ⟨x2, F2, K2, W2, i2, b2, m2, ⟨s6, q1, q2, q3, q4⟩, r1, r2, r3, r4, r5, r6⟩
    · have e := congrArg Prod.fst (Option.some.inj (a1.symm.trans q1))
      exact absurd (Sum.inl.inj e) (by decide)
    · have e := a1.symm.trans q1
      have es : s5 = s6 := congrArg Prod.snd (Option.some.inj e)
      subst es
      exact ⟨W2, i2, b2, m2, r2, r3, r4.cpy (Crt.uniq q3 a3), r6⟩
end SH2
