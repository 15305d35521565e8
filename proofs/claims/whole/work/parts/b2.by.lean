/-! LAUNDERING: the reference's choice of ways is the class's -/
theorem least_ex {P : Nat → Prop} (h : ∃ n, P n) : ∃ n, P n ∧ ∀ m, m < n → ¬ P m := by
  obtain ⟨n, hn⟩ := h
  have key : ∀ k, ∀ n, n ≤ k → P n → ∃ n, P n ∧ ∀ m, m < n → ¬ P m := by
    intro k
    induction k with
    | zero =>
      intro n hk hn
      have : n = 0 := by omega
      subst this
      exact ⟨0, hn, fun m hm => absurd hm (Nat.not_lt_zero m)⟩
    | succ k ih =>
      intro n hk hn
      rcases Classical.em (∃ m, m < n ∧ P m) with ⟨m, h1, h2⟩ | h
      · exact ih m (by omega) h2
      · exact ⟨n, hn, fun m hm q => h ⟨m, hm, q⟩⟩
  exact key n n (Nat.le_refl n) hn
def gdO (V : Nat → Nat → Nat) (np k : Nat) (L n : Int) (o : Nat) : Prop := o ≤ np ∧ ¬ V k o = 1000000 ∧ Cm V np (2 - k) (L - V k o) (n - cs1 o)
theorem cs1_cs (o : Nat) : cs1 o = (cs o : Int) := by
  unfold cs1 cs
  split <;> rfl
theorem oI_succ (o : Nat) : oI o + 1 = oI (o + 1) := by
  cases o with
  | zero => rfl
  | succ p => exact ofN_succ p
theorem oI_nn (o : Nat) (ho : o < 2 ^ 31) : (if 0 ≤ oI o then (1 : Int32) else 0) = Int32.ofNat (cs o) := by
  cases o with
  | zero => rfl
  | succ p =>
    show (if 0 ≤ Int32.ofNat p then _ else _) = _
    rw [if_pos (le0_ofN (by omega))]
    unfold cs
    rw [if_neg (by omega)]
    rfl
theorem oI_cb (o : Nat) (ho : o < 2 ^ 31) : (if 0 ≤ oI o then 1 <<< (oI o &&& (31 : Int32)) else 0) = cb o := by
  cases o with
  | zero => rfl
  | succ p =>
    show (if 0 ≤ Int32.ofNat p then _ else _) = _
    rw [if_pos (le0_ofN (by omega))]
    rfl
section BY
variable {s : aS} {K : CK} {M : MK} {W : Nat → Int32} {LW : Option (List Ln)} {c t : Nat} {wd gd : Int32}
theorem m_find (H : LHs K W LW c t wd) {k : Nat} (h3 : k < 3) {L n bits : Int32} (hL1 : -3000000 ≤ L.toInt) (hL2 : L.toInt ≤ 9999) (hn1 : -10 ≤ n.toInt) (hn2 : n.toInt ≤ 10) {o : Nat} (ho : gdO (nV W LW wd gd t) (K.1 0) k L.toInt n.toInt o) (hmin : ∀ m, m < o → ¬ gdO (nV W LW wd gd t) (K.1 0) k L.toInt n.toInt m) : ∀ (q p : Nat) (s : aS) (M : MK), q + p = o → Mdl s 66 M → LHm W wd gd M → QX I3 (loopM (mX12_waysBy_L29 66 (Int32.ofNat t) (L, n, bits, Int32.ofNat k)) (oI p)) s M (oI o) := by
  have hb16 : K.1 0 ≤ 16 := H.2.2.1 0 (by decide)
  -- one look
  have look : ∀ (p : Nat) (s : aS) (M : MK), p ≤ K.1 0 → Mdl s 66 M → LHm W wd gd M → (gdO (nV W LW wd gd t) (K.1 0) k L.toInt n.toInt p → QX I3 (mX12_waysBy_L29 66 (Int32.ofNat t) (L, n, bits, Int32.ofNat k) (oI p)) s M (.inr (oI p))) ∧ (¬ gdO (nV W LW wd gd t) (K.1 0) k L.toInt n.toInt p → QX I3 (mX12_waysBy_L29 66 (Int32.ofNat t) (L, n, bits, Int32.ofNat k) (oI p)) s M (.inl (oI (p + 1)))) := by
    intro p s M hp C h
    have hv := nV_le (gd := gd) H h3 (o := p) hp
    have hcs := cs_le p
    have hvb : nV W LW wd gd t k p ≤ 1000000 := by omega
    by_cases hf : nV W LW wd gd t k p = 1000000
    · refine ⟨fun g => absurd hf g.2.1, fun _ => ?_⟩
      unfold mX12_waysBy_L29
      refine QX.bnd (m_ans H C h h3 hp) fun s1 M1 C1 _ _ => ?_
      rw [hf, if_pos (by rfl), oI_succ]
      exact QX.ret C1
    · have hne : ¬ Int32.ofNat (nV W LW wd gd t k p) = 1000000 := fun z => hf ((ofN_inj (m := 1000000) (by omega) (by decide)).mp z)
      have e1 : (L - Int32.ofNat (nV W LW wd gd t k p)).toInt = L.toInt - nV W LW wd gd t k p := by
        rw [i_sub (by rw [ofN_toInt (by omega)]; omega) (by rw [ofN_toInt (by omega)]; omega), ofN_toInt (by omega)]
      have e2 : (n - Int32.ofNat (cs p)).toInt = n.toInt - cs1 p := by
        rw [i_sub (by rw [ofN_toInt (by omega)]; omega) (by rw [ofN_toInt (by omega)]; omega), ofN_toInt (by omega), cs1_cs]
      have hbN := bN_le W LW wd gd t (K.1 0) (k + 1) (L.toInt - nV W LW wd gd t k p) (2 ^ (3 - (k + 1)))
      have hiff : (Int32.ofNat (bN W LW wd gd t (K.1 0) (k + 1) (L.toInt - nV W LW wd gd t k p) (2 ^ (3 - (k + 1)))) ≤ n - Int32.ofNat (cs p)) ↔ gdO (nV W LW wd gd t) (K.1 0) k L.toInt n.toInt p := by
        have h9 := bN_Cm (W := W) (LW := LW) (wd := wd) (gd := gd) (t := t) (K.1 0) (k + 1) (by omega) (left := L.toInt - nV W LW wd gd t k p) (m := n.toInt - cs1 p) (by omega) (by rw [cs1_cs]; omega)
        rw [i32_le, e2, ofN_toInt (by omega), h9, show 3 - (k + 1) = 2 - k by omega]
        exact ⟨fun z => ⟨hp, hf, z⟩, fun z => z.2.2⟩
      have body : ∀ (r : Int32 ⊕ Int32), (if Int32.ofNat (bN W LW wd gd t (K.1 0) (k + 1) (L.toInt - nV W LW wd gd t k p) (2 ^ (3 - (k + 1)))) ≤ n - Int32.ofNat (cs p) then .inr (oI p) else .inl (oI (p + 1))) = r → QX I3 (mX12_waysBy_L29 66 (Int32.ofNat t) (L, n, bits, Int32.ofNat k) (oI p)) s M r := by
        intro r hr
        unfold mX12_waysBy_L29
        refine QX.bnd (m_ans H C h h3 hp) fun s1 M1 C1 k1 i1 => ?_
        rw [if_neg hne]
        refine QX.bnd (m_ans H C1 (h.keep k1 i1) h3 hp) fun s2 M2 C2 k2 i2 => ?_
        have h2 := (h.keep k1 i1).keep k2 i2
        have hs := m_swaps H C2 h2 (k := k + 1) (by omega) (left := L - Int32.ofNat (nV W LW wd gd t k p))
        rw [e1] at hs
        refine QX.bnd (show QX I3 (mX12_swapsFrom 66 (Int32.ofNat t) (Int32.ofNat k + 1) (L - Int32.ofNat (nV W LW wd gd t k p))) s2 M2 _ by rw [ofN_succ]; exact hs) fun s3 M3 C3 _ _ => ?_
        refine QX.get (x := Int32.ofNat (cs p)) ?_ ?_
        · rw [← oI_nn p (by omega)]
          show (if 0 ≤ oI p then mret 1 else mret 0 : MM Int32) s3 = _
          split <;> rfl
        · show QX I3 (if _ ≤ n - Int32.ofNat (cs p) then _ else _) s3 M3 r
          rw [← hr]
          split
          · exact QX.ret C3
          · rw [oI_succ]
            exact QX.ret C3
      exact ⟨fun g => body _ (if_pos (hiff.mpr g)), fun g => body _ (if_neg (fun z => g (hiff.mp z)))⟩
  intro q
  induction q with
  | zero =>
    intro p s M hp C h
    have e : p = o := by omega
    subst e
    rw [loopM_eq]
    exact QX.bnd ((look p s M ho.1 C h).1 ho) fun s1 M1 C1 _ _ => QX.ret C1
  | succ q ih =>
    intro p s M hp C h
    have hlt : p < o := by omega
    have ho16 := ho.1
    rw [loopM_eq]
    exact QX.bnd ((look p s M (by omega) C h).2 (hmin p hlt)) fun s1 M1 C1 k1 i1 => ih (p + 1) s1 M1 (by omega) C1 (h.keep k1 i1)
/-- one sort is chosen -/
theorem m_choose (H : LHs K W LW c t wd) {k : Nat} (h3 : k < 3) {L n bits : Int32} (hL1 : -3000000 ≤ L.toInt) (hL2 : L.toInt ≤ 9999) (hn1 : -10 ≤ n.toInt) (hn2 : n.toInt ≤ 10) {o : Nat} (ho : gdO (nV W LW wd gd t) (K.1 0) k L.toInt n.toInt o) (hmin : ∀ m, m < o → ¬ gdO (nV W LW wd gd t) (K.1 0) k L.toInt n.toInt m) (C : Mdl s 66 M) (h : LHm W wd gd M) : QX I3 (mX12_waysBy_L20 66 (Int32.ofNat t) (L, n, bits, Int32.ofNat k)) s M (.inl (L - Int32.ofNat (nV W LW wd gd t k o), n - Int32.ofNat (cs o), bits ||| cb o, Int32.ofNat (k + 1))) := by
  have hb16 : K.1 0 ≤ 16 := H.2.2.1 0 (by decide)
  have ho16 := ho.1
  have k3 : ¬ (3 : Int32) ≤ Int32.ofNat k := nle (n := 3) h3 (by decide)
  unfold mX12_waysBy_L20
  rw [if_neg k3]
  refine QX.bnd (m_find H h3 hL1 hL2 hn1 hn2 ho hmin o 0 s M (by omega) C h) fun s1 M1 C1 k1 i1 => ?_
  refine QX.bnd (m_ans H C1 (h.keep k1 i1) h3 ho.1) fun s2 M2 C2 _ _ => ?_
  rw [mret_mbnd]
  refine QX.get (x := Int32.ofNat (cs o)) ?_ ?_
  · rw [← oI_nn o (by omega)]
    show (if 0 ≤ oI o then mret 1 else mret 0 : MM Int32) s2 = _
    split <;> rfl
  · rw [mret_mbnd]
    refine QX.get (x := cb o) ?_ ?_
    · rw [← oI_cb o (by omega)]
      show (if 0 ≤ oI o then mret (1 <<< (oI o &&& (31 : Int32))) else mret 0 : MM Int32) s2 = _
      split <;> rfl
    · rw [mret_mbnd, ← ofN_succ]
      exact QX.ret C2
end BY
