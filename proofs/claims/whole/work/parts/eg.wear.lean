/-! THE CLASS HEARS WHAT A DEED BLUNTS -/
section HWR
variable {s : aS} {f : Int32} {K : CK} {LW : Option (List Ln)} {t master harm hard : Int32}
theorem HG.same {s s1 : aS} {n : Nat} (H : HG s K LW t harm hard master n) (e2 : s1.2 = s.2) (e5 : s1.1 5 = s.1 5) (e6 : s1.1 6 = s.1 6) : HG s1 K LW t harm hard master n := by
  obtain ⟨⟨g, a1, a2⟩, h, b1, b2⟩ := H
  exact ⟨⟨g, ⟨e5.trans a1.1, by rw [e2]; exact a1.2⟩, a2⟩, h, ⟨e6.trans b1.1, by rw [e2]; exact b1.2⟩, b2⟩
theorem hearW_step (C : CL s f K LW) (ho : hOk K t) {n : Nat} (hn : n < 3) (HGs : HG s K LW t harm hard master 3) (H : HW s K LW t harm hard master n) : ∃ s1, mX2_hearWear_L3 3 28 t master harm hard (Int32.ofNat n) s = some (.inl (.inl (Int32.ofNat n + 1)), s1) ∧ ScR K.2.2.2 s s1 ∧ HG s1 K LW t harm hard master 3 ∧ HW s1 K LW t harm hard master (n + 1) := by
  have hl := C.2.2.2.1
  have n3 : ¬ (3 : Int32) ≤ Int32.ofNat n := nle (n := 3) hn (by decide)
  obtain ⟨gW, w1, w2⟩ := H
  have st : ∀ {s' : aS} {g : Nat → Int32} (v : Int32), hasI s' 7 0 3 g → stI 0 7 (Int32.ofNat n) v s' = some (.inl (), sup s' 7 (rwE 3 (upd g n v))) := fun v hg => by
    rw [stI_ok hg (ofN_nn (by omega)) (by rw [ofN_cl (by omega)]; exact hn), ofN_cl (by omega)]
  obtain ⟨s1, b1, b2, b5, b6, b7⟩ := lay_any (x := kget K 1 t (Int32.ofNat n)) (master := master) (harm := harm) (hard := hard) C
  have C1 := C.scR b2
  by_cases hx : kget K 1 t (Int32.ofNat n) = -1
  · have hv : hVal K LW t harm hard master 3 n = 0 := if_pos hx
    have W1 : hasI s1 7 0 3 gW := ⟨b7.trans w1.1, by rw [b2.1]; exact w1.2⟩
    have r7 : ScR K.2.2.2 s1 (sup s1 7 (rwE 3 (upd gW n 0))) := ScR.put hl rfl
    refine ⟨_, ?_, b2.tr r7, (HGs.same b2.1 b5 b6).same rfl (sup_at (by decide)) (sup_at (by decide)), upd gW n 0, hasI_put W1.2, ?_⟩
    · unfold mX2_hearWear_L3
      rw [if_neg n3, bnd_ok (gR_ok C.1.2.1 rfl)]
      refine (bnd_ok (show mX8_get 31 t (Int32.ofNat n) s = some (.inl (kget K 1 t (Int32.ofNat n)), s) from get_ok C.1.2.t1)).trans ?_
      rw [bnd_ok b1, bnd_ok (gR_ok C1.2.1.1 rfl), if_pos hx, mret_mbnd, bnd_ok (st 0 W1)]
      rfl
    · have := fst_upd (n := n) w2
      rwa [hv] at this
  · have h9 : kget K 0 (kget K 1 t (Int32.ofNat n)) 4 = 0 ∨ kget K 0 (kget K 1 t (Int32.ofNat n)) 4 = 1 := (ho n hn).imp id fun q => q.elim id (fun q => absurd q hx)
    have hv : hVal K LW t harm hard master 3 n = lawTot LW (cRow K (kget K 1 t (Int32.ofNat n)) harm hard master) 3 := if_neg hx
    obtain ⟨s1', a1, a2, tot⟩ := lay_tot (x := kget K 1 t (Int32.ofNat n)) (master := master) (harm := harm) (hard := hard) C h9
    have hs : s1' = s1 := by
      have := a1.symm.trans b1
      injection this with e
      injection e
    subst hs
    obtain ⟨s2, c1, c2, c4, c5, c6, c7⟩ := tot s1' ScR.rf rfl 3 (by decide)
    have C2 := C1.scR c2
    have W2 : hasI s2 7 0 3 gW := ⟨c7.trans (b7.trans w1.1), by rw [c2.1, b2.1]; exact w1.2⟩
    have r7 : ScR K.2.2.2 s2 (sup s2 7 (rwE 3 (upd gW n (hVal K LW t harm hard master 3 n)))) := ScR.put hl rfl
    refine ⟨_, ?_, b2.tr (c2.tr r7), ((HGs.same b2.1 b5 b6).same c2.1 c5 c6).same rfl (sup_at (by decide)) (sup_at (by decide)), upd gW n (hVal K LW t harm hard master 3 n), hasI_put W2.2, fst_upd w2⟩
    · unfold mX2_hearWear_L3
      rw [if_neg n3, bnd_ok (gR_ok C.1.2.1 rfl)]
      refine (bnd_ok (show mX8_get 31 t (Int32.ofNat n) s = some (.inl (kget K 1 t (Int32.ofNat n)), s) from get_ok C.1.2.t1)).trans ?_
      rw [bnd_ok b1, bnd_ok (gR_ok C1.2.1.1 rfl), if_neg hx]
      refine (bnd_ok (v := hVal K LW t harm hard master 3 n) (s' := s2) ?_).trans ?_
      · rw [bnd_ok (gR_ok C1.1.2.1 rfl), bnd_ok (gR_ok C1.2.1.1 rfl), hv]
        exact (bnd_ok c1).trans rfl
      · rw [bnd_ok (st _ W2)]
        rfl
theorem hearW_run (C : CL s f K LW) (ho : hOk K t) (HGs : HG s K LW t harm hard master 3) : ∃ s1, mX2_hearWear 3 28 t master harm hard s = some (.inl (), s1) ∧ ScR K.2.2.2 s s1 ∧ HG s1 K LW t harm hard master 3 ∧ HW s1 K LW t harm hard master 3 := by
  obtain ⟨g7, h7⟩ := C.2.1.2.2.2.2 7 3 rfl
  have key : ∀ m, m ≤ 3 → ∀ s, CL s f K LW → HG s K LW t harm hard master 3 → HW s K LW t harm hard master (3 - m) → ∃ s1, loopM (mX2_hearWear_L3 3 28 t master harm hard) (Int32.ofNat (3 - m)) s = some (.inl (), s1) ∧ ScR K.2.2.2 s s1 ∧ HG s1 K LW t harm hard master 3 ∧ HW s1 K LW t harm hard master 3 := by
    intro m
    induction m with
    | zero =>
      intro _ s C HGs H
      exact ⟨s, by rw [loopM_eq]; exact bnd_ok (show mX2_hearWear_L3 3 28 t master harm hard (Int32.ofNat 3) s = some (.inl (.inr ()), s) from rfl), ScR.rf, HGs, H⟩
    | succ m ih =>
      intro hm s C HGs H
      obtain ⟨s1, a1, a2, a3, a4⟩ := hearW_step C ho (n := 3 - (m + 1)) (by omega) HGs H
      rw [show 3 - (m + 1) + 1 = 3 - m by omega] at a4
      obtain ⟨s2, b1, b2, b3, b4⟩ := ih (by omega) s1 (C.scR a2) a3 a4
      refine ⟨s2, ?_, a2.tr b2, b3, b4⟩
      rw [loopM_eq]
      refine (bnd_ok a1).trans ?_
      rw [ofN_succ, show 3 - (m + 1) + 1 = 3 - m by omega]
      exact b1
  obtain ⟨s1, a1, a2, a3, a4⟩ := key 3 (Nat.le_refl 3) s C HGs ⟨g7, h7, fun k hk => absurd hk (Nat.not_lt_zero k)⟩
  refine ⟨s1, ?_, a2, a3, a4⟩
  unfold mX2_hearWear
  rw [onC_ok C.2.1.1]
  exact bnd_ok (show loopM (mX2_hearWear_L3 3 28 t master harm hard) 0 s = _ from a1)
end HWR
/-- what is heard stands where nothing but the Court changes -/
def Hrd (s : aS) (G A B : Nat → Int32) : Prop := hasO s 3 2 [.ref 4, .ref 5, .ref 6, .ref 7] ∧ (∃ g, hasI s 5 0 3 g ∧ fst g G 3) ∧ (∃ g, hasI s 6 0 3 g ∧ fst g A 3) ∧ ∃ g, hasI s 7 0 3 g ∧ fst g B 3
section HRD
variable {s s' : aS} {G A B : Nat → Int32}
theorem Hrd.off (H : Hrd s G A B) (o : Off s s' 28 40) : Hrd s' G A B := by
  obtain ⟨h, ⟨g, a1, a2⟩, ⟨g2, b1, b2⟩, g3, c1, c2⟩ := H
  exact ⟨hasO_off h o (by decide), ⟨g, hasI_off a1 o (by decide), a2⟩, ⟨g2, hasI_off b1 o (by decide), b2⟩, g3, hasI_off c1 o (by decide), c2⟩
theorem Hrd.gain (H : Hrd s G A B) {k : Nat} (hk : k < 3) (h2 : Int32) : mX2_gain 3 (Int32.ofNat k) h2 s = some (.inl (hGain h2 (G k) (A k)), s) := by
  obtain ⟨h, ⟨gA, a1, a2⟩, ⟨gP, p1, p2⟩, -⟩ := H
  have n0 : ¬ Int32.ofNat k < 0 := ofN_nn (by omega)
  have n3 : Int32.ofNat k < 3 := (ofN_lt (m := 3) (by omega) (by decide)).mpr hk
  have l5 : ldI 0 5 (Int32.ofNat k) s = some (.inl (G k), s) := by
    rw [ldI_ok a1 n0 (by rw [ofN_cl (by omega)]; exact hk), ofN_cl (by omega), a2 k hk]
  have l6 : ldI 0 6 (Int32.ofNat k) s = some (.inl (A k), s) := by
    rw [ldI_ok p1 n0 (by rw [ofN_cl (by omega)]; exact hk), ofN_cl (by omega), p2 k hk]
  unfold mX2_gain
  rw [onC_ok h, if_neg n0, if_pos n3, bnd_ok (gR_ok h rfl), bnd_ok l5, bnd_ok (gR_ok h rfl), bnd_ok l6]
  rfl
theorem Hrd.blunt (H : Hrd s G A B) {k : Nat} (hk : k < 3) : mX2_blunt 3 (Int32.ofNat k) s = some (.inl (B k), s) := by
  obtain ⟨h, -, -, gB, c1, c2⟩ := H
  have n0 : ¬ Int32.ofNat k < 0 := ofN_nn (by omega)
  have n3 : ¬ (3 : Int32) ≤ Int32.ofNat k := nle (n := 3) hk (by decide)
  unfold mX2_blunt
  rw [onC_ok h, if_neg n0, if_neg n3, bnd_ok (gR_ok h rfl)]
  refine (bnd_ok (v := B k) (s' := s) ?_).trans rfl
  rw [ldI_ok c1 n0 (by rw [ofN_cl (by omega)]; exact hk), ofN_cl (by omega), c2 k hk]
end HRD
