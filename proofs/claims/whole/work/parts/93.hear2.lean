/-! THE CLASS HEARS A DEED: answers, pleads, blunts of each sort -/
/-- what a sort's place brings: 0 where nothing is -/
def hVal (K : CK) (LW : Option (List Ln)) (t harm hard master : Int32) (w k : Nat) : Int32 := if kget K 1 t (Int32.ofNat k) = -1 then 0 else lawTot LW (cRow K (kget K 1 t (Int32.ofNat k)) harm hard master) w
def hGain (harm a p : Int32) : Int32 := harm * a / 100 * (100 - p) / 100
/-- what is at a tool's places can be asked -/
def hOk (K : CK) (t : Int32) : Prop := ∀ k, k < 3 → kget K 0 (kget K 1 t (Int32.ofNat k)) 4 = 0 ∨ kget K 0 (kget K 1 t (Int32.ofNat k)) 4 = 1 ∨ kget K 1 t (Int32.ofNat k) = -1
def fst (g v : Nat → Int32) (n : Nat) : Prop := ∀ k, k < n → g k = v k
section H2
variable {s : aS} {f : Int32} {K : CK} {LW : Option (List Ln)} {t master harm hard : Int32}
theorem lay_any {x : Int32} (C : CL s f K LW) : ∃ s1, mX2_layOut 3 28 x master harm hard s = some (.inl (), s1) ∧ ScR K.2.2.2 s s1 ∧ s1.1 5 = s.1 5 ∧ s1.1 6 = s.1 6 ∧ s1.1 7 = s.1 7 := by
  obtain ⟨F, HF⟩ := C.2.1.2.2.2.2 4 10 rfl
  exact ⟨_, lay_run C HF, ScR.put C.2.2.2.1 rfl, sup_at (by decide), sup_at (by decide), sup_at (by decide)⟩
/-- rows 5 and 6 hold answers and pleads of the first n sorts -/
def HG (s : aS) (K : CK) (LW : Option (List Ln)) (t harm hard master : Int32) (n : Nat) : Prop := (∃ g, hasI s 5 0 3 g ∧ fst g (hVal K LW t harm hard master 0) n) ∧ ∃ g, hasI s 6 0 3 g ∧ fst g (hVal K LW t harm hard master 1) n
def HW (s : aS) (K : CK) (LW : Option (List Ln)) (t harm hard master : Int32) (n : Nat) : Prop := ∃ g, hasI s 7 0 3 g ∧ fst g (hVal K LW t harm hard master 3) n
theorem fst_upd {g v : Nat → Int32} {n : Nat} (h : fst g v n) : fst (upd g n (v n)) v (n + 1) := fun k hk => by
  show (if k = n then v n else g k) = v k
  by_cases e : k = n
  · rw [if_pos e, e]
  · rw [if_neg e]
    exact h k (by omega)
theorem hearG_step (C : CL s f K LW) (ho : hOk K t) {n : Nat} (hn : n < 3) (H : HG s K LW t harm hard master n) : ∃ s1, mX2_hearGuilt_L3 3 28 t master harm hard (Int32.ofNat n) s = some (.inl (.inl (Int32.ofNat n + 1)), s1) ∧ ScR K.2.2.2 s s1 ∧ HG s1 K LW t harm hard master (n + 1) ∧ s1.1 7 = s.1 7 := by
  have hl := C.2.2.2.1
  have n3 : ¬ (3 : Int32) ≤ Int32.ofNat n := nle (n := 3) hn (by decide)
  obtain ⟨⟨gA, a1, a2⟩, gP, p1, p2⟩ := H
  have st : ∀ {s' : aS} {b : Nat} {g : Nat → Int32} (v : Int32), hasI s' b 0 3 g → stI 0 b (Int32.ofNat n) v s' = some (.inl (), sup s' b (rwE 3 (upd g n v))) := fun v hg => by
    rw [stI_ok hg (ofN_nn (by omega)) (by rw [ofN_cl (by omega)]; exact hn), ofN_cl (by omega)]
  by_cases hx : kget K 1 t (Int32.ofNat n) = -1
  · have hv : ∀ w, hVal K LW t harm hard master w n = 0 := fun w => if_pos hx
    obtain ⟨s1, b1, b2, b5, b6, b7⟩ := lay_any (x := -1) (master := master) (harm := harm) (hard := hard) C
    have C1 := C.scR b2
    have A1 : hasI s1 5 0 3 gA := ⟨b5.trans a1.1, by rw [b2.1]; exact a1.2⟩
    have P1 : hasI s1 6 0 3 gP := ⟨b6.trans p1.1, by rw [b2.1]; exact p1.2⟩
    have P2 : hasI (sup s1 5 (rwE 3 (upd gA n 0))) 6 0 3 gP := hasI_sup P1 (by decide)
    have r5 : ScR K.2.2.2 s1 (sup s1 5 (rwE 3 (upd gA n 0))) := ScR.put hl rfl
    have r6 : ScR K.2.2.2 (sup s1 5 (rwE 3 (upd gA n 0))) (sup (sup s1 5 (rwE 3 (upd gA n 0))) 6 (rwE 3 (upd gP n 0))) := ScR.put hl rfl
    have C2 := C1.scR r5
    refine ⟨sup (sup s1 5 (rwE 3 (upd gA n 0))) 6 (rwE 3 (upd gP n 0)), ?_, b2.tr (r5.tr r6), ⟨⟨upd gA n 0, hasI_sup (hasI_put A1.2) (by decide), ?_⟩, upd gP n 0, hasI_put P2.2, ?_⟩, ?_⟩
    · unfold mX2_hearGuilt_L3
      simp only [if_neg n3, mbnd_app, kx_in, CC.all C.1, hx, if_true, mret_app, mite_app, b1, show gR 2 1 3 s1 = some (.inl 5, s1) from gR_ok C1.2.1.1 rfl, st 0 A1, show gR 2 2 3 (sup s1 5 (rwE 3 (upd gA n 0))) = some (.inl 6, sup s1 5 (rwE 3 (upd gA n 0))) from gR_ok C2.2.1.1 rfl, st 0 P2]
    · have := fst_upd (n := n) a2
      rwa [hv 0] at this
    · have := fst_upd (n := n) p2
      rwa [hv 1] at this
    · exact (sup_at (by decide)).trans ((sup_at (by decide)).trans b7)
  · have h9 : kget K 0 (kget K 1 t (Int32.ofNat n)) 4 = 0 ∨ kget K 0 (kget K 1 t (Int32.ofNat n)) 4 = 1 := (ho n hn).imp id fun q => q.elim id (fun q => absurd q hx)
    have hv : ∀ w, hVal K LW t harm hard master w n = lawTot LW (cRow K (kget K 1 t (Int32.ofNat n)) harm hard master) w := fun w => if_neg hx
    obtain ⟨F, HF⟩ := C.2.1.2.2.2.2 4 10 rfl
    obtain ⟨s1, b1, b2, tot⟩ := lay_tot (x := kget K 1 t (Int32.ofNat n)) (master := master) (harm := harm) (hard := hard) C h9
    obtain ⟨s1', b1', -, b5, b6, b7⟩ := lay_any (x := kget K 1 t (Int32.ofNat n)) (master := master) (harm := harm) (hard := hard) C
    have hs : s1' = s1 := by
      have := b1'.symm.trans b1
      injection this with e
      injection e
    subst hs
    have C1 := C.scR b2
    obtain ⟨s2, c1, c2, c4, c5, c6, c7⟩ := tot s1' ScR.rf rfl 0 (by decide)
    have C2 := C1.scR c2
    have A2 : hasI s2 5 0 3 gA := ⟨c5.trans (b5.trans a1.1), by rw [c2.1, b2.1]; exact a1.2⟩
    have P2 : hasI s2 6 0 3 gP := ⟨c6.trans (b6.trans p1.1), by rw [c2.1, b2.1]; exact p1.2⟩
    have r5 : ScR K.2.2.2 s2 (sup s2 5 (rwE 3 (upd gA n (hVal K LW t harm hard master 0 n)))) := ScR.put hl rfl
    have C3 := C2.scR r5
    obtain ⟨s4, d1, d2, d4, d5, d6, d7⟩ := tot _ (c2.tr r5) ((sup_at (by decide)).trans c4) 1 (by decide)
    have C4 := C3.scR d2
    have A4 : hasI s4 5 0 3 (upd gA n (hVal K LW t harm hard master 0 n)) := ⟨d5.trans (hasI_put (s := s2) (a := 5) (t := 0) (n := 3) (f := upd gA n (hVal K LW t harm hard master 0 n)) A2.2).1, by rw [d2.1]; exact A2.2⟩
    have P4 : hasI s4 6 0 3 gP := ⟨d6.trans ((sup_at (by decide)).trans P2.1), by rw [d2.1]; exact P2.2⟩
    have r6 : ScR K.2.2.2 s4 (sup s4 6 (rwE 3 (upd gP n (hVal K LW t harm hard master 1 n)))) := ScR.put hl rfl
    refine ⟨sup s4 6 (rwE 3 (upd gP n (hVal K LW t harm hard master 1 n))), ?_, b2.tr (c2.tr (r5.tr (d2.tr r6))), ⟨⟨_, hasI_sup A4 (by decide), fst_upd a2⟩, _, hasI_put P4.2, fst_upd p2⟩, ?_⟩
    · have w0 : mX4_total K.2.2.2 0 4 s1' = _ := c1
      have w1 : mX4_total K.2.2.2 1 4 (sup s2 5 (rwE 3 (upd gA n (hVal K LW t harm hard master 0 n)))) = _ := d1
      unfold mX2_hearGuilt_L3
      simp only [if_neg n3, mbnd_app, kx_in, CC.all C.1, hx, if_false, mret_app, mite_app, b1, show gR 2 1 3 s1' = some (.inl 5, s1') from gR_ok C1.2.1.1 rfl, one_ne0, CC.all C1.1, show gR 2 0 3 s1' = some (.inl 4, s1') from gR_ok C1.2.1.1 rfl, w0, ← hv 0, st (hVal K LW t harm hard master 0 n) A2, show gR 2 2 3 (sup s2 5 (rwE 3 (upd gA n (hVal K LW t harm hard master 0 n)))) = some (.inl 6, _) from gR_ok C3.2.1.1 rfl, CC.all C3.1, show gR 2 0 3 (sup s2 5 (rwE 3 (upd gA n (hVal K LW t harm hard master 0 n)))) = some (.inl 4, _) from gR_ok C3.2.1.1 rfl, w1, ← hv 1, st (hVal K LW t harm hard master 1 n) P4]
    · exact (sup_at (by decide)).trans (d7.trans ((sup_at (by decide)).trans (c7.trans b7)))
theorem hearG_run (C : CL s f K LW) (ho : hOk K t) : ∃ s1, mX2_hearGuilt 3 28 t master harm hard s = some (.inl (), s1) ∧ ScR K.2.2.2 s s1 ∧ HG s1 K LW t harm hard master 3 := by
  obtain ⟨g5, h5⟩ := C.2.1.2.2.2.2 5 3 rfl
  obtain ⟨g6, h6⟩ := C.2.1.2.2.2.2 6 3 rfl
  have key : ∀ m, m ≤ 3 → ∀ s, CL s f K LW → HG s K LW t harm hard master (3 - m) → ∃ s1, loopM (mX2_hearGuilt_L3 3 28 t master harm hard) (Int32.ofNat (3 - m)) s = some (.inl (), s1) ∧ ScR K.2.2.2 s s1 ∧ HG s1 K LW t harm hard master 3 := by
    intro m
    induction m with
    | zero =>
      intro _ s C H
      exact ⟨s, by rw [loopM_eq]; exact bnd_ok (show mX2_hearGuilt_L3 3 28 t master harm hard (Int32.ofNat 3) s = some (.inl (.inr ()), s) from rfl), ScR.rf, H⟩
    | succ m ih =>
      intro hm s C H
      obtain ⟨s1, a1, a2, a3, -⟩ := hearG_step C ho (n := 3 - (m + 1)) (by omega) H
      rw [show 3 - (m + 1) + 1 = 3 - m by omega] at a3
      obtain ⟨s2, b1, b2, b3⟩ := ih (by omega) s1 (C.scR a2) a3
      refine ⟨s2, ?_, a2.tr b2, b3⟩
      rw [loopM_eq]
      refine (bnd_ok a1).trans ?_
      rw [ofN_succ, show 3 - (m + 1) + 1 = 3 - m by omega]
      exact b1
  obtain ⟨s1, a1, a2, a3⟩ := key 3 (Nat.le_refl 3) s C ⟨⟨g5, h5, fun k hk => absurd hk (Nat.not_lt_zero k)⟩, g6, h6, fun k hk => absurd hk (Nat.not_lt_zero k)⟩
  refine ⟨s1, ?_, a2, a3⟩
  unfold mX2_hearGuilt
  rw [onC_ok C.2.1.1]
  exact bnd_ok (show loopM (mX2_hearGuilt_L3 3 28 t master harm hard) 0 s = _ from a1)
theorem gain_run (C : CL s f K LW) (H : HG s K LW t harm hard master 3) {k : Nat} (hk : k < 3) (h2 : Int32) : mX2_gain 3 (Int32.ofNat k) h2 s = some (.inl (hGain h2 (hVal K LW t harm hard master 0 k) (hVal K LW t harm hard master 1 k)), s) := by
  obtain ⟨⟨gA, a1, a2⟩, gP, p1, p2⟩ := H
  have n0 : ¬ Int32.ofNat k < 0 := ofN_nn (by omega)
  have n3 : Int32.ofNat k < 3 := (ofN_lt (m := 3) (by omega) (by decide)).mpr hk
  have l5 : ldI 0 5 (Int32.ofNat k) s = some (.inl (hVal K LW t harm hard master 0 k), s) := by
    rw [ldI_ok a1 n0 (by rw [ofN_cl (by omega)]; exact hk), ofN_cl (by omega), a2 k hk]
  have l6 : ldI 0 6 (Int32.ofNat k) s = some (.inl (hVal K LW t harm hard master 1 k), s) := by
    rw [ldI_ok p1 n0 (by rw [ofN_cl (by omega)]; exact hk), ofN_cl (by omega), p2 k hk]
  unfold mX2_gain
  rw [onC_ok C.2.1.1, if_neg n0, if_pos n3, bnd_ok (show gR 2 1 3 s = some (.inl 5, s) from gR_ok C.2.1.1 rfl), bnd_ok l5, bnd_ok (show gR 2 2 3 s = some (.inl 6, s) from gR_ok C.2.1.1 rfl), bnd_ok l6]
  rfl
theorem gains_run (C : CL s f K LW) (H : HG s K LW t harm hard master 3) (h2 : Int32) : mX2_gains 3 h2 s = some (.inl (hGain h2 (hVal K LW t harm hard master 0 0) (hVal K LW t harm hard master 1 0) + hGain h2 (hVal K LW t harm hard master 0 1) (hVal K LW t harm hard master 1 1) + hGain h2 (hVal K LW t harm hard master 0 2) (hVal K LW t harm hard master 1 2)), s) := by
  unfold mX2_gains
  rw [onC_ok C.2.1.1, bnd_ok (show mX2_gain 3 0 h2 s = _ from gain_run C H (k := 0) (by decide) h2), bnd_ok (show mX2_gain 3 1 h2 s = _ from gain_run C H (k := 1) (by decide) h2), bnd_ok (show mX2_gain 3 2 h2 s = _ from gain_run C H (k := 2) (by decide) h2)]
  rfl
end H2
