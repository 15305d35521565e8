/-! GOING BACK: undo, image, back -/
def rst (W V : Nat → Int32) (k : Nat) : Nat → Int32 := fun i => if i < k then V i else W i
theorem rst_step (W V : Nat → Int32) (k : Nat) : upd (rst W V k) k (V k) = rst W V (k + 1) := by
  funext i
  unfold upd rst
  by_cases h : i = k
  · rw [if_pos h, if_pos (by omega), h]
  · rw [if_neg h]
    by_cases q : i < k
    · rw [if_pos q, if_pos (by omega)]
    · rw [if_neg q, if_neg (by omega)]
theorem rst_0 (W V : Nat → Int32) : rst W V 0 = W := funext fun i => if_neg (Nat.not_lt_zero i)
section RL
variable {s : aS} {M : MK}
theorem row_loop {b : Int32 → MM (Int32 ⊕ Unit)} {N q : Nat} (V : Nat → Int32) (h1 : 1 ≤ q) (h2 : q ≤ 12) (ht : mT q = 0) (hN : N ≤ mS q) (hb : mS q < 2 ^ 31) (hs : ∀ k s' M', k < N → Mdl s' 66 M' → M'.1 = M.1 → (∀ p, p ≠ q → M'.2 p = M.2 p) → b (Int32.ofNat k) s' = (mbnd (stI 0 (66 + q) (Int32.ofNat k) (V k)) fun _ => mret (.inl (Int32.ofNat (k + 1)))) s') (he : ∀ s', b (Int32.ofNat N) s' = some (.inl (.inr ()), s')) (C : Mdl s 66 M) : MRun (loopM b 0) s 66 () (M.1, mrow M.2 q (rst (M.2 q) V N)) := by
  have h0 : (M.1, mrow M.2 q (rst (M.2 q) V 0)) = M := by rw [rst_0, mrow_self]
  refine MRun.loop (f := b) (e := ()) (M' := (M.1, mrow M.2 q (rst (M.2 q) V N))) N (fun n => Int32.ofNat n) (fun n => (M.1, mrow M.2 q (rst (M.2 q) V n))) (fun n s' hn C' => ?_) (fun s' C' => ⟨s', he s', C', Off.rf⟩) (by rw [h0]; exact C)
  have st := mput_run (q := q) (i := n) (v := V n) C' h1 h2 (by omega) hb
  rw [ht, mput_eq (R := M.2) (f := rst (M.2 q) V n) (g := rst (M.2 q) V (n + 1)) rfl (rst_step _ _ _)] at st
  obtain ⟨s2, a1, a2, a3⟩ := st
  refine ⟨s2, ?_, a2, a3⟩
  rw [hs n s' _ hn C' rfl (fun p hp => mrow_ne _ _ hp)]
  exact (bnd_ok a1).trans rfl
theorem m_undo (C : Mdl s 66 M) {n : Nat} (hn : n < 10) (h7 : M.1 7 = Int32.ofNat n) : MRun (loopM (mX12_undo_L26 66) 0) s 66 () (M.1, mrow M.2 1 (rst (M.2 1) (fun i => M.2 5 (1071 * n + i)) 1071)) := by
  refine row_loop (q := 1) (fun i => M.2 5 (1071 * n + i)) (by decide) (by decide) rfl (by decide) (by decide) (fun k s' M' hk C' e1 e2 => ?_) (fun s' => ?_) C
  · unfold mX12_undo_L26
    have ld := row_ld C' (q := 5) (i := 1071 * n + k) (by decide) (by decide) rfl (show 1071 * n + k < 10710 by omega) (by decide)
    rw [e2 5 (by decide)] at ld
    have i7 : gI 11 7 66 s' = some (.inl (Int32.ofNat n), s') := by
      rw [← h7, ← e1]
      exact gI_ok C'.1 rfl
    have ei : (1071 : Int32) * Int32.ofNat n + Int32.ofNat k = Int32.ofNat (1071 * n + k) := by rw [show (1071 : Int32) = Int32.ofNat 1071 from rfl, ofN_mul, ofN_add]
    rw [if_neg (show ¬ (1071 : Int32) ≤ Int32.ofNat k from nle (n := 1071) hk (by decide)), ofN_succ, bnd_ok (gR_ok C'.1 rfl), bnd_ok (gR_ok C'.1 rfl), bnd_ok i7, ei, bnd_ok ld]
  · unfold mX12_undo_L26
    rw [if_pos (show (1071 : Int32) ≤ Int32.ofNat 1071 from Int32.le_refl _)]
    rfl
theorem m_backL (C : Mdl s 66 M) : MRun (loopM (mX12_back_L16 66) 0) s 66 () (M.1, mrow M.2 1 (rst (M.2 1) (M.2 2) 1920)) := by
  refine row_loop (q := 1) (M.2 2) (by decide) (by decide) rfl (by decide) (by decide) (fun k s' M' hk C' e1 e2 => ?_) (fun s' => ?_) C
  · unfold mX12_back_L16
    have ld := row_ld C' (q := 2) (i := k) (by decide) (by decide) rfl (show k < 1920 by omega) (by decide)
    rw [e2 2 (by decide)] at ld
    rw [if_neg (show ¬ (1920 : Int32) ≤ Int32.ofNat k from nle (n := 1920) hk (by decide)), ofN_succ, bnd_ok (gR_ok C'.1 rfl), bnd_ok (gR_ok C'.1 rfl), bnd_ok ld]
  · unfold mX12_back_L16
    rw [if_pos (show (1920 : Int32) ≤ Int32.ofNat 1920 from Int32.le_refl _)]
    rfl
theorem m_imageL (C : Mdl s 66 M) : MRun (loopM (mX12_image_L7 66) 0) s 66 () (M.1, mrow M.2 2 (rst (M.2 2) (M.2 1) 1920)) := by
  refine row_loop (q := 2) (M.2 1) (by decide) (by decide) rfl (by decide) (by decide) (fun k s' M' hk C' e1 e2 => ?_) (fun s' => ?_) C
  · unfold mX12_image_L7
    have ld := row_ld C' (q := 1) (i := k) (by decide) (by decide) rfl (show k < 2769 by omega) (by decide)
    rw [e2 1 (by decide)] at ld
    rw [if_neg (show ¬ (1920 : Int32) ≤ Int32.ofNat k from nle (n := 1920) hk (by decide)), ofN_succ, bnd_ok (gR_ok C'.1 rfl), bnd_ok (gR_ok C'.1 rfl), bnd_ok ld]
  · unfold mX12_image_L7
    rw [if_pos (show (1920 : Int32) ≤ Int32.ofNat 1920 from Int32.le_refl _)]
    rfl
end RL
/-- LawR asks of the numbers below 1920 alone -/
theorem LawR.low {W W' : Nat → Int32} {LW : Option (List Ln)} (L : LawR W LW) (ok : LWok LW) (e : ∀ i, i < 1920 → W' i = W i) : LawR W' LW := by
  have st : ∀ (P : List It) (a : Nat), a + P.length ≤ 400 → stepsAt W a P → stepsAt W' a P := by
    intro P
    induction P with
    | nil => exact fun _ _ _ => trivial
    | cons i r ih =>
      intro a ha h
      have ha' : a + (r.length + 1) ≤ 400 := ha
      obtain ⟨h1, h2, h3, h4⟩ := h
      exact ⟨(e _ (by omega)).trans h1, fun q => (e _ (by omega)).trans (h2 q), fun q => (e _ (by omega)).trans (h3 q), ih _ (by omega) h4⟩
  have ln : ∀ (L : List Ln) (j a : Nat), j + L.length ≤ 12 → a + psize L ≤ 400 → lnsAt W j a L → lnsAt W' j a L := by
    intro L
    induction L with
    | nil => exact fun _ _ _ _ _ => trivial
    | cons x r ih =>
      intro j a hj ha h
      have hj' : j + (r.length + 1) ≤ 12 := hj
      have ha' : a + (x.2.2.length + psize r) ≤ 400 := ha
      obtain ⟨h1, h2, h3, h5, h6, h7⟩ := h
      exact ⟨(e _ (by omega)).trans h1, (e _ (by omega)).trans h2, (e _ (by omega)).trans h3, (e _ (by omega)).trans h5, st _ _ (by omega) h6, ih _ _ (by omega) (by omega) h7⟩
  cases LW with
  | none => exact (e 4 (by decide)).trans L
  | some LL =>
    obtain ⟨h, h1, h2⟩ := L
    obtain ⟨o1, o2, o3, o4⟩ := ok
    exact ⟨(e 4 (by decide)).trans h, (e 1071 (by decide)).trans h1, ln _ _ _ (by omega) (by omega) h2⟩
