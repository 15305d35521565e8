/-! LAUNDERING, the class: the ways of each sort are laid out -/
theorem wLst_no {can : Nat → Bool} : ∀ n, (∀ p, p < n → ¬ can p = true) → wLst can n = [0]
  | 0, _ => rfl
  | n + 1, h => by
    show wLst can n ++ (if can n = true then [n + 1] else []) = [0]
    rw [wLst_no n (fun p hp => h p (Nat.lt_succ_of_lt hp)), if_neg (h n (Nat.lt_succ_self n))]
    rfl
theorem wLst_len {can : Nat → Bool} : ∀ n, (wLst can n).length ≤ n + 1
  | 0 => Nat.le_refl _
  | n + 1 => by
    have := wLst_len (can := can) n
    show (wLst can n ++ (if can n = true then [n + 1] else [])).length ≤ _
    rw [List.length_append]
    split
    · show _ + 1 ≤ _
      omega
    · show _ + 0 ≤ _
      omega
section SW
variable {s : aS} {f : Int32} {K : CK} {W : Nat → Int32} {LW : Option (List Ln)} {c t : Nat} {hr sh : Int32}
theorem told2 (C : CL s f K LW) {x : Int32} {w : Nat} (hw : w ≤ 3) (h9 : kget K 0 x 4 = 0 ∨ kget K 0 x 4 = 1) : ∃ F g, mX2_told 3 28 x (Int32.ofNat w) s = some (.inl (lawTot LW (cRow K x 0 0 0) w), sup (sup s 4 (rwE 10 F)) (K.2.2.2 + 2) (rwE 40 g)) := by
  have hl := C.2.2.2.1
  obtain ⟨F, HF⟩ := C.2.1.2.2.2.2 4 10 rfl
  have C1 : CL (sup s 4 (rwE 10 (layR F K x 0 0 0))) f K LW := C.scR (ScR.put hl rfl)
  have HF1 : hasI (sup s 4 (rwE 10 (layR F K x 0 0 0))) 4 0 10 (layR F K x 0 0 0) := hasI_put HF.2
  obtain ⟨g, HS⟩ := C1.2.1.2.2.2.2 (K.2.2.2 + 2) 40 (by
    unfold scN
    unfold lOk at hl
    rw [if_neg (by omega), if_neg (by omega), if_neg (by omega), if_neg (by omega), if_neg (by omega), if_pos rfl])
  have hne : (4 : Nat) ≠ K.2.2.2 + 2 := by unfold lOk at hl; omega
  obtain ⟨g', hg⟩ := total_run C1.2.2.1 C1.2.2.2.2 HF1 HS hne (by
    rw [layR_row F K x 0 0 0 9 (by decide)]
    exact h9) hw
  rw [lawTot_congr (layR_row F K x 0 0 0) LW w] at hg
  refine ⟨layR F K x 0 0 0, g', ?_⟩
  unfold mX2_told
  rw [onC_ok C.2.1.1, bnd_ok (lay_run C HF), bnd_ok (show gR 1 6 28 _ = some (.inl K.2.2.2, _) from gR_ok C1.1.2.1 rfl), bnd_ok (show gR 2 0 3 _ = some (.inl 4, _) from gR_ok C1.2.1.1 rfl), bnd_ok hg]
  rfl
theorem WS.off {v : Nat → Nat → Int32} {k b : Nat} {L : List Nat} {e : AE} (H : WS s v k L) (h1 : 10 + k ≠ b) (h2 : 14 + k ≠ b) (h3 : 17 ≠ b) : WS (sup s b e) v k L := by
  obtain ⟨⟨gA, a1, a2⟩, ⟨gB, b1, b2⟩, w, w1, w2⟩ := H
  exact ⟨⟨gA, hasI_sup a1 h1, a2⟩, ⟨gB, hasI_sup b1 h2, b2⟩, w, hasI_sup w1 h3, w2⟩
/-- what comes with a swap -/
theorem over_run (C : CL s f K LW) (S : Sm K W) (hk : kOk K) (hw : wOk K W c) {q : Nat} (hq : q < K.1 0) (hh : hr = -1 ∨ 0 ≤ hr) : ∃ s1, (if hr = -1 then (mbnd (mX2_inherited 3 28 (Int32.ofNat q)) fun (v10 : Int32) => mret v10) else (mbnd (mX1_guiltOf 28 (Int32.ofNat q)) fun (v11 : Int32) => mret ((v11 * hr) / 100)) : MM Int32) s = some (.inl (wLau W LW hr q), s1) ∧ ScR K.2.2.2 s s1 ∧ ∀ (v : Nat → Nat → Int32) k L, k < 3 → WS s v k L → WS s1 v k L := by
  have hl := C.2.2.2.1
  have cs := Sm.cols S hk
  unfold wLau
  by_cases h : hr = -1
  · rw [if_pos h, h, if_neg (by decide)]
    obtain ⟨F, g, h1⟩ := told2 (x := Int32.ofNat q) C (w := 2) (by decide) (by
      rw [cs.2.2.2.2.1 q hq]
      exact isN1 (hw.1 q hq).2.2.2.2.1)
    rw [lawTot_congr (row_same S hk hq 0 0 0) LW 2] at h1
    have hg : mX1_guiltOf 28 (Int32.ofNat q) s = some (.inl (W (13 + 8 * q + 3)), s) := by
      rw [← kguilt_in S hk hq]
      exact guiltOf_run C.1.2
    refine ⟨sup (sup s 4 (rwE 10 F)) (K.2.2.2 + 2) (rwE 40 g), ?_, (ScR.put hl rfl).tr (ScR.put hl ?_), fun v k L h3 H => (H.off (b := 4) (e := rwE 10 F) (by omega) (by omega) (by omega)).off (b := K.2.2.2 + 2) (e := rwE 40 g) ?_ ?_ ?_⟩
    · unfold mX2_inherited wOver
      have h2 : mX2_told 3 28 (Int32.ofNat q) 2 s = some (.inl (lawTot LW (fRow W q 0 0 0) 2), sup (sup s 4 (rwE 10 F)) (K.2.2.2 + 2) (rwE 40 g)) := h1
      simp only [mbnd_app, onC_ok C.2.1.1, hg, kx_in, h2, mret_app]
    · unfold scN
      unfold lOk at hl
      rw [if_neg (by omega), if_neg (by omega), if_neg (by omega), if_neg (by omega), if_neg (by omega), if_pos rfl]
    · unfold lOk at hl; omega
    · unfold lOk at hl; omega
    · unfold lOk at hl; omega
  · have h0 : 0 ≤ hr := hh.elim (fun q => absurd q h) id
    rw [if_neg h, if_pos h0]
    have hg : mX1_guiltOf 28 (Int32.ofNat q) s = some (.inl (W (13 + 8 * q + 3)), s) := by
      rw [← kguilt_in S hk hq]
      exact guiltOf_run C.1.2
    exact ⟨s, (bnd_ok hg).trans rfl, ScR.rf, fun v k L _ H => H⟩
end SW
