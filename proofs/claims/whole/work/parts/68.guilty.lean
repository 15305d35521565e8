/-! GUILTY, MARKS: the reference's side, and the same on both -/
def wguilty (W : Nat → Int32) (n : Nat) : Int32 := orI (fun t => if wans W t ≤ W 7 then 0 else 1 <<< (Int32.ofNat t &&& (31 : Int32))) n
def wmark (W : Nat → Int32) (t : Nat) : Int32 := if 0 ≤ W (141 + 4 * t + 1) then 10 * W (13 + 8 * (W (141 + 4 * t + 1)).toNatClampNeg + 1) + W (13 + 8 * (W (141 + 4 * t + 1)).toNatClampNeg + 2) / 10 else -1
section MG
variable {s : aS} {b : Nat} {M : MK}
theorem m_sentence_run (C : Mdl s b M) {t : Nat} (ht : t < 6) (hk : toolOk (M.2 1) t) : mX12_sentence b (Int32.ofNat t) s = some (.inl ((wans (M.2 1) t + 10 - 1) / 10), s) := by
  unfold mX12_sentence
  rw [onC_ok C.1, bnd_ok (m_answered_run C ht hk)]
  rfl
theorem m_isGuilty_run (C : Mdl s b M) {t : Nat} (ht : t < 6) (hk : toolOk (M.2 1) t) : mX12_isGuilty b (Int32.ofNat t) s = some (.inl (if wans (M.2 1) t ≤ M.2 1 7 then 0 else 1), s) := by
  unfold mX12_isGuilty
  rw [onC_ok C.1, bnd_ok (m_answered_run C ht hk), bnd_ok (gR_ok C.1 rfl), bnd_ok (show ldI 0 (b + 1) 7 s = _ from wrd_ok (i := 7) C (by decide))]
  split <;> rfl
theorem m_allGuilty_run (C : Mdl s b M) {n : Nat} (hn : M.2 1 1 = Int32.ofNat n) (h6 : n ≤ 6) (hk : ∀ t, t < n → toolOk (M.2 1) t) : mX12_allGuilty b s = some (.inl (wguilty (M.2 1) n), s) := by
  unfold mX12_allGuilty
  rw [onC_ok C.1]
  have hl : loopM (mX12_allGuilty_L4 b) (wguilty (M.2 1) 0, Int32.ofNat 0) s = some (.inl (wguilty (M.2 1) n), s) := by
    refine loop_steps n (fun j => (wguilty (M.2 1) j, Int32.ofNat j)) (fun _ => s) (fun j hj => ?_) ?_
    · show mX12_allGuilty_L4 b (_, Int32.ofNat j) s = _
      unfold mX12_allGuilty_L4
      rw [bnd_ok (tools_run C), hn, if_neg (fun q => absurd ((ofN_le (by omega) (by omega)).mp q) (by omega)), bnd_ok (m_isGuilty_run C (by omega) (hk j hj))]
      show _ = some (Sum.inl (Sum.inl (wguilty (M.2 1) j ||| (if wans (M.2 1) j ≤ M.2 1 7 then _ else _), Int32.ofNat (j + 1))), s)
      rw [← ofN_succ]
      by_cases h : wans (M.2 1) j ≤ M.2 1 7
      · rw [if_pos h, if_pos h]; rfl
      · rw [if_neg h, if_neg h]; rfl
    · show mX12_allGuilty_L4 b (_, Int32.ofNat n) s = _
      unfold mX12_allGuilty_L4
      rw [bnd_ok (tools_run C), hn, if_pos (Int32.le_refl _)]
      rfl
  exact bnd_ok hl
theorem m_markNow_run (C : Mdl s b M) {t : Nat} (ht : t < 6) (hk : toolOk (M.2 1) t) : mX12_markNow b (Int32.ofNat t) s = some (.inl (wmark (M.2 1) t), s) := by
  unfold mX12_markNow wmark
  rw [onC_ok C.1, bnd_ok (show mX12_inTool b (Int32.ofNat t) 1 s = _ from inTool_run (c := 1) C (by omega))]
  rcases hk 1 (by decide) with h | ⟨p, hp, h⟩
  · rw [h]; rfl
  · have hc : (0 : Int32) ≤ Int32.ofNat p := (ofN_le (n := 0) (m := p) (by omega) (by omega)).mpr (Nat.zero_le p)
    rw [h, if_pos hc, if_pos hc, ofN_cl (by omega), bnd_ok (show mX12_of b (Int32.ofNat p) 1 s = _ from of_run (c := 1) C (by omega)), bnd_ok (show mX12_of b (Int32.ofNat p) 2 s = _ from of_run (c := 2) C (by omega))]
    rfl
end MG
section GS
variable {K : CK} {W : Nat → Int32}
theorem toolIn.ok (hk : kOk K) {t : Nat} (h : toolIn K W t) : toolOk W t := fun k hk3 => (h k hk3).imp id fun ⟨p, hp, e⟩ => ⟨p, Nat.lt_of_lt_of_le hp (hk 0 (by decide)), e⟩
theorem guilty_same (S : Sm K W) (hk : kOk K) (hin : ∀ t, t < K.1 1 → toolIn K W t) : kguilty K = wguilty W (K.1 1) := by
  unfold kguilty wguilty
  refine orI_congr fun t ht => ?_
  rw [ans_same S hk ht (hin t ht), S.2.1.2.2.2.1]
theorem mark_same (S : Sm K W) (hk : kOk K) {t : Nat} (ht : t < K.1 1) (hin : toolIn K W t) : kmark K (Int32.ofNat t) = wmark W t := by
  unfold kmark wmark
  have h0 := hk 0 (by decide)
  have h16 : tM 0 = 16 := rfl
  rw [show kget K 1 (Int32.ofNat t) 1 = _ from S.tool hk ht (c := 1) (by decide)]
  rcases hin 1 (by decide) with h | ⟨p, hp, h⟩
  · rw [h]; rfl
  · have hc : (0 : Int32) ≤ Int32.ofNat p := (ofN_le (n := 0) (m := p) (by omega) (by omega)).mpr (Nat.zero_le p)
    have hn : ¬ Int32.ofNat p = -1 := fun q => by rw [q] at hc; exact absurd hc (by decide)
    rw [h, if_neg hn, if_pos hc, ofN_cl (by omega), show kget K 0 (Int32.ofNat p) 1 = _ from S.part hk hp (c := 1) (by decide), show kget K 0 (Int32.ofNat p) 2 = _ from S.part hk hp (c := 2) (by decide), Int32.mul_comm]
end GS
