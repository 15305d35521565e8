/-! THE REFERENCE'S OBJECT: its numbers and its rows (world is row 1) -/
abbrev MK : Type := (Nat → Int32) × (Nat → Nat → Int32)
abbrev mF (b : Nat) (M : MK) : List Value := [.int (M.1 0), .ref (b + 1), .ref (b + 2), .ref (b + 3), .ref (b + 4), .ref (b + 5), .int (M.1 6), .int (M.1 7), .ref (b + 6), .int (M.1 9), .int (M.1 10), .int (M.1 11), .int (M.1 12), .int (M.1 13), .int (M.1 14), .ref (b + 7), .int (M.1 16), .ref (b + 8), .int (M.1 18), .int (M.1 19), .int (M.1 20), .ref (b + 9), .ref (b + 10), .int (M.1 23), .int (M.1 24), .ref (b + 11), .ref (b + 12)]
/-- how long row q is: world image before trial acts tape five value gains blunts order first -/
def mS : Nat → Nat
  | 1 => 2769
  | 2 => 1920
  | 3 => 1920
  | 4 => 1071
  | 5 => 10710
  | 6 => 400
  | 7 => 5
  | 8 => 400
  | 9 => 3
  | 10 => 3
  | 11 => 6
  | _ => 6
def mT (q : Nat) : Nat := if q = 6 then 1 else 0
def Mdl (s : aS) (b : Nat) (M : MK) : Prop := hasO s b 11 (mF b M) ∧ ∀ q, 1 ≤ q → q ≤ 12 → hasI s (b + q) (mT q) (mS q) (M.2 q)
theorem Mdl.frame {s : aS} {b c : Nat} {M : MK} {e : AE} (C : Mdl s b M) (h : c < b ∨ b + 12 < c) : Mdl (sup s c e) b M := ⟨hasO_sup C.1 (by omega), fun q h1 h2 => hasI_sup (C.2 q h1 h2) (by omega)⟩
def mrow (R : Nat → Nat → Int32) (q : Nat) (g : Nat → Int32) : Nat → Nat → Int32 := fun k => if k = q then g else R k
theorem Mdl.row {s : aS} {b q : Nat} {M : MK} {g : Nat → Int32} (C : Mdl s b M) (h1 : 1 ≤ q) (h2 : q ≤ 12) : Mdl (sup s (b + q) (.inr (.inl (mT q, mS q, g)))) b (M.1, mrow M.2 q g) := by
  refine ⟨hasO_sup C.1 (by omega), fun k k1 k2 => ?_⟩
  show hasI _ _ _ _ (mrow M.2 q g k)
  unfold mrow
  by_cases h : k = q
  · subst h
    rw [if_pos rfl]
    exact hasI_put (C.2 k h1 h2).2
  · rw [if_neg h]
    exact hasI_sup (C.2 k k1 k2) (by omega)
section MD
variable {s : aS} {b : Nat} {M : MK}
theorem Mdl.w (C : Mdl s b M) : hasI s (b + 1) 0 2769 (M.2 1) := C.2 1 (Nat.le_refl 1) (by decide)
theorem wrd_ok (C : Mdl s b M) {i : Nat} (h : i < 2769) : ldI 0 (b + 1) (Int32.ofNat i) s = some (.inl (M.2 1 i), s) := by
  have := ldI_ok (i := Int32.ofNat i) C.w (ofN_nn (by omega)) (by rw [ofN_cl (by omega)]; exact h)
  rwa [ofN_cl (by omega)] at this
theorem parts_run (C : Mdl s b M) : mX12_parts b s = some (.inl (M.2 1 0), s) := by
  unfold mX12_parts
  rw [onC_ok C.1, bnd_ok (gR_ok C.1 rfl)]
  exact bnd_ok (wrd_ok (i := 0) C (by decide))
theorem tools_run (C : Mdl s b M) : mX12_tools b s = some (.inl (M.2 1 1), s) := by
  unfold mX12_tools
  rw [onC_ok C.1, bnd_ok (gR_ok C.1 rfl)]
  exact bnd_ok (wrd_ok (i := 1) C (by decide))
theorem masters_run (C : Mdl s b M) : mX12_masters b s = some (.inl (M.2 1 2), s) := by
  unfold mX12_masters
  rw [onC_ok C.1, bnd_ok (gR_ok C.1 rfl)]
  exact bnd_ok (wrd_ok (i := 2) C (by decide))
theorem deeds_run (C : Mdl s b M) : mX12_deeds b s = some (.inl (M.2 1 6), s) := by
  unfold mX12_deeds
  rw [onC_ok C.1, bnd_ok (gR_ok C.1 rfl)]
  exact bnd_ok (wrd_ok (i := 6) C (by decide))
theorem today_run (C : Mdl s b M) : mX12_today b s = some (.inl (M.2 1 5), s) := by
  unfold mX12_today
  rw [onC_ok C.1, bnd_ok (gR_ok C.1 rfl)]
  exact bnd_ok (wrd_ok (i := 5) C (by decide))
theorem at_lin (k m p c : Nat) : (Int32.ofNat k + Int32.ofNat m * Int32.ofNat p) + Int32.ofNat c = Int32.ofNat (k + m * p + c) := by rw [ofN_mul, ofN_add, ofN_add]
theorem of_run (C : Mdl s b M) {p c : Nat} (h : 13 + 8 * p + c < 2769) : mX12_of b (Int32.ofNat p) (Int32.ofNat c) s = some (.inl (M.2 1 (13 + 8 * p + c)), s) := by
  unfold mX12_of mX12_partAt
  rw [onC_ok C.1, bnd_ok (gR_ok C.1 rfl), mret_mbnd]
  have e := at_lin 13 8 p c
  refine (bnd_ok (v := M.2 1 (13 + 8 * p + c)) (s' := s) ?_).trans rfl
  show ldI 0 (b + 1) (Int32.ofNat 13 + Int32.ofNat 8 * Int32.ofNat p + Int32.ofNat c) s = _
  rw [e]
  exact wrd_ok C h
theorem inTool_run (C : Mdl s b M) {t c : Nat} (h : 141 + 4 * t + c < 2769) : mX12_inTool b (Int32.ofNat t) (Int32.ofNat c) s = some (.inl (M.2 1 (141 + 4 * t + c)), s) := by
  unfold mX12_inTool
  rw [onC_ok C.1, bnd_ok (gR_ok C.1 rfl)]
  have e := at_lin 141 4 t c
  refine (bnd_ok (v := M.2 1 (141 + 4 * t + c)) (s' := s) ?_).trans rfl
  show ldI 0 (b + 1) (Int32.ofNat 141 + Int32.ofNat 4 * Int32.ofNat t + Int32.ofNat c) s = _
  rw [e]
  exact wrd_ok C h
theorem ofTruth_run (C : Mdl s b M) {d c : Nat} (h : 171 + 7 * d + c < 2769) : mX12_ofTruth b (Int32.ofNat d) (Int32.ofNat c) s = some (.inl (M.2 1 (171 + 7 * d + c)), s) := by
  unfold mX12_ofTruth
  rw [onC_ok C.1, bnd_ok (gR_ok C.1 rfl)]
  have e := at_lin 171 7 d c
  refine (bnd_ok (v := M.2 1 (171 + 7 * d + c)) (s' := s) ?_).trans rfl
  show ldI 0 (b + 1) (Int32.ofNat 171 + Int32.ofNat 7 * Int32.ofNat d + Int32.ofNat c) s = _
  rw [e]
  exact wrd_ok C h
/-- what stands of tool t's sort k: no part, or one of the sixteen -/
def toolOk (W : Nat → Int32) (t : Nat) : Prop := ∀ k, k < 3 → W (141 + 4 * t + k) = -1 ∨ ∃ p, p < 16 ∧ W (141 + 4 * t + k) = Int32.ofNat p
def wans (W : Nat → Int32) (t : Nat) : Int32 := sumI (fun k => if 0 ≤ W (141 + 4 * t + k) then W (13 + 8 * (W (141 + 4 * t + k)).toNatClampNeg + 3) else 0) 3
theorem m_answered_run (C : Mdl s b M) {t : Nat} (ht : t < 6) (hk : toolOk (M.2 1) t) : mX12_answered b (Int32.ofNat t) s = some (.inl (wans (M.2 1) t), s) := by
  unfold mX12_answered
  rw [onC_ok C.1]
  have hl : loopM (mX12_answered_L4 b (Int32.ofNat t)) (sumI (fun k => if 0 ≤ M.2 1 (141 + 4 * t + k) then M.2 1 (13 + 8 * (M.2 1 (141 + 4 * t + k)).toNatClampNeg + 3) else 0) 0, Int32.ofNat 0) s = some (.inl (wans (M.2 1) t), s) := by
    refine loop_steps 3 (fun j => (sumI (fun k => if 0 ≤ M.2 1 (141 + 4 * t + k) then M.2 1 (13 + 8 * (M.2 1 (141 + 4 * t + k)).toNatClampNeg + 3) else 0) j, Int32.ofNat j)) (fun _ => s) (fun j hj => ?_) ?_
    · show mX12_answered_L4 b (Int32.ofNat t) (_, Int32.ofNat j) s = _
      unfold mX12_answered_L4
      have hn : ¬ (3 : Int32) ≤ Int32.ofNat j := fun q => absurd ((ofN_le (n := 3) (m := j) (by omega) (by omega)).mp q) (by omega)
      rw [if_neg hn, bnd_ok (inTool_run C (by omega))]
      rcases hk j hj with h | ⟨p, hp, h⟩
      · have hc : ¬ (0 : Int32) ≤ M.2 1 (141 + 4 * t + j) := by rw [h]; decide
        rw [if_neg hc, mret_mbnd, mret_mbnd, ofN_succ]
        show some (Sum.inl (Sum.inl (_ + (0 : Int32), _)), s) = some (Sum.inl (Sum.inl (_ + (if _ then _ else _), _)), s)
        rw [if_neg hc]
      · have hc : (0 : Int32) ≤ M.2 1 (141 + 4 * t + j) := by rw [h]; exact (ofN_le (n := 0) (m := p) (by omega) (by omega)).mpr (Nat.zero_le p)
        have hof : mX12_of b (M.2 1 (141 + 4 * t + j)) 3 s = some (.inl (M.2 1 (13 + 8 * (M.2 1 (141 + 4 * t + j)).toNatClampNeg + 3)), s) := by
          rw [h, ofN_cl (by omega)]
          exact of_run (c := 3) C (by omega)
        have hin : (mbnd (mX12_inTool b (Int32.ofNat t) (Int32.ofNat j)) fun (v11 : Int32) => mbnd (mX12_of b v11 3) fun (v12 : Int32) => mret v12) s = some (.inl (M.2 1 (13 + 8 * (M.2 1 (141 + 4 * t + j)).toNatClampNeg + 3)), s) := (bnd_ok (inTool_run C (by omega))).trans (bnd_ok hof)
        rw [if_pos hc, bnd_ok hin, mret_mbnd, ofN_succ]
        show some (Sum.inl (Sum.inl (_ + M.2 1 (13 + 8 * (M.2 1 (141 + 4 * t + j)).toNatClampNeg + 3), _)), s) = some (Sum.inl (Sum.inl (_ + (if _ then _ else _), _)), s)
        rw [if_pos hc]
    · rfl
  exact bnd_ok hl
end MD
