/-! THE LAW'S LOOP: calls one after another (the cascade is printed by a program of mine) -/
theorem ArmOk.congr {s : aS} {x : Int32} {c' : Nat} {m m' : MM (Int32 ⊕ (Unit ⊕ Unit))} (e : m s = m' s) (h : ArmOk s x c' m') : ArmOk s x c' m := by
  obtain ⟨s2, f, K, M, LW, h1, h2⟩ := h
  exact ⟨s2, f, K, M, LW, e.trans h1, h2⟩
theorem ArmOk.ite {s : aS} {x : Int32} {c' : Nat} {p : Prop} [Decidable p] {m m' : MM (Int32 ⊕ (Unit ⊕ Unit))} (h1 : p → ArmOk s x c' m) (h2 : ¬ p → ArmOk s x c' m') : ArmOk s x c' (if p then m else m') := by
  by_cases h : p
  · rw [if_pos h]
    exact h1 h
  · rw [if_neg h]
    exact h2 h
theorem ArmOk.other {s : aS} {f : Int32} {K : CK} {M : MK} {LW : Option (List Ln)} {c c' : Nat} {x : Int32} (H : World s f K M LW c) (h1 : c ≤ c') (h2 : c' < 100000) : ArmOk s x c' (mret (.inl (x + 6))) := ⟨s, f, K, M, LW, rfl, ⟨Nat.le_add_right _ _, Nat.le_add_right _ _⟩, H.more h1 h2⟩
theorem script_at (i n0 : Nat) (xs : Nat → Int32) (h : i < n0) (hn : n0 ≤ 3072) (s : aS) : sld n0 xs (Int32.ofNat i) s = some (.inl (xs i), s) := by
  have e : (Int32.ofNat i).toNatClampNeg = i := ofN_cl (by omega)
  unfold sld
  rw [if_neg, e]
  rw [e]
  exact fun h' => h'.elim (ofN_nn (by omega)) (fun q => by omega)
theorem n_plus (i k : Nat) : Int32.ofNat i + Int32.ofNat k = Int32.ofNat (i + k) := (Int32.ofNat_add i k).symm
theorem ld1 (i n0 : Nat) (xs : Nat → Int32) (hi : i + 6 ≤ n0) (hn : n0 ≤ 3072) (s : aS) : sld n0 xs (Int32.ofNat i + 1) s = some (.inl (xs (i + 1)), s) := (congrFun (congrArg _ (n_plus i 1)) s).trans (script_at (i + 1) n0 xs (by omega) hn s)
theorem ld2 (i n0 : Nat) (xs : Nat → Int32) (hi : i + 6 ≤ n0) (hn : n0 ≤ 3072) (s : aS) : sld n0 xs (Int32.ofNat i + 2) s = some (.inl (xs (i + 2)), s) := (congrFun (congrArg _ (n_plus i 2)) s).trans (script_at (i + 2) n0 xs (by omega) hn s)
theorem ld3 (i n0 : Nat) (xs : Nat → Int32) (hi : i + 6 ≤ n0) (hn : n0 ≤ 3072) (s : aS) : sld n0 xs (Int32.ofNat i + 3) s = some (.inl (xs (i + 3)), s) := (congrFun (congrArg _ (n_plus i 3)) s).trans (script_at (i + 3) n0 xs (by omega) hn s)
theorem ld4 (i n0 : Nat) (xs : Nat → Int32) (hi : i + 6 ≤ n0) (hn : n0 ≤ 3072) (s : aS) : sld n0 xs (Int32.ofNat i + 4) s = some (.inl (xs (i + 4)), s) := (congrFun (congrArg _ (n_plus i 4)) s).trans (script_at (i + 4) n0 xs (by omega) hn s)
theorem ld5 (i n0 : Nat) (xs : Nat → Int32) (hi : i + 6 ≤ n0) (hn : n0 ≤ 3072) (s : aS) : sld n0 xs (Int32.ofNat i + 5) s = some (.inl (xs (i + 5)), s) := (congrFun (congrArg _ (n_plus i 5)) s).trans (script_at (i + 5) n0 xs (by omega) hn s)
theorem ended {n i : Nat} (hn : n ≤ 3072) (hi : i ≤ 4000) : (Int32.ofNat n - 6 < Int32.ofNat i) ↔ n < i + 6 := by
  have hI : (Int32.ofNat i).toInt = (i : Int) := Int32.toInt_ofNat_of_lt (by omega)
  rw [Int32.lt_iff_toInt_lt, hI]
  by_cases h : 6 ≤ n
  · have e : Int32.ofNat n - 6 = Int32.ofNat (n - 6) := (Int32.ofNat_sub n 6 h).symm
    rw [e, Int32.toInt_ofNat_of_lt (by omega)]
    omega
  · have h5 : n = 0 ∨ n = 1 ∨ n = 2 ∨ n = 3 ∨ n = 4 ∨ n = 5 := by omega
    rcases h5 with rfl | rfl | rfl | rfl | rfl | rfl
    · rw [show (Int32.ofNat 0 - 6).toInt = -6 from rfl]; omega
    · rw [show (Int32.ofNat 1 - 6).toInt = -5 from rfl]; omega
    · rw [show (Int32.ofNat 2 - 6).toInt = -4 from rfl]; omega
    · rw [show (Int32.ofNat 3 - 6).toInt = -3 from rfl]; omega
    · rw [show (Int32.ofNat 4 - 6).toInt = -2 from rfl]; omega
    · rw [show (Int32.ofNat 5 - 6).toInt = -1 from rfl]; omega
/-- the two readers' calls -/
def Shop : Prop := ∀ s f K M LW c c', World s f K M LW c → c ≤ c' → c' < 100000 → Both s (mX11_shop 0) (mX12_shop 66) [(0, 1), (1, 2)] c'
def Law : Prop := ∀ s f K M LW c c', World s f K M LW c → c ≤ c' → c' < 100000 → Both s (mX11_law 0) (mX12_law 66) [(0, 1)] c'
set_option maxRecDepth 4000 in
theorem one_call (SH : Shop) (LA : Law) {s : aS} {f : Int32} {K : CK} {M : MK} {LW : Option (List Ln)} {c c' : Nat} (n0 : Nat) (xs : Nat → Int32) (i : Nat) (hi : i + 6 ≤ n0) (hn : n0 ≤ 3072) (H : World s f K M LW c) (h1 : c + 60 ≤ c') (h2 : c' < 100000) : ArmOk s (Int32.ofNat i) c' (mL_main_L n0 xs 0 66 79 (Int32.ofNat i)) := by
  unfold mL_main_L
  rw [if_neg (fun h => by have := (ended hn (by omega)).mp h; omega)]
  refine ArmOk.congr (bnd_ok (script_at i n0 xs (by omega) hn s)) ?_
  exact ArmOk.ite (fun _ => arm_0 (ld1 i n0 xs hi hn) (ld2 i n0 xs hi hn) (ld3 i n0 xs hi hn) (ld4 i n0 xs hi hn) (ld5 i n0 xs hi hn) H h1 h2)
  <| fun _ => ArmOk.ite (fun _ => arm_1 (ld1 i n0 xs hi hn) H h1 h2)
  <| fun _ => ArmOk.ite (fun _ => arm_2 SH H h1 h2)
  <| fun _ => ArmOk.ite (fun _ => arm_3 LA H h1 h2)
  <| fun _ => ArmOk.ite (fun _ => arm_4 H h1 h2)
  <| fun _ => ArmOk.ite (fun _ => arm_5 (ld1 i n0 xs hi hn) (ld2 i n0 xs hi hn) H h1 h2)
  <| fun _ => ArmOk.ite (fun _ => arm_6 (ld1 i n0 xs hi hn) (ld2 i n0 xs hi hn) H h1 h2)
  <| fun _ => ArmOk.ite (fun _ => arm_7 (ld1 i n0 xs hi hn) (ld2 i n0 xs hi hn) H h1 h2)
  <| fun _ => ArmOk.ite (fun _ => arm_8 (ld1 i n0 xs hi hn) (ld2 i n0 xs hi hn) H h1 h2)
  <| fun _ => ArmOk.ite (fun _ => arm_9 (ld1 i n0 xs hi hn) (ld2 i n0 xs hi hn) (ld3 i n0 xs hi hn) (ld4 i n0 xs hi hn) H h1 h2)
  <| fun _ => ArmOk.ite (fun _ => arm_10 (ld1 i n0 xs hi hn) (ld2 i n0 xs hi hn) (ld3 i n0 xs hi hn) H h1 h2)
  <| fun _ => ArmOk.ite (fun _ => arm_11 (ld1 i n0 xs hi hn) (ld2 i n0 xs hi hn) H h1 h2)
  <| fun _ => ArmOk.ite (fun _ => arm_12 (ld1 i n0 xs hi hn) H h1 h2)
  <| fun _ => ArmOk.ite (fun _ => arm_13 (ld1 i n0 xs hi hn) (ld2 i n0 xs hi hn) H h1 h2)
  <| fun _ => ArmOk.ite (fun _ => arm_14 (ld1 i n0 xs hi hn) H h1 h2)
  <| fun _ => ArmOk.ite (fun _ => arm_15 H h1 h2)
  <| fun _ => ArmOk.ite (fun _ => arm_16 (ld1 i n0 xs hi hn) (ld2 i n0 xs hi hn) (ld3 i n0 xs hi hn) H h1 h2)
  <| fun _ => ArmOk.ite (fun _ => arm_17 (ld1 i n0 xs hi hn) H h1 h2)
  <| fun _ => ArmOk.ite (fun _ => arm_18 (ld1 i n0 xs hi hn) (ld2 i n0 xs hi hn) H h1 h2)
  <| fun _ => ArmOk.ite (fun _ => arm_19 (ld1 i n0 xs hi hn) H h1 h2)
  <| fun _ => ArmOk.ite (fun _ => arm_20 (ld1 i n0 xs hi hn) H h1 h2)
  <| fun _ => ArmOk.ite (fun _ => arm_21 H h1 h2)
  <| fun _ => ArmOk.ite (fun _ => arm_22 (ld1 i n0 xs hi hn) (ld2 i n0 xs hi hn) (ld3 i n0 xs hi hn) H h1 h2)
  <| fun _ => ArmOk.ite (fun _ => arm_23 (ld1 i n0 xs hi hn) H h1 h2)
  <| fun _ => ArmOk.ite (fun _ => arm_24 (ld1 i n0 xs hi hn) (ld2 i n0 xs hi hn) H h1 h2)
  <| fun _ => ArmOk.ite (fun _ => arm_25 (ld1 i n0 xs hi hn) (ld2 i n0 xs hi hn) H h1 h2)
  <| fun _ => ArmOk.ite (fun _ => arm_26 (ld1 i n0 xs hi hn) H h1 h2)
  <| fun _ => ArmOk.ite (fun _ => arm_27 (ld1 i n0 xs hi hn) (ld2 i n0 xs hi hn) H h1 h2)
  <| fun _ => ArmOk.ite (fun _ => arm_28 (ld1 i n0 xs hi hn) (ld2 i n0 xs hi hn) (ld3 i n0 xs hi hn) H h1 h2)
  <| fun _ => ArmOk.ite (fun _ => arm_29 (ld1 i n0 xs hi hn) H h1 h2)
  <| fun _ => ArmOk.ite (fun _ => arm_30 H h1 h2)
  <| fun _ => ArmOk.ite (fun _ => arm_31 (ld1 i n0 xs hi hn) (ld2 i n0 xs hi hn) H h1 h2)
  <| fun _ => ArmOk.ite (fun _ => arm_32 (ld1 i n0 xs hi hn) (ld2 i n0 xs hi hn) H h1 h2)
  <| fun _ => ArmOk.ite (fun _ => arm_33 H h1 h2)
  <| fun _ => ArmOk.ite (fun _ => arm_34 (ld1 i n0 xs hi hn) (ld2 i n0 xs hi hn) H h1 h2)
  <| fun _ => ArmOk.ite (fun _ => arm_35 (ld1 i n0 xs hi hn) H h1 h2)
  <| fun _ => ArmOk.ite (fun _ => arm_36 (ld1 i n0 xs hi hn) (ld2 i n0 xs hi hn) H h1 h2)
  <| fun _ => ArmOk.ite (fun _ => arm_37 (ld1 i n0 xs hi hn) (ld2 i n0 xs hi hn) (ld3 i n0 xs hi hn) (ld4 i n0 xs hi hn) H h1 h2)
  <| fun _ => ArmOk.ite (fun _ => arm_38 (ld1 i n0 xs hi hn) (ld2 i n0 xs hi hn) (ld3 i n0 xs hi hn) H h1 h2)
  <| fun _ => ArmOk.ite (fun _ => arm_39 (ld1 i n0 xs hi hn) H h1 h2)
  <| fun _ => ArmOk.ite (fun _ => arm_40 (ld1 i n0 xs hi hn) (ld2 i n0 xs hi hn) H h1 h2)
  <| fun _ => ArmOk.ite (fun _ => arm_41 (ld1 i n0 xs hi hn) (ld2 i n0 xs hi hn) H h1 h2)
  <| fun _ => ArmOk.ite (fun _ => arm_42 (ld1 i n0 xs hi hn) H h1 h2)
  <| fun _ => ArmOk.ite (fun _ => arm_43 (ld1 i n0 xs hi hn) H h1 h2)
  <| fun _ => ArmOk.ite (fun _ => arm_44 H h1 h2)
  <| fun _ => ArmOk.ite (fun _ => arm_45 H h1 h2)
  <| fun _ => ArmOk.ite (fun _ => arm_46 H h1 h2)
  <| fun _ => ArmOk.ite (fun _ => arm_47 (ld1 i n0 xs hi hn) H h1 h2)
  <| fun _ => ArmOk.other H (by omega) h2
theorem all_calls (SH : Shop) (LA : Law) (n0 : Nat) (xs : Nat → Int32) (hn : n0 ≤ 3072) : ∀ m i s f K M LW c, n0 < i + 6 * m + 6 → i ≤ 3072 + 6 → World s f K M LW c → c + 60 * m < 100000 → ∃ s', loopM (mL_main_L n0 xs 0 66 79) (Int32.ofNat i) s = some (.inl (.inl ()), s') ∧ s'.2.2.1 ≤ s.2.2.1 + 20 * m ∧ s'.2.2.2 ≤ s.2.2.2 + 2000 * m := by
  intro m
  induction m with
  | zero =>
    intro i s f K M LW c h1 h2 H h3
    refine ⟨s, ?_, Nat.le_refl _, Nat.le_refl _⟩
    rw [loopM_eq]
    have e : mL_main_L n0 xs 0 66 79 (Int32.ofNat i) s = some (.inl (.inr (.inl ())), s) := by
      unfold mL_main_L
      rw [if_pos ((ended hn (by omega)).mpr (by omega))]
      rfl
    rw [bnd_ok e]
    rfl
  | succ m ih =>
    intro i s f K M LW c h1 h2 H h3
    rw [loopM_eq]
    by_cases h : n0 < i + 6
    · refine ⟨s, ?_, by omega, by omega⟩
      have e : mL_main_L n0 xs 0 66 79 (Int32.ofNat i) s = some (.inl (.inr (.inl ())), s) := by
        unfold mL_main_L
        rw [if_pos ((ended hn (by omega)).mpr h)]
        rfl
      rw [bnd_ok e]
      rfl
    · obtain ⟨s2, f2, K2, M2, LW2, e, ⟨r1, r2⟩, w⟩ := one_call SH LA (c' := c + 60) n0 xs i (by omega) hn H (Nat.le_refl _) (by omega)
      obtain ⟨s3, e3, q1, q2⟩ := ih (i + 6) s2 f2 K2 M2 LW2 (c + 60) (by omega) (by omega) w (by omega)
      refine ⟨s3, ?_, by omega, by omega⟩
      rw [bnd_ok e]
      show loopM _ (Int32.ofNat i + 6) s2 = _
      rw [show Int32.ofNat i + 6 = Int32.ofNat (i + 6) from n_plus i 6]
      exact e3
