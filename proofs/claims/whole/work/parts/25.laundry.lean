/-! PRINTED BY wip/whole/gen.py -/
def aX3_init : StA := (RX3, cX3_init, 1, none, yX3_init, 8, [])
theorem fpX3_11_3 : FP RX3 11 3 0 (.array (.array .int)) true := ⟨_, TX3, 5, "ToolCourt$Laundry", tyX3, rfl, by decide, Or.inl (tblG_of 224 (by decide +kernel) (by decide +kernel)), Or.inl rfl, tyX3_ok, nmX3, rfl, by decide, by decide +kernel⟩
theorem fpX3_16_3 : FP RX3 16 3 1 (.array (.array .int)) true := ⟨_, TX3, 5, "ToolCourt$Laundry", tyX3, rfl, by decide, Or.inl (tblG_of 225 (by decide +kernel) (by decide +kernel)), Or.inl rfl, tyX3_ok, nmX3, rfl, by decide, by decide +kernel⟩
theorem fpX3_19_3 : FP RX3 19 3 2 (.array .int) true := ⟨_, TX3, 5, "ToolCourt$Laundry", tyX3, rfl, by decide, Or.inl (tblG_of 226 (by decide +kernel) (by decide +kernel)), Or.inl rfl, tyX3_ok, nmX3, rfl, by decide, by decide +kernel⟩
theorem fpX3_23_3 : FP RX3 23 3 3 .int false := ⟨_, TX3, 5, "ToolCourt$Laundry", tyX3, rfl, by decide, Or.inl (tblG_of 227 (by decide +kernel) (by decide +kernel)), Or.inl rfl, tyX3_ok, nmX3, rfl, by decide, by decide +kernel⟩
theorem fpX3_27_3 : FP RX3 27 3 4 .int false := ⟨_, TX3, 5, "ToolCourt$Laundry", tyX3, rfl, by decide, Or.inl (tblG_of 229 (by decide +kernel) (by decide +kernel)), Or.inl rfl, tyX3_ok, nmX3, rfl, by decide, by decide +kernel⟩
noncomputable def mX3_init (a0 : Nat) : MM Unit := onC 3 a0 (
  mbnd (nwA 3 17) fun (v1 : Nat) =>
  mbnd (pR 3 0 a0 v1) fun _ =>
  mbnd (nwA 3 17) fun (v2 : Nat) =>
  mbnd (pR 3 1 a0 v2) fun _ =>
  mbnd (nwI 0 3) fun (v3 : Nat) =>
  mbnd (pR 3 2 a0 v3) fun _ =>
  mbnd (pI 3 3 a0 (-1)) fun _ =>
  mbnd (pI 3 4 a0 (-1)) fun _ =>
  mret ()
  )
theorem rcX3_init (a0 : Nat) : Rcv 3 a0 (mX3_init a0) := fun s r h => ⟨(onC_some h).1, (onC_some h).2.1⟩
set_option maxHeartbeats 4000000 in
set_option maxRecDepth 100000 in
theorem ctX3_init (a0 : Nat) : Ct aX3_init [vr a0] (mX3_init a0) rU := by
  unfold mX3_init
  refine ct_onC (ct_intro (by decide +kernel) rfl (Nat.le_of_ble_eq_true rfl) fun Y s => ?_)
  refine r_sub (lv' := [(0, vr a0)]) [0] rfl ?_
  refine r_p (pc' := 1) (p_aload_n 0 (k := 0) (by decide +kernel) rfl) ?_
  refine r_p (pc' := 4) (p_obj (idx := 3) (tblG_of 221 (by decide +kernel) (by decide +kernel)) (Nat.le_of_ble_eq_true rfl) (Nat.le_of_ble_eq_true rfl) (by decide +kernel)) ?_
  refine r_p (pc' := 5) (p_aload_n 0 (k := 0) (by decide +kernel) rfl) ?_
  refine r_p (pc' := 6) (p_iconst (n := 3) (v := 3) (by decide +kernel) rfl) ?_
  refine r_p (pc' := 8) (p_bipush (n := 17) (v := 17) (by decide +kernel) (by decide +kernel)) ?_
  refine r_nwA (idx := 9) (tblG_of 222 (by decide +kernel) (by decide +kernel)) (by decide +kernel) fun v1 s => ?_
  refine r_pR fpX3_11_3 (fun _ => rfl) (Or.inr ⟨_, rfl⟩) (by decide +kernel) fun s => ?_
  refine r_p (pc' := 16) (p_aload_n 0 (k := 0) (by decide +kernel) rfl) ?_
  refine r_p (pc' := 17) (p_iconst (n := 3) (v := 3) (by decide +kernel) rfl) ?_
  refine r_p (pc' := 19) (p_bipush (n := 17) (v := 17) (by decide +kernel) (by decide +kernel)) ?_
  refine r_nwA (idx := 9) (tblG_of 222 (by decide +kernel) (by decide +kernel)) (by decide +kernel) fun v2 s => ?_
  refine r_pR fpX3_16_3 (fun _ => rfl) (Or.inr ⟨_, rfl⟩) (by decide +kernel) fun s => ?_
  refine r_p (pc' := 27) (p_aload_n 0 (k := 0) (by decide +kernel) rfl) ?_
  refine r_p (pc' := 28) (p_iconst (n := 3) (v := 3) (by decide +kernel) rfl) ?_
  refine r_nwI (at9 := .int) (ty := .int) rfl (by decide) (by decide +kernel) fun v3 s => ?_
  refine r_pR fpX3_19_3 (fun _ => rfl) (Or.inr ⟨_, rfl⟩) (by decide +kernel) fun s => ?_
  refine r_p (pc' := 34) (p_aload_n 0 (k := 0) (by decide +kernel) rfl) ?_
  refine r_p (pc' := 35) (p_iconst (n := -1) (v := -1) (by decide +kernel) rfl) ?_
  refine r_pI fpX3_23_3 (fun h => by cases h) (by decide +kernel) fun s => ?_
  refine r_p (pc' := 39) (p_aload_n 0 (k := 0) (by decide +kernel) rfl) ?_
  refine r_p (pc' := 40) (p_iconst (n := -1) (v := -1) (by decide +kernel) rfl) ?_
  refine r_pI fpX3_27_3 (fun h => by cases h) (by decide +kernel) fun s => ?_
  exact r_vret (y9 := ()) rfl rfl rfl (by decide +kernel)
def aX3_addWay : StA := (RX3, cX3_addWay, 4, none, yX3_addWay, 8, [])
theorem flX3_19_3 : FL RX3 19 3 2 := ⟨_, TX3, 5, "ToolCourt$Laundry", rfl, by decide, Or.inl (tblG_of 226 (by decide +kernel) (by decide +kernel)), Or.inl rfl⟩
theorem flX3_11_3 : FL RX3 11 3 0 := ⟨_, TX3, 5, "ToolCourt$Laundry", rfl, by decide, Or.inl (tblG_of 224 (by decide +kernel) (by decide +kernel)), Or.inl rfl⟩
theorem flX3_16_3 : FL RX3 16 3 1 := ⟨_, TX3, 5, "ToolCourt$Laundry", rfl, by decide, Or.inl (tblG_of 225 (by decide +kernel) (by decide +kernel)), Or.inl rfl⟩
noncomputable def mX3_addWay (a0 : Nat) (a1 : Int32) (a2 : Int32) (a3 : Int32) : MM Unit := onC 3 a0 (
  if a1 < 0 then (
    mret ()
  ) else (
    if 3 ≤ a1 then (
      mret ()
    ) else (
      mbnd (gR 3 2 a0) fun (v3 : Nat) =>
      mbnd (ldI 0 v3 a1) fun (v4 : Int32) =>
      mbnd (gR 3 0 a0) fun (v5 : Nat) =>
      mbnd (ldR 2 v5 a1) fun (v6 : Nat) =>
      mbnd (lenI 0 v6) fun (v7 : Int32) =>
      if v7 ≤ v4 then (
        mret ()
      ) else (
        mbnd (gR 3 2 a0) fun (v9 : Nat) =>
        mbnd (ldI 0 v9 a1) fun (v10 : Int32) =>
        mbnd (gR 3 1 a0) fun (v11 : Nat) =>
        mbnd (ldR 2 v11 a1) fun (v12 : Nat) =>
        mbnd (lenI 0 v12) fun (v13 : Int32) =>
        if v13 ≤ v10 then (
          mret ()
        ) else (
          mbnd (gR 3 0 a0) fun (v15 : Nat) =>
          mbnd (ldR 2 v15 a1) fun (v16 : Nat) =>
          mbnd (gR 3 2 a0) fun (v17 : Nat) =>
          mbnd (ldI 0 v17 a1) fun (v18 : Int32) =>
          mbnd (stI 0 v16 v18 a2) fun _ =>
          mbnd (gR 3 1 a0) fun (v19 : Nat) =>
          mbnd (ldR 2 v19 a1) fun (v20 : Nat) =>
          mbnd (gR 3 2 a0) fun (v21 : Nat) =>
          mbnd (ldI 0 v21 a1) fun (v22 : Int32) =>
          mbnd (stI 0 v20 v22 a3) fun _ =>
          mbnd (gR 3 2 a0) fun (v23 : Nat) =>
          mbnd (ldI 0 v23 a1) fun (v24 : Int32) =>
          mbnd (stI 0 v23 a1 (v24 + 1)) fun _ =>
          mret ()
        )
      )
    )
  )
  )
theorem rcX3_addWay (a0 : Nat) (a1 : Int32) (a2 : Int32) (a3 : Int32) : Rcv 3 a0 (mX3_addWay a0 a1 a2 a3) := fun s r h => ⟨(onC_some h).1, (onC_some h).2.1⟩
set_option maxHeartbeats 4000000 in
set_option maxRecDepth 100000 in
theorem ctX3_addWay (a0 : Nat) (a1 : Int32) (a2 : Int32) (a3 : Int32) : Ct aX3_addWay [vr a0, vi a1, vi a2, vi a3] (mX3_addWay a0 a1 a2 a3) rU := by
  unfold mX3_addWay
  refine ct_onC (ct_intro (by decide +kernel) rfl (Nat.le_of_ble_eq_true rfl) fun Y s => ?_)
  refine r_sub (lv' := [(0, vr a0), (1, vi a1), (2, vi a2), (3, vi a3)]) [0, 1, 2, 3] rfl ?_
  refine r_p (pc' := 1) (p_iload_n 1 (k := 1) (by decide +kernel) rfl) ?_
  refine r_iflt (off := 78) (tgt := 79) (by decide +kernel) (by decide) (fun h1 => ?_) (fun h1 => ?_)
  · exact r_vret (y9 := ()) rfl rfl rfl (by decide +kernel)
  · refine r_p (pc' := 5) (p_iload_n 1 (k := 1) (by decide +kernel) rfl) ?_
    refine r_p (pc' := 6) (p_iconst (n := 3) (v := 3) (by decide +kernel) rfl) ?_
    refine r_icmpge (off := 73) (tgt := 79) (by decide +kernel) (by decide) (fun h2 => ?_) (fun h2 => ?_)
    · exact r_vret (y9 := ()) rfl rfl rfl (by decide +kernel)
    · refine r_p (pc' := 10) (p_aload_n 0 (k := 0) (by decide +kernel) rfl) ?_
      refine r_gR flX3_19_3 (by decide +kernel) fun v3 => ?_
      refine r_p (pc' := 14) (p_iload_n 1 (k := 1) (by decide +kernel) rfl) ?_
      refine r_ldI0 (by decide +kernel) fun v4 => ?_
      refine r_p (pc' := 16) (p_aload_n 0 (k := 0) (by decide +kernel) rfl) ?_
      refine r_gR flX3_11_3 (by decide +kernel) fun v5 => ?_
      refine r_p (pc' := 20) (p_iload_n 1 (k := 1) (by decide +kernel) rfl) ?_
      refine r_ldR (by decide) (by decide +kernel) fun v6 => ?_
      refine r_lenI (by decide) (by decide +kernel) fun v7 => ?_
      refine r_icmpge (off := 57) (tgt := 79) (by decide +kernel) (by decide) (fun h8 => ?_) (fun h8 => ?_)
      · exact r_vret (y9 := ()) rfl rfl rfl (by decide +kernel)
      · refine r_p (pc' := 26) (p_aload_n 0 (k := 0) (by decide +kernel) rfl) ?_
        refine r_gR flX3_19_3 (by decide +kernel) fun v9 => ?_
        refine r_p (pc' := 30) (p_iload_n 1 (k := 1) (by decide +kernel) rfl) ?_
        refine r_ldI0 (by decide +kernel) fun v10 => ?_
        refine r_p (pc' := 32) (p_aload_n 0 (k := 0) (by decide +kernel) rfl) ?_
        refine r_gR flX3_16_3 (by decide +kernel) fun v11 => ?_
        refine r_p (pc' := 36) (p_iload_n 1 (k := 1) (by decide +kernel) rfl) ?_
        refine r_ldR (by decide) (by decide +kernel) fun v12 => ?_
        refine r_lenI (by decide) (by decide +kernel) fun v13 => ?_
        refine r_icmpge (off := 41) (tgt := 79) (by decide +kernel) (by decide) (fun h14 => ?_) (fun h14 => ?_)
        · exact r_vret (y9 := ()) rfl rfl rfl (by decide +kernel)
        · refine r_p (pc' := 42) (p_aload_n 0 (k := 0) (by decide +kernel) rfl) ?_
          refine r_gR flX3_11_3 (by decide +kernel) fun v15 => ?_
          refine r_p (pc' := 46) (p_iload_n 1 (k := 1) (by decide +kernel) rfl) ?_
          refine r_ldR (by decide) (by decide +kernel) fun v16 => ?_
          refine r_p (pc' := 48) (p_aload_n 0 (k := 0) (by decide +kernel) rfl) ?_
          refine r_gR flX3_19_3 (by decide +kernel) fun v17 => ?_
          refine r_p (pc' := 52) (p_iload_n 1 (k := 1) (by decide +kernel) rfl) ?_
          refine r_ldI0 (by decide +kernel) fun v18 => ?_
          refine r_p (pc' := 54) (p_iload_n 2 (k := 2) (by decide +kernel) rfl) ?_
          refine r_stI0 (by decide +kernel) fun s => ?_
          refine r_p (pc' := 56) (p_aload_n 0 (k := 0) (by decide +kernel) rfl) ?_
          refine r_gR flX3_16_3 (by decide +kernel) fun v19 => ?_
          refine r_p (pc' := 60) (p_iload_n 1 (k := 1) (by decide +kernel) rfl) ?_
          refine r_ldR (by decide) (by decide +kernel) fun v20 => ?_
          refine r_p (pc' := 62) (p_aload_n 0 (k := 0) (by decide +kernel) rfl) ?_
          refine r_gR flX3_19_3 (by decide +kernel) fun v21 => ?_
          refine r_p (pc' := 66) (p_iload_n 1 (k := 1) (by decide +kernel) rfl) ?_
          refine r_ldI0 (by decide +kernel) fun v22 => ?_
          refine r_p (pc' := 68) (p_iload_n 3 (k := 3) (by decide +kernel) rfl) ?_
          refine r_stI0 (by decide +kernel) fun s => ?_
          refine r_p (pc' := 70) (p_aload_n 0 (k := 0) (by decide +kernel) rfl) ?_
          refine r_gR flX3_19_3 (by decide +kernel) fun v23 => ?_
          refine r_p (pc' := 74) (p_iload_n 1 (k := 1) (by decide +kernel) rfl) ?_
          refine r_p (pc' := 75) (p_dup2 rfl rfl (by decide +kernel)) ?_
          refine r_ldI0 (by decide +kernel) fun v24 => ?_
          refine r_p (pc' := 77) (p_iconst (n := 1) (v := 1) (by decide +kernel) rfl) ?_
          refine r_p (pc' := 78) (p_iadd (by decide +kernel)) ?_
          refine r_stI0 (by decide +kernel) fun s => ?_
          exact r_vret (y9 := ()) rfl rfl rfl (by decide +kernel)
def aX3_addSwaps : StA := (RX3, cX3_addSwaps, 9, none, yX3_addSwaps, 13, [])
theorem flX3_30_1 : FL RX3 30 1 1 := ⟨_, TX1, 13, "ToolCourt$Court", rfl, by decide, Or.inr ⟨"ToolCourt", List.mem_of_getElem? (i := 346) (by decide +kernel)⟩, Or.inl rfl⟩
theorem mvX3_36 : MV RX3 36 aX8_get 2 := ⟨tblG_of 620 (by decide +kernel) (by decide +kernel), tblG_of 582 (by decide +kernel) (by decide +kernel), tblG_of 583 (by decide +kernel) (by decide +kernel), tblG_of 152 (by decide +kernel) (by decide +kernel), tblG_of 584 (by decide +kernel) (by decide +kernel), rfl, ⟨by decide, by decide⟩, by decide +kernel, by decide⟩
theorem mvX3_42 : MV RX3 42 aX1_guiltOf 1 := ⟨tblG_of 621 (by decide +kernel) (by decide +kernel), tblG_of 586 (by decide +kernel) (by decide +kernel), tblG_of 587 (by decide +kernel) (by decide +kernel), tblG_of 151 (by decide +kernel) (by decide +kernel), tblG_of 588 (by decide +kernel) (by decide +kernel), rfl, ⟨by decide, by decide⟩, by decide +kernel, by decide⟩
theorem mvX3_46 : MV RX3 46 aX3_addWay 3 := ⟨tblG_of 622 (by decide +kernel) (by decide +kernel), tblG_of 624 (by decide +kernel) (by decide +kernel), tblG_of 1 (by decide +kernel) (by decide +kernel), tblG_of 147 (by decide +kernel) (by decide +kernel), tblG_of 625 (by decide +kernel) (by decide +kernel), rfl, ⟨by decide, by decide⟩, by decide +kernel, by decide⟩
theorem mvX3_65 : MV RX3 65 aX1_isNailed 1 := ⟨tblG_of 631 (by decide +kernel) (by decide +kernel), tblG_of 632 (by decide +kernel) (by decide +kernel), tblG_of 633 (by decide +kernel) (by decide +kernel), tblG_of 151 (by decide +kernel) (by decide +kernel), tblG_of 634 (by decide +kernel) (by decide +kernel), rfl, ⟨by decide, by decide⟩, by decide +kernel, by decide⟩
theorem mvX3_69 : MV RX3 69 aX2_inherited 2 := ⟨tblG_of 635 (by decide +kernel) (by decide +kernel), tblG_of 636 (by decide +kernel) (by decide +kernel), tblG_of 637 (by decide +kernel) (by decide +kernel), tblG_of 146 (by decide +kernel) (by decide +kernel), tblG_of 638 (by decide +kernel) (by decide +kernel), rfl, ⟨by decide, by decide⟩, by decide +kernel, by decide⟩
theorem flX3_75_1 : FL RX3 75 1 0 := ⟨_, TX1, 13, "ToolCourt$Court", rfl, by decide, Or.inr ⟨"ToolCourt", List.mem_of_getElem? (i := 341) (by decide +kernel)⟩, Or.inl rfl⟩
theorem flX3_78_8 : FL RX3 78 8 3 := ⟨_, TX8, 4, "ToolCourt$Table", rfl, by decide, Or.inr ⟨"ToolCourt", List.mem_of_getElem? (i := 326) (by decide +kernel)⟩, Or.inl rfl⟩
theorem mvX3_81 : MV RX3 81 aX1_isSpare 1 := ⟨tblG_of 669 (by decide +kernel) (by decide +kernel), tblG_of 670 (by decide +kernel) (by decide +kernel), tblG_of 671 (by decide +kernel) (by decide +kernel), tblG_of 151 (by decide +kernel) (by decide +kernel), tblG_of 672 (by decide +kernel) (by decide +kernel), rfl, ⟨by decide, by decide⟩, by decide +kernel, by decide⟩
noncomputable def mX3_addSwaps_L61 (a0 : Nat) (a1 : Nat) (a4 : Int32) (x7 : Int32) (x12 : Int32) : MM ((Int32) ⊕ (Unit)) :=
  mbnd (gR 1 0 a1) fun (v16 : Nat) =>
  mbnd (gI 8 3 v16) fun (v17 : Int32) =>
  if v17 ≤ x12 then (
    mret (.inr ())
  ) else (
    mbnd (mX1_isSpare a1 x12) fun (v19 : Int32) =>
    mbnd (α := Unit) (
      if v19 = 0 then (
        mret ()
      ) else (
        mbnd (gR 1 0 a1) fun (v24 : Nat) =>
        mbnd (mX8_get v24 x12 0) fun (v25 : Int32) =>
        if v25 = a4 then (
          mbnd (mX1_guiltOf a1 x12) fun (v27 : Int32) =>
          mbnd (mX3_addWay a0 a4 (v27 + x7) (1 <<< (x12 &&& (31 : Int32)))) fun _ =>
          mret ()
        ) else (
          mret ()
        )
      )
    ) fun (x21 : Unit) =>
    mret (.inl (x12 + 1))
  )
noncomputable def mX3_addSwaps (a0 : Nat) (a1 : Nat) (a2 : Nat) (a3 : Int32) (a4 : Int32) (a5 : Int32) : MM Unit := onC 3 a0 (
  mbnd (gR 1 1 a1) fun (v1 : Nat) =>
  mbnd (mX8_get v1 a3 a4) fun (v2 : Int32) =>
  if v2 = (-1) then (
    mret ()
  ) else (
    mbnd (mX1_isNailed a1 v2) fun (v4 : Int32) =>
    if v4 = 0 then (
      mbnd (α := Int32) (
        if a5 = (-1) then (
          mbnd (mX2_inherited a2 a1 v2) fun (v10 : Int32) =>
          mret v10
        ) else (
          mbnd (mX1_guiltOf a1 v2) fun (v11 : Int32) =>
          mret ((v11 * a5) / 100)
        )
      ) fun (x7 : Int32) =>
      mbnd (loopM (mX3_addSwaps_L61 a0 a1 a4 x7) 0) fun (e28 : Unit) =>
      mret ()
    ) else (
      mret ()
    )
  )
  )
theorem rcX3_addSwaps (a0 : Nat) (a1 : Nat) (a2 : Nat) (a3 : Int32) (a4 : Int32) (a5 : Int32) : Rcv 3 a0 (mX3_addSwaps a0 a1 a2 a3 a4 a5) := fun s r h => ⟨(onC_some h).1, (onC_some h).2.1⟩
set_option maxHeartbeats 4000000 in
set_option maxRecDepth 100000 in
theorem ctX3_addSwaps (a0 : Nat) (a1 : Nat) (a2 : Nat) (a3 : Int32) (a4 : Int32) (a5 : Int32) : Ct aX3_addSwaps [vr a0, vr a1, vr a2, vi a3, vi a4, vi a5] (mX3_addSwaps a0 a1 a2 a3 a4 a5) rU := by
  unfold mX3_addSwaps
  refine ct_onC (ct_intro (by decide +kernel) rfl (Nat.le_of_ble_eq_true rfl) fun Y s => ?_)
  refine r_sub (lv' := [(0, vr a0), (1, vr a1), (2, vr a2), (3, vi a3), (4, vi a4), (5, vi a5)]) [0, 1, 2, 3, 4, 5] rfl ?_
  refine r_p (pc' := 1) (p_aload_n 1 (k := 1) (by decide +kernel) rfl) ?_
  refine r_gR flX3_30_1 (by decide +kernel) fun v1 => ?_
  refine r_p (pc' := 5) (p_iload_n 3 (k := 3) (by decide +kernel) rfl) ?_
  refine r_p (pc' := 7) (p_iload 4 (i := 4) (by decide +kernel) rfl) ?_
  refine r_callVI mvX3_36 (ctX8_get v1 a3 a4) (rcX8_get v1 a3 a4) ⟨_, _, rfl⟩ (as := [vi a3, vi a4]) (st := []) rfl rfl (by decide +kernel) rfl (Nat.le_of_ble_eq_true rfl) (Nat.le_of_ble_eq_true rfl) fun v2 s => ?_
  refine r_p (pc' := 12) (p_istore (i := 6) (lv' := [(6, vi v2), (0, vr a0), (1, vr a1), (2, vr a2), (3, vi a3), (4, vi a4), (5, vi a5)]) (by decide +kernel) (Nat.le_of_ble_eq_true rfl) rfl) ?_
  refine r_p (pc' := 14) (p_iload 0 (i := 6) (by decide +kernel) rfl) ?_
  refine r_p (pc' := 15) (p_iconst (n := -1) (v := -1) (by decide +kernel) rfl) ?_
  refine r_icmpeq (off := 12) (tgt := 27) (by decide +kernel) (by decide) (fun h3 => ?_) (fun h3 => ?_)
  · exact r_vret (y9 := ()) rfl rfl rfl (by decide +kernel)
  · refine r_p (pc' := 19) (p_aload_n 2 (k := 1) (by decide +kernel) rfl) ?_
    refine r_p (pc' := 21) (p_iload 0 (i := 6) (by decide +kernel) rfl) ?_
    refine r_callVI mvX3_65 (ctX1_isNailed a1 v2) (rcX1_isNailed a1 v2) ⟨_, _, rfl⟩ (as := [vi v2]) (st := []) rfl rfl (by decide +kernel) rfl (Nat.le_of_ble_eq_true rfl) (Nat.le_of_ble_eq_true rfl) fun v4 s => ?_
    refine r_ifeq (off := 4) (tgt := 28) (by decide +kernel) (by decide) (fun h5 => ?_) (fun h5 => ?_)
    · refine r_p (pc' := 30) (p_iload 6 (i := 5) (by decide +kernel) rfl) ?_
      refine r_p (pc' := 31) (p_iconst (n := -1) (v := -1) (by decide +kernel) rfl) ?_
      refine r_join 56 (fun (x7 : Int32) => [(0, vr a0), (1, vr a1), (4, vi a4)]) (fun (x7 : Int32) => [vi x7]) (fun x7 s => ?_) (fun K8 hj9 => ?_)
      · refine r_p (pc' := 58) (p_istore (i := 7) (lv' := [(7, vi x7), (0, vr a0), (1, vr a1), (4, vi a4)]) (by decide +kernel) (Nat.le_of_ble_eq_true rfl) rfl) ?_
        refine r_p (pc' := 59) (p_iconst (n := 0) (v := 0) (by decide +kernel) rfl) ?_
        refine r_p (pc' := 61) (p_istore (i := 8) (lv' := [(8, vi 0), (7, vi x7), (0, vr a0), (1, vr a1), (4, vi a4)]) (by decide +kernel) (Nat.le_of_ble_eq_true rfl) rfl) ?_
        refine r_sub (lv' := [(0, vr a0), (1, vr a1), (4, vi a4), (7, vi x7), (8, vi 0)]) [2, 3, 4, 1, 0] rfl ?_
        refine r_loop2 (fun _ => 122) (fun (e28 : Unit) => []) (fun (x12 : Int32) => [(0, vr a0), (1, vr a1), (4, vi a4), (7, vi x7), (8, vi x12)]) (fun e28 s => ?_) (fun K13 hb14 he15 x12 s => ?_) 0 _
        · exact r_vret (y9 := ()) rfl rfl rfl (by decide +kernel)
        · unfold mX3_addSwaps_L61
          refine r_p (pc' := 63) (p_iload 4 (i := 8) (by decide +kernel) rfl) ?_
          refine r_p (pc' := 64) (p_aload_n 1 (k := 1) (by decide +kernel) rfl) ?_
          refine r_gR flX3_75_1 (by decide +kernel) fun v16 => ?_
          refine r_gI flX3_78_8 (by decide +kernel) fun v17 => ?_
          refine r_icmpge (off := 52) (tgt := 122) (by decide +kernel) (by decide) (fun h18 => ?_) (fun h18 => ?_)
          · refine r_sub (lv' := []) [] rfl ?_
            exact he15 () _
          · refine r_p (pc' := 74) (p_aload_n 1 (k := 1) (by decide +kernel) rfl) ?_
            refine r_p (pc' := 76) (p_iload 4 (i := 8) (by decide +kernel) rfl) ?_
            refine r_callVI mvX3_81 (ctX1_isSpare a1 x12) (rcX1_isSpare a1 x12) ⟨_, _, rfl⟩ (as := [vi x12]) (st := []) rfl rfl (by decide +kernel) rfl (Nat.le_of_ble_eq_true rfl) (Nat.le_of_ble_eq_true rfl) fun v19 s => ?_
            refine r_join 116 (fun (x21 : Unit) => [(0, vr a0), (1, vr a1), (4, vi a4), (7, vi x7), (8, vi x12)]) (fun (x21 : Unit) => []) (fun x21 s => ?_) (fun K22 hj23 => ?_)
            · refine r_p (pc' := 119) (p_iinc 4 (i := 8) (n := 1) (x := x12) (v := x12 + 1) (lv' := [(8, vi (x12 + 1)), (0, vr a0), (1, vr a1), (4, vi a4), (7, vi x7)]) (by decide +kernel) rfl rfl (Nat.le_of_ble_eq_true rfl) rfl) ?_
              refine r_p (pc' := 61) (p_goto (off := -58) (tgt := 61) (by decide +kernel) (by decide)) ?_
              refine r_sub (lv' := [(0, vr a0), (1, vr a1), (4, vi a4), (7, vi x7), (8, vi (x12 + 1))]) [1, 2, 3, 4, 0] rfl ?_
              exact hb14 (x12 + 1) _
            · refine r_ifeq (off := 37) (tgt := 116) (by decide +kernel) (by decide) (fun h20 => ?_) (fun h20 => ?_)
              · exact hj23 () _
              · refine r_p (pc' := 83) (p_aload_n 1 (k := 1) (by decide +kernel) rfl) ?_
                refine r_gR flX3_75_1 (by decide +kernel) fun v24 => ?_
                refine r_p (pc' := 88) (p_iload 4 (i := 8) (by decide +kernel) rfl) ?_
                refine r_p (pc' := 89) (p_iconst (n := 0) (v := 0) (by decide +kernel) rfl) ?_
                refine r_callVI mvX3_36 (ctX8_get v24 x12 0) (rcX8_get v24 x12 0) ⟨_, _, rfl⟩ (as := [vi x12, vi 0]) (st := []) rfl rfl (by decide +kernel) rfl (Nat.le_of_ble_eq_true rfl) (Nat.le_of_ble_eq_true rfl) fun v25 s => ?_
                refine r_p (pc' := 94) (p_iload 2 (i := 4) (by decide +kernel) rfl) ?_
                refine r_icmpne (off := 22) (tgt := 116) (by decide +kernel) (by decide) (fun h26 => ?_) (fun h26 => ?_)
                · refine r_p (pc' := 98) (p_aload_n 0 (k := 0) (by decide +kernel) rfl) ?_
                  refine r_p (pc' := 100) (p_iload 2 (i := 4) (by decide +kernel) rfl) ?_
                  refine r_p (pc' := 101) (p_aload_n 1 (k := 1) (by decide +kernel) rfl) ?_
                  refine r_p (pc' := 103) (p_iload 4 (i := 8) (by decide +kernel) rfl) ?_
                  refine r_callVI mvX3_42 (ctX1_guiltOf a1 x12) (rcX1_guiltOf a1 x12) ⟨_, _, rfl⟩ (as := [vi x12]) (st := [vi a4, vr a0]) rfl rfl (by decide +kernel) rfl (Nat.le_of_ble_eq_true rfl) (Nat.le_of_ble_eq_true rfl) fun v27 s => ?_
                  refine r_p (pc' := 108) (p_iload 3 (i := 7) (by decide +kernel) rfl) ?_
                  refine r_p (pc' := 109) (p_iadd (by decide +kernel)) ?_
                  refine r_p (pc' := 110) (p_iconst (n := 1) (v := 1) (by decide +kernel) rfl) ?_
                  refine r_p (pc' := 112) (p_iload 4 (i := 8) (by decide +kernel) rfl) ?_
                  refine r_p (pc' := 113) (p_ishl (by decide +kernel)) ?_
                  refine r_callVU mvX3_46 (ctX3_addWay a0 a4 (v27 + x7) (1 <<< (x12 &&& (31 : Int32)))) (rcX3_addWay a0 a4 (v27 + x7) (1 <<< (x12 &&& (31 : Int32)))) ⟨_, _, rfl⟩ (as := [vi a4, vi (v27 + x7), vi (1 <<< (x12 &&& (31 : Int32)))]) (st := []) rfl rfl (by decide +kernel) rfl (Nat.le_of_ble_eq_true rfl) (Nat.le_of_ble_eq_true rfl) fun s => ?_
                  exact hj23 () _
                · exact hj23 () _
      · refine r_icmpne (off := 13) (tgt := 44) (by decide +kernel) (by decide) (fun h6 => ?_) (fun h6 => ?_)
        · refine r_p (pc' := 35) (p_aload_n 3 (k := 2) (by decide +kernel) rfl) ?_
          refine r_p (pc' := 36) (p_aload_n 2 (k := 1) (by decide +kernel) rfl) ?_
          refine r_p (pc' := 38) (p_iload 0 (i := 6) (by decide +kernel) rfl) ?_
          refine r_callVI mvX3_69 (ctX2_inherited a2 a1 v2) (rcX2_inherited a2 a1 v2) ⟨_, _, rfl⟩ (as := [vr a1, vi v2]) (st := []) rfl rfl (by decide +kernel) rfl (Nat.le_of_ble_eq_true rfl) (Nat.le_of_ble_eq_true rfl) fun v10 s => ?_
          refine r_p (pc' := 56) (p_goto (off := 15) (tgt := 56) (by decide +kernel) (by decide)) ?_
          refine r_sub (lv' := [(0, vr a0), (1, vr a1), (4, vi a4)]) [1, 2, 5] rfl ?_
          exact hj9 v10 _
        · refine r_p (pc' := 45) (p_aload_n 2 (k := 1) (by decide +kernel) rfl) ?_
          refine r_p (pc' := 47) (p_iload 0 (i := 6) (by decide +kernel) rfl) ?_
          refine r_callVI mvX3_42 (ctX1_guiltOf a1 v2) (rcX1_guiltOf a1 v2) ⟨_, _, rfl⟩ (as := [vi v2]) (st := []) rfl rfl (by decide +kernel) rfl (Nat.le_of_ble_eq_true rfl) (Nat.le_of_ble_eq_true rfl) fun v11 s => ?_
          refine r_p (pc' := 52) (p_iload 6 (i := 5) (by decide +kernel) rfl) ?_
          refine r_p (pc' := 53) (p_imul (by decide +kernel)) ?_
          refine r_p (pc' := 55) (p_bipush (n := 100) (v := 100) (by decide +kernel) (by decide +kernel)) ?_
          refine r_p (pc' := 56) (p_idiv (by decide +kernel) (by decide)) ?_
          refine r_sub (lv' := [(0, vr a0), (1, vr a1), (4, vi a4)]) [1, 2, 5] rfl ?_
          exact hj9 ((v11 * a5) / 100) _
    · exact r_vret (y9 := ()) rfl rfl rfl (by decide +kernel)
def aX3_wayOf : StA := (RX3, cX3_wayOf, 4, some .int, yX3_wayOf, 8, [])
noncomputable def mX3_wayOf (a0 : Nat) (a1 : Int32) (a2 : Int32) : MM Int32 :=
  mbnd (α := Int32) (
    if a1 < 0 then (
      mret 0
    ) else (
      mbnd (lenQ 2 a0) fun (v5 : Int32) =>
      if v5 ≤ a1 then (
        mret 0
      ) else (
        if a2 < 0 then (
          mret 0
        ) else (
          mbnd (ldR 2 a0 a1) fun (v8 : Nat) =>
          mbnd (lenI 0 v8) fun (v9 : Int32) =>
          if v9 ≤ a2 then (
            mret 0
          ) else (
            mret 1
          )
        )
      )
    )
  ) fun (x2 : Int32) =>
  if x2 = 0 then (
    mret 0
  ) else (
    mbnd (ldR 2 a0 a1) fun (v12 : Nat) =>
    mbnd (ldI 0 v12 a2) fun (v13 : Int32) =>
    mret v13
  )
set_option maxHeartbeats 4000000 in
set_option maxRecDepth 100000 in
theorem ctX3_wayOf (a0 : Nat) (a1 : Int32) (a2 : Int32) : Ct aX3_wayOf [vr a0, vi a1, vi a2] (mX3_wayOf a0 a1 a2) rI := by
  unfold mX3_wayOf
  refine ct_intro (by decide +kernel) rfl (Nat.le_of_ble_eq_true rfl) fun Y s => ?_
  refine r_sub (lv' := [(0, vr a0), (1, vi a1), (2, vi a2)]) [0, 1, 2] rfl ?_
  refine r_p (pc' := 1) (p_iload_n 1 (k := 1) (by decide +kernel) rfl) ?_
  refine r_join 27 (fun (x2 : Int32) => [(0, vr a0), (1, vi a1), (2, vi a2)]) (fun (x2 : Int32) => [vi x2]) (fun x2 s => ?_) (fun K3 hj4 => ?_)
  · refine r_p (pc' := 28) (p_istore_n (k := 3) (lv' := [(3, vi x2), (0, vr a0), (1, vi a1), (2, vi a2)]) (by decide +kernel) (Nat.le_of_ble_eq_true rfl) rfl) ?_
    refine r_p (pc' := 29) (p_iload_n 0 (k := 3) (by decide +kernel) rfl) ?_
    refine r_ifeq (off := 11) (tgt := 40) (by decide +kernel) (by decide) (fun h11 => ?_) (fun h11 => ?_)
    · refine r_p (pc' := 41) (p_iconst (n := 0) (v := 0) (by decide +kernel) rfl) ?_
      exact r_iret rfl rfl _ rfl rfl (by decide +kernel)
    · refine r_p (pc' := 33) (p_aload_n 1 (k := 0) (by decide +kernel) rfl) ?_
      refine r_p (pc' := 34) (p_iload_n 2 (k := 1) (by decide +kernel) rfl) ?_
      refine r_ldR (by decide) (by decide +kernel) fun v12 => ?_
      refine r_p (pc' := 36) (p_iload_n 3 (k := 2) (by decide +kernel) rfl) ?_
      refine r_ldI0 (by decide +kernel) fun v13 => ?_
      refine r_p (pc' := 41) (p_goto (off := 4) (tgt := 41) (by decide +kernel) (by decide)) ?_
      exact r_iret rfl rfl _ rfl rfl (by decide +kernel)
  · refine r_iflt (off := 25) (tgt := 26) (by decide +kernel) (by decide) (fun h1 => ?_) (fun h1 => ?_)
    · refine r_p (pc' := 27) (p_iconst (n := 0) (v := 0) (by decide +kernel) rfl) ?_
      exact hj4 0 _
    · refine r_p (pc' := 5) (p_iload_n 1 (k := 1) (by decide +kernel) rfl) ?_
      refine r_p (pc' := 6) (p_aload_n 0 (k := 0) (by decide +kernel) rfl) ?_
      refine r_lenQ (by decide) (by decide +kernel) fun v5 => ?_
      refine r_icmpge (off := 19) (tgt := 26) (by decide +kernel) (by decide) (fun h6 => ?_) (fun h6 => ?_)
      · refine r_p (pc' := 27) (p_iconst (n := 0) (v := 0) (by decide +kernel) rfl) ?_
        exact hj4 0 _
      · refine r_p (pc' := 11) (p_iload_n 2 (k := 2) (by decide +kernel) rfl) ?_
        refine r_iflt (off := 15) (tgt := 26) (by decide +kernel) (by decide) (fun h7 => ?_) (fun h7 => ?_)
        · refine r_p (pc' := 27) (p_iconst (n := 0) (v := 0) (by decide +kernel) rfl) ?_
          exact hj4 0 _
        · refine r_p (pc' := 15) (p_iload_n 2 (k := 2) (by decide +kernel) rfl) ?_
          refine r_p (pc' := 16) (p_aload_n 0 (k := 0) (by decide +kernel) rfl) ?_
          refine r_p (pc' := 17) (p_iload_n 1 (k := 1) (by decide +kernel) rfl) ?_
          refine r_ldR (by decide) (by decide +kernel) fun v8 => ?_
          refine r_lenI (by decide) (by decide +kernel) fun v9 => ?_
          refine r_icmpge (off := 7) (tgt := 26) (by decide +kernel) (by decide) (fun h10 => ?_) (fun h10 => ?_)
          · refine r_p (pc' := 27) (p_iconst (n := 0) (v := 0) (by decide +kernel) rfl) ?_
            exact hj4 0 _
          · refine r_p (pc' := 23) (p_iconst (n := 1) (v := 1) (by decide +kernel) rfl) ?_
            refine r_p (pc' := 27) (p_goto (off := 4) (tgt := 27) (by decide +kernel) (by decide)) ?_
            exact hj4 1 _
def aX3_consider : StA := (RX3, cX3_consider, 7, none, yX3_consider, 9, [])
theorem msX3_84 : MS RX3 84 aX3_wayOf 3 := ⟨tblG_of 677 (by decide +kernel) (by decide +kernel), tblG_of 678 (by decide +kernel) (by decide +kernel), tblG_of 147 (by decide +kernel) (by decide +kernel), tblG_of 679 (by decide +kernel) (by decide +kernel), rfl, ⟨by decide, by decide⟩, by decide +kernel, by decide⟩
theorem flX3_23_3 : FL RX3 23 3 3 := ⟨_, TX3, 5, "ToolCourt$Laundry", rfl, by decide, Or.inl (tblG_of 227 (by decide +kernel) (by decide +kernel)), Or.inl rfl⟩
noncomputable def mX3_consider (a0 : Nat) (a1 : Int32) (a2 : Int32) (a3 : Int32) (a4 : Int32) : MM Unit := onC 3 a0 (
  mbnd (gR 3 0 a0) fun (v1 : Nat) =>
  mbnd (mX3_wayOf v1 0 a1) fun (v2 : Int32) =>
  mbnd (gR 3 0 a0) fun (v3 : Nat) =>
  mbnd (mX3_wayOf v3 1 a2) fun (v4 : Int32) =>
  mbnd (gR 3 0 a0) fun (v5 : Nat) =>
  mbnd (mX3_wayOf v5 2 a3) fun (v6 : Int32) =>
  mbnd (mret ((v2 + v4) + v6)) fun (v7 : Int32) =>
  mbnd (mret (((imin 1 a1) + (imin 1 a2)) + (imin 1 a3))) fun (v8 : Int32) =>
  if a4 < v7 then (
    mret ()
  ) else (
    mbnd (gI 3 3 a0) fun (v10 : Int32) =>
    if v10 = (-1) then (
      mbnd (pI 3 3 a0 v8) fun _ =>
      mbnd (gR 3 1 a0) fun (v12 : Nat) =>
      mbnd (mX3_wayOf v12 0 a1) fun (v13 : Int32) =>
      mbnd (gR 3 1 a0) fun (v14 : Nat) =>
      mbnd (mX3_wayOf v14 1 a2) fun (v15 : Int32) =>
      mbnd (gR 3 1 a0) fun (v16 : Nat) =>
      mbnd (mX3_wayOf v16 2 a3) fun (v17 : Int32) =>
      mbnd (pI 3 4 a0 ((v13 ||| v15) ||| v17)) fun _ =>
      mret ()
    ) else (
      mbnd (gI 3 3 a0) fun (v18 : Int32) =>
      if v18 ≤ v8 then (
        mret ()
      ) else (
        mbnd (pI 3 3 a0 v8) fun _ =>
        mbnd (gR 3 1 a0) fun (v20 : Nat) =>
        mbnd (mX3_wayOf v20 0 a1) fun (v21 : Int32) =>
        mbnd (gR 3 1 a0) fun (v22 : Nat) =>
        mbnd (mX3_wayOf v22 1 a2) fun (v23 : Int32) =>
        mbnd (gR 3 1 a0) fun (v24 : Nat) =>
        mbnd (mX3_wayOf v24 2 a3) fun (v25 : Int32) =>
        mbnd (pI 3 4 a0 ((v21 ||| v23) ||| v25)) fun _ =>
        mret ()
      )
    )
  )
  )
theorem rcX3_consider (a0 : Nat) (a1 : Int32) (a2 : Int32) (a3 : Int32) (a4 : Int32) : Rcv 3 a0 (mX3_consider a0 a1 a2 a3 a4) := fun s r h => ⟨(onC_some h).1, (onC_some h).2.1⟩
set_option maxHeartbeats 4000000 in
set_option maxRecDepth 100000 in
theorem ctX3_consider (a0 : Nat) (a1 : Int32) (a2 : Int32) (a3 : Int32) (a4 : Int32) : Ct aX3_consider [vr a0, vi a1, vi a2, vi a3, vi a4] (mX3_consider a0 a1 a2 a3 a4) rU := by
  unfold mX3_consider
  refine ct_onC (ct_intro (by decide +kernel) rfl (Nat.le_of_ble_eq_true rfl) fun Y s => ?_)
  refine r_sub (lv' := [(0, vr a0), (1, vi a1), (2, vi a2), (3, vi a3), (4, vi a4)]) [0, 1, 2, 3, 4] rfl ?_
  refine r_p (pc' := 1) (p_aload_n 0 (k := 0) (by decide +kernel) rfl) ?_
  refine r_gR flX3_11_3 (by decide +kernel) fun v1 => ?_
  refine r_p (pc' := 5) (p_iconst (n := 0) (v := 0) (by decide +kernel) rfl) ?_
  refine r_p (pc' := 6) (p_iload_n 1 (k := 1) (by decide +kernel) rfl) ?_
  refine r_callSI msX3_84 (ctX3_wayOf v1 0 a1) (as := [vr v1, vi 0, vi a1]) (st := []) rfl rfl (by decide +kernel) rfl (Nat.le_of_ble_eq_true rfl) (Nat.le_of_ble_eq_true rfl) fun v2 s => ?_
  refine r_p (pc' := 10) (p_aload_n 0 (k := 0) (by decide +kernel) rfl) ?_
  refine r_gR flX3_11_3 (by decide +kernel) fun v3 => ?_
  refine r_p (pc' := 14) (p_iconst (n := 1) (v := 1) (by decide +kernel) rfl) ?_
  refine r_p (pc' := 15) (p_iload_n 2 (k := 2) (by decide +kernel) rfl) ?_
  refine r_callSI msX3_84 (ctX3_wayOf v3 1 a2) (as := [vr v3, vi 1, vi a2]) (st := [vi v2]) rfl rfl (by decide +kernel) rfl (Nat.le_of_ble_eq_true rfl) (Nat.le_of_ble_eq_true rfl) fun v4 s => ?_
  refine r_p (pc' := 19) (p_iadd (by decide +kernel)) ?_
  refine r_p (pc' := 20) (p_aload_n 0 (k := 0) (by decide +kernel) rfl) ?_
  refine r_gR flX3_11_3 (by decide +kernel) fun v5 => ?_
  refine r_p (pc' := 24) (p_iconst (n := 2) (v := 2) (by decide +kernel) rfl) ?_
  refine r_p (pc' := 25) (p_iload_n 3 (k := 3) (by decide +kernel) rfl) ?_
  refine r_callSI msX3_84 (ctX3_wayOf v5 2 a3) (as := [vr v5, vi 2, vi a3]) (st := [vi (v2 + v4)]) rfl rfl (by decide +kernel) rfl (Nat.le_of_ble_eq_true rfl) (Nat.le_of_ble_eq_true rfl) fun v6 s => ?_
  refine r_p (pc' := 29) (p_iadd (by decide +kernel)) ?_
  refine r_letI fun v7 => ?_
  refine r_p (pc' := 31) (p_istore (i := 5) (lv' := [(5, vi v7), (0, vr a0), (1, vi a1), (2, vi a2), (3, vi a3), (4, vi a4)]) (by decide +kernel) (Nat.le_of_ble_eq_true rfl) rfl) ?_
  refine r_p (pc' := 32) (p_iconst (n := 1) (v := 1) (by decide +kernel) rfl) ?_
  refine r_p (pc' := 33) (p_iload_n 2 (k := 1) (by decide +kernel) rfl) ?_
  refine r_p (pc' := 36) (p_min (idx := 88) (tblG_of 680 (by decide +kernel) (by decide +kernel)) (Nat.le_of_ble_eq_true rfl) (Nat.le_of_ble_eq_true rfl) (by decide +kernel)) ?_
  refine r_p (pc' := 37) (p_iconst (n := 1) (v := 1) (by decide +kernel) rfl) ?_
  refine r_p (pc' := 38) (p_iload_n 3 (k := 2) (by decide +kernel) rfl) ?_
  refine r_p (pc' := 41) (p_min (idx := 88) (tblG_of 680 (by decide +kernel) (by decide +kernel)) (Nat.le_of_ble_eq_true rfl) (Nat.le_of_ble_eq_true rfl) (by decide +kernel)) ?_
  refine r_p (pc' := 42) (p_iadd (by decide +kernel)) ?_
  refine r_p (pc' := 43) (p_iconst (n := 1) (v := 1) (by decide +kernel) rfl) ?_
  refine r_p (pc' := 44) (p_iload_n 4 (k := 3) (by decide +kernel) rfl) ?_
  refine r_p (pc' := 47) (p_min (idx := 88) (tblG_of 680 (by decide +kernel) (by decide +kernel)) (Nat.le_of_ble_eq_true rfl) (Nat.le_of_ble_eq_true rfl) (by decide +kernel)) ?_
  refine r_p (pc' := 48) (p_iadd (by decide +kernel)) ?_
  refine r_letI fun v8 => ?_
  refine r_p (pc' := 50) (p_istore (i := 6) (lv' := [(6, vi v8), (5, vi v7), (0, vr a0), (1, vi a1), (2, vi a2), (3, vi a3), (4, vi a4)]) (by decide +kernel) (Nat.le_of_ble_eq_true rfl) rfl) ?_
  refine r_p (pc' := 52) (p_iload 1 (i := 5) (by decide +kernel) rfl) ?_
  refine r_p (pc' := 54) (p_iload 6 (i := 4) (by decide +kernel) rfl) ?_
  refine r_icmpgt (off := 59) (tgt := 113) (by decide +kernel) (by decide) (fun h9 => ?_) (fun h9 => ?_)
  · exact r_vret (y9 := ()) rfl rfl rfl (by decide +kernel)
  · refine r_p (pc' := 58) (p_aload_n 2 (k := 0) (by decide +kernel) rfl) ?_
    refine r_gI flX3_23_3 (by decide +kernel) fun v10 => ?_
    refine r_p (pc' := 62) (p_iconst (n := -1) (v := -1) (by decide +kernel) rfl) ?_
    refine r_icmpeq (off := 12) (tgt := 74) (by decide +kernel) (by decide) (fun h11 => ?_) (fun h11 => ?_)
    · refine r_p (pc' := 75) (p_aload_n 2 (k := 0) (by decide +kernel) rfl) ?_
      refine r_p (pc' := 77) (p_iload 0 (i := 6) (by decide +kernel) rfl) ?_
      refine r_pI fpX3_23_3 (fun h => by cases h) (by decide +kernel) fun s => ?_
      refine r_p (pc' := 81) (p_aload_n 2 (k := 0) (by decide +kernel) rfl) ?_
      refine r_p (pc' := 82) (p_aload_n 2 (k := 0) (by decide +kernel) rfl) ?_
      refine r_gR flX3_16_3 (by decide +kernel) fun v12 => ?_
      refine r_p (pc' := 86) (p_iconst (n := 0) (v := 0) (by decide +kernel) rfl) ?_
      refine r_p (pc' := 87) (p_iload_n 3 (k := 1) (by decide +kernel) rfl) ?_
      refine r_callSI msX3_84 (ctX3_wayOf v12 0 a1) (as := [vr v12, vi 0, vi a1]) (st := [vr a0]) rfl rfl (by decide +kernel) rfl (Nat.le_of_ble_eq_true rfl) (Nat.le_of_ble_eq_true rfl) fun v13 s => ?_
      refine r_p (pc' := 91) (p_aload_n 2 (k := 0) (by decide +kernel) rfl) ?_
      refine r_gR flX3_16_3 (by decide +kernel) fun v14 => ?_
      refine r_p (pc' := 95) (p_iconst (n := 1) (v := 1) (by decide +kernel) rfl) ?_
      refine r_p (pc' := 96) (p_iload_n 4 (k := 2) (by decide +kernel) rfl) ?_
      refine r_callSI msX3_84 (ctX3_wayOf v14 1 a2) (as := [vr v14, vi 1, vi a2]) (st := [vi v13, vr a0]) rfl rfl (by decide +kernel) rfl (Nat.le_of_ble_eq_true rfl) (Nat.le_of_ble_eq_true rfl) fun v15 s => ?_
      refine r_p (pc' := 100) (p_ior (by decide +kernel)) ?_
      refine r_p (pc' := 101) (p_aload_n 2 (k := 0) (by decide +kernel) rfl) ?_
      refine r_gR flX3_16_3 (by decide +kernel) fun v16 => ?_
      refine r_p (pc' := 105) (p_iconst (n := 2) (v := 2) (by decide +kernel) rfl) ?_
      refine r_p (pc' := 106) (p_iload_n 5 (k := 3) (by decide +kernel) rfl) ?_
      refine r_callSI msX3_84 (ctX3_wayOf v16 2 a3) (as := [vr v16, vi 2, vi a3]) (st := [vi (v13 ||| v15), vr a0]) rfl rfl (by decide +kernel) rfl (Nat.le_of_ble_eq_true rfl) (Nat.le_of_ble_eq_true rfl) fun v17 s => ?_
      refine r_p (pc' := 110) (p_ior (by decide +kernel)) ?_
      refine r_pI fpX3_27_3 (fun h => by cases h) (by decide +kernel) fun s => ?_
      exact r_vret (y9 := ()) rfl rfl rfl (by decide +kernel)
    · refine r_p (pc' := 67) (p_iload 0 (i := 6) (by decide +kernel) rfl) ?_
      refine r_p (pc' := 68) (p_aload_n 2 (k := 0) (by decide +kernel) rfl) ?_
      refine r_gI flX3_23_3 (by decide +kernel) fun v18 => ?_
      refine r_icmpge (off := 42) (tgt := 113) (by decide +kernel) (by decide) (fun h19 => ?_) (fun h19 => ?_)
      · exact r_vret (y9 := ()) rfl rfl rfl (by decide +kernel)
      · refine r_p (pc' := 75) (p_aload_n 2 (k := 0) (by decide +kernel) rfl) ?_
        refine r_p (pc' := 77) (p_iload 0 (i := 6) (by decide +kernel) rfl) ?_
        refine r_pI fpX3_23_3 (fun h => by cases h) (by decide +kernel) fun s => ?_
        refine r_p (pc' := 81) (p_aload_n 2 (k := 0) (by decide +kernel) rfl) ?_
        refine r_p (pc' := 82) (p_aload_n 2 (k := 0) (by decide +kernel) rfl) ?_
        refine r_gR flX3_16_3 (by decide +kernel) fun v20 => ?_
        refine r_p (pc' := 86) (p_iconst (n := 0) (v := 0) (by decide +kernel) rfl) ?_
        refine r_p (pc' := 87) (p_iload_n 3 (k := 1) (by decide +kernel) rfl) ?_
        refine r_callSI msX3_84 (ctX3_wayOf v20 0 a1) (as := [vr v20, vi 0, vi a1]) (st := [vr a0]) rfl rfl (by decide +kernel) rfl (Nat.le_of_ble_eq_true rfl) (Nat.le_of_ble_eq_true rfl) fun v21 s => ?_
        refine r_p (pc' := 91) (p_aload_n 2 (k := 0) (by decide +kernel) rfl) ?_
        refine r_gR flX3_16_3 (by decide +kernel) fun v22 => ?_
        refine r_p (pc' := 95) (p_iconst (n := 1) (v := 1) (by decide +kernel) rfl) ?_
        refine r_p (pc' := 96) (p_iload_n 4 (k := 2) (by decide +kernel) rfl) ?_
        refine r_callSI msX3_84 (ctX3_wayOf v22 1 a2) (as := [vr v22, vi 1, vi a2]) (st := [vi v21, vr a0]) rfl rfl (by decide +kernel) rfl (Nat.le_of_ble_eq_true rfl) (Nat.le_of_ble_eq_true rfl) fun v23 s => ?_
        refine r_p (pc' := 100) (p_ior (by decide +kernel)) ?_
        refine r_p (pc' := 101) (p_aload_n 2 (k := 0) (by decide +kernel) rfl) ?_
        refine r_gR flX3_16_3 (by decide +kernel) fun v24 => ?_
        refine r_p (pc' := 105) (p_iconst (n := 2) (v := 2) (by decide +kernel) rfl) ?_
        refine r_p (pc' := 106) (p_iload_n 5 (k := 3) (by decide +kernel) rfl) ?_
        refine r_callSI msX3_84 (ctX3_wayOf v24 2 a3) (as := [vr v24, vi 2, vi a3]) (st := [vi (v21 ||| v23), vr a0]) rfl rfl (by decide +kernel) rfl (Nat.le_of_ble_eq_true rfl) (Nat.le_of_ble_eq_true rfl) fun v25 s => ?_
        refine r_p (pc' := 110) (p_ior (by decide +kernel)) ?_
        refine r_pI fpX3_27_3 (fun h => by cases h) (by decide +kernel) fun s => ?_
        exact r_vret (y9 := ()) rfl rfl rfl (by decide +kernel)
def aX3_search : StA := (RX3, cX3_search, 9, none, yX3_search, 14, [])
theorem msX3_50 : MSN RX3 50 "ToolCourt" aX11_inSet 2 := ⟨List.mem_of_getElem? (i := 626) (by decide +kernel), tblG_of 614 (by decide +kernel) (by decide +kernel), tblG_of 144 (by decide +kernel) (by decide +kernel), tblG_of 615 (by decide +kernel) (by decide +kernel), rfl, ⟨by decide, by decide⟩, by decide +kernel, by decide⟩
theorem mvX3_54 : MV RX3 54 aX3_addSwaps 5 := ⟨tblG_of 627 (by decide +kernel) (by decide +kernel), tblG_of 629 (by decide +kernel) (by decide +kernel), tblG_of 2 (by decide +kernel) (by decide +kernel), tblG_of 147 (by decide +kernel) (by decide +kernel), tblG_of 630 (by decide +kernel) (by decide +kernel), rfl, ⟨by decide, by decide⟩, by decide +kernel, by decide⟩
theorem flX3_58_1 : FL RX3 58 1 10 := ⟨_, TX1, 13, "ToolCourt$Court", rfl, by decide, Or.inr ⟨"ToolCourt", List.mem_of_getElem? (i := 373) (by decide +kernel)⟩, Or.inl rfl⟩
theorem mvX3_61 : MV RX3 61 aX3_consider 4 := ⟨tblG_of 673 (by decide +kernel) (by decide +kernel), tblG_of 675 (by decide +kernel) (by decide +kernel), tblG_of 5 (by decide +kernel) (by decide +kernel), tblG_of 147 (by decide +kernel) (by decide +kernel), tblG_of 676 (by decide +kernel) (by decide +kernel), rfl, ⟨by decide, by decide⟩, by decide +kernel, by decide⟩
noncomputable def mX3_search_L3 (a0 : Nat) (a1 : Nat) (a2 : Nat) (a3 : Int32) (a4 : Int32) (a5 : Int32) (x1 : Int32) : MM ((Int32) ⊕ (Unit)) :=
  if 3 ≤ x1 then (
    mret (.inr ())
  ) else (
    mbnd (gR 3 2 a0) fun (v6 : Nat) =>
    mbnd (stI 0 v6 x1 0) fun _ =>
    mbnd (gR 1 1 a1) fun (v7 : Nat) =>
    mbnd (mX8_get v7 a3 x1) fun (v8 : Int32) =>
    mbnd (mX1_guiltOf a1 v8) fun (v9 : Int32) =>
    mbnd (mX3_addWay a0 x1 v9 0) fun _ =>
    mbnd (nox (mX11_inSet a4 x1)) fun (v10 : Int32) =>
    mbnd (α := Unit) (
      if v10 = 0 then (
        mbnd (mX3_addSwaps a0 a1 a2 a3 x1 a5) fun _ =>
        mret ()
      ) else (
        mret ()
      )
    ) fun (x12 : Unit) =>
    mret (.inl (x1 + 1))
  )
noncomputable def mX3_search_L106 (a0 : Nat) (a1 : Nat) (x16 : Int32) (x23 : Int32) (x30 : Int32) : MM ((Int32) ⊕ (Unit)) :=
  mbnd (gR 3 2 a0) fun (v34 : Nat) =>
  mbnd (ldI 0 v34 2) fun (v35 : Int32) =>
  if v35 ≤ x30 then (
    mret (.inr ())
  ) else (
    mbnd (gI 1 10 a1) fun (v37 : Int32) =>
    mbnd (mX3_consider a0 x16 x23 x30 v37) fun _ =>
    mret (.inl (x30 + 1))
  )
noncomputable def mX3_search_L92 (a0 : Nat) (a1 : Nat) (x16 : Int32) (x23 : Int32) : MM ((Int32) ⊕ (Unit)) :=
  mbnd (gR 3 2 a0) fun (v27 : Nat) =>
  mbnd (ldI 0 v27 1) fun (v28 : Int32) =>
  if v28 ≤ x23 then (
    mret (.inr ())
  ) else (
    mbnd (loopM (mX3_search_L106 a0 a1 x16 x23) 0) fun (e38 : Unit) =>
    mret (.inl (x23 + 1))
  )
noncomputable def mX3_search_L78 (a0 : Nat) (a1 : Nat) (x16 : Int32) : MM ((Int32) ⊕ (Unit)) :=
  mbnd (gR 3 2 a0) fun (v20 : Nat) =>
  mbnd (ldI 0 v20 0) fun (v21 : Int32) =>
  if v21 ≤ x16 then (
    mret (.inr ())
  ) else (
    mbnd (loopM (mX3_search_L92 a0 a1 x16) 0) fun (e39 : Unit) =>
    mret (.inl (x16 + 1))
  )
noncomputable def mX3_search (a0 : Nat) (a1 : Nat) (a2 : Nat) (a3 : Int32) (a4 : Int32) (a5 : Int32) : MM Unit := onC 3 a0 (
  mbnd (loopM (mX3_search_L3 a0 a1 a2 a3 a4 a5) 0) fun (e15 : Unit) =>
  mbnd (pI 3 3 a0 (-1)) fun _ =>
  mbnd (pI 3 4 a0 (-1)) fun _ =>
  mbnd (loopM (mX3_search_L78 a0 a1) 0) fun (e40 : Unit) =>
  mret ()
  )
theorem rcX3_search (a0 : Nat) (a1 : Nat) (a2 : Nat) (a3 : Int32) (a4 : Int32) (a5 : Int32) : Rcv 3 a0 (mX3_search a0 a1 a2 a3 a4 a5) := fun s r h => ⟨(onC_some h).1, (onC_some h).2.1⟩
set_option maxHeartbeats 4000000 in
set_option maxRecDepth 100000 in
theorem ctX3_search (a0 : Nat) (a1 : Nat) (a2 : Nat) (a3 : Int32) (a4 : Int32) (a5 : Int32) : Ct aX3_search [vr a0, vr a1, vr a2, vi a3, vi a4, vi a5] (mX3_search a0 a1 a2 a3 a4 a5) rU := by
  unfold mX3_search
  refine ct_onC (ct_intro (by decide +kernel) rfl (Nat.le_of_ble_eq_true rfl) fun Y s => ?_)
  refine r_sub (lv' := [(0, vr a0), (1, vr a1), (2, vr a2), (3, vi a3), (4, vi a4), (5, vi a5)]) [0, 1, 2, 3, 4, 5] rfl ?_
  refine r_p (pc' := 1) (p_iconst (n := 0) (v := 0) (by decide +kernel) rfl) ?_
  refine r_p (pc' := 3) (p_istore (i := 6) (lv' := [(6, vi 0), (0, vr a0), (1, vr a1), (2, vr a2), (3, vi a3), (4, vi a4), (5, vi a5)]) (by decide +kernel) (Nat.le_of_ble_eq_true rfl) rfl) ?_
  refine r_sub (lv' := [(0, vr a0), (1, vr a1), (2, vr a2), (3, vi a3), (4, vi a4), (5, vi a5), (6, vi 0)]) [1, 2, 3, 4, 5, 6, 0] rfl ?_
  refine r_loop2 (fun _ => 65) (fun (e15 : Unit) => [(0, vr a0), (1, vr a1)]) (fun (x1 : Int32) => [(0, vr a0), (1, vr a1), (2, vr a2), (3, vi a3), (4, vi a4), (5, vi a5), (6, vi x1)]) (fun e15 s => ?_) (fun K2 hb3 he4 x1 s => ?_) 0 _
  · refine r_p (pc' := 66) (p_aload_n 0 (k := 0) (by decide +kernel) rfl) ?_
    refine r_p (pc' := 67) (p_iconst (n := -1) (v := -1) (by decide +kernel) rfl) ?_
    refine r_pI fpX3_23_3 (fun h => by cases h) (by decide +kernel) fun s => ?_
    refine r_p (pc' := 71) (p_aload_n 0 (k := 0) (by decide +kernel) rfl) ?_
    refine r_p (pc' := 72) (p_iconst (n := -1) (v := -1) (by decide +kernel) rfl) ?_
    refine r_pI fpX3_27_3 (fun h => by cases h) (by decide +kernel) fun s => ?_
    refine r_p (pc' := 76) (p_iconst (n := 0) (v := 0) (by decide +kernel) rfl) ?_
    refine r_p (pc' := 78) (p_istore (i := 6) (lv' := [(6, vi 0), (0, vr a0), (1, vr a1)]) (by decide +kernel) (Nat.le_of_ble_eq_true rfl) rfl) ?_
    refine r_sub (lv' := [(0, vr a0), (1, vr a1), (6, vi 0)]) [1, 2, 0] rfl ?_
    refine r_loop2 (fun _ => 149) (fun (e40 : Unit) => []) (fun (x16 : Int32) => [(0, vr a0), (1, vr a1), (6, vi x16)]) (fun e40 s => ?_) (fun K17 hb18 he19 x16 s => ?_) 0 _
    · exact r_vret (y9 := ()) rfl rfl rfl (by decide +kernel)
    · unfold mX3_search_L78
      refine r_p (pc' := 80) (p_iload 2 (i := 6) (by decide +kernel) rfl) ?_
      refine r_p (pc' := 81) (p_aload_n 0 (k := 0) (by decide +kernel) rfl) ?_
      refine r_gR flX3_19_3 (by decide +kernel) fun v20 => ?_
      refine r_p (pc' := 85) (p_iconst (n := 0) (v := 0) (by decide +kernel) rfl) ?_
      refine r_ldI0 (by decide +kernel) fun v21 => ?_
      refine r_icmpge (off := 63) (tgt := 149) (by decide +kernel) (by decide) (fun h22 => ?_) (fun h22 => ?_)
      · refine r_sub (lv' := []) [] rfl ?_
        exact he19 () _
      · refine r_p (pc' := 90) (p_iconst (n := 0) (v := 0) (by decide +kernel) rfl) ?_
        refine r_p (pc' := 92) (p_istore (i := 7) (lv' := [(7, vi 0), (0, vr a0), (1, vr a1), (6, vi x16)]) (by decide +kernel) (Nat.le_of_ble_eq_true rfl) rfl) ?_
        refine r_sub (lv' := [(0, vr a0), (1, vr a1), (6, vi x16), (7, vi 0)]) [1, 2, 3, 0] rfl ?_
        refine r_loop2 (fun _ => 143) (fun (e39 : Unit) => [(0, vr a0), (1, vr a1), (6, vi x16)]) (fun (x23 : Int32) => [(0, vr a0), (1, vr a1), (6, vi x16), (7, vi x23)]) (fun e39 s => ?_) (fun K24 hb25 he26 x23 s => ?_) 0 _
        · refine r_p (pc' := 146) (p_iinc 2 (i := 6) (n := 1) (x := x16) (v := x16 + 1) (lv' := [(6, vi (x16 + 1)), (0, vr a0), (1, vr a1)]) (by decide +kernel) rfl rfl (Nat.le_of_ble_eq_true rfl) rfl) ?_
          refine r_p (pc' := 78) (p_goto (off := -68) (tgt := 78) (by decide +kernel) (by decide)) ?_
          refine r_sub (lv' := [(0, vr a0), (1, vr a1), (6, vi (x16 + 1))]) [1, 2, 0] rfl ?_
          exact hb18 (x16 + 1) _
        · unfold mX3_search_L92
          refine r_p (pc' := 94) (p_iload 3 (i := 7) (by decide +kernel) rfl) ?_
          refine r_p (pc' := 95) (p_aload_n 0 (k := 0) (by decide +kernel) rfl) ?_
          refine r_gR flX3_19_3 (by decide +kernel) fun v27 => ?_
          refine r_p (pc' := 99) (p_iconst (n := 1) (v := 1) (by decide +kernel) rfl) ?_
          refine r_ldI0 (by decide +kernel) fun v28 => ?_
          refine r_icmpge (off := 43) (tgt := 143) (by decide +kernel) (by decide) (fun h29 => ?_) (fun h29 => ?_)
          · refine r_sub (lv' := [(0, vr a0), (1, vr a1), (6, vi x16)]) [0, 1, 2] rfl ?_
            exact he26 () _
          · refine r_p (pc' := 104) (p_iconst (n := 0) (v := 0) (by decide +kernel) rfl) ?_
            refine r_p (pc' := 106) (p_istore (i := 8) (lv' := [(8, vi 0), (0, vr a0), (1, vr a1), (6, vi x16), (7, vi x23)]) (by decide +kernel) (Nat.le_of_ble_eq_true rfl) rfl) ?_
            refine r_sub (lv' := [(0, vr a0), (1, vr a1), (6, vi x16), (7, vi x23), (8, vi 0)]) [1, 2, 3, 4, 0] rfl ?_
            refine r_loop2 (fun _ => 137) (fun (e38 : Unit) => [(0, vr a0), (1, vr a1), (6, vi x16), (7, vi x23)]) (fun (x30 : Int32) => [(0, vr a0), (1, vr a1), (6, vi x16), (7, vi x23), (8, vi x30)]) (fun e38 s => ?_) (fun K31 hb32 he33 x30 s => ?_) 0 _
            · refine r_p (pc' := 140) (p_iinc 3 (i := 7) (n := 1) (x := x23) (v := x23 + 1) (lv' := [(7, vi (x23 + 1)), (0, vr a0), (1, vr a1), (6, vi x16)]) (by decide +kernel) rfl rfl (Nat.le_of_ble_eq_true rfl) rfl) ?_
              refine r_p (pc' := 92) (p_goto (off := -48) (tgt := 92) (by decide +kernel) (by decide)) ?_
              refine r_sub (lv' := [(0, vr a0), (1, vr a1), (6, vi x16), (7, vi (x23 + 1))]) [1, 2, 3, 0] rfl ?_
              exact hb25 (x23 + 1) _
            · unfold mX3_search_L106
              refine r_p (pc' := 108) (p_iload 4 (i := 8) (by decide +kernel) rfl) ?_
              refine r_p (pc' := 109) (p_aload_n 0 (k := 0) (by decide +kernel) rfl) ?_
              refine r_gR flX3_19_3 (by decide +kernel) fun v34 => ?_
              refine r_p (pc' := 113) (p_iconst (n := 2) (v := 2) (by decide +kernel) rfl) ?_
              refine r_ldI0 (by decide +kernel) fun v35 => ?_
              refine r_icmpge (off := 23) (tgt := 137) (by decide +kernel) (by decide) (fun h36 => ?_) (fun h36 => ?_)
              · refine r_sub (lv' := [(0, vr a0), (1, vr a1), (6, vi x16), (7, vi x23)]) [0, 1, 2, 3] rfl ?_
                exact he33 () _
              · refine r_p (pc' := 118) (p_aload_n 0 (k := 0) (by decide +kernel) rfl) ?_
                refine r_p (pc' := 120) (p_iload 2 (i := 6) (by decide +kernel) rfl) ?_
                refine r_p (pc' := 122) (p_iload 3 (i := 7) (by decide +kernel) rfl) ?_
                refine r_p (pc' := 124) (p_iload 4 (i := 8) (by decide +kernel) rfl) ?_
                refine r_p (pc' := 125) (p_aload_n 1 (k := 1) (by decide +kernel) rfl) ?_
                refine r_gI flX3_58_1 (by decide +kernel) fun v37 => ?_
                refine r_callVU mvX3_61 (ctX3_consider a0 x16 x23 x30 v37) (rcX3_consider a0 x16 x23 x30 v37) ⟨_, _, rfl⟩ (as := [vi x16, vi x23, vi x30, vi v37]) (st := []) rfl rfl (by decide +kernel) rfl (Nat.le_of_ble_eq_true rfl) (Nat.le_of_ble_eq_true rfl) fun s => ?_
                refine r_p (pc' := 134) (p_iinc 4 (i := 8) (n := 1) (x := x30) (v := x30 + 1) (lv' := [(8, vi (x30 + 1)), (0, vr a0), (1, vr a1), (6, vi x16), (7, vi x23)]) (by decide +kernel) rfl rfl (Nat.le_of_ble_eq_true rfl) rfl) ?_
                refine r_p (pc' := 106) (p_goto (off := -28) (tgt := 106) (by decide +kernel) (by decide)) ?_
                refine r_sub (lv' := [(0, vr a0), (1, vr a1), (6, vi x16), (7, vi x23), (8, vi (x30 + 1))]) [1, 2, 3, 4, 0] rfl ?_
                exact hb32 (x30 + 1) _
  · unfold mX3_search_L3
    refine r_p (pc' := 5) (p_iload 6 (i := 6) (by decide +kernel) rfl) ?_
    refine r_p (pc' := 6) (p_iconst (n := 3) (v := 3) (by decide +kernel) rfl) ?_
    refine r_icmpge (off := 59) (tgt := 65) (by decide +kernel) (by decide) (fun h5 => ?_) (fun h5 => ?_)
    · refine r_sub (lv' := [(0, vr a0), (1, vr a1)]) [0, 1] rfl ?_
      exact he4 () _
    · refine r_p (pc' := 10) (p_aload_n 0 (k := 0) (by decide +kernel) rfl) ?_
      refine r_gR flX3_19_3 (by decide +kernel) fun v6 => ?_
      refine r_p (pc' := 15) (p_iload 6 (i := 6) (by decide +kernel) rfl) ?_
      refine r_p (pc' := 16) (p_iconst (n := 0) (v := 0) (by decide +kernel) rfl) ?_
      refine r_stI0 (by decide +kernel) fun s => ?_
      refine r_p (pc' := 18) (p_aload_n 0 (k := 0) (by decide +kernel) rfl) ?_
      refine r_p (pc' := 20) (p_iload 6 (i := 6) (by decide +kernel) rfl) ?_
      refine r_p (pc' := 21) (p_aload_n 1 (k := 1) (by decide +kernel) rfl) ?_
      refine r_p (pc' := 22) (p_aload_n 1 (k := 1) (by decide +kernel) rfl) ?_
      refine r_gR flX3_30_1 (by decide +kernel) fun v7 => ?_
      refine r_p (pc' := 26) (p_iload_n 3 (k := 3) (by decide +kernel) rfl) ?_
      refine r_p (pc' := 28) (p_iload 6 (i := 6) (by decide +kernel) rfl) ?_
      refine r_callVI mvX3_36 (ctX8_get v7 a3 x1) (rcX8_get v7 a3 x1) ⟨_, _, rfl⟩ (as := [vi a3, vi x1]) (st := [vr a1, vi x1, vr a0]) rfl rfl (by decide +kernel) rfl (Nat.le_of_ble_eq_true rfl) (Nat.le_of_ble_eq_true rfl) fun v8 s => ?_
      refine r_callVI mvX3_42 (ctX1_guiltOf a1 v8) (rcX1_guiltOf a1 v8) ⟨_, _, rfl⟩ (as := [vi v8]) (st := [vi x1, vr a0]) rfl rfl (by decide +kernel) rfl (Nat.le_of_ble_eq_true rfl) (Nat.le_of_ble_eq_true rfl) fun v9 s => ?_
      refine r_p (pc' := 35) (p_iconst (n := 0) (v := 0) (by decide +kernel) rfl) ?_
      refine r_callVU mvX3_46 (ctX3_addWay a0 x1 v9 0) (rcX3_addWay a0 x1 v9 0) ⟨_, _, rfl⟩ (as := [vi x1, vi v9, vi 0]) (st := []) rfl rfl (by decide +kernel) rfl (Nat.le_of_ble_eq_true rfl) (Nat.le_of_ble_eq_true rfl) fun s => ?_
      refine r_p (pc' := 40) (p_iload 4 (i := 4) (by decide +kernel) rfl) ?_
      refine r_p (pc' := 42) (p_iload 6 (i := 6) (by decide +kernel) rfl) ?_
      refine r_callSNI msX3_50 (ctX11_inSet a4 x1) (as := [vi a4, vi x1]) (st := []) rfl rfl (by decide +kernel) rfl (Nat.le_of_ble_eq_true rfl) (Nat.le_of_ble_eq_true rfl) fun v10 s => ?_
      refine r_join 59 (fun (x12 : Unit) => [(0, vr a0), (1, vr a1), (2, vr a2), (3, vi a3), (4, vi a4), (5, vi a5), (6, vi x1)]) (fun (x12 : Unit) => []) (fun x12 s => ?_) (fun K13 hj14 => ?_)
      · refine r_p (pc' := 62) (p_iinc 6 (i := 6) (n := 1) (x := x1) (v := x1 + 1) (lv' := [(6, vi (x1 + 1)), (0, vr a0), (1, vr a1), (2, vr a2), (3, vi a3), (4, vi a4), (5, vi a5)]) (by decide +kernel) rfl rfl (Nat.le_of_ble_eq_true rfl) rfl) ?_
        refine r_p (pc' := 3) (p_goto (off := -59) (tgt := 3) (by decide +kernel) (by decide)) ?_
        refine r_sub (lv' := [(0, vr a0), (1, vr a1), (2, vr a2), (3, vi a3), (4, vi a4), (5, vi a5), (6, vi (x1 + 1))]) [1, 2, 3, 4, 5, 6, 0] rfl ?_
        exact hb3 (x1 + 1) _
      · refine r_ifne (off := 14) (tgt := 59) (by decide +kernel) (by decide) (fun h11 => ?_) (fun h11 => ?_)
        · refine r_p (pc' := 49) (p_aload_n 0 (k := 0) (by decide +kernel) rfl) ?_
          refine r_p (pc' := 50) (p_aload_n 1 (k := 1) (by decide +kernel) rfl) ?_
          refine r_p (pc' := 51) (p_aload_n 2 (k := 2) (by decide +kernel) rfl) ?_
          refine r_p (pc' := 52) (p_iload_n 3 (k := 3) (by decide +kernel) rfl) ?_
          refine r_p (pc' := 54) (p_iload 6 (i := 6) (by decide +kernel) rfl) ?_
          refine r_p (pc' := 56) (p_iload 5 (i := 5) (by decide +kernel) rfl) ?_
          refine r_callVU mvX3_54 (ctX3_addSwaps a0 a1 a2 a3 x1 a5) (rcX3_addSwaps a0 a1 a2 a3 x1 a5) ⟨_, _, rfl⟩ (as := [vr a1, vr a2, vi a3, vi x1, vi a5]) (st := []) rfl rfl (by decide +kernel) rfl (Nat.le_of_ble_eq_true rfl) (Nat.le_of_ble_eq_true rfl) fun s => ?_
          exact hj14 () _
        · exact hj14 () _
