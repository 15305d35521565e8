/-! PRINTED BY wip/whole/gen.py -/
def aX12_thrown : StA := (RX12, cX12_thrown, 1, some .int, yX12_thrown, 8, [])
theorem flX12_3_11 : FL RX12 3 11 0 := ⟨_, TX12, 27, "ToolCourtModel", rfl, by decide, Or.inl (tblG_of 1665 (by decide +kernel) (by decide +kernel)), Or.inl rfl⟩
noncomputable def mX12_thrown (a0 : Nat) : MM Int32 := onC 11 a0 (
  mbnd (gI 11 0 a0) fun (v1 : Int32) =>
  mret v1
  )
theorem rcX12_thrown (a0 : Nat) : Rcv 11 a0 (mX12_thrown a0) := fun s r h => ⟨(onC_some h).1, (onC_some h).2.1⟩
set_option maxHeartbeats 4000000 in
set_option maxRecDepth 100000 in
theorem ctX12_thrown (a0 : Nat) : Ct aX12_thrown [vr a0] (mX12_thrown a0) rI := by
  unfold mX12_thrown
  refine ct_onC (ct_intro (by decide +kernel) rfl (Nat.le_of_ble_eq_true rfl) fun Y s => ?_)
  refine r_sub (lv' := [(0, vr a0)]) [0] rfl ?_
  refine r_p (pc' := 1) (p_aload_n 0 (k := 0) (by decide +kernel) rfl) ?_
  refine r_gI flX12_3_11 (by decide +kernel) fun v1 => ?_
  exact r_iret rfl rfl _ rfl rfl (by decide +kernel)
def aX12_throwsIf : StA := (RX12, cX12_throwsIf, 3, some .boolean, yX12_throwsIf, 8, [])
theorem fpX12_3_11 : FP RX12 3 11 0 .int false := ⟨_, TX12, 27, "ToolCourtModel", tyX12, rfl, by decide, Or.inl (tblG_of 1665 (by decide +kernel) (by decide +kernel)), Or.inl rfl, tyX12_ok, nmX12, rfl, by decide, by decide +kernel⟩
noncomputable def mX12_throwsIf (a0 : Nat) (a1 : Int32) (a2 : Int32) : MM Int32 := onC 11 a0 (
  if a1 = 0 then (
    mbool a1
  ) else (
    mbnd (pI 11 0 a0 a2) fun _ =>
    mbool a1
  )
  )
theorem rcX12_throwsIf (a0 : Nat) (a1 : Int32) (a2 : Int32) : Rcv 11 a0 (mX12_throwsIf a0 a1 a2) := fun s r h => ⟨(onC_some h).1, (onC_some h).2.1⟩
set_option maxHeartbeats 4000000 in
set_option maxRecDepth 100000 in
theorem ctX12_throwsIf (a0 : Nat) (a1 : Int32) (a2 : Int32) : Ct aX12_throwsIf [vr a0, vi a1, vi a2] (mX12_throwsIf a0 a1 a2) rI := by
  unfold mX12_throwsIf
  refine ct_onC (ct_intro (by decide +kernel) rfl (Nat.le_of_ble_eq_true rfl) fun Y s => ?_)
  refine r_sub (lv' := [(0, vr a0), (1, vi a1), (2, vi a2)]) [0, 1, 2] rfl ?_
  refine r_p (pc' := 1) (p_iload_n 1 (k := 1) (by decide +kernel) rfl) ?_
  refine r_ifeq (off := 8) (tgt := 9) (by decide +kernel) (by decide) (fun h1 => ?_) (fun h1 => ?_)
  · refine r_p (pc' := 10) (p_iload_n 1 (k := 1) (by decide +kernel) rfl) ?_
    exact r_bret (y9 := fun v => v) (fun _ => rfl) (fun _ => rfl) rfl (by decide +kernel)
  · refine r_p (pc' := 5) (p_aload_n 0 (k := 0) (by decide +kernel) rfl) ?_
    refine r_p (pc' := 6) (p_iload_n 2 (k := 2) (by decide +kernel) rfl) ?_
    refine r_pI fpX12_3_11 (fun h => by cases h) (by decide +kernel) fun s => ?_
    refine r_p (pc' := 10) (p_iload_n 1 (k := 1) (by decide +kernel) rfl) ?_
    exact r_bret (y9 := fun v => v) (fun _ => rfl) (fun _ => rfl) rfl (by decide +kernel)
def aX12_in : StA := (RX12, cX12_in, 3, some .boolean, yX12_in, 8, [])
noncomputable def mX12_in (a0 : Int32) (a1 : Int32) (a2 : Int32) : MM Int32 :=
  if a0 < a1 then (
    mret 0
  ) else (
    if a2 < a0 then (
      mret 0
    ) else (
      mret 1
    )
  )
set_option maxHeartbeats 4000000 in
set_option maxRecDepth 100000 in
theorem ctX12_in (a0 : Int32) (a1 : Int32) (a2 : Int32) : Ct aX12_in [vi a0, vi a1, vi a2] (mX12_in a0 a1 a2) rI := by
  unfold mX12_in
  refine ct_intro (by decide +kernel) rfl (Nat.le_of_ble_eq_true rfl) fun Y s => ?_
  refine r_sub (lv' := [(0, vi a0), (1, vi a1), (2, vi a2)]) [0, 1, 2] rfl ?_
  refine r_p (pc' := 1) (p_iload_n 0 (k := 0) (by decide +kernel) rfl) ?_
  refine r_p (pc' := 2) (p_iload_n 1 (k := 1) (by decide +kernel) rfl) ?_
  refine r_icmplt (off := 12) (tgt := 14) (by decide +kernel) (by decide) (fun h1 => ?_) (fun h1 => ?_)
  · refine r_p (pc' := 15) (p_iconst (n := 0) (v := 0) (by decide +kernel) rfl) ?_
    exact r_iret rfl rfl _ rfl rfl (by decide +kernel)
  · refine r_p (pc' := 6) (p_iload_n 0 (k := 0) (by decide +kernel) rfl) ?_
    refine r_p (pc' := 7) (p_iload_n 2 (k := 2) (by decide +kernel) rfl) ?_
    refine r_icmpgt (off := 7) (tgt := 14) (by decide +kernel) (by decide) (fun h2 => ?_) (fun h2 => ?_)
    · refine r_p (pc' := 15) (p_iconst (n := 0) (v := 0) (by decide +kernel) rfl) ?_
      exact r_iret rfl rfl _ rfl rfl (by decide +kernel)
    · refine r_p (pc' := 11) (p_iconst (n := 1) (v := 1) (by decide +kernel) rfl) ?_
      refine r_p (pc' := 15) (p_goto (off := 4) (tgt := 15) (by decide +kernel) (by decide)) ?_
      exact r_iret rfl rfl _ rfl rfl (by decide +kernel)
def aX12_has : StA := (RX12, cX12_has, 2, some .boolean, yX12_has, 8, [])
noncomputable def mX12_has (a0 : Int32) (a1 : Int32) : MM Int32 :=
  if ((a0 >>> (a1 &&& (31 : Int32))) &&& 1) = 1 then (
    mret 1
  ) else (
    mret 0
  )
set_option maxHeartbeats 4000000 in
set_option maxRecDepth 100000 in
theorem ctX12_has (a0 : Int32) (a1 : Int32) : Ct aX12_has [vi a0, vi a1] (mX12_has a0 a1) rI := by
  unfold mX12_has
  refine ct_intro (by decide +kernel) rfl (Nat.le_of_ble_eq_true rfl) fun Y s => ?_
  refine r_sub (lv' := [(0, vi a0), (1, vi a1)]) [0, 1] rfl ?_
  refine r_p (pc' := 1) (p_iload_n 0 (k := 0) (by decide +kernel) rfl) ?_
  refine r_p (pc' := 2) (p_iload_n 1 (k := 1) (by decide +kernel) rfl) ?_
  refine r_p (pc' := 3) (p_ishr (by decide +kernel)) ?_
  refine r_p (pc' := 4) (p_iconst (n := 1) (v := 1) (by decide +kernel) rfl) ?_
  refine r_p (pc' := 5) (p_iand (by decide +kernel)) ?_
  refine r_p (pc' := 6) (p_iconst (n := 1) (v := 1) (by decide +kernel) rfl) ?_
  refine r_icmpne (off := 7) (tgt := 13) (by decide +kernel) (by decide) (fun h1 => ?_) (fun h1 => ?_)
  · refine r_p (pc' := 10) (p_iconst (n := 1) (v := 1) (by decide +kernel) rfl) ?_
    refine r_p (pc' := 14) (p_goto (off := 4) (tgt := 14) (by decide +kernel) (by decide)) ?_
    exact r_iret rfl rfl _ rfl rfl (by decide +kernel)
  · refine r_p (pc' := 14) (p_iconst (n := 0) (v := 0) (by decide +kernel) rfl) ?_
    exact r_iret rfl rfl _ rfl rfl (by decide +kernel)
def aX12_init : StA := (RX12, cX12_init, 1, none, yX12_init, 8, [])
theorem fpX12_13_11 : FP RX12 13 11 1 (.array .int) true := ⟨_, TX12, 27, "ToolCourtModel", tyX12, rfl, by decide, Or.inl (tblG_of 1666 (by decide +kernel) (by decide +kernel)), Or.inl rfl, tyX12_ok, nmX12, rfl, by decide, by decide +kernel⟩
theorem fpX12_17_11 : FP RX12 17 11 2 (.array .int) true := ⟨_, TX12, 27, "ToolCourtModel", tyX12, rfl, by decide, Or.inl (tblG_of 1667 (by decide +kernel) (by decide +kernel)), Or.inl rfl, tyX12_ok, nmX12, rfl, by decide, by decide +kernel⟩
theorem fpX12_20_11 : FP RX12 20 11 3 (.array .int) true := ⟨_, TX12, 27, "ToolCourtModel", tyX12, rfl, by decide, Or.inl (tblG_of 1668 (by decide +kernel) (by decide +kernel)), Or.inl rfl, tyX12_ok, nmX12, rfl, by decide, by decide +kernel⟩
theorem fpX12_23_11 : FP RX12 23 11 4 (.array .int) true := ⟨_, TX12, 27, "ToolCourtModel", tyX12, rfl, by decide, Or.inl (tblG_of 1669 (by decide +kernel) (by decide +kernel)), Or.inl rfl, tyX12_ok, nmX12, rfl, by decide, by decide +kernel⟩
theorem fpX12_26_11 : FP RX12 26 11 5 (.array .int) true := ⟨_, TX12, 27, "ToolCourtModel", tyX12, rfl, by decide, Or.inl (tblG_of 1670 (by decide +kernel) (by decide +kernel)), Or.inl rfl, tyX12_ok, nmX12, rfl, by decide, by decide +kernel⟩
theorem fpX12_29_11 : FP RX12 29 11 8 (.array .byte) true := ⟨_, TX12, 27, "ToolCourtModel", tyX12, rfl, by decide, Or.inl (tblG_of 1673 (by decide +kernel) (by decide +kernel)), Or.inl rfl, tyX12_ok, nmX12, rfl, by decide, by decide +kernel⟩
theorem fpX12_33_11 : FP RX12 33 11 14 .int false := ⟨_, TX12, 27, "ToolCourtModel", tyX12, rfl, by decide, Or.inl (tblG_of 1679 (by decide +kernel) (by decide +kernel)), Or.inl rfl, tyX12_ok, nmX12, rfl, by decide, by decide +kernel⟩
theorem fpX12_36_11 : FP RX12 36 11 15 (.array .int) true := ⟨_, TX12, 27, "ToolCourtModel", tyX12, rfl, by decide, Or.inl (tblG_of 1680 (by decide +kernel) (by decide +kernel)), Or.inl rfl, tyX12_ok, nmX12, rfl, by decide, by decide +kernel⟩
theorem fpX12_39_11 : FP RX12 39 11 17 (.array .int) true := ⟨_, TX12, 27, "ToolCourtModel", tyX12, rfl, by decide, Or.inl (tblG_of 1682 (by decide +kernel) (by decide +kernel)), Or.inl rfl, tyX12_ok, nmX12, rfl, by decide, by decide +kernel⟩
theorem fpX12_42_11 : FP RX12 42 11 21 (.array .int) true := ⟨_, TX12, 27, "ToolCourtModel", tyX12, rfl, by decide, Or.inl (tblG_of 1686 (by decide +kernel) (by decide +kernel)), Or.inl rfl, tyX12_ok, nmX12, rfl, by decide, by decide +kernel⟩
theorem fpX12_45_11 : FP RX12 45 11 22 (.array .int) true := ⟨_, TX12, 27, "ToolCourtModel", tyX12, rfl, by decide, Or.inl (tblG_of 1687 (by decide +kernel) (by decide +kernel)), Or.inl rfl, tyX12_ok, nmX12, rfl, by decide, by decide +kernel⟩
theorem fpX12_48_11 : FP RX12 48 11 25 (.array .int) true := ⟨_, TX12, 27, "ToolCourtModel", tyX12, rfl, by decide, Or.inl (tblG_of 1690 (by decide +kernel) (by decide +kernel)), Or.inl rfl, tyX12_ok, nmX12, rfl, by decide, by decide +kernel⟩
theorem fpX12_51_11 : FP RX12 51 11 26 (.array .int) true := ⟨_, TX12, 27, "ToolCourtModel", tyX12, rfl, by decide, Or.inl (tblG_of 1691 (by decide +kernel) (by decide +kernel)), Or.inl rfl, tyX12_ok, nmX12, rfl, by decide, by decide +kernel⟩
theorem flX12_13_11 : FL RX12 13 11 1 := ⟨_, TX12, 27, "ToolCourtModel", rfl, by decide, Or.inl (tblG_of 1666 (by decide +kernel) (by decide +kernel)), Or.inl rfl⟩
noncomputable def mX12_init (a0 : Nat) : MM Unit := onC 11 a0 (
  mbnd (nwI 0 2769) fun (v1 : Nat) =>
  mbnd (pR 11 1 a0 v1) fun _ =>
  mbnd (nwI 0 1920) fun (v2 : Nat) =>
  mbnd (pR 11 2 a0 v2) fun _ =>
  mbnd (nwI 0 1920) fun (v3 : Nat) =>
  mbnd (pR 11 3 a0 v3) fun _ =>
  mbnd (nwI 0 1071) fun (v4 : Nat) =>
  mbnd (pR 11 4 a0 v4) fun _ =>
  mbnd (nwI 0 10710) fun (v5 : Nat) =>
  mbnd (pR 11 5 a0 v5) fun _ =>
  mbnd (nwI 1 400) fun (v6 : Nat) =>
  mbnd (pR 11 8 a0 v6) fun _ =>
  mbnd (pI 11 14 a0 (-1)) fun _ =>
  mbnd (nwI 0 5) fun (v7 : Nat) =>
  mbnd (pR 11 15 a0 v7) fun _ =>
  mbnd (nwI 0 400) fun (v8 : Nat) =>
  mbnd (pR 11 17 a0 v8) fun _ =>
  mbnd (nwI 0 3) fun (v9 : Nat) =>
  mbnd (pR 11 21 a0 v9) fun _ =>
  mbnd (nwI 0 3) fun (v10 : Nat) =>
  mbnd (pR 11 22 a0 v10) fun _ =>
  mbnd (nwI 0 6) fun (v11 : Nat) =>
  mbnd (pR 11 25 a0 v11) fun _ =>
  mbnd (nwI 0 6) fun (v12 : Nat) =>
  mbnd (pR 11 26 a0 v12) fun _ =>
  mbnd (gR 11 1 a0) fun (v13 : Nat) =>
  mbnd (stI 0 v13 12 1) fun _ =>
  mret ()
  )
theorem rcX12_init (a0 : Nat) : Rcv 11 a0 (mX12_init a0) := fun s r h => ⟨(onC_some h).1, (onC_some h).2.1⟩
set_option maxHeartbeats 4000000 in
set_option maxRecDepth 100000 in
theorem ctX12_init (a0 : Nat) : Ct aX12_init [vr a0] (mX12_init a0) rU := by
  unfold mX12_init
  refine ct_onC (ct_intro (by decide +kernel) rfl (Nat.le_of_ble_eq_true rfl) fun Y s => ?_)
  refine r_sub (lv' := [(0, vr a0)]) [0] rfl ?_
  refine r_p (pc' := 1) (p_aload_n 0 (k := 0) (by decide +kernel) rfl) ?_
  refine r_p (pc' := 4) (p_obj (idx := 7) (tblG_of 1664 (by decide +kernel) (by decide +kernel)) (Nat.le_of_ble_eq_true rfl) (Nat.le_of_ble_eq_true rfl) (by decide +kernel)) ?_
  refine r_p (pc' := 5) (p_aload_n 0 (k := 0) (by decide +kernel) rfl) ?_
  refine r_p (pc' := 8) (p_sipush (n := 2769) (v := 2769) (by decide +kernel) (by decide +kernel)) ?_
  refine r_nwI (at9 := .int) (ty := .int) rfl (by decide) (by decide +kernel) fun v1 s => ?_
  refine r_pR fpX12_13_11 (fun _ => rfl) (Or.inr ⟨_, rfl⟩) (by decide +kernel) fun s => ?_
  refine r_p (pc' := 14) (p_aload_n 0 (k := 0) (by decide +kernel) rfl) ?_
  refine r_p (pc' := 17) (p_sipush (n := 1920) (v := 1920) (by decide +kernel) (by decide +kernel)) ?_
  refine r_nwI (at9 := .int) (ty := .int) rfl (by decide) (by decide +kernel) fun v2 s => ?_
  refine r_pR fpX12_17_11 (fun _ => rfl) (Or.inr ⟨_, rfl⟩) (by decide +kernel) fun s => ?_
  refine r_p (pc' := 23) (p_aload_n 0 (k := 0) (by decide +kernel) rfl) ?_
  refine r_p (pc' := 26) (p_sipush (n := 1920) (v := 1920) (by decide +kernel) (by decide +kernel)) ?_
  refine r_nwI (at9 := .int) (ty := .int) rfl (by decide) (by decide +kernel) fun v3 s => ?_
  refine r_pR fpX12_20_11 (fun _ => rfl) (Or.inr ⟨_, rfl⟩) (by decide +kernel) fun s => ?_
  refine r_p (pc' := 32) (p_aload_n 0 (k := 0) (by decide +kernel) rfl) ?_
  refine r_p (pc' := 35) (p_sipush (n := 1071) (v := 1071) (by decide +kernel) (by decide +kernel)) ?_
  refine r_nwI (at9 := .int) (ty := .int) rfl (by decide) (by decide +kernel) fun v4 s => ?_
  refine r_pR fpX12_23_11 (fun _ => rfl) (Or.inr ⟨_, rfl⟩) (by decide +kernel) fun s => ?_
  refine r_p (pc' := 41) (p_aload_n 0 (k := 0) (by decide +kernel) rfl) ?_
  refine r_p (pc' := 44) (p_sipush (n := 10710) (v := 10710) (by decide +kernel) (by decide +kernel)) ?_
  refine r_nwI (at9 := .int) (ty := .int) rfl (by decide) (by decide +kernel) fun v5 s => ?_
  refine r_pR fpX12_26_11 (fun _ => rfl) (Or.inr ⟨_, rfl⟩) (by decide +kernel) fun s => ?_
  refine r_p (pc' := 50) (p_aload_n 0 (k := 0) (by decide +kernel) rfl) ?_
  refine r_p (pc' := 53) (p_sipush (n := 400) (v := 400) (by decide +kernel) (by decide +kernel)) ?_
  refine r_nwI (at9 := .byte) (ty := .byte) rfl (by decide) (by decide +kernel) fun v6 s => ?_
  refine r_pR fpX12_29_11 (fun _ => rfl) (Or.inr ⟨_, rfl⟩) (by decide +kernel) fun s => ?_
  refine r_p (pc' := 59) (p_aload_n 0 (k := 0) (by decide +kernel) rfl) ?_
  refine r_p (pc' := 60) (p_iconst (n := -1) (v := -1) (by decide +kernel) rfl) ?_
  refine r_pI fpX12_33_11 (fun h => by cases h) (by decide +kernel) fun s => ?_
  refine r_p (pc' := 64) (p_aload_n 0 (k := 0) (by decide +kernel) rfl) ?_
  refine r_p (pc' := 65) (p_iconst (n := 5) (v := 5) (by decide +kernel) rfl) ?_
  refine r_nwI (at9 := .int) (ty := .int) rfl (by decide) (by decide +kernel) fun v7 s => ?_
  refine r_pR fpX12_36_11 (fun _ => rfl) (Or.inr ⟨_, rfl⟩) (by decide +kernel) fun s => ?_
  refine r_p (pc' := 71) (p_aload_n 0 (k := 0) (by decide +kernel) rfl) ?_
  refine r_p (pc' := 74) (p_sipush (n := 400) (v := 400) (by decide +kernel) (by decide +kernel)) ?_
  refine r_nwI (at9 := .int) (ty := .int) rfl (by decide) (by decide +kernel) fun v8 s => ?_
  refine r_pR fpX12_39_11 (fun _ => rfl) (Or.inr ⟨_, rfl⟩) (by decide +kernel) fun s => ?_
  refine r_p (pc' := 80) (p_aload_n 0 (k := 0) (by decide +kernel) rfl) ?_
  refine r_p (pc' := 81) (p_iconst (n := 3) (v := 3) (by decide +kernel) rfl) ?_
  refine r_nwI (at9 := .int) (ty := .int) rfl (by decide) (by decide +kernel) fun v9 s => ?_
  refine r_pR fpX12_42_11 (fun _ => rfl) (Or.inr ⟨_, rfl⟩) (by decide +kernel) fun s => ?_
  refine r_p (pc' := 87) (p_aload_n 0 (k := 0) (by decide +kernel) rfl) ?_
  refine r_p (pc' := 88) (p_iconst (n := 3) (v := 3) (by decide +kernel) rfl) ?_
  refine r_nwI (at9 := .int) (ty := .int) rfl (by decide) (by decide +kernel) fun v10 s => ?_
  refine r_pR fpX12_45_11 (fun _ => rfl) (Or.inr ⟨_, rfl⟩) (by decide +kernel) fun s => ?_
  refine r_p (pc' := 94) (p_aload_n 0 (k := 0) (by decide +kernel) rfl) ?_
  refine r_p (pc' := 96) (p_bipush (n := 6) (v := 6) (by decide +kernel) (by decide +kernel)) ?_
  refine r_nwI (at9 := .int) (ty := .int) rfl (by decide) (by decide +kernel) fun v11 s => ?_
  refine r_pR fpX12_48_11 (fun _ => rfl) (Or.inr ⟨_, rfl⟩) (by decide +kernel) fun s => ?_
  refine r_p (pc' := 102) (p_aload_n 0 (k := 0) (by decide +kernel) rfl) ?_
  refine r_p (pc' := 104) (p_bipush (n := 6) (v := 6) (by decide +kernel) (by decide +kernel)) ?_
  refine r_nwI (at9 := .int) (ty := .int) rfl (by decide) (by decide +kernel) fun v12 s => ?_
  refine r_pR fpX12_51_11 (fun _ => rfl) (Or.inr ⟨_, rfl⟩) (by decide +kernel) fun s => ?_
  refine r_p (pc' := 110) (p_aload_n 0 (k := 0) (by decide +kernel) rfl) ?_
  refine r_gR flX12_13_11 (by decide +kernel) fun v13 => ?_
  refine r_p (pc' := 115) (p_bipush (n := 12) (v := 12) (by decide +kernel) (by decide +kernel)) ?_
  refine r_p (pc' := 116) (p_iconst (n := 1) (v := 1) (by decide +kernel) rfl) ?_
  refine r_stI0 (by decide +kernel) fun s => ?_
  exact r_vret (y9 := ()) rfl rfl rfl (by decide +kernel)
def aX12_image : StA := (RX12, cX12_image, 2, none, yX12_image, 8, [])
theorem flX12_17_11 : FL RX12 17 11 2 := ⟨_, TX12, 27, "ToolCourtModel", rfl, by decide, Or.inl (tblG_of 1667 (by decide +kernel) (by decide +kernel)), Or.inl rfl⟩
theorem fpX12_54_11 : FP RX12 54 11 6 .boolean false := ⟨_, TX12, 27, "ToolCourtModel", tyX12, rfl, by decide, Or.inl (tblG_of 1671 (by decide +kernel) (by decide +kernel)), Or.inl rfl, tyX12_ok, nmX12, rfl, by decide, by decide +kernel⟩
noncomputable def mX12_image_L7 (a0 : Nat) (x1 : Int32) : MM ((Int32) ⊕ (Unit)) :=
  if 1920 ≤ x1 then (
    mret (.inr ())
  ) else (
    mbnd (gR 11 2 a0) fun (v6 : Nat) =>
    mbnd (gR 11 1 a0) fun (v7 : Nat) =>
    mbnd (ldI 0 v7 x1) fun (v8 : Int32) =>
    mbnd (stI 0 v6 x1 v8) fun _ =>
    mret (.inl (x1 + 1))
  )
noncomputable def mX12_image (a0 : Nat) : MM Unit := onC 11 a0 (
  mbnd (pI 11 0 a0 0) fun _ =>
  mbnd (loopM (mX12_image_L7 a0) 0) fun (e9 : Unit) =>
  mbnd (pI 11 6 a0 1) fun _ =>
  mret ()
  )
theorem rcX12_image (a0 : Nat) : Rcv 11 a0 (mX12_image a0) := fun s r h => ⟨(onC_some h).1, (onC_some h).2.1⟩
set_option maxHeartbeats 4000000 in
set_option maxRecDepth 100000 in
theorem ctX12_image (a0 : Nat) : Ct aX12_image [vr a0] (mX12_image a0) rU := by
  unfold mX12_image
  refine ct_onC (ct_intro (by decide +kernel) rfl (Nat.le_of_ble_eq_true rfl) fun Y s => ?_)
  refine r_sub (lv' := [(0, vr a0)]) [0] rfl ?_
  refine r_p (pc' := 1) (p_aload_n 0 (k := 0) (by decide +kernel) rfl) ?_
  refine r_p (pc' := 2) (p_iconst (n := 0) (v := 0) (by decide +kernel) rfl) ?_
  refine r_pI fpX12_3_11 (fun h => by cases h) (by decide +kernel) fun s => ?_
  refine r_p (pc' := 6) (p_iconst (n := 0) (v := 0) (by decide +kernel) rfl) ?_
  refine r_p (pc' := 7) (p_istore_n (k := 1) (lv' := [(1, vi 0), (0, vr a0)]) (by decide +kernel) (Nat.le_of_ble_eq_true rfl) rfl) ?_
  refine r_sub (lv' := [(0, vr a0), (1, vi 0)]) [1, 0] rfl ?_
  refine r_loop2 (fun _ => 32) (fun (e9 : Unit) => [(0, vr a0)]) (fun (x1 : Int32) => [(0, vr a0), (1, vi x1)]) (fun e9 s => ?_) (fun K2 hb3 he4 x1 s => ?_) 0 _
  · refine r_p (pc' := 33) (p_aload_n 0 (k := 0) (by decide +kernel) rfl) ?_
    refine r_p (pc' := 34) (p_iconst (n := 1) (v := 1) (by decide +kernel) rfl) ?_
    refine r_pZ (by decide) fpX12_54_11 (fun h => by cases h) (by decide +kernel) fun s => ?_
    exact r_vret (y9 := ()) rfl rfl rfl (by decide +kernel)
  · unfold mX12_image_L7
    refine r_p (pc' := 8) (p_iload_n 1 (k := 1) (by decide +kernel) rfl) ?_
    refine r_p (pc' := 11) (p_sipush (n := 1920) (v := 1920) (by decide +kernel) (by decide +kernel)) ?_
    refine r_icmpge (off := 21) (tgt := 32) (by decide +kernel) (by decide) (fun h5 => ?_) (fun h5 => ?_)
    · refine r_sub (lv' := [(0, vr a0)]) [0] rfl ?_
      exact he4 () _
    · refine r_p (pc' := 15) (p_aload_n 0 (k := 0) (by decide +kernel) rfl) ?_
      refine r_gR flX12_17_11 (by decide +kernel) fun v6 => ?_
      refine r_p (pc' := 19) (p_iload_n 1 (k := 1) (by decide +kernel) rfl) ?_
      refine r_p (pc' := 20) (p_aload_n 0 (k := 0) (by decide +kernel) rfl) ?_
      refine r_gR flX12_13_11 (by decide +kernel) fun v7 => ?_
      refine r_p (pc' := 24) (p_iload_n 1 (k := 1) (by decide +kernel) rfl) ?_
      refine r_ldI0 (by decide +kernel) fun v8 => ?_
      refine r_stI0 (by decide +kernel) fun s => ?_
      refine r_p (pc' := 29) (p_iinc 1 (i := 1) (n := 1) (x := x1) (v := x1 + 1) (lv' := [(1, vi (x1 + 1)), (0, vr a0)]) (by decide +kernel) rfl rfl (Nat.le_of_ble_eq_true rfl) rfl) ?_
      refine r_p (pc' := 7) (p_goto (off := -22) (tgt := 7) (by decide +kernel) (by decide)) ?_
      refine r_sub (lv' := [(0, vr a0), (1, vi (x1 + 1))]) [1, 0] rfl ?_
      exact hb3 (x1 + 1) _
def aX12_back : StA := (RX12, cX12_back, 2, some .boolean, yX12_back, 8, [])
theorem flX12_54_11 : FL RX12 54 11 6 := ⟨_, TX12, 27, "ToolCourtModel", rfl, by decide, Or.inl (tblG_of 1671 (by decide +kernel) (by decide +kernel)), Or.inl rfl⟩
theorem fpX12_58_11 : FP RX12 58 11 7 .int false := ⟨_, TX12, 27, "ToolCourtModel", tyX12, rfl, by decide, Or.inl (tblG_of 1672 (by decide +kernel) (by decide +kernel)), Or.inl rfl, tyX12_ok, nmX12, rfl, by decide, by decide +kernel⟩
noncomputable def mX12_back_L16 (a0 : Nat) (x3 : Int32) : MM ((Int32) ⊕ (Unit)) :=
  if 1920 ≤ x3 then (
    mret (.inr ())
  ) else (
    mbnd (gR 11 1 a0) fun (v8 : Nat) =>
    mbnd (gR 11 2 a0) fun (v9 : Nat) =>
    mbnd (ldI 0 v9 x3) fun (v10 : Int32) =>
    mbnd (stI 0 v8 x3 v10) fun _ =>
    mret (.inl (x3 + 1))
  )
noncomputable def mX12_back (a0 : Nat) : MM Int32 := onC 11 a0 (
  mbnd (pI 11 0 a0 0) fun _ =>
  mbnd (gI 11 6 a0) fun (v1 : Int32) =>
  if v1 = 0 then (
    mret 0
  ) else (
    mbnd (loopM (mX12_back_L16 a0) 0) fun (e11 : Unit) =>
    mbnd (pI 11 7 a0 0) fun _ =>
    mret 1
  )
  )
theorem rcX12_back (a0 : Nat) : Rcv 11 a0 (mX12_back a0) := fun s r h => ⟨(onC_some h).1, (onC_some h).2.1⟩
set_option maxHeartbeats 4000000 in
set_option maxRecDepth 100000 in
theorem ctX12_back (a0 : Nat) : Ct aX12_back [vr a0] (mX12_back a0) rI := by
  unfold mX12_back
  refine ct_onC (ct_intro (by decide +kernel) rfl (Nat.le_of_ble_eq_true rfl) fun Y s => ?_)
  refine r_sub (lv' := [(0, vr a0)]) [0] rfl ?_
  refine r_p (pc' := 1) (p_aload_n 0 (k := 0) (by decide +kernel) rfl) ?_
  refine r_p (pc' := 2) (p_iconst (n := 0) (v := 0) (by decide +kernel) rfl) ?_
  refine r_pI fpX12_3_11 (fun h => by cases h) (by decide +kernel) fun s => ?_
  refine r_p (pc' := 6) (p_aload_n 0 (k := 0) (by decide +kernel) rfl) ?_
  refine r_gI flX12_54_11 (by decide +kernel) fun v1 => ?_
  refine r_ifne (off := 5) (tgt := 14) (by decide +kernel) (by decide) (fun h2 => ?_) (fun h2 => ?_)
  · refine r_p (pc' := 13) (p_iconst (n := 0) (v := 0) (by decide +kernel) rfl) ?_
    exact r_iret rfl rfl _ rfl rfl (by decide +kernel)
  · refine r_p (pc' := 15) (p_iconst (n := 0) (v := 0) (by decide +kernel) rfl) ?_
    refine r_p (pc' := 16) (p_istore_n (k := 1) (lv' := [(1, vi 0), (0, vr a0)]) (by decide +kernel) (Nat.le_of_ble_eq_true rfl) rfl) ?_
    refine r_sub (lv' := [(0, vr a0), (1, vi 0)]) [1, 0] rfl ?_
    refine r_loop2 (fun _ => 41) (fun (e11 : Unit) => [(0, vr a0)]) (fun (x3 : Int32) => [(0, vr a0), (1, vi x3)]) (fun e11 s => ?_) (fun K4 hb5 he6 x3 s => ?_) 0 _
    · refine r_p (pc' := 42) (p_aload_n 0 (k := 0) (by decide +kernel) rfl) ?_
      refine r_p (pc' := 43) (p_iconst (n := 0) (v := 0) (by decide +kernel) rfl) ?_
      refine r_pI fpX12_58_11 (fun h => by cases h) (by decide +kernel) fun s => ?_
      refine r_p (pc' := 47) (p_iconst (n := 1) (v := 1) (by decide +kernel) rfl) ?_
      exact r_iret rfl rfl _ rfl rfl (by decide +kernel)
    · unfold mX12_back_L16
      refine r_p (pc' := 17) (p_iload_n 1 (k := 1) (by decide +kernel) rfl) ?_
      refine r_p (pc' := 20) (p_sipush (n := 1920) (v := 1920) (by decide +kernel) (by decide +kernel)) ?_
      refine r_icmpge (off := 21) (tgt := 41) (by decide +kernel) (by decide) (fun h7 => ?_) (fun h7 => ?_)
      · refine r_sub (lv' := [(0, vr a0)]) [0] rfl ?_
        exact he6 () _
      · refine r_p (pc' := 24) (p_aload_n 0 (k := 0) (by decide +kernel) rfl) ?_
        refine r_gR flX12_13_11 (by decide +kernel) fun v8 => ?_
        refine r_p (pc' := 28) (p_iload_n 1 (k := 1) (by decide +kernel) rfl) ?_
        refine r_p (pc' := 29) (p_aload_n 0 (k := 0) (by decide +kernel) rfl) ?_
        refine r_gR flX12_17_11 (by decide +kernel) fun v9 => ?_
        refine r_p (pc' := 33) (p_iload_n 1 (k := 1) (by decide +kernel) rfl) ?_
        refine r_ldI0 (by decide +kernel) fun v10 => ?_
        refine r_stI0 (by decide +kernel) fun s => ?_
        refine r_p (pc' := 38) (p_iinc 1 (i := 1) (n := 1) (x := x3) (v := x3 + 1) (lv' := [(1, vi (x3 + 1)), (0, vr a0)]) (by decide +kernel) rfl rfl (Nat.le_of_ble_eq_true rfl) rfl) ?_
        refine r_p (pc' := 16) (p_goto (off := -22) (tgt := 16) (by decide +kernel) (by decide)) ?_
        refine r_sub (lv' := [(0, vr a0), (1, vi (x3 + 1))]) [1, 0] rfl ?_
        exact hb5 (x3 + 1) _
def aX12_remembers : StA := (RX12, cX12_remembers, 2, none, yX12_remembers, 8, [])
theorem flX12_58_11 : FL RX12 58 11 7 := ⟨_, TX12, 27, "ToolCourtModel", rfl, by decide, Or.inl (tblG_of 1672 (by decide +kernel) (by decide +kernel)), Or.inl rfl⟩
theorem flX12_26_11 : FL RX12 26 11 5 := ⟨_, TX12, 27, "ToolCourtModel", rfl, by decide, Or.inl (tblG_of 1670 (by decide +kernel) (by decide +kernel)), Or.inl rfl⟩
noncomputable def mX12_remembers_L11 (a0 : Nat) (x6 : Int32) : MM ((Int32) ⊕ (Unit)) :=
  if 9639 ≤ x6 then (
    mret (.inr ())
  ) else (
    mbnd (gR 11 5 a0) fun (v11 : Nat) =>
    mbnd (gR 11 5 a0) fun (v12 : Nat) =>
    mbnd (ldI 0 v12 (x6 + 1071)) fun (v13 : Int32) =>
    mbnd (stI 0 v11 x6 v13) fun _ =>
    mret (.inl (x6 + 1))
  )
noncomputable def mX12_remembers_L55 (a0 : Nat) (x16 : Int32) : MM ((Int32) ⊕ (Unit)) :=
  if 1071 ≤ x16 then (
    mret (.inr ())
  ) else (
    mbnd (gR 11 5 a0) fun (v21 : Nat) =>
    mbnd (gI 11 7 a0) fun (v22 : Int32) =>
    mbnd (gR 11 1 a0) fun (v23 : Nat) =>
    mbnd (ldI 0 v23 x16) fun (v24 : Int32) =>
    mbnd (stI 0 v21 ((1071 * (v22 - 1)) + x16) v24) fun _ =>
    mret (.inl (x16 + 1))
  )
noncomputable def mX12_remembers (a0 : Nat) : MM Unit := onC 11 a0 (
  mbnd (gI 11 7 a0) fun (v1 : Int32) =>
  mbnd (α := Unit) (
    if v1 = 10 then (
      mbnd (loopM (mX12_remembers_L11 a0) 0) fun (e14 : Unit) =>
      mret ()
    ) else (
      mbnd (gI 11 7 a0) fun (v15 : Int32) =>
      mbnd (pI 11 7 a0 (v15 + 1)) fun _ =>
      mret ()
    )
  ) fun (x3 : Unit) =>
  mbnd (loopM (mX12_remembers_L55 a0) 0) fun (e25 : Unit) =>
  mret ()
  )
theorem rcX12_remembers (a0 : Nat) : Rcv 11 a0 (mX12_remembers a0) := fun s r h => ⟨(onC_some h).1, (onC_some h).2.1⟩
set_option maxHeartbeats 4000000 in
set_option maxRecDepth 100000 in
theorem ctX12_remembers (a0 : Nat) : Ct aX12_remembers [vr a0] (mX12_remembers a0) rU := by
  unfold mX12_remembers
  refine ct_onC (ct_intro (by decide +kernel) rfl (Nat.le_of_ble_eq_true rfl) fun Y s => ?_)
  refine r_sub (lv' := [(0, vr a0)]) [0] rfl ?_
  refine r_p (pc' := 1) (p_aload_n 0 (k := 0) (by decide +kernel) rfl) ?_
  refine r_gI flX12_58_11 (by decide +kernel) fun v1 => ?_
  refine r_p (pc' := 6) (p_bipush (n := 10) (v := 10) (by decide +kernel) (by decide +kernel)) ?_
  refine r_join 53 (fun (x3 : Unit) => [(0, vr a0)]) (fun (x3 : Unit) => []) (fun x3 s => ?_) (fun K4 hj5 => ?_)
  · refine r_p (pc' := 54) (p_iconst (n := 0) (v := 0) (by decide +kernel) rfl) ?_
    refine r_p (pc' := 55) (p_istore_n (k := 1) (lv' := [(1, vi 0), (0, vr a0)]) (by decide +kernel) (Nat.le_of_ble_eq_true rfl) rfl) ?_
    refine r_sub (lv' := [(0, vr a0), (1, vi 0)]) [1, 0] rfl ?_
    refine r_loop2 (fun _ => 91) (fun (e25 : Unit) => []) (fun (x16 : Int32) => [(0, vr a0), (1, vi x16)]) (fun e25 s => ?_) (fun K17 hb18 he19 x16 s => ?_) 0 _
    · exact r_vret (y9 := ()) rfl rfl rfl (by decide +kernel)
    · unfold mX12_remembers_L55
      refine r_p (pc' := 56) (p_iload_n 1 (k := 1) (by decide +kernel) rfl) ?_
      refine r_p (pc' := 59) (p_sipush (n := 1071) (v := 1071) (by decide +kernel) (by decide +kernel)) ?_
      refine r_icmpge (off := 32) (tgt := 91) (by decide +kernel) (by decide) (fun h20 => ?_) (fun h20 => ?_)
      · refine r_sub (lv' := []) [] rfl ?_
        exact he19 () _
      · refine r_p (pc' := 63) (p_aload_n 0 (k := 0) (by decide +kernel) rfl) ?_
        refine r_gR flX12_26_11 (by decide +kernel) fun v21 => ?_
        refine r_p (pc' := 69) (p_sipush (n := 1071) (v := 1071) (by decide +kernel) (by decide +kernel)) ?_
        refine r_p (pc' := 70) (p_aload_n 0 (k := 0) (by decide +kernel) rfl) ?_
        refine r_gI flX12_58_11 (by decide +kernel) fun v22 => ?_
        refine r_p (pc' := 74) (p_iconst (n := 1) (v := 1) (by decide +kernel) rfl) ?_
        refine r_p (pc' := 75) (p_isub (by decide +kernel)) ?_
        refine r_p (pc' := 76) (p_imul (by decide +kernel)) ?_
        refine r_p (pc' := 77) (p_iload_n 1 (k := 1) (by decide +kernel) rfl) ?_
        refine r_p (pc' := 78) (p_iadd (by decide +kernel)) ?_
        refine r_p (pc' := 79) (p_aload_n 0 (k := 0) (by decide +kernel) rfl) ?_
        refine r_gR flX12_13_11 (by decide +kernel) fun v23 => ?_
        refine r_p (pc' := 83) (p_iload_n 1 (k := 1) (by decide +kernel) rfl) ?_
        refine r_ldI0 (by decide +kernel) fun v24 => ?_
        refine r_stI0 (by decide +kernel) fun s => ?_
        refine r_p (pc' := 88) (p_iinc 1 (i := 1) (n := 1) (x := x16) (v := x16 + 1) (lv' := [(1, vi (x16 + 1)), (0, vr a0)]) (by decide +kernel) rfl rfl (Nat.le_of_ble_eq_true rfl) rfl) ?_
        refine r_p (pc' := 55) (p_goto (off := -33) (tgt := 55) (by decide +kernel) (by decide)) ?_
        refine r_sub (lv' := [(0, vr a0), (1, vi (x16 + 1))]) [1, 0] rfl ?_
        exact hb18 (x16 + 1) _
  · refine r_icmpne (off := 37) (tgt := 43) (by decide +kernel) (by decide) (fun h2 => ?_) (fun h2 => ?_)
    · refine r_p (pc' := 10) (p_iconst (n := 0) (v := 0) (by decide +kernel) rfl) ?_
      refine r_p (pc' := 11) (p_istore_n (k := 1) (lv' := [(1, vi 0), (0, vr a0)]) (by decide +kernel) (Nat.le_of_ble_eq_true rfl) rfl) ?_
      refine r_sub (lv' := [(0, vr a0), (1, vi 0)]) [1, 0] rfl ?_
      refine r_loop2 (fun _ => 40) (fun (e14 : Unit) => [(0, vr a0)]) (fun (x6 : Int32) => [(0, vr a0), (1, vi x6)]) (fun e14 s => ?_) (fun K7 hb8 he9 x6 s => ?_) 0 _
      · refine r_p (pc' := 53) (p_goto (off := 13) (tgt := 53) (by decide +kernel) (by decide)) ?_
        exact hj5 () _
      · unfold mX12_remembers_L11
        refine r_p (pc' := 12) (p_iload_n 1 (k := 1) (by decide +kernel) rfl) ?_
        refine r_p (pc' := 15) (p_sipush (n := 9639) (v := 9639) (by decide +kernel) (by decide +kernel)) ?_
        refine r_icmpge (off := 25) (tgt := 40) (by decide +kernel) (by decide) (fun h10 => ?_) (fun h10 => ?_)
        · refine r_sub (lv' := [(0, vr a0)]) [0] rfl ?_
          exact he9 () _
        · refine r_p (pc' := 19) (p_aload_n 0 (k := 0) (by decide +kernel) rfl) ?_
          refine r_gR flX12_26_11 (by decide +kernel) fun v11 => ?_
          refine r_p (pc' := 23) (p_iload_n 1 (k := 1) (by decide +kernel) rfl) ?_
          refine r_p (pc' := 24) (p_aload_n 0 (k := 0) (by decide +kernel) rfl) ?_
          refine r_gR flX12_26_11 (by decide +kernel) fun v12 => ?_
          refine r_p (pc' := 28) (p_iload_n 1 (k := 1) (by decide +kernel) rfl) ?_
          refine r_p (pc' := 31) (p_sipush (n := 1071) (v := 1071) (by decide +kernel) (by decide +kernel)) ?_
          refine r_p (pc' := 32) (p_iadd (by decide +kernel)) ?_
          refine r_ldI0 (by decide +kernel) fun v13 => ?_
          refine r_stI0 (by decide +kernel) fun s => ?_
          refine r_p (pc' := 37) (p_iinc 1 (i := 1) (n := 1) (x := x6) (v := x6 + 1) (lv' := [(1, vi (x6 + 1)), (0, vr a0)]) (by decide +kernel) rfl rfl (Nat.le_of_ble_eq_true rfl) rfl) ?_
          refine r_p (pc' := 11) (p_goto (off := -26) (tgt := 11) (by decide +kernel) (by decide)) ?_
          refine r_sub (lv' := [(0, vr a0), (1, vi (x6 + 1))]) [1, 0] rfl ?_
          exact hb8 (x6 + 1) _
    · refine r_p (pc' := 44) (p_aload_n 0 (k := 0) (by decide +kernel) rfl) ?_
      refine r_p (pc' := 45) (p_dup rfl (by decide +kernel)) ?_
      refine r_gI flX12_58_11 (by decide +kernel) fun v15 => ?_
      refine r_p (pc' := 49) (p_iconst (n := 1) (v := 1) (by decide +kernel) rfl) ?_
      refine r_p (pc' := 50) (p_iadd (by decide +kernel)) ?_
      refine r_pI fpX12_58_11 (fun h => by cases h) (by decide +kernel) fun s => ?_
      exact hj5 () _
def aX12_undo : StA := (RX12, cX12_undo, 2, some .boolean, yX12_undo, 8, [])
noncomputable def mX12_undo_L26 (a0 : Nat) (x4 : Int32) : MM ((Int32) ⊕ (Unit)) :=
  if 1071 ≤ x4 then (
    mret (.inr ())
  ) else (
    mbnd (gR 11 1 a0) fun (v9 : Nat) =>
    mbnd (gR 11 5 a0) fun (v10 : Nat) =>
    mbnd (gI 11 7 a0) fun (v11 : Int32) =>
    mbnd (ldI 0 v10 ((1071 * v11) + x4)) fun (v12 : Int32) =>
    mbnd (stI 0 v9 x4 v12) fun _ =>
    mret (.inl (x4 + 1))
  )
noncomputable def mX12_undo (a0 : Nat) : MM Int32 := onC 11 a0 (
  mbnd (pI 11 0 a0 0) fun _ =>
  mbnd (gI 11 7 a0) fun (v1 : Int32) =>
  if v1 = 0 then (
    mret 0
  ) else (
    mbnd (gI 11 7 a0) fun (v3 : Int32) =>
    mbnd (pI 11 7 a0 (v3 - 1)) fun _ =>
    mbnd (loopM (mX12_undo_L26 a0) 0) fun (e13 : Unit) =>
    mret 1
  )
  )
theorem rcX12_undo (a0 : Nat) : Rcv 11 a0 (mX12_undo a0) := fun s r h => ⟨(onC_some h).1, (onC_some h).2.1⟩
set_option maxHeartbeats 4000000 in
set_option maxRecDepth 100000 in
theorem ctX12_undo (a0 : Nat) : Ct aX12_undo [vr a0] (mX12_undo a0) rI := by
  unfold mX12_undo
  refine ct_onC (ct_intro (by decide +kernel) rfl (Nat.le_of_ble_eq_true rfl) fun Y s => ?_)
  refine r_sub (lv' := [(0, vr a0)]) [0] rfl ?_
  refine r_p (pc' := 1) (p_aload_n 0 (k := 0) (by decide +kernel) rfl) ?_
  refine r_p (pc' := 2) (p_iconst (n := 0) (v := 0) (by decide +kernel) rfl) ?_
  refine r_pI fpX12_3_11 (fun h => by cases h) (by decide +kernel) fun s => ?_
  refine r_p (pc' := 6) (p_aload_n 0 (k := 0) (by decide +kernel) rfl) ?_
  refine r_gI flX12_58_11 (by decide +kernel) fun v1 => ?_
  refine r_ifne (off := 5) (tgt := 14) (by decide +kernel) (by decide) (fun h2 => ?_) (fun h2 => ?_)
  · refine r_p (pc' := 13) (p_iconst (n := 0) (v := 0) (by decide +kernel) rfl) ?_
    exact r_iret rfl rfl _ rfl rfl (by decide +kernel)
  · refine r_p (pc' := 15) (p_aload_n 0 (k := 0) (by decide +kernel) rfl) ?_
    refine r_p (pc' := 16) (p_dup rfl (by decide +kernel)) ?_
    refine r_gI flX12_58_11 (by decide +kernel) fun v3 => ?_
    refine r_p (pc' := 20) (p_iconst (n := 1) (v := 1) (by decide +kernel) rfl) ?_
    refine r_p (pc' := 21) (p_isub (by decide +kernel)) ?_
    refine r_pI fpX12_58_11 (fun h => by cases h) (by decide +kernel) fun s => ?_
    refine r_p (pc' := 25) (p_iconst (n := 0) (v := 0) (by decide +kernel) rfl) ?_
    refine r_p (pc' := 26) (p_istore_n (k := 1) (lv' := [(1, vi 0), (0, vr a0)]) (by decide +kernel) (Nat.le_of_ble_eq_true rfl) rfl) ?_
    refine r_sub (lv' := [(0, vr a0), (1, vi 0)]) [1, 0] rfl ?_
    refine r_loop2 (fun _ => 60) (fun (e13 : Unit) => []) (fun (x4 : Int32) => [(0, vr a0), (1, vi x4)]) (fun e13 s => ?_) (fun K5 hb6 he7 x4 s => ?_) 0 _
    · refine r_p (pc' := 61) (p_iconst (n := 1) (v := 1) (by decide +kernel) rfl) ?_
      exact r_iret rfl rfl _ rfl rfl (by decide +kernel)
    · unfold mX12_undo_L26
      refine r_p (pc' := 27) (p_iload_n 1 (k := 1) (by decide +kernel) rfl) ?_
      refine r_p (pc' := 30) (p_sipush (n := 1071) (v := 1071) (by decide +kernel) (by decide +kernel)) ?_
      refine r_icmpge (off := 30) (tgt := 60) (by decide +kernel) (by decide) (fun h8 => ?_) (fun h8 => ?_)
      · refine r_sub (lv' := []) [] rfl ?_
        exact he7 () _
      · refine r_p (pc' := 34) (p_aload_n 0 (k := 0) (by decide +kernel) rfl) ?_
        refine r_gR flX12_13_11 (by decide +kernel) fun v9 => ?_
        refine r_p (pc' := 38) (p_iload_n 1 (k := 1) (by decide +kernel) rfl) ?_
        refine r_p (pc' := 39) (p_aload_n 0 (k := 0) (by decide +kernel) rfl) ?_
        refine r_gR flX12_26_11 (by decide +kernel) fun v10 => ?_
        refine r_p (pc' := 45) (p_sipush (n := 1071) (v := 1071) (by decide +kernel) (by decide +kernel)) ?_
        refine r_p (pc' := 46) (p_aload_n 0 (k := 0) (by decide +kernel) rfl) ?_
        refine r_gI flX12_58_11 (by decide +kernel) fun v11 => ?_
        refine r_p (pc' := 50) (p_imul (by decide +kernel)) ?_
        refine r_p (pc' := 51) (p_iload_n 1 (k := 1) (by decide +kernel) rfl) ?_
        refine r_p (pc' := 52) (p_iadd (by decide +kernel)) ?_
        refine r_ldI0 (by decide +kernel) fun v12 => ?_
        refine r_stI0 (by decide +kernel) fun s => ?_
        refine r_p (pc' := 57) (p_iinc 1 (i := 1) (n := 1) (x := x4) (v := x4 + 1) (lv' := [(1, vi (x4 + 1)), (0, vr a0)]) (by decide +kernel) rfl rfl (Nat.le_of_ble_eq_true rfl) rfl) ?_
        refine r_p (pc' := 26) (p_goto (off := -31) (tgt := 26) (by decide +kernel) (by decide)) ?_
        refine r_sub (lv' := [(0, vr a0), (1, vi (x4 + 1))]) [1, 0] rfl ?_
        exact hb6 (x4 + 1) _
def aX12_parts : StA := (RX12, cX12_parts, 1, some .int, yX12_parts, 8, [])
noncomputable def mX12_parts (a0 : Nat) : MM Int32 := onC 11 a0 (
  mbnd (gR 11 1 a0) fun (v1 : Nat) =>
  mbnd (ldI 0 v1 0) fun (v2 : Int32) =>
  mret v2
  )
theorem rcX12_parts (a0 : Nat) : Rcv 11 a0 (mX12_parts a0) := fun s r h => ⟨(onC_some h).1, (onC_some h).2.1⟩
set_option maxHeartbeats 4000000 in
set_option maxRecDepth 100000 in
theorem ctX12_parts (a0 : Nat) : Ct aX12_parts [vr a0] (mX12_parts a0) rI := by
  unfold mX12_parts
  refine ct_onC (ct_intro (by decide +kernel) rfl (Nat.le_of_ble_eq_true rfl) fun Y s => ?_)
  refine r_sub (lv' := [(0, vr a0)]) [0] rfl ?_
  refine r_p (pc' := 1) (p_aload_n 0 (k := 0) (by decide +kernel) rfl) ?_
  refine r_gR flX12_13_11 (by decide +kernel) fun v1 => ?_
  refine r_p (pc' := 5) (p_iconst (n := 0) (v := 0) (by decide +kernel) rfl) ?_
  refine r_ldI0 (by decide +kernel) fun v2 => ?_
  exact r_iret rfl rfl _ rfl rfl (by decide +kernel)
def aX12_tools : StA := (RX12, cX12_tools, 1, some .int, yX12_tools, 8, [])
noncomputable def mX12_tools (a0 : Nat) : MM Int32 := onC 11 a0 (
  mbnd (gR 11 1 a0) fun (v1 : Nat) =>
  mbnd (ldI 0 v1 1) fun (v2 : Int32) =>
  mret v2
  )
theorem rcX12_tools (a0 : Nat) : Rcv 11 a0 (mX12_tools a0) := fun s r h => ⟨(onC_some h).1, (onC_some h).2.1⟩
set_option maxHeartbeats 4000000 in
set_option maxRecDepth 100000 in
theorem ctX12_tools (a0 : Nat) : Ct aX12_tools [vr a0] (mX12_tools a0) rI := by
  unfold mX12_tools
  refine ct_onC (ct_intro (by decide +kernel) rfl (Nat.le_of_ble_eq_true rfl) fun Y s => ?_)
  refine r_sub (lv' := [(0, vr a0)]) [0] rfl ?_
  refine r_p (pc' := 1) (p_aload_n 0 (k := 0) (by decide +kernel) rfl) ?_
  refine r_gR flX12_13_11 (by decide +kernel) fun v1 => ?_
  refine r_p (pc' := 5) (p_iconst (n := 1) (v := 1) (by decide +kernel) rfl) ?_
  refine r_ldI0 (by decide +kernel) fun v2 => ?_
  exact r_iret rfl rfl _ rfl rfl (by decide +kernel)
def aX12_masters : StA := (RX12, cX12_masters, 1, some .int, yX12_masters, 8, [])
noncomputable def mX12_masters (a0 : Nat) : MM Int32 := onC 11 a0 (
  mbnd (gR 11 1 a0) fun (v1 : Nat) =>
  mbnd (ldI 0 v1 2) fun (v2 : Int32) =>
  mret v2
  )
theorem rcX12_masters (a0 : Nat) : Rcv 11 a0 (mX12_masters a0) := fun s r h => ⟨(onC_some h).1, (onC_some h).2.1⟩
set_option maxHeartbeats 4000000 in
set_option maxRecDepth 100000 in
theorem ctX12_masters (a0 : Nat) : Ct aX12_masters [vr a0] (mX12_masters a0) rI := by
  unfold mX12_masters
  refine ct_onC (ct_intro (by decide +kernel) rfl (Nat.le_of_ble_eq_true rfl) fun Y s => ?_)
  refine r_sub (lv' := [(0, vr a0)]) [0] rfl ?_
  refine r_p (pc' := 1) (p_aload_n 0 (k := 0) (by decide +kernel) rfl) ?_
  refine r_gR flX12_13_11 (by decide +kernel) fun v1 => ?_
  refine r_p (pc' := 5) (p_iconst (n := 2) (v := 2) (by decide +kernel) rfl) ?_
  refine r_ldI0 (by decide +kernel) fun v2 => ?_
  exact r_iret rfl rfl _ rfl rfl (by decide +kernel)
def aX12_today : StA := (RX12, cX12_today, 1, some .int, yX12_today, 8, [])
noncomputable def mX12_today (a0 : Nat) : MM Int32 := onC 11 a0 (
  mbnd (gR 11 1 a0) fun (v1 : Nat) =>
  mbnd (ldI 0 v1 5) fun (v2 : Int32) =>
  mret v2
  )
theorem rcX12_today (a0 : Nat) : Rcv 11 a0 (mX12_today a0) := fun s r h => ⟨(onC_some h).1, (onC_some h).2.1⟩
set_option maxHeartbeats 4000000 in
set_option maxRecDepth 100000 in
theorem ctX12_today (a0 : Nat) : Ct aX12_today [vr a0] (mX12_today a0) rI := by
  unfold mX12_today
  refine ct_onC (ct_intro (by decide +kernel) rfl (Nat.le_of_ble_eq_true rfl) fun Y s => ?_)
  refine r_sub (lv' := [(0, vr a0)]) [0] rfl ?_
  refine r_p (pc' := 1) (p_aload_n 0 (k := 0) (by decide +kernel) rfl) ?_
  refine r_gR flX12_13_11 (by decide +kernel) fun v1 => ?_
  refine r_p (pc' := 5) (p_iconst (n := 5) (v := 5) (by decide +kernel) rfl) ?_
  refine r_ldI0 (by decide +kernel) fun v2 => ?_
  exact r_iret rfl rfl _ rfl rfl (by decide +kernel)
def aX12_deeds : StA := (RX12, cX12_deeds, 1, some .int, yX12_deeds, 8, [])
noncomputable def mX12_deeds (a0 : Nat) : MM Int32 := onC 11 a0 (
  mbnd (gR 11 1 a0) fun (v1 : Nat) =>
  mbnd (ldI 0 v1 6) fun (v2 : Int32) =>
  mret v2
  )
theorem rcX12_deeds (a0 : Nat) : Rcv 11 a0 (mX12_deeds a0) := fun s r h => ⟨(onC_some h).1, (onC_some h).2.1⟩
set_option maxHeartbeats 4000000 in
set_option maxRecDepth 100000 in
theorem ctX12_deeds (a0 : Nat) : Ct aX12_deeds [vr a0] (mX12_deeds a0) rI := by
  unfold mX12_deeds
  refine ct_onC (ct_intro (by decide +kernel) rfl (Nat.le_of_ble_eq_true rfl) fun Y s => ?_)
  refine r_sub (lv' := [(0, vr a0)]) [0] rfl ?_
  refine r_p (pc' := 1) (p_aload_n 0 (k := 0) (by decide +kernel) rfl) ?_
  refine r_gR flX12_13_11 (by decide +kernel) fun v1 => ?_
  refine r_p (pc' := 6) (p_bipush (n := 6) (v := 6) (by decide +kernel) (by decide +kernel)) ?_
  refine r_ldI0 (by decide +kernel) fun v2 => ?_
  exact r_iret rfl rfl _ rfl rfl (by decide +kernel)
def aX12_partAt : StA := (RX12, cX12_partAt, 2, some .int, yX12_partAt, 8, [])
noncomputable def mX12_partAt (a0 : Int32) (a1 : Int32) : MM Int32 :=
  mret ((13 + (8 * a0)) + a1)
set_option maxHeartbeats 4000000 in
set_option maxRecDepth 100000 in
theorem ctX12_partAt (a0 : Int32) (a1 : Int32) : Ct aX12_partAt [vi a0, vi a1] (mX12_partAt a0 a1) rI := by
  unfold mX12_partAt
  refine ct_intro (by decide +kernel) rfl (Nat.le_of_ble_eq_true rfl) fun Y s => ?_
  refine r_sub (lv' := [(0, vi a0), (1, vi a1)]) [0, 1] rfl ?_
  refine r_p (pc' := 2) (p_bipush (n := 13) (v := 13) (by decide +kernel) (by decide +kernel)) ?_
  refine r_p (pc' := 4) (p_bipush (n := 8) (v := 8) (by decide +kernel) (by decide +kernel)) ?_
  refine r_p (pc' := 5) (p_iload_n 0 (k := 0) (by decide +kernel) rfl) ?_
  refine r_p (pc' := 6) (p_imul (by decide +kernel)) ?_
  refine r_p (pc' := 7) (p_iadd (by decide +kernel)) ?_
  refine r_p (pc' := 8) (p_iload_n 1 (k := 1) (by decide +kernel) rfl) ?_
  refine r_p (pc' := 9) (p_iadd (by decide +kernel)) ?_
  exact r_iret rfl rfl _ rfl rfl (by decide +kernel)
def aX12_of : StA := (RX12, cX12_of, 3, some .int, yX12_of, 9, [])
theorem msX12_61 : MS RX12 61 aX12_partAt 2 := ⟨tblG_of 1839 (by decide +kernel) (by decide +kernel), tblG_of 1840 (by decide +kernel) (by decide +kernel), tblG_of 157 (by decide +kernel) (by decide +kernel), tblG_of 1841 (by decide +kernel) (by decide +kernel), rfl, ⟨by decide, by decide⟩, by decide +kernel, by decide⟩
noncomputable def mX12_of (a0 : Nat) (a1 : Int32) (a2 : Int32) : MM Int32 := onC 11 a0 (
  mbnd (gR 11 1 a0) fun (v1 : Nat) =>
  mbnd (mX12_partAt a1 a2) fun (v2 : Int32) =>
  mbnd (ldI 0 v1 v2) fun (v3 : Int32) =>
  mret v3
  )
theorem rcX12_of (a0 : Nat) (a1 : Int32) (a2 : Int32) : Rcv 11 a0 (mX12_of a0 a1 a2) := fun s r h => ⟨(onC_some h).1, (onC_some h).2.1⟩
set_option maxHeartbeats 4000000 in
set_option maxRecDepth 100000 in
theorem ctX12_of (a0 : Nat) (a1 : Int32) (a2 : Int32) : Ct aX12_of [vr a0, vi a1, vi a2] (mX12_of a0 a1 a2) rI := by
  unfold mX12_of
  refine ct_onC (ct_intro (by decide +kernel) rfl (Nat.le_of_ble_eq_true rfl) fun Y s => ?_)
  refine r_sub (lv' := [(0, vr a0), (1, vi a1), (2, vi a2)]) [0, 1, 2] rfl ?_
  refine r_p (pc' := 1) (p_aload_n 0 (k := 0) (by decide +kernel) rfl) ?_
  refine r_gR flX12_13_11 (by decide +kernel) fun v1 => ?_
  refine r_p (pc' := 5) (p_iload_n 1 (k := 1) (by decide +kernel) rfl) ?_
  refine r_p (pc' := 6) (p_iload_n 2 (k := 2) (by decide +kernel) rfl) ?_
  refine r_callSI msX12_61 (ctX12_partAt a1 a2) (as := [vi a1, vi a2]) (st := [vr v1]) rfl rfl (by decide +kernel) rfl (Nat.le_of_ble_eq_true rfl) (Nat.le_of_ble_eq_true rfl) fun v2 s => ?_
  refine r_ldI0 (by decide +kernel) fun v3 => ?_
  exact r_iret rfl rfl _ rfl rfl (by decide +kernel)
def aX12_inTool : StA := (RX12, cX12_inTool, 3, some .int, yX12_inTool, 8, [])
noncomputable def mX12_inTool (a0 : Nat) (a1 : Int32) (a2 : Int32) : MM Int32 := onC 11 a0 (
  mbnd (gR 11 1 a0) fun (v1 : Nat) =>
  mbnd (ldI 0 v1 ((141 + (4 * a1)) + a2)) fun (v2 : Int32) =>
  mret v2
  )
theorem rcX12_inTool (a0 : Nat) (a1 : Int32) (a2 : Int32) : Rcv 11 a0 (mX12_inTool a0 a1 a2) := fun s r h => ⟨(onC_some h).1, (onC_some h).2.1⟩
set_option maxHeartbeats 4000000 in
set_option maxRecDepth 100000 in
theorem ctX12_inTool (a0 : Nat) (a1 : Int32) (a2 : Int32) : Ct aX12_inTool [vr a0, vi a1, vi a2] (mX12_inTool a0 a1 a2) rI := by
  unfold mX12_inTool
  refine ct_onC (ct_intro (by decide +kernel) rfl (Nat.le_of_ble_eq_true rfl) fun Y s => ?_)
  refine r_sub (lv' := [(0, vr a0), (1, vi a1), (2, vi a2)]) [0, 1, 2] rfl ?_
  refine r_p (pc' := 1) (p_aload_n 0 (k := 0) (by decide +kernel) rfl) ?_
  refine r_gR flX12_13_11 (by decide +kernel) fun v1 => ?_
  refine r_p (pc' := 7) (p_sipush (n := 141) (v := 141) (by decide +kernel) (by decide +kernel)) ?_
  refine r_p (pc' := 8) (p_iconst (n := 4) (v := 4) (by decide +kernel) rfl) ?_
  refine r_p (pc' := 9) (p_iload_n 1 (k := 1) (by decide +kernel) rfl) ?_
  refine r_p (pc' := 10) (p_imul (by decide +kernel)) ?_
  refine r_p (pc' := 11) (p_iadd (by decide +kernel)) ?_
  refine r_p (pc' := 12) (p_iload_n 2 (k := 2) (by decide +kernel) rfl) ?_
  refine r_p (pc' := 13) (p_iadd (by decide +kernel)) ?_
  refine r_ldI0 (by decide +kernel) fun v2 => ?_
  exact r_iret rfl rfl _ rfl rfl (by decide +kernel)
def aX12_ofTruth : StA := (RX12, cX12_ofTruth, 3, some .int, yX12_ofTruth, 8, [])
noncomputable def mX12_ofTruth (a0 : Nat) (a1 : Int32) (a2 : Int32) : MM Int32 := onC 11 a0 (
  mbnd (gR 11 1 a0) fun (v1 : Nat) =>
  mbnd (ldI 0 v1 ((171 + (7 * a1)) + a2)) fun (v2 : Int32) =>
  mret v2
  )
theorem rcX12_ofTruth (a0 : Nat) (a1 : Int32) (a2 : Int32) : Rcv 11 a0 (mX12_ofTruth a0 a1 a2) := fun s r h => ⟨(onC_some h).1, (onC_some h).2.1⟩
set_option maxHeartbeats 4000000 in
set_option maxRecDepth 100000 in
theorem ctX12_ofTruth (a0 : Nat) (a1 : Int32) (a2 : Int32) : Ct aX12_ofTruth [vr a0, vi a1, vi a2] (mX12_ofTruth a0 a1 a2) rI := by
  unfold mX12_ofTruth
  refine ct_onC (ct_intro (by decide +kernel) rfl (Nat.le_of_ble_eq_true rfl) fun Y s => ?_)
  refine r_sub (lv' := [(0, vr a0), (1, vi a1), (2, vi a2)]) [0, 1, 2] rfl ?_
  refine r_p (pc' := 1) (p_aload_n 0 (k := 0) (by decide +kernel) rfl) ?_
  refine r_gR flX12_13_11 (by decide +kernel) fun v1 => ?_
  refine r_p (pc' := 7) (p_sipush (n := 171) (v := 171) (by decide +kernel) (by decide +kernel)) ?_
  refine r_p (pc' := 9) (p_bipush (n := 7) (v := 7) (by decide +kernel) (by decide +kernel)) ?_
  refine r_p (pc' := 10) (p_iload_n 1 (k := 1) (by decide +kernel) rfl) ?_
  refine r_p (pc' := 11) (p_imul (by decide +kernel)) ?_
  refine r_p (pc' := 12) (p_iadd (by decide +kernel)) ?_
  refine r_p (pc' := 13) (p_iload_n 2 (k := 2) (by decide +kernel) rfl) ?_
  refine r_p (pc' := 14) (p_iadd (by decide +kernel)) ?_
  refine r_ldI0 (by decide +kernel) fun v2 => ?_
  exact r_iret rfl rfl _ rfl rfl (by decide +kernel)
def aX12_isSpare : StA := (RX12, cX12_isSpare, 2, some .boolean, yX12_isSpare, 10, [])
theorem mvX12_65 : MV RX12 65 aX12_of 2 := ⟨tblG_of 1859 (by decide +kernel) (by decide +kernel), tblG_of 1861 (by decide +kernel) (by decide +kernel), tblG_of 69 (by decide +kernel) (by decide +kernel), tblG_of 157 (by decide +kernel) (by decide +kernel), tblG_of 1862 (by decide +kernel) (by decide +kernel), rfl, ⟨by decide, by decide⟩, by decide +kernel, by decide⟩
noncomputable def mX12_isSpare (a0 : Nat) (a1 : Int32) : MM Int32 := onC 11 a0 (
  mbnd (mX12_of a0 a1 6) fun (v1 : Int32) =>
  if 0 ≤ v1 then (
    mret 0
  ) else (
    mret 1
  )
  )
theorem rcX12_isSpare (a0 : Nat) (a1 : Int32) : Rcv 11 a0 (mX12_isSpare a0 a1) := fun s r h => ⟨(onC_some h).1, (onC_some h).2.1⟩
set_option maxHeartbeats 4000000 in
set_option maxRecDepth 100000 in
theorem ctX12_isSpare (a0 : Nat) (a1 : Int32) : Ct aX12_isSpare [vr a0, vi a1] (mX12_isSpare a0 a1) rI := by
  unfold mX12_isSpare
  refine ct_onC (ct_intro (by decide +kernel) rfl (Nat.le_of_ble_eq_true rfl) fun Y s => ?_)
  refine r_sub (lv' := [(0, vr a0), (1, vi a1)]) [0, 1] rfl ?_
  refine r_p (pc' := 1) (p_aload_n 0 (k := 0) (by decide +kernel) rfl) ?_
  refine r_p (pc' := 2) (p_iload_n 1 (k := 1) (by decide +kernel) rfl) ?_
  refine r_p (pc' := 4) (p_bipush (n := 6) (v := 6) (by decide +kernel) (by decide +kernel)) ?_
  refine r_callVI mvX12_65 (ctX12_of a0 a1 6) (rcX12_of a0 a1 6) ⟨_, _, rfl⟩ (as := [vi a1, vi 6]) (st := []) rfl rfl (by decide +kernel) rfl (Nat.le_of_ble_eq_true rfl) (Nat.le_of_ble_eq_true rfl) fun v1 s => ?_
  refine r_ifge (off := 7) (tgt := 14) (by decide +kernel) (by decide) (fun h2 => ?_) (fun h2 => ?_)
  · refine r_p (pc' := 15) (p_iconst (n := 0) (v := 0) (by decide +kernel) rfl) ?_
    exact r_iret rfl rfl _ rfl rfl (by decide +kernel)
  · refine r_p (pc' := 11) (p_iconst (n := 1) (v := 1) (by decide +kernel) rfl) ?_
    refine r_p (pc' := 15) (p_goto (off := 4) (tgt := 15) (by decide +kernel) (by decide)) ?_
    exact r_iret rfl rfl _ rfl rfl (by decide +kernel)
def aX12_isNailed : StA := (RX12, cX12_isNailed, 2, some .boolean, yX12_isNailed, 10, [])
noncomputable def mX12_isNailed (a0 : Nat) (a1 : Int32) : MM Int32 := onC 11 a0 (
  mbnd (mX12_of a0 a1 4) fun (v1 : Int32) =>
  if v1 = 1 then (
    mret 1
  ) else (
    mret 0
  )
  )
theorem rcX12_isNailed (a0 : Nat) (a1 : Int32) : Rcv 11 a0 (mX12_isNailed a0 a1) := fun s r h => ⟨(onC_some h).1, (onC_some h).2.1⟩
set_option maxHeartbeats 4000000 in
set_option maxRecDepth 100000 in
theorem ctX12_isNailed (a0 : Nat) (a1 : Int32) : Ct aX12_isNailed [vr a0, vi a1] (mX12_isNailed a0 a1) rI := by
  unfold mX12_isNailed
  refine ct_onC (ct_intro (by decide +kernel) rfl (Nat.le_of_ble_eq_true rfl) fun Y s => ?_)
  refine r_sub (lv' := [(0, vr a0), (1, vi a1)]) [0, 1] rfl ?_
  refine r_p (pc' := 1) (p_aload_n 0 (k := 0) (by decide +kernel) rfl) ?_
  refine r_p (pc' := 2) (p_iload_n 1 (k := 1) (by decide +kernel) rfl) ?_
  refine r_p (pc' := 3) (p_iconst (n := 4) (v := 4) (by decide +kernel) rfl) ?_
  refine r_callVI mvX12_65 (ctX12_of a0 a1 4) (rcX12_of a0 a1 4) ⟨_, _, rfl⟩ (as := [vi a1, vi 4]) (st := []) rfl rfl (by decide +kernel) rfl (Nat.le_of_ble_eq_true rfl) (Nat.le_of_ble_eq_true rfl) fun v1 s => ?_
  refine r_p (pc' := 7) (p_iconst (n := 1) (v := 1) (by decide +kernel) rfl) ?_
  refine r_icmpne (off := 7) (tgt := 14) (by decide +kernel) (by decide) (fun h2 => ?_) (fun h2 => ?_)
  · refine r_p (pc' := 11) (p_iconst (n := 1) (v := 1) (by decide +kernel) rfl) ?_
    refine r_p (pc' := 15) (p_goto (off := 4) (tgt := 15) (by decide +kernel) (by decide)) ?_
    exact r_iret rfl rfl _ rfl rfl (by decide +kernel)
  · refine r_p (pc' := 15) (p_iconst (n := 0) (v := 0) (by decide +kernel) rfl) ?_
    exact r_iret rfl rfl _ rfl rfl (by decide +kernel)
def aX12_isHead : StA := (RX12, cX12_isHead, 2, some .boolean, yX12_isHead, 10, [])
noncomputable def mX12_isHead (a0 : Nat) (a1 : Int32) : MM Int32 := onC 11 a0 (
  mbnd (mX12_of a0 a1 0) fun (v1 : Int32) =>
  if v1 = 1 then (
    mret 1
  ) else (
    mret 0
  )
  )
theorem rcX12_isHead (a0 : Nat) (a1 : Int32) : Rcv 11 a0 (mX12_isHead a0 a1) := fun s r h => ⟨(onC_some h).1, (onC_some h).2.1⟩
set_option maxHeartbeats 4000000 in
set_option maxRecDepth 100000 in
theorem ctX12_isHead (a0 : Nat) (a1 : Int32) : Ct aX12_isHead [vr a0, vi a1] (mX12_isHead a0 a1) rI := by
  unfold mX12_isHead
  refine ct_onC (ct_intro (by decide +kernel) rfl (Nat.le_of_ble_eq_true rfl) fun Y s => ?_)
  refine r_sub (lv' := [(0, vr a0), (1, vi a1)]) [0, 1] rfl ?_
  refine r_p (pc' := 1) (p_aload_n 0 (k := 0) (by decide +kernel) rfl) ?_
  refine r_p (pc' := 2) (p_iload_n 1 (k := 1) (by decide +kernel) rfl) ?_
  refine r_p (pc' := 3) (p_iconst (n := 0) (v := 0) (by decide +kernel) rfl) ?_
  refine r_callVI mvX12_65 (ctX12_of a0 a1 0) (rcX12_of a0 a1 0) ⟨_, _, rfl⟩ (as := [vi a1, vi 0]) (st := []) rfl rfl (by decide +kernel) rfl (Nat.le_of_ble_eq_true rfl) (Nat.le_of_ble_eq_true rfl) fun v1 s => ?_
  refine r_p (pc' := 7) (p_iconst (n := 1) (v := 1) (by decide +kernel) rfl) ?_
  refine r_icmpne (off := 7) (tgt := 14) (by decide +kernel) (by decide) (fun h2 => ?_) (fun h2 => ?_)
  · refine r_p (pc' := 11) (p_iconst (n := 1) (v := 1) (by decide +kernel) rfl) ?_
    refine r_p (pc' := 15) (p_goto (off := 4) (tgt := 15) (by decide +kernel) (by decide)) ?_
    exact r_iret rfl rfl _ rfl rfl (by decide +kernel)
  · refine r_p (pc' := 15) (p_iconst (n := 0) (v := 0) (by decide +kernel) rfl) ?_
    exact r_iret rfl rfl _ rfl rfl (by decide +kernel)
def aX12_noPart : StA := (RX12, cX12_noPart, 2, some .boolean, yX12_noPart, 9, [])
theorem mvX12_68 : MV RX12 68 aX12_parts 0 := ⟨tblG_of 1814 (by decide +kernel) (by decide +kernel), tblG_of 1816 (by decide +kernel) (by decide +kernel), tblG_of 60 (by decide +kernel) (by decide +kernel), tblG_of 157 (by decide +kernel) (by decide +kernel), tblG_of 1817 (by decide +kernel) (by decide +kernel), rfl, ⟨by decide, by decide⟩, by decide +kernel, by decide⟩
theorem msX12_72 : MS RX12 72 aX12_in 3 := ⟨tblG_of 1965 (by decide +kernel) (by decide +kernel), tblG_of 1966 (by decide +kernel) (by decide +kernel), tblG_of 157 (by decide +kernel) (by decide +kernel), tblG_of 1967 (by decide +kernel) (by decide +kernel), rfl, ⟨by decide, by decide⟩, by decide +kernel, by decide⟩
noncomputable def mX12_noPart (a0 : Nat) (a1 : Int32) : MM Int32 := onC 11 a0 (
  mbnd (mX12_parts a0) fun (v1 : Int32) =>
  mbnd (mX12_in a1 0 (v1 - 1)) fun (v2 : Int32) =>
  if v2 = 0 then (
    mret 1
  ) else (
    mret 0
  )
  )
theorem rcX12_noPart (a0 : Nat) (a1 : Int32) : Rcv 11 a0 (mX12_noPart a0 a1) := fun s r h => ⟨(onC_some h).1, (onC_some h).2.1⟩
set_option maxHeartbeats 4000000 in
set_option maxRecDepth 100000 in
theorem ctX12_noPart (a0 : Nat) (a1 : Int32) : Ct aX12_noPart [vr a0, vi a1] (mX12_noPart a0 a1) rI := by
  unfold mX12_noPart
  refine ct_onC (ct_intro (by decide +kernel) rfl (Nat.le_of_ble_eq_true rfl) fun Y s => ?_)
  refine r_sub (lv' := [(0, vr a0), (1, vi a1)]) [0, 1] rfl ?_
  refine r_p (pc' := 1) (p_iload_n 1 (k := 1) (by decide +kernel) rfl) ?_
  refine r_p (pc' := 2) (p_iconst (n := 0) (v := 0) (by decide +kernel) rfl) ?_
  refine r_p (pc' := 3) (p_aload_n 0 (k := 0) (by decide +kernel) rfl) ?_
  refine r_callVI mvX12_68 (ctX12_parts a0) (rcX12_parts a0) ⟨_, _, rfl⟩ (as := []) (st := [vi 0, vi a1]) rfl rfl (by decide +kernel) rfl (Nat.le_of_ble_eq_true rfl) (Nat.le_of_ble_eq_true rfl) fun v1 s => ?_
  refine r_p (pc' := 7) (p_iconst (n := 1) (v := 1) (by decide +kernel) rfl) ?_
  refine r_p (pc' := 8) (p_isub (by decide +kernel)) ?_
  refine r_callSI msX12_72 (ctX12_in a1 0 (v1 - 1)) (as := [vi a1, vi 0, vi (v1 - 1)]) (st := []) rfl rfl (by decide +kernel) rfl (Nat.le_of_ble_eq_true rfl) (Nat.le_of_ble_eq_true rfl) fun v2 s => ?_
  refine r_ifne (off := 7) (tgt := 18) (by decide +kernel) (by decide) (fun h3 => ?_) (fun h3 => ?_)
  · refine r_p (pc' := 15) (p_iconst (n := 1) (v := 1) (by decide +kernel) rfl) ?_
    refine r_p (pc' := 19) (p_goto (off := 4) (tgt := 19) (by decide +kernel) (by decide)) ?_
    exact r_iret rfl rfl _ rfl rfl (by decide +kernel)
  · refine r_p (pc' := 19) (p_iconst (n := 0) (v := 0) (by decide +kernel) rfl) ?_
    exact r_iret rfl rfl _ rfl rfl (by decide +kernel)
def aX12_noTool : StA := (RX12, cX12_noTool, 2, some .boolean, yX12_noTool, 9, [])
theorem mvX12_76 : MV RX12 76 aX12_tools 0 := ⟨tblG_of 1847 (by decide +kernel) (by decide +kernel), tblG_of 1849 (by decide +kernel) (by decide +kernel), tblG_of 66 (by decide +kernel) (by decide +kernel), tblG_of 157 (by decide +kernel) (by decide +kernel), tblG_of 1850 (by decide +kernel) (by decide +kernel), rfl, ⟨by decide, by decide⟩, by decide +kernel, by decide⟩
noncomputable def mX12_noTool (a0 : Nat) (a1 : Int32) : MM Int32 := onC 11 a0 (
  mbnd (mX12_tools a0) fun (v1 : Int32) =>
  mbnd (mX12_in a1 0 (v1 - 1)) fun (v2 : Int32) =>
  if v2 = 0 then (
    mret 1
  ) else (
    mret 0
  )
  )
theorem rcX12_noTool (a0 : Nat) (a1 : Int32) : Rcv 11 a0 (mX12_noTool a0 a1) := fun s r h => ⟨(onC_some h).1, (onC_some h).2.1⟩
set_option maxHeartbeats 4000000 in
set_option maxRecDepth 100000 in
theorem ctX12_noTool (a0 : Nat) (a1 : Int32) : Ct aX12_noTool [vr a0, vi a1] (mX12_noTool a0 a1) rI := by
  unfold mX12_noTool
  refine ct_onC (ct_intro (by decide +kernel) rfl (Nat.le_of_ble_eq_true rfl) fun Y s => ?_)
  refine r_sub (lv' := [(0, vr a0), (1, vi a1)]) [0, 1] rfl ?_
  refine r_p (pc' := 1) (p_iload_n 1 (k := 1) (by decide +kernel) rfl) ?_
  refine r_p (pc' := 2) (p_iconst (n := 0) (v := 0) (by decide +kernel) rfl) ?_
  refine r_p (pc' := 3) (p_aload_n 0 (k := 0) (by decide +kernel) rfl) ?_
  refine r_callVI mvX12_76 (ctX12_tools a0) (rcX12_tools a0) ⟨_, _, rfl⟩ (as := []) (st := [vi 0, vi a1]) rfl rfl (by decide +kernel) rfl (Nat.le_of_ble_eq_true rfl) (Nat.le_of_ble_eq_true rfl) fun v1 s => ?_
  refine r_p (pc' := 7) (p_iconst (n := 1) (v := 1) (by decide +kernel) rfl) ?_
  refine r_p (pc' := 8) (p_isub (by decide +kernel)) ?_
  refine r_callSI msX12_72 (ctX12_in a1 0 (v1 - 1)) (as := [vi a1, vi 0, vi (v1 - 1)]) (st := []) rfl rfl (by decide +kernel) rfl (Nat.le_of_ble_eq_true rfl) (Nat.le_of_ble_eq_true rfl) fun v2 s => ?_
  refine r_ifne (off := 7) (tgt := 18) (by decide +kernel) (by decide) (fun h3 => ?_) (fun h3 => ?_)
  · refine r_p (pc' := 15) (p_iconst (n := 1) (v := 1) (by decide +kernel) rfl) ?_
    refine r_p (pc' := 19) (p_goto (off := 4) (tgt := 19) (by decide +kernel) (by decide)) ?_
    exact r_iret rfl rfl _ rfl rfl (by decide +kernel)
  · refine r_p (pc' := 19) (p_iconst (n := 0) (v := 0) (by decide +kernel) rfl) ?_
    exact r_iret rfl rfl _ rfl rfl (by decide +kernel)
def aX12_noMaster : StA := (RX12, cX12_noMaster, 2, some .boolean, yX12_noMaster, 9, [])
theorem mvX12_79 : MV RX12 79 aX12_masters 0 := ⟨tblG_of 1880 (by decide +kernel) (by decide +kernel), tblG_of 1882 (by decide +kernel) (by decide +kernel), tblG_of 74 (by decide +kernel) (by decide +kernel), tblG_of 157 (by decide +kernel) (by decide +kernel), tblG_of 1883 (by decide +kernel) (by decide +kernel), rfl, ⟨by decide, by decide⟩, by decide +kernel, by decide⟩
noncomputable def mX12_noMaster (a0 : Nat) (a1 : Int32) : MM Int32 := onC 11 a0 (
  mbnd (mX12_masters a0) fun (v1 : Int32) =>
  mbnd (mX12_in a1 0 (v1 - 1)) fun (v2 : Int32) =>
  if v2 = 0 then (
    mret 1
  ) else (
    mret 0
  )
  )
theorem rcX12_noMaster (a0 : Nat) (a1 : Int32) : Rcv 11 a0 (mX12_noMaster a0 a1) := fun s r h => ⟨(onC_some h).1, (onC_some h).2.1⟩
set_option maxHeartbeats 4000000 in
set_option maxRecDepth 100000 in
theorem ctX12_noMaster (a0 : Nat) (a1 : Int32) : Ct aX12_noMaster [vr a0, vi a1] (mX12_noMaster a0 a1) rI := by
  unfold mX12_noMaster
  refine ct_onC (ct_intro (by decide +kernel) rfl (Nat.le_of_ble_eq_true rfl) fun Y s => ?_)
  refine r_sub (lv' := [(0, vr a0), (1, vi a1)]) [0, 1] rfl ?_
  refine r_p (pc' := 1) (p_iload_n 1 (k := 1) (by decide +kernel) rfl) ?_
  refine r_p (pc' := 2) (p_iconst (n := 0) (v := 0) (by decide +kernel) rfl) ?_
  refine r_p (pc' := 3) (p_aload_n 0 (k := 0) (by decide +kernel) rfl) ?_
  refine r_callVI mvX12_79 (ctX12_masters a0) (rcX12_masters a0) ⟨_, _, rfl⟩ (as := []) (st := [vi 0, vi a1]) rfl rfl (by decide +kernel) rfl (Nat.le_of_ble_eq_true rfl) (Nat.le_of_ble_eq_true rfl) fun v1 s => ?_
  refine r_p (pc' := 7) (p_iconst (n := 1) (v := 1) (by decide +kernel) rfl) ?_
  refine r_p (pc' := 8) (p_isub (by decide +kernel)) ?_
  refine r_callSI msX12_72 (ctX12_in a1 0 (v1 - 1)) (as := [vi a1, vi 0, vi (v1 - 1)]) (st := []) rfl rfl (by decide +kernel) rfl (Nat.le_of_ble_eq_true rfl) (Nat.le_of_ble_eq_true rfl) fun v2 s => ?_
  refine r_ifne (off := 7) (tgt := 18) (by decide +kernel) (by decide) (fun h3 => ?_) (fun h3 => ?_)
  · refine r_p (pc' := 15) (p_iconst (n := 1) (v := 1) (by decide +kernel) rfl) ?_
    refine r_p (pc' := 19) (p_goto (off := 4) (tgt := 19) (by decide +kernel) (by decide)) ?_
    exact r_iret rfl rfl _ rfl rfl (by decide +kernel)
  · refine r_p (pc' := 19) (p_iconst (n := 0) (v := 0) (by decide +kernel) rfl) ?_
    exact r_iret rfl rfl _ rfl rfl (by decide +kernel)
def aX12_draw : StA := (RX12, cX12_draw, 2, some .int, yX12_draw, 8, [])
noncomputable def mX12_draw (a0 : Nat) (a1 : Int32) : MM Int32 := onC 11 a0 (
  mbnd (gR 11 1 a0) fun (v1 : Nat) =>
  mbnd (gR 11 1 a0) fun (v2 : Nat) =>
  mbnd (ldI 0 v2 12) fun (v3 : Int32) =>
  mbnd (stI 0 v1 12 ((1103515245 * v3) + 12345)) fun _ =>
  mbnd (gR 11 1 a0) fun (v4 : Nat) =>
  mbnd (ldI 0 v4 12) fun (v5 : Int32) =>
  mbnd (nzI a1) fun _ =>
  mret (((v5 >>> (16 &&& (31 : Int32))) &&& 32767) - ((v5 >>> (16 &&& (31 : Int32))) &&& 32767) / a1 * a1)
  )
theorem rcX12_draw (a0 : Nat) (a1 : Int32) : Rcv 11 a0 (mX12_draw a0 a1) := fun s r h => ⟨(onC_some h).1, (onC_some h).2.1⟩
set_option maxHeartbeats 4000000 in
set_option maxRecDepth 100000 in
theorem ctX12_draw (a0 : Nat) (a1 : Int32) : Ct aX12_draw [vr a0, vi a1] (mX12_draw a0 a1) rI := by
  unfold mX12_draw
  refine ct_onC (ct_intro (by decide +kernel) rfl (Nat.le_of_ble_eq_true rfl) fun Y s => ?_)
  refine r_sub (lv' := [(0, vr a0), (1, vi a1)]) [0, 1] rfl ?_
  refine r_p (pc' := 1) (p_aload_n 0 (k := 0) (by decide +kernel) rfl) ?_
  refine r_gR flX12_13_11 (by decide +kernel) fun v1 => ?_
  refine r_p (pc' := 6) (p_bipush (n := 12) (v := 12) (by decide +kernel) (by decide +kernel)) ?_
  refine r_p (pc' := 8) (p_ldc (i := 82) (v := 1103515245) (by decide +kernel) (tblG_of 2127 (by decide +kernel) (by decide +kernel))) ?_
  refine r_p (pc' := 9) (p_aload_n 0 (k := 0) (by decide +kernel) rfl) ?_
  refine r_gR flX12_13_11 (by decide +kernel) fun v2 => ?_
  refine r_p (pc' := 14) (p_bipush (n := 12) (v := 12) (by decide +kernel) (by decide +kernel)) ?_
  refine r_ldI0 (by decide +kernel) fun v3 => ?_
  refine r_p (pc' := 16) (p_imul (by decide +kernel)) ?_
  refine r_p (pc' := 19) (p_sipush (n := 12345) (v := 12345) (by decide +kernel) (by decide +kernel)) ?_
  refine r_p (pc' := 20) (p_iadd (by decide +kernel)) ?_
  refine r_stI0 (by decide +kernel) fun s => ?_
  refine r_p (pc' := 22) (p_aload_n 0 (k := 0) (by decide +kernel) rfl) ?_
  refine r_gR flX12_13_11 (by decide +kernel) fun v4 => ?_
  refine r_p (pc' := 27) (p_bipush (n := 12) (v := 12) (by decide +kernel) (by decide +kernel)) ?_
  refine r_ldI0 (by decide +kernel) fun v5 => ?_
  refine r_p (pc' := 30) (p_bipush (n := 16) (v := 16) (by decide +kernel) (by decide +kernel)) ?_
  refine r_p (pc' := 31) (p_ishr (by decide +kernel)) ?_
  refine r_p (pc' := 34) (p_sipush (n := 32767) (v := 32767) (by decide +kernel) (by decide +kernel)) ?_
  refine r_p (pc' := 35) (p_iand (by decide +kernel)) ?_
  refine r_p (pc' := 36) (p_iload_n 1 (k := 1) (by decide +kernel) rfl) ?_
  refine r_nzI (fun h6 => ?_)
  refine r_p (pc' := 37) (p_irem (by decide +kernel) h6) ?_
  exact r_iret rfl rfl _ rfl rfl (by decide +kernel)
def aX12_feed : StA := (RX12, cX12_feed, 7, some .int, yX12_feed, 8, [])
theorem flX12_83_11 : FL RX12 83 11 9 := ⟨_, TX12, 27, "ToolCourtModel", rfl, by decide, Or.inl (tblG_of 1674 (by decide +kernel) (by decide +kernel)), Or.inl rfl⟩
theorem flX12_36_11 : FL RX12 36 11 15 := ⟨_, TX12, 27, "ToolCourtModel", rfl, by decide, Or.inl (tblG_of 1680 (by decide +kernel) (by decide +kernel)), Or.inl rfl⟩
theorem flX12_29_11 : FL RX12 29 11 8 := ⟨_, TX12, 27, "ToolCourtModel", rfl, by decide, Or.inl (tblG_of 1673 (by decide +kernel) (by decide +kernel)), Or.inl rfl⟩
theorem fpX12_83_11 : FP RX12 83 11 9 .int false := ⟨_, TX12, 27, "ToolCourtModel", tyX12, rfl, by decide, Or.inl (tblG_of 1674 (by decide +kernel) (by decide +kernel)), Or.inl rfl, tyX12_ok, nmX12, rfl, by decide, by decide +kernel⟩
noncomputable def mX12_feed_L60 (a0 : Nat) (x8 : Int32) : MM ((Int32) ⊕ (Unit)) :=
  if 20 ≤ x8 then (
    mret (.inr ())
  ) else (
    mbnd (gR 11 8 a0) fun (v13 : Nat) =>
    mbnd (gI 11 9 a0) fun (v14 : Int32) =>
    mbnd (gR 11 15 a0) fun (v15 : Nat) =>
    mbnd (ldI 0 v15 (x8 / 4)) fun (v16 : Int32) =>
    mbnd (stI 1 v13 (v14 + x8) (vp_nar .byte ((v16 >>> ((24 - (8 * (x8 - x8 / 4 * 4))) &&& (31 : Int32))).toInt8.toInt32))) fun _ =>
    mret (.inl (x8 + 1))
  )
noncomputable def mX12_feed (a0 : Nat) (a1 : Int32) (a2 : Int32) (a3 : Int32) (a4 : Int32) (a5 : Int32) : MM Int32 := onC 11 a0 (
  mbnd (pI 11 0 a0 0) fun _ =>
  mbnd (gI 11 9 a0) fun (v1 : Int32) =>
  if (v1 + 20) ≤ 400 then (
    mbnd (gR 11 15 a0) fun (v3 : Nat) =>
    mbnd (stI 0 v3 0 a1) fun _ =>
    mbnd (gR 11 15 a0) fun (v4 : Nat) =>
    mbnd (stI 0 v4 1 a2) fun _ =>
    mbnd (gR 11 15 a0) fun (v5 : Nat) =>
    mbnd (stI 0 v5 2 a3) fun _ =>
    mbnd (gR 11 15 a0) fun (v6 : Nat) =>
    mbnd (stI 0 v6 3 a4) fun _ =>
    mbnd (gR 11 15 a0) fun (v7 : Nat) =>
    mbnd (stI 0 v7 4 a5) fun _ =>
    mbnd (loopM (mX12_feed_L60 a0) 0) fun (e17 : Unit) =>
    mbnd (gI 11 9 a0) fun (v18 : Int32) =>
    mbnd (pI 11 9 a0 (v18 + 20)) fun _ =>
    mbnd (gI 11 9 a0) fun (v19 : Int32) =>
    mret v19
  ) else (
    mret (-1)
  )
  )
theorem rcX12_feed (a0 : Nat) (a1 : Int32) (a2 : Int32) (a3 : Int32) (a4 : Int32) (a5 : Int32) : Rcv 11 a0 (mX12_feed a0 a1 a2 a3 a4 a5) := fun s r h => ⟨(onC_some h).1, (onC_some h).2.1⟩
set_option maxHeartbeats 4000000 in
set_option maxRecDepth 100000 in
theorem ctX12_feed (a0 : Nat) (a1 : Int32) (a2 : Int32) (a3 : Int32) (a4 : Int32) (a5 : Int32) : Ct aX12_feed [vr a0, vi a1, vi a2, vi a3, vi a4, vi a5] (mX12_feed a0 a1 a2 a3 a4 a5) rI := by
  unfold mX12_feed
  refine ct_onC (ct_intro (by decide +kernel) rfl (Nat.le_of_ble_eq_true rfl) fun Y s => ?_)
  refine r_sub (lv' := [(0, vr a0), (1, vi a1), (2, vi a2), (3, vi a3), (4, vi a4), (5, vi a5)]) [0, 1, 2, 3, 4, 5] rfl ?_
  refine r_p (pc' := 1) (p_aload_n 0 (k := 0) (by decide +kernel) rfl) ?_
  refine r_p (pc' := 2) (p_iconst (n := 0) (v := 0) (by decide +kernel) rfl) ?_
  refine r_pI fpX12_3_11 (fun h => by cases h) (by decide +kernel) fun s => ?_
  refine r_p (pc' := 6) (p_aload_n 0 (k := 0) (by decide +kernel) rfl) ?_
  refine r_gI flX12_83_11 (by decide +kernel) fun v1 => ?_
  refine r_p (pc' := 11) (p_bipush (n := 20) (v := 20) (by decide +kernel) (by decide +kernel)) ?_
  refine r_p (pc' := 12) (p_iadd (by decide +kernel)) ?_
  refine r_p (pc' := 15) (p_sipush (n := 400) (v := 400) (by decide +kernel) (by decide +kernel)) ?_
  refine r_icmple (off := 5) (tgt := 20) (by decide +kernel) (by decide) (fun h2 => ?_) (fun h2 => ?_)
  · refine r_p (pc' := 21) (p_aload_n 0 (k := 0) (by decide +kernel) rfl) ?_
    refine r_gR flX12_36_11 (by decide +kernel) fun v3 => ?_
    refine r_p (pc' := 25) (p_iconst (n := 0) (v := 0) (by decide +kernel) rfl) ?_
    refine r_p (pc' := 26) (p_iload_n 1 (k := 1) (by decide +kernel) rfl) ?_
    refine r_stI0 (by decide +kernel) fun s => ?_
    refine r_p (pc' := 28) (p_aload_n 0 (k := 0) (by decide +kernel) rfl) ?_
    refine r_gR flX12_36_11 (by decide +kernel) fun v4 => ?_
    refine r_p (pc' := 32) (p_iconst (n := 1) (v := 1) (by decide +kernel) rfl) ?_
    refine r_p (pc' := 33) (p_iload_n 2 (k := 2) (by decide +kernel) rfl) ?_
    refine r_stI0 (by decide +kernel) fun s => ?_
    refine r_p (pc' := 35) (p_aload_n 0 (k := 0) (by decide +kernel) rfl) ?_
    refine r_gR flX12_36_11 (by decide +kernel) fun v5 => ?_
    refine r_p (pc' := 39) (p_iconst (n := 2) (v := 2) (by decide +kernel) rfl) ?_
    refine r_p (pc' := 40) (p_iload_n 3 (k := 3) (by decide +kernel) rfl) ?_
    refine r_stI0 (by decide +kernel) fun s => ?_
    refine r_p (pc' := 42) (p_aload_n 0 (k := 0) (by decide +kernel) rfl) ?_
    refine r_gR flX12_36_11 (by decide +kernel) fun v6 => ?_
    refine r_p (pc' := 46) (p_iconst (n := 3) (v := 3) (by decide +kernel) rfl) ?_
    refine r_p (pc' := 48) (p_iload 4 (i := 4) (by decide +kernel) rfl) ?_
    refine r_stI0 (by decide +kernel) fun s => ?_
    refine r_p (pc' := 50) (p_aload_n 0 (k := 0) (by decide +kernel) rfl) ?_
    refine r_gR flX12_36_11 (by decide +kernel) fun v7 => ?_
    refine r_p (pc' := 54) (p_iconst (n := 4) (v := 4) (by decide +kernel) rfl) ?_
    refine r_p (pc' := 56) (p_iload 5 (i := 5) (by decide +kernel) rfl) ?_
    refine r_stI0 (by decide +kernel) fun s => ?_
    refine r_p (pc' := 58) (p_iconst (n := 0) (v := 0) (by decide +kernel) rfl) ?_
    refine r_p (pc' := 60) (p_istore (i := 6) (lv' := [(6, vi 0), (0, vr a0), (1, vi a1), (2, vi a2), (3, vi a3), (4, vi a4), (5, vi a5)]) (by decide +kernel) (Nat.le_of_ble_eq_true rfl) rfl) ?_
    refine r_sub (lv' := [(0, vr a0), (6, vi 0)]) [1, 0] rfl ?_
    refine r_loop2 (fun _ => 106) (fun (e17 : Unit) => [(0, vr a0)]) (fun (x8 : Int32) => [(0, vr a0), (6, vi x8)]) (fun e17 s => ?_) (fun K9 hb10 he11 x8 s => ?_) 0 _
    · refine r_p (pc' := 107) (p_aload_n 0 (k := 0) (by decide +kernel) rfl) ?_
      refine r_p (pc' := 108) (p_dup rfl (by decide +kernel)) ?_
      refine r_gI flX12_83_11 (by decide +kernel) fun v18 => ?_
      refine r_p (pc' := 113) (p_bipush (n := 20) (v := 20) (by decide +kernel) (by decide +kernel)) ?_
      refine r_p (pc' := 114) (p_iadd (by decide +kernel)) ?_
      refine r_pI fpX12_83_11 (fun h => by cases h) (by decide +kernel) fun s => ?_
      refine r_p (pc' := 118) (p_aload_n 0 (k := 0) (by decide +kernel) rfl) ?_
      refine r_gI flX12_83_11 (by decide +kernel) fun v19 => ?_
      exact r_iret rfl rfl _ rfl rfl (by decide +kernel)
    · unfold mX12_feed_L60
      refine r_p (pc' := 62) (p_iload 1 (i := 6) (by decide +kernel) rfl) ?_
      refine r_p (pc' := 64) (p_bipush (n := 20) (v := 20) (by decide +kernel) (by decide +kernel)) ?_
      refine r_icmpge (off := 42) (tgt := 106) (by decide +kernel) (by decide) (fun h12 => ?_) (fun h12 => ?_)
      · refine r_sub (lv' := [(0, vr a0)]) [0] rfl ?_
        exact he11 () _
      · refine r_p (pc' := 68) (p_aload_n 0 (k := 0) (by decide +kernel) rfl) ?_
        refine r_gR flX12_29_11 (by decide +kernel) fun v13 => ?_
        refine r_p (pc' := 72) (p_aload_n 0 (k := 0) (by decide +kernel) rfl) ?_
        refine r_gI flX12_83_11 (by decide +kernel) fun v14 => ?_
        refine r_p (pc' := 77) (p_iload 1 (i := 6) (by decide +kernel) rfl) ?_
        refine r_p (pc' := 78) (p_iadd (by decide +kernel)) ?_
        refine r_p (pc' := 79) (p_aload_n 0 (k := 0) (by decide +kernel) rfl) ?_
        refine r_gR flX12_36_11 (by decide +kernel) fun v15 => ?_
        refine r_p (pc' := 84) (p_iload 1 (i := 6) (by decide +kernel) rfl) ?_
        refine r_p (pc' := 85) (p_iconst (n := 4) (v := 4) (by decide +kernel) rfl) ?_
        refine r_p (pc' := 86) (p_idiv (by decide +kernel) (by decide)) ?_
        refine r_ldI0 (by decide +kernel) fun v16 => ?_
        refine r_p (pc' := 89) (p_bipush (n := 24) (v := 24) (by decide +kernel) (by decide +kernel)) ?_
        refine r_p (pc' := 91) (p_bipush (n := 8) (v := 8) (by decide +kernel) (by decide +kernel)) ?_
        refine r_p (pc' := 93) (p_iload 1 (i := 6) (by decide +kernel) rfl) ?_
        refine r_p (pc' := 94) (p_iconst (n := 4) (v := 4) (by decide +kernel) rfl) ?_
        refine r_p (pc' := 95) (p_irem (by decide +kernel) (by decide)) ?_
        refine r_p (pc' := 96) (p_imul (by decide +kernel)) ?_
        refine r_p (pc' := 97) (p_isub (by decide +kernel)) ?_
        refine r_p (pc' := 98) (p_ishr (by decide +kernel)) ?_
        refine r_p (pc' := 99) (p_i2b (by decide +kernel)) ?_
        refine r_stI1 (by decide +kernel) fun s => ?_
        refine r_p (pc' := 103) (p_iinc 1 (i := 6) (n := 1) (x := x8) (v := x8 + 1) (lv' := [(6, vi (x8 + 1)), (0, vr a0)]) (by decide +kernel) rfl rfl (Nat.le_of_ble_eq_true rfl) rfl) ?_
        refine r_p (pc' := 60) (p_goto (off := -43) (tgt := 60) (by decide +kernel) (by decide)) ?_
        refine r_sub (lv' := [(0, vr a0), (6, vi (x8 + 1))]) [1, 0] rfl ?_
        exact hb10 (x8 + 1) _
  · refine r_p (pc' := 19) (p_iconst (n := -1) (v := -1) (by decide +kernel) rfl) ?_
    exact r_iret rfl rfl _ rfl rfl (by decide +kernel)
def aX12_end : StA := (RX12, cX12_end, 2, some .boolean, yX12_end, 8, [])
noncomputable def mX12_end (a0 : Nat) (a1 : Int32) : MM Int32 := onC 11 a0 (
  mbnd (pI 11 0 a0 0) fun _ =>
  if a1 < 0 then (
    mret 0
  ) else (
    mbnd (gI 11 9 a0) fun (v2 : Int32) =>
    if a1 ≤ v2 then (
      mbnd (pI 11 9 a0 a1) fun _ =>
      mret 1
    ) else (
      mret 0
    )
  )
  )
theorem rcX12_end (a0 : Nat) (a1 : Int32) : Rcv 11 a0 (mX12_end a0 a1) := fun s r h => ⟨(onC_some h).1, (onC_some h).2.1⟩
set_option maxHeartbeats 4000000 in
set_option maxRecDepth 100000 in
theorem ctX12_end (a0 : Nat) (a1 : Int32) : Ct aX12_end [vr a0, vi a1] (mX12_end a0 a1) rI := by
  unfold mX12_end
  refine ct_onC (ct_intro (by decide +kernel) rfl (Nat.le_of_ble_eq_true rfl) fun Y s => ?_)
  refine r_sub (lv' := [(0, vr a0), (1, vi a1)]) [0, 1] rfl ?_
  refine r_p (pc' := 1) (p_aload_n 0 (k := 0) (by decide +kernel) rfl) ?_
  refine r_p (pc' := 2) (p_iconst (n := 0) (v := 0) (by decide +kernel) rfl) ?_
  refine r_pI fpX12_3_11 (fun h => by cases h) (by decide +kernel) fun s => ?_
  refine r_p (pc' := 6) (p_iload_n 1 (k := 1) (by decide +kernel) rfl) ?_
  refine r_iflt (off := 11) (tgt := 17) (by decide +kernel) (by decide) (fun h1 => ?_) (fun h1 => ?_)
  · refine r_p (pc' := 18) (p_iconst (n := 0) (v := 0) (by decide +kernel) rfl) ?_
    exact r_iret rfl rfl _ rfl rfl (by decide +kernel)
  · refine r_p (pc' := 10) (p_iload_n 1 (k := 1) (by decide +kernel) rfl) ?_
    refine r_p (pc' := 11) (p_aload_n 0 (k := 0) (by decide +kernel) rfl) ?_
    refine r_gI flX12_83_11 (by decide +kernel) fun v2 => ?_
    refine r_icmple (off := 5) (tgt := 19) (by decide +kernel) (by decide) (fun h3 => ?_) (fun h3 => ?_)
    · refine r_p (pc' := 20) (p_aload_n 0 (k := 0) (by decide +kernel) rfl) ?_
      refine r_p (pc' := 21) (p_iload_n 1 (k := 1) (by decide +kernel) rfl) ?_
      refine r_pI fpX12_83_11 (fun h => by cases h) (by decide +kernel) fun s => ?_
      refine r_p (pc' := 25) (p_iconst (n := 1) (v := 1) (by decide +kernel) rfl) ?_
      exact r_iret rfl rfl _ rfl rfl (by decide +kernel)
    · refine r_p (pc' := 18) (p_iconst (n := 0) (v := 0) (by decide +kernel) rfl) ?_
      exact r_iret rfl rfl _ rfl rfl (by decide +kernel)
def aX12_isAt : StA := (RX12, cX12_isAt, 3, some .boolean, yX12_isAt, 8, [])
theorem flX12_86_11 : FL RX12 86 11 10 := ⟨_, TX12, 27, "ToolCourtModel", rfl, by decide, Or.inl (tblG_of 1675 (by decide +kernel) (by decide +kernel)), Or.inl rfl⟩
theorem flX12_89_11 : FL RX12 89 11 11 := ⟨_, TX12, 27, "ToolCourtModel", rfl, by decide, Or.inl (tblG_of 1676 (by decide +kernel) (by decide +kernel)), Or.inl rfl⟩
noncomputable def mX12_isAt (a0 : Nat) (a1 : Int32) (a2 : Int32) : MM Int32 := onC 11 a0 (
  mbnd (gI 11 10 a0) fun (v1 : Int32) =>
  mbnd (gI 11 11 a0) fun (v2 : Int32) =>
  if v2 ≤ v1 then (
    mret 0
  ) else (
    mbnd (gR 11 8 a0) fun (v4 : Nat) =>
    mbnd (gI 11 10 a0) fun (v5 : Int32) =>
    mbnd (ldI 1 v4 v5) fun (v6 : Int32) =>
    if v6 < a1 then (
      mret 0
    ) else (
      mbnd (gR 11 8 a0) fun (v8 : Nat) =>
      mbnd (gI 11 10 a0) fun (v9 : Int32) =>
      mbnd (ldI 1 v8 v9) fun (v10 : Int32) =>
      if a2 < v10 then (
        mret 0
      ) else (
        mret 1
      )
    )
  )
  )
theorem rcX12_isAt (a0 : Nat) (a1 : Int32) (a2 : Int32) : Rcv 11 a0 (mX12_isAt a0 a1 a2) := fun s r h => ⟨(onC_some h).1, (onC_some h).2.1⟩
set_option maxHeartbeats 4000000 in
set_option maxRecDepth 100000 in
theorem ctX12_isAt (a0 : Nat) (a1 : Int32) (a2 : Int32) : Ct aX12_isAt [vr a0, vi a1, vi a2] (mX12_isAt a0 a1 a2) rI := by
  unfold mX12_isAt
  refine ct_onC (ct_intro (by decide +kernel) rfl (Nat.le_of_ble_eq_true rfl) fun Y s => ?_)
  refine r_sub (lv' := [(0, vr a0), (1, vi a1), (2, vi a2)]) [0, 1, 2] rfl ?_
  refine r_p (pc' := 1) (p_aload_n 0 (k := 0) (by decide +kernel) rfl) ?_
  refine r_gI flX12_86_11 (by decide +kernel) fun v1 => ?_
  refine r_p (pc' := 5) (p_aload_n 0 (k := 0) (by decide +kernel) rfl) ?_
  refine r_gI flX12_89_11 (by decide +kernel) fun v2 => ?_
  refine r_icmpge (off := 33) (tgt := 41) (by decide +kernel) (by decide) (fun h3 => ?_) (fun h3 => ?_)
  · refine r_p (pc' := 42) (p_iconst (n := 0) (v := 0) (by decide +kernel) rfl) ?_
    exact r_iret rfl rfl _ rfl rfl (by decide +kernel)
  · refine r_p (pc' := 12) (p_aload_n 0 (k := 0) (by decide +kernel) rfl) ?_
    refine r_gR flX12_29_11 (by decide +kernel) fun v4 => ?_
    refine r_p (pc' := 16) (p_aload_n 0 (k := 0) (by decide +kernel) rfl) ?_
    refine r_gI flX12_86_11 (by decide +kernel) fun v5 => ?_
    refine r_ldI1 (by decide +kernel) fun v6 => ?_
    refine r_p (pc' := 21) (p_iload_n 1 (k := 1) (by decide +kernel) rfl) ?_
    refine r_icmplt (off := 20) (tgt := 41) (by decide +kernel) (by decide) (fun h7 => ?_) (fun h7 => ?_)
    · refine r_p (pc' := 42) (p_iconst (n := 0) (v := 0) (by decide +kernel) rfl) ?_
      exact r_iret rfl rfl _ rfl rfl (by decide +kernel)
    · refine r_p (pc' := 25) (p_aload_n 0 (k := 0) (by decide +kernel) rfl) ?_
      refine r_gR flX12_29_11 (by decide +kernel) fun v8 => ?_
      refine r_p (pc' := 29) (p_aload_n 0 (k := 0) (by decide +kernel) rfl) ?_
      refine r_gI flX12_86_11 (by decide +kernel) fun v9 => ?_
      refine r_ldI1 (by decide +kernel) fun v10 => ?_
      refine r_p (pc' := 34) (p_iload_n 2 (k := 2) (by decide +kernel) rfl) ?_
      refine r_icmpgt (off := 7) (tgt := 41) (by decide +kernel) (by decide) (fun h11 => ?_) (fun h11 => ?_)
      · refine r_p (pc' := 42) (p_iconst (n := 0) (v := 0) (by decide +kernel) rfl) ?_
        exact r_iret rfl rfl _ rfl rfl (by decide +kernel)
      · refine r_p (pc' := 38) (p_iconst (n := 1) (v := 1) (by decide +kernel) rfl) ?_
        refine r_p (pc' := 42) (p_goto (off := 4) (tgt := 42) (by decide +kernel) (by decide)) ?_
        exact r_iret rfl rfl _ rfl rfl (by decide +kernel)
def aX12_blanks : StA := (RX12, cX12_blanks, 1, none, yX12_blanks, 9, [])
theorem mvX12_92 : MV RX12 92 aX12_isAt 2 := ⟨tblG_of 1787 (by decide +kernel) (by decide +kernel), tblG_of 1789 (by decide +kernel) (by decide +kernel), tblG_of 54 (by decide +kernel) (by decide +kernel), tblG_of 157 (by decide +kernel) (by decide +kernel), tblG_of 1790 (by decide +kernel) (by decide +kernel), rfl, ⟨by decide, by decide⟩, by decide +kernel, by decide⟩
theorem fpX12_86_11 : FP RX12 86 11 10 .int false := ⟨_, TX12, 27, "ToolCourtModel", tyX12, rfl, by decide, Or.inl (tblG_of 1675 (by decide +kernel) (by decide +kernel)), Or.inl rfl, tyX12_ok, nmX12, rfl, by decide, by decide +kernel⟩
theorem fpX12_96_11 : FP RX12 96 11 12 .int false := ⟨_, TX12, 27, "ToolCourtModel", tyX12, rfl, by decide, Or.inl (tblG_of 1677 (by decide +kernel) (by decide +kernel)), Or.inl rfl, tyX12_ok, nmX12, rfl, by decide, by decide +kernel⟩
noncomputable def mX12_blanks_L0 (a0 : Nat) (x1 : Unit) : MM ((Unit) ⊕ (Unit)) :=
  mbnd (mX12_isAt a0 32 32) fun (v5 : Int32) =>
  if v5 = 0 then (
    mret (.inr ())
  ) else (
    mbnd (gI 11 10 a0) fun (v7 : Int32) =>
    mbnd (pI 11 10 a0 (v7 + 1)) fun _ =>
    mret (.inl ())
  )
noncomputable def mX12_blanks (a0 : Nat) : MM Unit := onC 11 a0 (
  mbnd (loopM (mX12_blanks_L0 a0) ()) fun (e8 : Unit) =>
  mbnd (gI 11 10 a0) fun (v9 : Int32) =>
  mbnd (pI 11 12 a0 v9) fun _ =>
  mret ()
  )
theorem rcX12_blanks (a0 : Nat) : Rcv 11 a0 (mX12_blanks a0) := fun s r h => ⟨(onC_some h).1, (onC_some h).2.1⟩
set_option maxHeartbeats 4000000 in
set_option maxRecDepth 100000 in
theorem ctX12_blanks (a0 : Nat) : Ct aX12_blanks [vr a0] (mX12_blanks a0) rU := by
  unfold mX12_blanks
  refine ct_onC (ct_intro (by decide +kernel) rfl (Nat.le_of_ble_eq_true rfl) fun Y s => ?_)
  refine r_sub (lv' := [(0, vr a0)]) [0] rfl ?_
  refine r_loop2 (fun _ => 24) (fun (e8 : Unit) => [(0, vr a0)]) (fun (x1 : Unit) => [(0, vr a0)]) (fun e8 s => ?_) (fun K2 hb3 he4 x1 s => ?_) () _
  · refine r_p (pc' := 25) (p_aload_n 0 (k := 0) (by decide +kernel) rfl) ?_
    refine r_p (pc' := 26) (p_aload_n 0 (k := 0) (by decide +kernel) rfl) ?_
    refine r_gI flX12_86_11 (by decide +kernel) fun v9 => ?_
    refine r_pI fpX12_96_11 (fun h => by cases h) (by decide +kernel) fun s => ?_
    exact r_vret (y9 := ()) rfl rfl rfl (by decide +kernel)
  · unfold mX12_blanks_L0
    refine r_p (pc' := 1) (p_aload_n 0 (k := 0) (by decide +kernel) rfl) ?_
    refine r_p (pc' := 3) (p_bipush (n := 32) (v := 32) (by decide +kernel) (by decide +kernel)) ?_
    refine r_p (pc' := 5) (p_bipush (n := 32) (v := 32) (by decide +kernel) (by decide +kernel)) ?_
    refine r_callVI mvX12_92 (ctX12_isAt a0 32 32) (rcX12_isAt a0 32 32) ⟨_, _, rfl⟩ (as := [vi 32, vi 32]) (st := []) rfl rfl (by decide +kernel) rfl (Nat.le_of_ble_eq_true rfl) (Nat.le_of_ble_eq_true rfl) fun v5 s => ?_
    refine r_ifeq (off := 16) (tgt := 24) (by decide +kernel) (by decide) (fun h6 => ?_) (fun h6 => ?_)
    · exact he4 () _
    · refine r_p (pc' := 12) (p_aload_n 0 (k := 0) (by decide +kernel) rfl) ?_
      refine r_p (pc' := 13) (p_dup rfl (by decide +kernel)) ?_
      refine r_gI flX12_86_11 (by decide +kernel) fun v7 => ?_
      refine r_p (pc' := 17) (p_iconst (n := 1) (v := 1) (by decide +kernel) rfl) ?_
      refine r_p (pc' := 18) (p_iadd (by decide +kernel)) ?_
      refine r_pI fpX12_86_11 (fun h => by cases h) (by decide +kernel) fun s => ?_
      refine r_p (pc' := 0) (p_goto (off := -21) (tgt := 0) (by decide +kernel) (by decide)) ?_
      exact hb3 () _
def aX12_letters : StA := (RX12, cX12_letters, 1, none, yX12_letters, 10, [])
theorem mvX12_99 : MV RX12 99 aX12_blanks 0 := ⟨tblG_of 1783 (by decide +kernel) (by decide +kernel), tblG_of 1785 (by decide +kernel) (by decide +kernel), tblG_of 53 (by decide +kernel) (by decide +kernel), tblG_of 157 (by decide +kernel) (by decide +kernel), tblG_of 1786 (by decide +kernel) (by decide +kernel), rfl, ⟨by decide, by decide⟩, by decide +kernel, by decide⟩
noncomputable def mX12_letters_L4 (a0 : Nat) (x1 : Unit) : MM ((Unit) ⊕ (Unit)) :=
  mbnd (mX12_isAt a0 97 122) fun (v5 : Int32) =>
  if v5 = 0 then (
    mret (.inr ())
  ) else (
    mbnd (gI 11 10 a0) fun (v7 : Int32) =>
    mbnd (pI 11 10 a0 (v7 + 1)) fun _ =>
    mret (.inl ())
  )
noncomputable def mX12_letters (a0 : Nat) : MM Unit := onC 11 a0 (
  mbnd (mX12_blanks a0) fun _ =>
  mbnd (loopM (mX12_letters_L4 a0) ()) fun (e8 : Unit) =>
  mret ()
  )
theorem rcX12_letters (a0 : Nat) : Rcv 11 a0 (mX12_letters a0) := fun s r h => ⟨(onC_some h).1, (onC_some h).2.1⟩
set_option maxHeartbeats 4000000 in
set_option maxRecDepth 100000 in
theorem ctX12_letters (a0 : Nat) : Ct aX12_letters [vr a0] (mX12_letters a0) rU := by
  unfold mX12_letters
  refine ct_onC (ct_intro (by decide +kernel) rfl (Nat.le_of_ble_eq_true rfl) fun Y s => ?_)
  refine r_sub (lv' := [(0, vr a0)]) [0] rfl ?_
  refine r_p (pc' := 1) (p_aload_n 0 (k := 0) (by decide +kernel) rfl) ?_
  refine r_callVU mvX12_99 (ctX12_blanks a0) (rcX12_blanks a0) ⟨_, _, rfl⟩ (as := []) (st := []) rfl rfl (by decide +kernel) rfl (Nat.le_of_ble_eq_true rfl) (Nat.le_of_ble_eq_true rfl) fun s => ?_
  refine r_loop2 (fun _ => 28) (fun (e8 : Unit) => []) (fun (x1 : Unit) => [(0, vr a0)]) (fun e8 s => ?_) (fun K2 hb3 he4 x1 s => ?_) () _
  · exact r_vret (y9 := ()) rfl rfl rfl (by decide +kernel)
  · unfold mX12_letters_L4
    refine r_p (pc' := 5) (p_aload_n 0 (k := 0) (by decide +kernel) rfl) ?_
    refine r_p (pc' := 7) (p_bipush (n := 97) (v := 97) (by decide +kernel) (by decide +kernel)) ?_
    refine r_p (pc' := 9) (p_bipush (n := 122) (v := 122) (by decide +kernel) (by decide +kernel)) ?_
    refine r_callVI mvX12_92 (ctX12_isAt a0 97 122) (rcX12_isAt a0 97 122) ⟨_, _, rfl⟩ (as := [vi 97, vi 122]) (st := []) rfl rfl (by decide +kernel) rfl (Nat.le_of_ble_eq_true rfl) (Nat.le_of_ble_eq_true rfl) fun v5 s => ?_
    refine r_ifeq (off := 16) (tgt := 28) (by decide +kernel) (by decide) (fun h6 => ?_) (fun h6 => ?_)
    · refine r_sub (lv' := []) [] rfl ?_
      exact he4 () _
    · refine r_p (pc' := 16) (p_aload_n 0 (k := 0) (by decide +kernel) rfl) ?_
      refine r_p (pc' := 17) (p_dup rfl (by decide +kernel)) ?_
      refine r_gI flX12_86_11 (by decide +kernel) fun v7 => ?_
      refine r_p (pc' := 21) (p_iconst (n := 1) (v := 1) (by decide +kernel) rfl) ?_
      refine r_p (pc' := 22) (p_iadd (by decide +kernel)) ?_
      refine r_pI fpX12_86_11 (fun h => by cases h) (by decide +kernel) fun s => ?_
      refine r_p (pc' := 4) (p_goto (off := -21) (tgt := 4) (by decide +kernel) (by decide)) ?_
      exact hb3 () _
def aX12_isWord : StA := (RX12, cX12_isWord, 4, some .boolean, yX12_isWord, 8, [])
theorem flX12_96_11 : FL RX12 96 11 12 := ⟨_, TX12, 27, "ToolCourtModel", rfl, by decide, Or.inl (tblG_of 1677 (by decide +kernel) (by decide +kernel)), Or.inl rfl⟩
noncomputable def mX12_isWord_L24 (a0 : Nat) (a1 : Nat) (x7 : Int32 × Int32) : MM ((Int32 × Int32) ⊕ (Int32)) :=
  if x7.1 = 0 then (
    mret (.inr x7.1)
  ) else (
    if (slen a1) ≤ x7.2 then (
      mret (.inr x7.1)
    ) else (
      mbnd (gR 11 8 a0) fun (v13 : Nat) =>
      mbnd (gI 11 12 a0) fun (v14 : Int32) =>
      mbnd (ldI 1 v13 (v14 + x7.2)) fun (v15 : Int32) =>
      mbnd (schar a1 x7.2) fun (v16 : Int32) =>
      mbnd (α := Int32) (
        if v15 = v16 then (
          mret 1
        ) else (
          mret 0
        )
      ) fun (x18 : Int32) =>
      mret (.inl (x18, x7.2 + 1))
    )
  )
noncomputable def mX12_isWord (a0 : Nat) (a1 : Nat) : MM Int32 := onC 11 a0 (onT a1 (
  mbnd (gI 11 10 a0) fun (v1 : Int32) =>
  mbnd (gI 11 12 a0) fun (v2 : Int32) =>
  mbnd (α := Int32) (
    if (v1 - v2) = (slen a1) then (
      mret 1
    ) else (
      mret 0
    )
  ) fun (x4 : Int32) =>
  mbnd (loopM (mX12_isWord_L24 a0 a1) (x4, 0)) fun (e21 : Int32) =>
  mbool e21
  ))
theorem rcX12_isWord (a0 : Nat) (a1 : Nat) : Rcv 11 a0 (mX12_isWord a0 a1) := fun s r h => ⟨(onC_some h).1, (onC_some h).2.1⟩
set_option maxHeartbeats 4000000 in
set_option maxRecDepth 100000 in
theorem ctX12_isWord (a0 : Nat) (a1 : Nat) : Ct aX12_isWord [vr a0, vt a1] (mX12_isWord a0 a1) rI := by
  unfold mX12_isWord
  refine ct_onC (ct_onT fun ha1 => ct_intro (by decide +kernel) rfl (Nat.le_of_ble_eq_true rfl) fun Y s => ?_)
  refine r_sub (lv' := [(0, vr a0), (1, vt a1)]) [0, 1] rfl ?_
  refine r_p (pc' := 1) (p_aload_n 0 (k := 0) (by decide +kernel) rfl) ?_
  refine r_gI flX12_86_11 (by decide +kernel) fun v1 => ?_
  refine r_p (pc' := 5) (p_aload_n 0 (k := 0) (by decide +kernel) rfl) ?_
  refine r_gI flX12_96_11 (by decide +kernel) fun v2 => ?_
  refine r_p (pc' := 9) (p_isub (by decide +kernel)) ?_
  refine r_p (pc' := 10) (p_tload_n 1 (k := 1) (Nat.lt_trans ha1 (by decide)) (by decide +kernel) rfl) ?_
  refine r_slen2 (idx := 102) (tblG_of 1808 (by decide +kernel) (by decide +kernel)) (Nat.le_of_ble_eq_true rfl) (Nat.le_of_ble_eq_true rfl) (by decide +kernel) fun s => ?_
  refine r_join 21 (fun (x4 : Int32) => [(0, vr a0), (1, vt a1)]) (fun (x4 : Int32) => [vi x4]) (fun x4 s => ?_) (fun K5 hj6 => ?_)
  · refine r_p (pc' := 22) (p_istore_n (k := 2) (lv' := [(2, vi x4), (0, vr a0), (1, vt a1)]) (by decide +kernel) (Nat.le_of_ble_eq_true rfl) rfl) ?_
    refine r_p (pc' := 23) (p_iconst (n := 0) (v := 0) (by decide +kernel) rfl) ?_
    refine r_p (pc' := 24) (p_istore_n (k := 3) (lv' := [(3, vi 0), (2, vi x4), (0, vr a0), (1, vt a1)]) (by decide +kernel) (Nat.le_of_ble_eq_true rfl) rfl) ?_
    refine r_sub (lv' := [(0, vr a0), (1, vt a1), (2, vi x4), (3, vi 0)]) [2, 3, 1, 0] rfl ?_
    refine r_loop2 (fun _ => 67) (fun (e21 : Int32) => [(2, vi e21)]) (fun (x7 : Int32 × Int32) => [(0, vr a0), (1, vt a1), (2, vi x7.1), (3, vi x7.2)]) (fun e21 s => ?_) (fun K8 hb9 he10 x7 s => ?_) (x4, 0) _
    · refine r_p (pc' := 68) (p_iload_n 0 (k := 2) (by decide +kernel) rfl) ?_
      exact r_bret (y9 := fun v => v) (fun _ => rfl) (fun _ => rfl) rfl (by decide +kernel)
    · unfold mX12_isWord_L24
      refine r_p (pc' := 25) (p_iload_n 2 (k := 2) (by decide +kernel) rfl) ?_
      refine r_ifeq (off := 42) (tgt := 67) (by decide +kernel) (by decide) (fun h11 => ?_) (fun h11 => ?_)
      · refine r_sub (lv' := [(2, vi x7.1)]) [2] rfl ?_
        exact he10 x7.1 _
      · refine r_p (pc' := 29) (p_iload_n 3 (k := 3) (by decide +kernel) rfl) ?_
        refine r_p (pc' := 30) (p_tload_n 1 (k := 1) (Nat.lt_trans ha1 (by decide)) (by decide +kernel) rfl) ?_
        refine r_slen2 (idx := 102) (tblG_of 1808 (by decide +kernel) (by decide +kernel)) (Nat.le_of_ble_eq_true rfl) (Nat.le_of_ble_eq_true rfl) (by decide +kernel) fun s => ?_
        refine r_icmpge (off := 34) (tgt := 67) (by decide +kernel) (by decide) (fun h12 => ?_) (fun h12 => ?_)
        · refine r_sub (lv' := [(2, vi x7.1)]) [2] rfl ?_
          exact he10 x7.1 _
        · refine r_p (pc' := 37) (p_aload_n 0 (k := 0) (by decide +kernel) rfl) ?_
          refine r_gR flX12_29_11 (by decide +kernel) fun v13 => ?_
          refine r_p (pc' := 41) (p_aload_n 0 (k := 0) (by decide +kernel) rfl) ?_
          refine r_gI flX12_96_11 (by decide +kernel) fun v14 => ?_
          refine r_p (pc' := 45) (p_iload_n 3 (k := 3) (by decide +kernel) rfl) ?_
          refine r_p (pc' := 46) (p_iadd (by decide +kernel)) ?_
          refine r_ldI1 (by decide +kernel) fun v15 => ?_
          refine r_p (pc' := 48) (p_tload_n 1 (k := 1) (Nat.lt_trans ha1 (by decide)) (by decide +kernel) rfl) ?_
          refine r_p (pc' := 49) (p_iload_n 3 (k := 3) (by decide +kernel) rfl) ?_
          refine r_schar (idx := 107) (tblG_of 1809 (by decide +kernel) (by decide +kernel)) (Nat.le_of_ble_eq_true rfl) (Nat.le_of_ble_eq_true rfl) (by decide +kernel) fun v16 s => ?_
          refine r_join 60 (fun (x18 : Int32) => [(0, vr a0), (1, vt a1), (3, vi x7.2)]) (fun (x18 : Int32) => [vi x18]) (fun x18 s => ?_) (fun K19 hj20 => ?_)
          · refine r_p (pc' := 61) (p_istore_n (k := 2) (lv' := [(2, vi x18), (0, vr a0), (1, vt a1), (3, vi x7.2)]) (by decide +kernel) (Nat.le_of_ble_eq_true rfl) rfl) ?_
            refine r_p (pc' := 64) (p_iinc 3 (i := 3) (n := 1) (x := x7.2) (v := x7.2 + 1) (lv' := [(3, vi (x7.2 + 1)), (2, vi x18), (0, vr a0), (1, vt a1)]) (by decide +kernel) rfl rfl (Nat.le_of_ble_eq_true rfl) rfl) ?_
            refine r_p (pc' := 24) (p_goto (off := -40) (tgt := 24) (by decide +kernel) (by decide)) ?_
            refine r_sub (lv' := [(0, vr a0), (1, vt a1), (2, vi x18), (3, vi (x7.2 + 1))]) [2, 3, 1, 0] rfl ?_
            exact hb9 (x18, x7.2 + 1) _
          · refine r_icmpne (off := 7) (tgt := 59) (by decide +kernel) (by decide) (fun h17 => ?_) (fun h17 => ?_)
            · refine r_p (pc' := 56) (p_iconst (n := 1) (v := 1) (by decide +kernel) rfl) ?_
              refine r_p (pc' := 60) (p_goto (off := 4) (tgt := 60) (by decide +kernel) (by decide)) ?_
              refine r_sub (lv' := [(0, vr a0), (1, vt a1), (3, vi x7.2)]) [0, 1, 3] rfl ?_
              exact hj20 1 _
            · refine r_p (pc' := 60) (p_iconst (n := 0) (v := 0) (by decide +kernel) rfl) ?_
              refine r_sub (lv' := [(0, vr a0), (1, vt a1), (3, vi x7.2)]) [0, 1, 3] rfl ?_
              exact hj20 0 _
  · refine r_icmpne (off := 7) (tgt := 20) (by decide +kernel) (by decide) (fun h3 => ?_) (fun h3 => ?_)
    · refine r_p (pc' := 17) (p_iconst (n := 1) (v := 1) (by decide +kernel) rfl) ?_
      refine r_p (pc' := 21) (p_goto (off := 4) (tgt := 21) (by decide +kernel) (by decide)) ?_
      exact hj6 1 _
    · refine r_p (pc' := 21) (p_iconst (n := 0) (v := 0) (by decide +kernel) rfl) ?_
      exact hj6 0 _
def aX12_passes : StA := (RX12, cX12_passes, 2, some .boolean, yX12_passes, 11, [])
theorem mvX12_111 : MV RX12 111 aX12_letters 0 := ⟨tblG_of 1795 (by decide +kernel) (by decide +kernel), tblG_of 1797 (by decide +kernel) (by decide +kernel), tblG_of 56 (by decide +kernel) (by decide +kernel), tblG_of 157 (by decide +kernel) (by decide +kernel), tblG_of 1798 (by decide +kernel) (by decide +kernel), rfl, ⟨by decide, by decide⟩, by decide +kernel, by decide⟩
theorem mvX12_114 : MV RX12 114 aX12_isWord 1 := ⟨tblG_of 1804 (by decide +kernel) (by decide +kernel), tblG_of 1806 (by decide +kernel) (by decide +kernel), tblG_of 58 (by decide +kernel) (by decide +kernel), tblG_of 157 (by decide +kernel) (by decide +kernel), tblG_of 1807 (by decide +kernel) (by decide +kernel), rfl, ⟨by decide, by decide⟩, by decide +kernel, by decide⟩
noncomputable def mX12_passes (a0 : Nat) (a1 : Nat) : MM Int32 := onC 11 a0 (onT a1 (
  mbnd (mX12_letters a0) fun _ =>
  mbnd (mX12_isWord a0 a1) fun (v1 : Int32) =>
  if v1 = 0 then (
    mbnd (gI 11 12 a0) fun (v3 : Int32) =>
    mbnd (pI 11 10 a0 v3) fun _ =>
    mret 0
  ) else (
    mret 1
  )
  ))
theorem rcX12_passes (a0 : Nat) (a1 : Nat) : Rcv 11 a0 (mX12_passes a0 a1) := fun s r h => ⟨(onC_some h).1, (onC_some h).2.1⟩
set_option maxHeartbeats 4000000 in
set_option maxRecDepth 100000 in
theorem ctX12_passes (a0 : Nat) (a1 : Nat) : Ct aX12_passes [vr a0, vt a1] (mX12_passes a0 a1) rI := by
  unfold mX12_passes
  refine ct_onC (ct_onT fun ha1 => ct_intro (by decide +kernel) rfl (Nat.le_of_ble_eq_true rfl) fun Y s => ?_)
  refine r_sub (lv' := [(0, vr a0), (1, vt a1)]) [0, 1] rfl ?_
  refine r_p (pc' := 1) (p_aload_n 0 (k := 0) (by decide +kernel) rfl) ?_
  refine r_callVU mvX12_111 (ctX12_letters a0) (rcX12_letters a0) ⟨_, _, rfl⟩ (as := []) (st := []) rfl rfl (by decide +kernel) rfl (Nat.le_of_ble_eq_true rfl) (Nat.le_of_ble_eq_true rfl) fun s => ?_
  refine r_p (pc' := 5) (p_aload_n 0 (k := 0) (by decide +kernel) rfl) ?_
  refine r_p (pc' := 6) (p_tload_n 1 (k := 1) (Nat.lt_trans ha1 (by decide)) (by decide +kernel) rfl) ?_
  refine r_callVI mvX12_114 (ctX12_isWord a0 a1) (rcX12_isWord a0 a1) ⟨_, _, rfl⟩ (as := [vt a1]) (st := []) rfl rfl (by decide +kernel) rfl (Nat.le_of_ble_eq_true rfl) (Nat.le_of_ble_eq_true rfl) fun v1 s => ?_
  refine r_ifeq (off := 5) (tgt := 14) (by decide +kernel) (by decide) (fun h2 => ?_) (fun h2 => ?_)
  · refine r_p (pc' := 15) (p_aload_n 0 (k := 0) (by decide +kernel) rfl) ?_
    refine r_p (pc' := 16) (p_aload_n 0 (k := 0) (by decide +kernel) rfl) ?_
    refine r_gI flX12_96_11 (by decide +kernel) fun v3 => ?_
    refine r_pI fpX12_86_11 (fun h => by cases h) (by decide +kernel) fun s => ?_
    refine r_p (pc' := 23) (p_iconst (n := 0) (v := 0) (by decide +kernel) rfl) ?_
    exact r_iret rfl rfl _ rfl rfl (by decide +kernel)
  · refine r_p (pc' := 13) (p_iconst (n := 1) (v := 1) (by decide +kernel) rfl) ?_
    exact r_iret rfl rfl _ rfl rfl (by decide +kernel)
def aX12_sign : StA := (RX12, cX12_sign, 2, some .boolean, yX12_sign, 10, [])
noncomputable def mX12_sign (a0 : Nat) (a1 : Int32) : MM Int32 := onC 11 a0 (
  mbnd (mX12_blanks a0) fun _ =>
  mbnd (mX12_isAt a0 a1 a1) fun (v1 : Int32) =>
  if v1 = 0 then (
    mret 0
  ) else (
    mbnd (gI 11 10 a0) fun (v3 : Int32) =>
    mbnd (pI 11 10 a0 (v3 + 1)) fun _ =>
    mret 1
  )
  )
theorem rcX12_sign (a0 : Nat) (a1 : Int32) : Rcv 11 a0 (mX12_sign a0 a1) := fun s r h => ⟨(onC_some h).1, (onC_some h).2.1⟩
set_option maxHeartbeats 4000000 in
set_option maxRecDepth 100000 in
theorem ctX12_sign (a0 : Nat) (a1 : Int32) : Ct aX12_sign [vr a0, vi a1] (mX12_sign a0 a1) rI := by
  unfold mX12_sign
  refine ct_onC (ct_intro (by decide +kernel) rfl (Nat.le_of_ble_eq_true rfl) fun Y s => ?_)
  refine r_sub (lv' := [(0, vr a0), (1, vi a1)]) [0, 1] rfl ?_
  refine r_p (pc' := 1) (p_aload_n 0 (k := 0) (by decide +kernel) rfl) ?_
  refine r_callVU mvX12_99 (ctX12_blanks a0) (rcX12_blanks a0) ⟨_, _, rfl⟩ (as := []) (st := []) rfl rfl (by decide +kernel) rfl (Nat.le_of_ble_eq_true rfl) (Nat.le_of_ble_eq_true rfl) fun s => ?_
  refine r_p (pc' := 5) (p_aload_n 0 (k := 0) (by decide +kernel) rfl) ?_
  refine r_p (pc' := 6) (p_iload_n 1 (k := 1) (by decide +kernel) rfl) ?_
  refine r_p (pc' := 7) (p_iload_n 1 (k := 1) (by decide +kernel) rfl) ?_
  refine r_callVI mvX12_92 (ctX12_isAt a0 a1 a1) (rcX12_isAt a0 a1 a1) ⟨_, _, rfl⟩ (as := [vi a1, vi a1]) (st := []) rfl rfl (by decide +kernel) rfl (Nat.le_of_ble_eq_true rfl) (Nat.le_of_ble_eq_true rfl) fun v1 s => ?_
  refine r_ifne (off := 5) (tgt := 15) (by decide +kernel) (by decide) (fun h2 => ?_) (fun h2 => ?_)
  · refine r_p (pc' := 14) (p_iconst (n := 0) (v := 0) (by decide +kernel) rfl) ?_
    exact r_iret rfl rfl _ rfl rfl (by decide +kernel)
  · refine r_p (pc' := 16) (p_aload_n 0 (k := 0) (by decide +kernel) rfl) ?_
    refine r_p (pc' := 17) (p_dup rfl (by decide +kernel)) ?_
    refine r_gI flX12_86_11 (by decide +kernel) fun v3 => ?_
    refine r_p (pc' := 21) (p_iconst (n := 1) (v := 1) (by decide +kernel) rfl) ?_
    refine r_p (pc' := 22) (p_iadd (by decide +kernel)) ?_
    refine r_pI fpX12_86_11 (fun h => by cases h) (by decide +kernel) fun s => ?_
    refine r_p (pc' := 26) (p_iconst (n := 1) (v := 1) (by decide +kernel) rfl) ?_
    exact r_iret rfl rfl _ rfl rfl (by decide +kernel)
def aX12_figures : StA := (RX12, cX12_figures, 5, some .int, yX12_figures, 10, [])
noncomputable def mX12_figures_L7 (a0 : Nat) (a3 : Int32) (x1 : Int32) : MM ((Int32) ⊕ (Int32)) :=
  mbnd (mX12_isAt a0 48 57) fun (v5 : Int32) =>
  if v5 = 0 then (
    mret (.inr x1)
  ) else (
    mbnd (gI 11 10 a0) fun (v7 : Int32) =>
    mbnd (gI 11 12 a0) fun (v8 : Int32) =>
    mbnd (α := Int32) (
      if a3 ≤ (v7 - v8) then (
        mret x1
      ) else (
        mbnd (gR 11 8 a0) fun (v13 : Nat) =>
        mbnd (gI 11 10 a0) fun (v14 : Int32) =>
        mbnd (ldI 1 v13 v14) fun (v15 : Int32) =>
        mret (((10 * x1) + v15) - 48)
      )
    ) fun (x10 : Int32) =>
    mbnd (gI 11 10 a0) fun (v16 : Int32) =>
    mbnd (pI 11 10 a0 (v16 + 1)) fun _ =>
    mret (.inl x10)
  )
noncomputable def mX12_figures (a0 : Nat) (a1 : Int32) (a2 : Int32) (a3 : Int32) : MM Int32 := onC 11 a0 (
  mbnd (mX12_blanks a0) fun _ =>
  mbnd (loopM (mX12_figures_L7 a0 a3) 0) fun (e17 : Int32) =>
  mbnd (gI 11 10 a0) fun (v18 : Int32) =>
  mbnd (gI 11 12 a0) fun (v19 : Int32) =>
  if v18 = v19 then (
    mret (-1)
  ) else (
    mbnd (gI 11 10 a0) fun (v21 : Int32) =>
    mbnd (gI 11 12 a0) fun (v22 : Int32) =>
    if a3 < (v21 - v22) then (
      mret (-1)
    ) else (
      if e17 < a1 then (
        mret (-1)
      ) else (
        if e17 ≤ a2 then (
          mret e17
        ) else (
          mret (-1)
        )
      )
    )
  )
  )
theorem rcX12_figures (a0 : Nat) (a1 : Int32) (a2 : Int32) (a3 : Int32) : Rcv 11 a0 (mX12_figures a0 a1 a2 a3) := fun s r h => ⟨(onC_some h).1, (onC_some h).2.1⟩
set_option maxHeartbeats 4000000 in
set_option maxRecDepth 100000 in
theorem ctX12_figures (a0 : Nat) (a1 : Int32) (a2 : Int32) (a3 : Int32) : Ct aX12_figures [vr a0, vi a1, vi a2, vi a3] (mX12_figures a0 a1 a2 a3) rI := by
  unfold mX12_figures
  refine ct_onC (ct_intro (by decide +kernel) rfl (Nat.le_of_ble_eq_true rfl) fun Y s => ?_)
  refine r_sub (lv' := [(0, vr a0), (1, vi a1), (2, vi a2), (3, vi a3)]) [0, 1, 2, 3] rfl ?_
  refine r_p (pc' := 1) (p_aload_n 0 (k := 0) (by decide +kernel) rfl) ?_
  refine r_callVU mvX12_99 (ctX12_blanks a0) (rcX12_blanks a0) ⟨_, _, rfl⟩ (as := []) (st := []) rfl rfl (by decide +kernel) rfl (Nat.le_of_ble_eq_true rfl) (Nat.le_of_ble_eq_true rfl) fun s => ?_
  refine r_p (pc' := 5) (p_iconst (n := 0) (v := 0) (by decide +kernel) rfl) ?_
  refine r_p (pc' := 7) (p_istore (i := 4) (lv' := [(4, vi 0), (0, vr a0), (1, vi a1), (2, vi a2), (3, vi a3)]) (by decide +kernel) (Nat.le_of_ble_eq_true rfl) rfl) ?_
  refine r_sub (lv' := [(0, vr a0), (1, vi a1), (2, vi a2), (3, vi a3), (4, vi 0)]) [1, 2, 3, 4, 0] rfl ?_
  refine r_loop2 (fun _ => 69) (fun (e17 : Int32) => [(0, vr a0), (1, vi a1), (2, vi a2), (3, vi a3), (4, vi e17)]) (fun (x1 : Int32) => [(0, vr a0), (1, vi a1), (2, vi a2), (3, vi a3), (4, vi x1)]) (fun e17 s => ?_) (fun K2 hb3 he4 x1 s => ?_) 0 _
  · refine r_p (pc' := 70) (p_aload_n 0 (k := 0) (by decide +kernel) rfl) ?_
    refine r_gI flX12_86_11 (by decide +kernel) fun v18 => ?_
    refine r_p (pc' := 74) (p_aload_n 0 (k := 0) (by decide +kernel) rfl) ?_
    refine r_gI flX12_96_11 (by decide +kernel) fun v19 => ?_
    refine r_icmpeq (off := 28) (tgt := 105) (by decide +kernel) (by decide) (fun h20 => ?_) (fun h20 => ?_)
    · refine r_p (pc' := 106) (p_iconst (n := -1) (v := -1) (by decide +kernel) rfl) ?_
      refine r_p (pc' := 111) (p_goto (off := 5) (tgt := 111) (by decide +kernel) (by decide)) ?_
      exact r_iret rfl rfl _ rfl rfl (by decide +kernel)
    · refine r_p (pc' := 81) (p_aload_n 0 (k := 0) (by decide +kernel) rfl) ?_
      refine r_gI flX12_86_11 (by decide +kernel) fun v21 => ?_
      refine r_p (pc' := 85) (p_aload_n 0 (k := 0) (by decide +kernel) rfl) ?_
      refine r_gI flX12_96_11 (by decide +kernel) fun v22 => ?_
      refine r_p (pc' := 89) (p_isub (by decide +kernel)) ?_
      refine r_p (pc' := 90) (p_iload_n 3 (k := 3) (by decide +kernel) rfl) ?_
      refine r_icmpgt (off := 15) (tgt := 105) (by decide +kernel) (by decide) (fun h23 => ?_) (fun h23 => ?_)
      · refine r_p (pc' := 106) (p_iconst (n := -1) (v := -1) (by decide +kernel) rfl) ?_
        refine r_p (pc' := 111) (p_goto (off := 5) (tgt := 111) (by decide +kernel) (by decide)) ?_
        exact r_iret rfl rfl _ rfl rfl (by decide +kernel)
      · refine r_p (pc' := 95) (p_iload 4 (i := 4) (by decide +kernel) rfl) ?_
        refine r_p (pc' := 96) (p_iload_n 1 (k := 1) (by decide +kernel) rfl) ?_
        refine r_icmplt (off := 9) (tgt := 105) (by decide +kernel) (by decide) (fun h24 => ?_) (fun h24 => ?_)
        · refine r_p (pc' := 106) (p_iconst (n := -1) (v := -1) (by decide +kernel) rfl) ?_
          refine r_p (pc' := 111) (p_goto (off := 5) (tgt := 111) (by decide +kernel) (by decide)) ?_
          exact r_iret rfl rfl _ rfl rfl (by decide +kernel)
        · refine r_p (pc' := 101) (p_iload 4 (i := 4) (by decide +kernel) rfl) ?_
          refine r_p (pc' := 102) (p_iload_n 2 (k := 2) (by decide +kernel) rfl) ?_
          refine r_icmple (off := 7) (tgt := 109) (by decide +kernel) (by decide) (fun h25 => ?_) (fun h25 => ?_)
          · refine r_p (pc' := 111) (p_iload 4 (i := 4) (by decide +kernel) rfl) ?_
            exact r_iret rfl rfl _ rfl rfl (by decide +kernel)
          · refine r_p (pc' := 106) (p_iconst (n := -1) (v := -1) (by decide +kernel) rfl) ?_
            refine r_p (pc' := 111) (p_goto (off := 5) (tgt := 111) (by decide +kernel) (by decide)) ?_
            exact r_iret rfl rfl _ rfl rfl (by decide +kernel)
  · unfold mX12_figures_L7
    refine r_p (pc' := 8) (p_aload_n 0 (k := 0) (by decide +kernel) rfl) ?_
    refine r_p (pc' := 10) (p_bipush (n := 48) (v := 48) (by decide +kernel) (by decide +kernel)) ?_
    refine r_p (pc' := 12) (p_bipush (n := 57) (v := 57) (by decide +kernel) (by decide +kernel)) ?_
    refine r_callVI mvX12_92 (ctX12_isAt a0 48 57) (rcX12_isAt a0 48 57) ⟨_, _, rfl⟩ (as := [vi 48, vi 57]) (st := []) rfl rfl (by decide +kernel) rfl (Nat.le_of_ble_eq_true rfl) (Nat.le_of_ble_eq_true rfl) fun v5 s => ?_
    refine r_ifeq (off := 54) (tgt := 69) (by decide +kernel) (by decide) (fun h6 => ?_) (fun h6 => ?_)
    · exact he4 x1 _
    · refine r_p (pc' := 19) (p_aload_n 0 (k := 0) (by decide +kernel) rfl) ?_
      refine r_gI flX12_86_11 (by decide +kernel) fun v7 => ?_
      refine r_p (pc' := 23) (p_aload_n 0 (k := 0) (by decide +kernel) rfl) ?_
      refine r_gI flX12_96_11 (by decide +kernel) fun v8 => ?_
      refine r_p (pc' := 27) (p_isub (by decide +kernel)) ?_
      refine r_p (pc' := 28) (p_iload_n 3 (k := 3) (by decide +kernel) rfl) ?_
      refine r_join 54 (fun (x10 : Int32) => [(0, vr a0), (1, vi a1), (2, vi a2), (3, vi a3)]) (fun (x10 : Int32) => [vi x10]) (fun x10 s => ?_) (fun K11 hj12 => ?_)
      · refine r_p (pc' := 56) (p_istore (i := 4) (lv' := [(4, vi x10), (0, vr a0), (1, vi a1), (2, vi a2), (3, vi a3)]) (by decide +kernel) (Nat.le_of_ble_eq_true rfl) rfl) ?_
        refine r_p (pc' := 57) (p_aload_n 1 (k := 0) (by decide +kernel) rfl) ?_
        refine r_p (pc' := 58) (p_dup rfl (by decide +kernel)) ?_
        refine r_gI flX12_86_11 (by decide +kernel) fun v16 => ?_
        refine r_p (pc' := 62) (p_iconst (n := 1) (v := 1) (by decide +kernel) rfl) ?_
        refine r_p (pc' := 63) (p_iadd (by decide +kernel)) ?_
        refine r_pI fpX12_86_11 (fun h => by cases h) (by decide +kernel) fun s => ?_
        refine r_p (pc' := 7) (p_goto (off := -59) (tgt := 7) (by decide +kernel) (by decide)) ?_
        refine r_sub (lv' := [(0, vr a0), (1, vi a1), (2, vi a2), (3, vi a3), (4, vi x10)]) [1, 2, 3, 4, 0] rfl ?_
        exact hb3 x10 _
      · refine r_icmpge (off := 24) (tgt := 52) (by decide +kernel) (by decide) (fun h9 => ?_) (fun h9 => ?_)
        · refine r_p (pc' := 54) (p_iload 4 (i := 4) (by decide +kernel) rfl) ?_
          refine r_sub (lv' := [(0, vr a0), (1, vi a1), (2, vi a2), (3, vi a3)]) [0, 1, 2, 3] rfl ?_
          exact hj12 x1 _
        · refine r_p (pc' := 33) (p_bipush (n := 10) (v := 10) (by decide +kernel) (by decide +kernel)) ?_
          refine r_p (pc' := 35) (p_iload 4 (i := 4) (by decide +kernel) rfl) ?_
          refine r_p (pc' := 36) (p_imul (by decide +kernel)) ?_
          refine r_p (pc' := 37) (p_aload_n 0 (k := 0) (by decide +kernel) rfl) ?_
          refine r_gR flX12_29_11 (by decide +kernel) fun v13 => ?_
          refine r_p (pc' := 41) (p_aload_n 0 (k := 0) (by decide +kernel) rfl) ?_
          refine r_gI flX12_86_11 (by decide +kernel) fun v14 => ?_
          refine r_ldI1 (by decide +kernel) fun v15 => ?_
          refine r_p (pc' := 46) (p_iadd (by decide +kernel)) ?_
          refine r_p (pc' := 48) (p_bipush (n := 48) (v := 48) (by decide +kernel) (by decide +kernel)) ?_
          refine r_p (pc' := 49) (p_isub (by decide +kernel)) ?_
          refine r_p (pc' := 54) (p_goto (off := 5) (tgt := 54) (by decide +kernel) (by decide)) ?_
          refine r_sub (lv' := [(0, vr a0), (1, vi a1), (2, vi a2), (3, vi a3)]) [0, 1, 2, 3] rfl ?_
          exact hj12 (((10 * x1) + v15) - 48) _
def aX12_number : StA := (RX12, cX12_number, 3, some .int, yX12_number, 11, [])
theorem mvX12_118 : MV RX12 118 aX12_figures 3 := ⟨tblG_of 1834 (by decide +kernel) (by decide +kernel), tblG_of 1836 (by decide +kernel) (by decide +kernel), tblG_of 64 (by decide +kernel) (by decide +kernel), tblG_of 157 (by decide +kernel) (by decide +kernel), tblG_of 1837 (by decide +kernel) (by decide +kernel), rfl, ⟨by decide, by decide⟩, by decide +kernel, by decide⟩
noncomputable def mX12_number (a0 : Nat) (a1 : Int32) (a2 : Int32) : MM Int32 := onC 11 a0 (
  mbnd (mX12_figures a0 a1 a2 4) fun (v1 : Int32) =>
  mret v1
  )
theorem rcX12_number (a0 : Nat) (a1 : Int32) (a2 : Int32) : Rcv 11 a0 (mX12_number a0 a1 a2) := fun s r h => ⟨(onC_some h).1, (onC_some h).2.1⟩
set_option maxHeartbeats 4000000 in
set_option maxRecDepth 100000 in
theorem ctX12_number (a0 : Nat) (a1 : Int32) (a2 : Int32) : Ct aX12_number [vr a0, vi a1, vi a2] (mX12_number a0 a1 a2) rI := by
  unfold mX12_number
  refine ct_onC (ct_intro (by decide +kernel) rfl (Nat.le_of_ble_eq_true rfl) fun Y s => ?_)
  refine r_sub (lv' := [(0, vr a0), (1, vi a1), (2, vi a2)]) [0, 1, 2] rfl ?_
  refine r_p (pc' := 1) (p_aload_n 0 (k := 0) (by decide +kernel) rfl) ?_
  refine r_p (pc' := 2) (p_iload_n 1 (k := 1) (by decide +kernel) rfl) ?_
  refine r_p (pc' := 3) (p_iload_n 2 (k := 2) (by decide +kernel) rfl) ?_
  refine r_p (pc' := 4) (p_iconst (n := 4) (v := 4) (by decide +kernel) rfl) ?_
  refine r_callVI mvX12_118 (ctX12_figures a0 a1 a2 4) (rcX12_figures a0 a1 a2 4) ⟨_, _, rfl⟩ (as := [vi a1, vi a2, vi 4]) (st := []) rfl rfl (by decide +kernel) rfl (Nat.le_of_ble_eq_true rfl) (Nat.le_of_ble_eq_true rfl) fun v1 s => ?_
  exact r_iret rfl rfl _ rfl rfl (by decide +kernel)
def aX12_after : StA := (RX12, cX12_after, 4, some .int, yX12_after, 12, [])
theorem mvX12_122 : MV RX12 122 aX12_number 2 := ⟨tblG_of 1830 (by decide +kernel) (by decide +kernel), tblG_of 1832 (by decide +kernel) (by decide +kernel), tblG_of 63 (by decide +kernel) (by decide +kernel), tblG_of 157 (by decide +kernel) (by decide +kernel), tblG_of 1833 (by decide +kernel) (by decide +kernel), rfl, ⟨by decide, by decide⟩, by decide +kernel, by decide⟩
noncomputable def mX12_after (a0 : Nat) (a1 : Nat) (a2 : Int32) (a3 : Int32) : MM Int32 := onC 11 a0 (onT a1 (
  mbnd (mX12_letters a0) fun _ =>
  mbnd (mX12_isWord a0 a1) fun (v1 : Int32) =>
  if v1 = 0 then (
    mret (-1)
  ) else (
    mbnd (mX12_number a0 a2 a3) fun (v3 : Int32) =>
    mret v3
  )
  ))
theorem rcX12_after (a0 : Nat) (a1 : Nat) (a2 : Int32) (a3 : Int32) : Rcv 11 a0 (mX12_after a0 a1 a2 a3) := fun s r h => ⟨(onC_some h).1, (onC_some h).2.1⟩
set_option maxHeartbeats 4000000 in
set_option maxRecDepth 100000 in
theorem ctX12_after (a0 : Nat) (a1 : Nat) (a2 : Int32) (a3 : Int32) : Ct aX12_after [vr a0, vt a1, vi a2, vi a3] (mX12_after a0 a1 a2 a3) rI := by
  unfold mX12_after
  refine ct_onC (ct_onT fun ha1 => ct_intro (by decide +kernel) rfl (Nat.le_of_ble_eq_true rfl) fun Y s => ?_)
  refine r_sub (lv' := [(0, vr a0), (1, vt a1), (2, vi a2), (3, vi a3)]) [0, 1, 2, 3] rfl ?_
  refine r_p (pc' := 1) (p_aload_n 0 (k := 0) (by decide +kernel) rfl) ?_
  refine r_callVU mvX12_111 (ctX12_letters a0) (rcX12_letters a0) ⟨_, _, rfl⟩ (as := []) (st := []) rfl rfl (by decide +kernel) rfl (Nat.le_of_ble_eq_true rfl) (Nat.le_of_ble_eq_true rfl) fun s => ?_
  refine r_p (pc' := 5) (p_aload_n 0 (k := 0) (by decide +kernel) rfl) ?_
  refine r_p (pc' := 6) (p_tload_n 1 (k := 1) (Nat.lt_trans ha1 (by decide)) (by decide +kernel) rfl) ?_
  refine r_callVI mvX12_114 (ctX12_isWord a0 a1) (rcX12_isWord a0 a1) ⟨_, _, rfl⟩ (as := [vt a1]) (st := []) rfl rfl (by decide +kernel) rfl (Nat.le_of_ble_eq_true rfl) (Nat.le_of_ble_eq_true rfl) fun v1 s => ?_
  refine r_ifeq (off := 12) (tgt := 21) (by decide +kernel) (by decide) (fun h2 => ?_) (fun h2 => ?_)
  · refine r_p (pc' := 22) (p_iconst (n := -1) (v := -1) (by decide +kernel) rfl) ?_
    exact r_iret rfl rfl _ rfl rfl (by decide +kernel)
  · refine r_p (pc' := 13) (p_aload_n 0 (k := 0) (by decide +kernel) rfl) ?_
    refine r_p (pc' := 14) (p_iload_n 2 (k := 2) (by decide +kernel) rfl) ?_
    refine r_p (pc' := 15) (p_iload_n 3 (k := 3) (by decide +kernel) rfl) ?_
    refine r_callVI mvX12_122 (ctX12_number a0 a2 a3) (rcX12_number a0 a2 a3) ⟨_, _, rfl⟩ (as := [vi a2, vi a3]) (st := []) rfl rfl (by decide +kernel) rfl (Nat.le_of_ble_eq_true rfl) (Nat.le_of_ble_eq_true rfl) fun v3 s => ?_
    refine r_p (pc' := 22) (p_goto (off := 4) (tgt := 22) (by decide +kernel) (by decide)) ?_
    exact r_iret rfl rfl _ rfl rfl (by decide +kernel)
def aX12_sortTold : StA := (RX12, cX12_sortTold, 1, some .int, yX12_sortTold, 9, [])
noncomputable def mX12_sortTold (a0 : Nat) : MM Int32 := onC 11 a0 (
  mbnd (mX12_isWord a0 28) fun (v1 : Int32) =>
  if v1 = 0 then (
    mbnd (mX12_isWord a0 29) fun (v3 : Int32) =>
    if v3 = 0 then (
      mbnd (mX12_isWord a0 30) fun (v5 : Int32) =>
      if v5 = 0 then (
        mret (-1)
      ) else (
        mret 2
      )
    ) else (
      mret 1
    )
  ) else (
    mret 0
  )
  )
theorem rcX12_sortTold (a0 : Nat) : Rcv 11 a0 (mX12_sortTold a0) := fun s r h => ⟨(onC_some h).1, (onC_some h).2.1⟩
set_option maxHeartbeats 4000000 in
set_option maxRecDepth 100000 in
theorem ctX12_sortTold (a0 : Nat) : Ct aX12_sortTold [vr a0] (mX12_sortTold a0) rI := by
  unfold mX12_sortTold
  refine ct_onC (ct_intro (by decide +kernel) rfl (Nat.le_of_ble_eq_true rfl) fun Y s => ?_)
  refine r_sub (lv' := [(0, vr a0)]) [0] rfl ?_
  refine r_p (pc' := 1) (p_aload_n 0 (k := 0) (by decide +kernel) rfl) ?_
  refine r_p (pc' := 3) (p_ldcS (i := 125) (j := 28) (text := "handle") (by decide +kernel) (by decide +kernel)) ?_
  refine r_callVI mvX12_114 (ctX12_isWord a0 28) (rcX12_isWord a0 28) ⟨_, _, rfl⟩ (as := [vt 28]) (st := []) rfl rfl (by decide +kernel) rfl (Nat.le_of_ble_eq_true rfl) (Nat.le_of_ble_eq_true rfl) fun v1 s => ?_
  refine r_ifeq (off := 7) (tgt := 13) (by decide +kernel) (by decide) (fun h2 => ?_) (fun h2 => ?_)
  · refine r_p (pc' := 14) (p_aload_n 0 (k := 0) (by decide +kernel) rfl) ?_
    refine r_p (pc' := 16) (p_ldcS (i := 127) (j := 29) (text := "head") (by decide +kernel) (by decide +kernel)) ?_
    refine r_callVI mvX12_114 (ctX12_isWord a0 29) (rcX12_isWord a0 29) ⟨_, _, rfl⟩ (as := [vt 29]) (st := []) rfl rfl (by decide +kernel) rfl (Nat.le_of_ble_eq_true rfl) (Nat.le_of_ble_eq_true rfl) fun v3 s => ?_
    refine r_ifeq (off := 7) (tgt := 26) (by decide +kernel) (by decide) (fun h4 => ?_) (fun h4 => ?_)
    · refine r_p (pc' := 27) (p_aload_n 0 (k := 0) (by decide +kernel) rfl) ?_
      refine r_p (pc' := 29) (p_ldcS (i := 129) (j := 30) (text := "joint") (by decide +kernel) (by decide +kernel)) ?_
      refine r_callVI mvX12_114 (ctX12_isWord a0 30) (rcX12_isWord a0 30) ⟨_, _, rfl⟩ (as := [vt 30]) (st := []) rfl rfl (by decide +kernel) rfl (Nat.le_of_ble_eq_true rfl) (Nat.le_of_ble_eq_true rfl) fun v5 s => ?_
      refine r_ifeq (off := 7) (tgt := 39) (by decide +kernel) (by decide) (fun h6 => ?_) (fun h6 => ?_)
      · refine r_p (pc' := 40) (p_iconst (n := -1) (v := -1) (by decide +kernel) rfl) ?_
        exact r_iret rfl rfl _ rfl rfl (by decide +kernel)
      · refine r_p (pc' := 36) (p_iconst (n := 2) (v := 2) (by decide +kernel) rfl) ?_
        refine r_p (pc' := 40) (p_goto (off := 4) (tgt := 40) (by decide +kernel) (by decide)) ?_
        exact r_iret rfl rfl _ rfl rfl (by decide +kernel)
    · refine r_p (pc' := 23) (p_iconst (n := 1) (v := 1) (by decide +kernel) rfl) ?_
      refine r_p (pc' := 40) (p_goto (off := 17) (tgt := 40) (by decide +kernel) (by decide)) ?_
      exact r_iret rfl rfl _ rfl rfl (by decide +kernel)
  · refine r_p (pc' := 10) (p_iconst (n := 0) (v := 0) (by decide +kernel) rfl) ?_
    refine r_p (pc' := 40) (p_goto (off := 30) (tgt := 40) (by decide +kernel) (by decide)) ?_
    exact r_iret rfl rfl _ rfl rfl (by decide +kernel)
def aX12_fault : StA := (RX12, cX12_fault, 1, some .int, yX12_fault, 8, [])
theorem flX12_33_11 : FL RX12 33 11 14 := ⟨_, TX12, 27, "ToolCourtModel", rfl, by decide, Or.inl (tblG_of 1679 (by decide +kernel) (by decide +kernel)), Or.inl rfl⟩
noncomputable def mX12_fault (a0 : Nat) : MM Int32 := onC 11 a0 (
  mbnd (pI 11 0 a0 0) fun _ =>
  mbnd (gI 11 14 a0) fun (v1 : Int32) =>
  mret v1
  )
theorem rcX12_fault (a0 : Nat) : Rcv 11 a0 (mX12_fault a0) := fun s r h => ⟨(onC_some h).1, (onC_some h).2.1⟩
set_option maxHeartbeats 4000000 in
set_option maxRecDepth 100000 in
theorem ctX12_fault (a0 : Nat) : Ct aX12_fault [vr a0] (mX12_fault a0) rI := by
  unfold mX12_fault
  refine ct_onC (ct_intro (by decide +kernel) rfl (Nat.le_of_ble_eq_true rfl) fun Y s => ?_)
  refine r_sub (lv' := [(0, vr a0)]) [0] rfl ?_
  refine r_p (pc' := 1) (p_aload_n 0 (k := 0) (by decide +kernel) rfl) ?_
  refine r_p (pc' := 2) (p_iconst (n := 0) (v := 0) (by decide +kernel) rfl) ?_
  refine r_pI fpX12_3_11 (fun h => by cases h) (by decide +kernel) fun s => ?_
  refine r_p (pc' := 6) (p_aload_n 0 (k := 0) (by decide +kernel) rfl) ?_
  refine r_gI flX12_33_11 (by decide +kernel) fun v1 => ?_
  exact r_iret rfl rfl _ rfl rfl (by decide +kernel)
def aX12_uses : StA := (RX12, cX12_uses, 1, none, yX12_uses, 8, [])
theorem fpX12_89_11 : FP RX12 89 11 11 .int false := ⟨_, TX12, 27, "ToolCourtModel", tyX12, rfl, by decide, Or.inl (tblG_of 1676 (by decide +kernel) (by decide +kernel)), Or.inl rfl, tyX12_ok, nmX12, rfl, by decide, by decide +kernel⟩
noncomputable def mX12_uses (a0 : Nat) : MM Unit := onC 11 a0 (
  mbnd (pI 11 0 a0 0) fun _ =>
  mbnd (gI 11 9 a0) fun (v1 : Int32) =>
  mbnd (pI 11 11 a0 v1) fun _ =>
  mbnd (pI 11 9 a0 0) fun _ =>
  mbnd (pI 11 10 a0 0) fun _ =>
  mret ()
  )
theorem rcX12_uses (a0 : Nat) : Rcv 11 a0 (mX12_uses a0) := fun s r h => ⟨(onC_some h).1, (onC_some h).2.1⟩
set_option maxHeartbeats 4000000 in
set_option maxRecDepth 100000 in
theorem ctX12_uses (a0 : Nat) : Ct aX12_uses [vr a0] (mX12_uses a0) rU := by
  unfold mX12_uses
  refine ct_onC (ct_intro (by decide +kernel) rfl (Nat.le_of_ble_eq_true rfl) fun Y s => ?_)
  refine r_sub (lv' := [(0, vr a0)]) [0] rfl ?_
  refine r_p (pc' := 1) (p_aload_n 0 (k := 0) (by decide +kernel) rfl) ?_
  refine r_p (pc' := 2) (p_iconst (n := 0) (v := 0) (by decide +kernel) rfl) ?_
  refine r_pI fpX12_3_11 (fun h => by cases h) (by decide +kernel) fun s => ?_
  refine r_p (pc' := 6) (p_aload_n 0 (k := 0) (by decide +kernel) rfl) ?_
  refine r_p (pc' := 7) (p_aload_n 0 (k := 0) (by decide +kernel) rfl) ?_
  refine r_gI flX12_83_11 (by decide +kernel) fun v1 => ?_
  refine r_pI fpX12_89_11 (fun h => by cases h) (by decide +kernel) fun s => ?_
  refine r_p (pc' := 14) (p_aload_n 0 (k := 0) (by decide +kernel) rfl) ?_
  refine r_p (pc' := 15) (p_iconst (n := 0) (v := 0) (by decide +kernel) rfl) ?_
  refine r_pI fpX12_83_11 (fun h => by cases h) (by decide +kernel) fun s => ?_
  refine r_p (pc' := 19) (p_aload_n 0 (k := 0) (by decide +kernel) rfl) ?_
  refine r_p (pc' := 20) (p_iconst (n := 0) (v := 0) (by decide +kernel) rfl) ?_
  refine r_pI fpX12_86_11 (fun h => by cases h) (by decide +kernel) fun s => ?_
  exact r_vret (y9 := ()) rfl rfl rfl (by decide +kernel)
def aX12_readPart : StA := (RX12, cX12_readPart, 6, some .boolean, yX12_readPart, 13, [])
theorem mvX12_131 : MV RX12 131 aX12_sortTold 0 := ⟨tblG_of 1818 (by decide +kernel) (by decide +kernel), tblG_of 1820 (by decide +kernel) (by decide +kernel), tblG_of 61 (by decide +kernel) (by decide +kernel), tblG_of 157 (by decide +kernel) (by decide +kernel), tblG_of 1821 (by decide +kernel) (by decide +kernel), rfl, ⟨by decide, by decide⟩, by decide +kernel, by decide⟩
theorem mvX12_136 : MV RX12 136 aX12_after 3 := ⟨tblG_of 1826 (by decide +kernel) (by decide +kernel), tblG_of 1828 (by decide +kernel) (by decide +kernel), tblG_of 62 (by decide +kernel) (by decide +kernel), tblG_of 157 (by decide +kernel) (by decide +kernel), tblG_of 1829 (by decide +kernel) (by decide +kernel), rfl, ⟨by decide, by decide⟩, by decide +kernel, by decide⟩
noncomputable def mX12_readPart_L69 (a0 : Nat) (v1 : Int32) (x15 : Int32) : MM ((Int32) ⊕ (Unit)) :=
  if 8 ≤ x15 then (
    mret (.inr ())
  ) else (
    mbnd (gR 11 1 a0) fun (v20 : Nat) =>
    mbnd (mX12_partAt v1 x15) fun (v21 : Int32) =>
    mbnd (stI 0 v20 v21 0) fun _ =>
    mret (.inl (x15 + 1))
  )
noncomputable def mX12_readPart (a0 : Nat) : MM Int32 := onC 11 a0 (
  mbnd (mX12_parts a0) fun (v1 : Int32) =>
  if v1 = 16 then (
    mret 0
  ) else (
    mbnd (mX12_letters a0) fun _ =>
    mbnd (mX12_sortTold a0) fun (v3 : Int32) =>
    mbnd (α := Int32) (
      if 0 ≤ v3 then (
        mbnd (mX12_after a0 31 0 9) fun (v8 : Int32) =>
        mret v8
      ) else (
        mret (-1)
      )
    ) fun (x5 : Int32) =>
    mbnd (α := Int32) (
      if 0 ≤ x5 then (
        mbnd (mX12_after a0 32 0 99) fun (v13 : Int32) =>
        mret v13
      ) else (
        mret (-1)
      )
    ) fun (x10 : Int32) =>
    if 0 ≤ x10 then (
      mbnd (loopM (mX12_readPart_L69 a0 v1) 0) fun (e22 : Unit) =>
      mbnd (gR 11 1 a0) fun (v23 : Nat) =>
      mbnd (mX12_partAt v1 0) fun (v24 : Int32) =>
      mbnd (stI 0 v23 v24 v3) fun _ =>
      mbnd (gR 11 1 a0) fun (v25 : Nat) =>
      mbnd (mX12_partAt v1 1) fun (v26 : Int32) =>
      mbnd (stI 0 v25 v26 x5) fun _ =>
      mbnd (gR 11 1 a0) fun (v27 : Nat) =>
      mbnd (mX12_partAt v1 2) fun (v28 : Int32) =>
      mbnd (stI 0 v27 v28 x10) fun _ =>
      mbnd (gR 11 1 a0) fun (v29 : Nat) =>
      mbnd (mX12_partAt v1 6) fun (v30 : Int32) =>
      mbnd (stI 0 v29 v30 (-1)) fun _ =>
      mbnd (gR 11 1 a0) fun (v31 : Nat) =>
      mbnd (ldI 0 v31 0) fun (v32 : Int32) =>
      mbnd (stI 0 v31 0 (v32 + 1)) fun _ =>
      mret 1
    ) else (
      mret 0
    )
  )
  )
theorem rcX12_readPart (a0 : Nat) : Rcv 11 a0 (mX12_readPart a0) := fun s r h => ⟨(onC_some h).1, (onC_some h).2.1⟩
set_option maxHeartbeats 4000000 in
set_option maxRecDepth 100000 in
theorem ctX12_readPart (a0 : Nat) : Ct aX12_readPart [vr a0] (mX12_readPart a0) rI := by
  unfold mX12_readPart
  refine ct_onC (ct_intro (by decide +kernel) rfl (Nat.le_of_ble_eq_true rfl) fun Y s => ?_)
  refine r_sub (lv' := [(0, vr a0)]) [0] rfl ?_
  refine r_p (pc' := 1) (p_aload_n 0 (k := 0) (by decide +kernel) rfl) ?_
  refine r_callVI mvX12_68 (ctX12_parts a0) (rcX12_parts a0) ⟨_, _, rfl⟩ (as := []) (st := []) rfl rfl (by decide +kernel) rfl (Nat.le_of_ble_eq_true rfl) (Nat.le_of_ble_eq_true rfl) fun v1 s => ?_
  refine r_p (pc' := 5) (p_istore_n (k := 1) (lv' := [(1, vi v1), (0, vr a0)]) (by decide +kernel) (Nat.le_of_ble_eq_true rfl) rfl) ?_
  refine r_p (pc' := 6) (p_iload_n 0 (k := 1) (by decide +kernel) rfl) ?_
  refine r_p (pc' := 8) (p_bipush (n := 16) (v := 16) (by decide +kernel) (by decide +kernel)) ?_
  refine r_icmpne (off := 5) (tgt := 13) (by decide +kernel) (by decide) (fun h2 => ?_) (fun h2 => ?_)
  · refine r_p (pc' := 12) (p_iconst (n := 0) (v := 0) (by decide +kernel) rfl) ?_
    exact r_iret rfl rfl _ rfl rfl (by decide +kernel)
  · refine r_p (pc' := 14) (p_aload_n 1 (k := 0) (by decide +kernel) rfl) ?_
    refine r_callVU mvX12_111 (ctX12_letters a0) (rcX12_letters a0) ⟨_, _, rfl⟩ (as := []) (st := []) rfl rfl (by decide +kernel) rfl (Nat.le_of_ble_eq_true rfl) (Nat.le_of_ble_eq_true rfl) fun s => ?_
    refine r_p (pc' := 18) (p_aload_n 1 (k := 0) (by decide +kernel) rfl) ?_
    refine r_callVI mvX12_131 (ctX12_sortTold a0) (rcX12_sortTold a0) ⟨_, _, rfl⟩ (as := []) (st := []) rfl rfl (by decide +kernel) rfl (Nat.le_of_ble_eq_true rfl) (Nat.le_of_ble_eq_true rfl) fun v3 s => ?_
    refine r_p (pc' := 22) (p_istore_n (k := 2) (lv' := [(2, vi v3), (1, vi v1), (0, vr a0)]) (by decide +kernel) (Nat.le_of_ble_eq_true rfl) rfl) ?_
    refine r_p (pc' := 23) (p_iload_n 0 (k := 2) (by decide +kernel) rfl) ?_
    refine r_join 39 (fun (x5 : Int32) => [(0, vr a0), (1, vi v1), (2, vi v3)]) (fun (x5 : Int32) => [vi x5]) (fun x5 s => ?_) (fun K6 hj7 => ?_)
    · refine r_p (pc' := 40) (p_istore_n (k := 3) (lv' := [(3, vi x5), (0, vr a0), (1, vi v1), (2, vi v3)]) (by decide +kernel) (Nat.le_of_ble_eq_true rfl) rfl) ?_
      refine r_p (pc' := 41) (p_iload_n 0 (k := 3) (by decide +kernel) rfl) ?_
      refine r_join 57 (fun (x10 : Int32) => [(0, vr a0), (1, vi v1), (2, vi v3), (3, vi x5)]) (fun (x10 : Int32) => [vi x10]) (fun x10 s => ?_) (fun K11 hj12 => ?_)
      · refine r_p (pc' := 59) (p_istore (i := 4) (lv' := [(4, vi x10), (0, vr a0), (1, vi v1), (2, vi v3), (3, vi x5)]) (by decide +kernel) (Nat.le_of_ble_eq_true rfl) rfl) ?_
        refine r_p (pc' := 61) (p_iload 0 (i := 4) (by decide +kernel) rfl) ?_
        refine r_ifge (off := 5) (tgt := 66) (by decide +kernel) (by decide) (fun h14 => ?_) (fun h14 => ?_)
        · refine r_p (pc' := 67) (p_iconst (n := 0) (v := 0) (by decide +kernel) rfl) ?_
          refine r_p (pc' := 69) (p_istore (i := 5) (lv' := [(5, vi 0), (4, vi x10), (0, vr a0), (1, vi v1), (2, vi v3), (3, vi x5)]) (by decide +kernel) (Nat.le_of_ble_eq_true rfl) rfl) ?_
          refine r_sub (lv' := [(0, vr a0), (1, vi v1), (2, vi v3), (3, vi x5), (4, vi x10), (5, vi 0)]) [2, 3, 4, 5, 1, 0] rfl ?_
          refine r_loop2 (fun _ => 94) (fun (e22 : Unit) => [(0, vr a0), (1, vi v1), (2, vi v3), (3, vi x5), (4, vi x10)]) (fun (x15 : Int32) => [(0, vr a0), (1, vi v1), (2, vi v3), (3, vi x5), (4, vi x10), (5, vi x15)]) (fun e22 s => ?_) (fun K16 hb17 he18 x15 s => ?_) 0 _
          · refine r_p (pc' := 95) (p_aload_n 0 (k := 0) (by decide +kernel) rfl) ?_
            refine r_gR flX12_13_11 (by decide +kernel) fun v23 => ?_
            refine r_p (pc' := 99) (p_iload_n 1 (k := 1) (by decide +kernel) rfl) ?_
            refine r_p (pc' := 100) (p_iconst (n := 0) (v := 0) (by decide +kernel) rfl) ?_
            refine r_callSI msX12_61 (ctX12_partAt v1 0) (as := [vi v1, vi 0]) (st := [vr v23]) rfl rfl (by decide +kernel) rfl (Nat.le_of_ble_eq_true rfl) (Nat.le_of_ble_eq_true rfl) fun v24 s => ?_
            refine r_p (pc' := 104) (p_iload_n 2 (k := 2) (by decide +kernel) rfl) ?_
            refine r_stI0 (by decide +kernel) fun s => ?_
            refine r_p (pc' := 106) (p_aload_n 0 (k := 0) (by decide +kernel) rfl) ?_
            refine r_gR flX12_13_11 (by decide +kernel) fun v25 => ?_
            refine r_p (pc' := 110) (p_iload_n 1 (k := 1) (by decide +kernel) rfl) ?_
            refine r_p (pc' := 111) (p_iconst (n := 1) (v := 1) (by decide +kernel) rfl) ?_
            refine r_callSI msX12_61 (ctX12_partAt v1 1) (as := [vi v1, vi 1]) (st := [vr v25]) rfl rfl (by decide +kernel) rfl (Nat.le_of_ble_eq_true rfl) (Nat.le_of_ble_eq_true rfl) fun v26 s => ?_
            refine r_p (pc' := 115) (p_iload_n 3 (k := 3) (by decide +kernel) rfl) ?_
            refine r_stI0 (by decide +kernel) fun s => ?_
            refine r_p (pc' := 117) (p_aload_n 0 (k := 0) (by decide +kernel) rfl) ?_
            refine r_gR flX12_13_11 (by decide +kernel) fun v27 => ?_
            refine r_p (pc' := 121) (p_iload_n 1 (k := 1) (by decide +kernel) rfl) ?_
            refine r_p (pc' := 122) (p_iconst (n := 2) (v := 2) (by decide +kernel) rfl) ?_
            refine r_callSI msX12_61 (ctX12_partAt v1 2) (as := [vi v1, vi 2]) (st := [vr v27]) rfl rfl (by decide +kernel) rfl (Nat.le_of_ble_eq_true rfl) (Nat.le_of_ble_eq_true rfl) fun v28 s => ?_
            refine r_p (pc' := 127) (p_iload 4 (i := 4) (by decide +kernel) rfl) ?_
            refine r_stI0 (by decide +kernel) fun s => ?_
            refine r_p (pc' := 129) (p_aload_n 0 (k := 0) (by decide +kernel) rfl) ?_
            refine r_gR flX12_13_11 (by decide +kernel) fun v29 => ?_
            refine r_p (pc' := 133) (p_iload_n 1 (k := 1) (by decide +kernel) rfl) ?_
            refine r_p (pc' := 135) (p_bipush (n := 6) (v := 6) (by decide +kernel) (by decide +kernel)) ?_
            refine r_callSI msX12_61 (ctX12_partAt v1 6) (as := [vi v1, vi 6]) (st := [vr v29]) rfl rfl (by decide +kernel) rfl (Nat.le_of_ble_eq_true rfl) (Nat.le_of_ble_eq_true rfl) fun v30 s => ?_
            refine r_p (pc' := 139) (p_iconst (n := -1) (v := -1) (by decide +kernel) rfl) ?_
            refine r_stI0 (by decide +kernel) fun s => ?_
            refine r_p (pc' := 141) (p_aload_n 0 (k := 0) (by decide +kernel) rfl) ?_
            refine r_gR flX12_13_11 (by decide +kernel) fun v31 => ?_
            refine r_p (pc' := 145) (p_iconst (n := 0) (v := 0) (by decide +kernel) rfl) ?_
            refine r_p (pc' := 146) (p_dup2 rfl rfl (by decide +kernel)) ?_
            refine r_ldI0 (by decide +kernel) fun v32 => ?_
            refine r_p (pc' := 148) (p_iconst (n := 1) (v := 1) (by decide +kernel) rfl) ?_
            refine r_p (pc' := 149) (p_iadd (by decide +kernel)) ?_
            refine r_stI0 (by decide +kernel) fun s => ?_
            refine r_p (pc' := 151) (p_iconst (n := 1) (v := 1) (by decide +kernel) rfl) ?_
            exact r_iret rfl rfl _ rfl rfl (by decide +kernel)
          · unfold mX12_readPart_L69
            refine r_p (pc' := 71) (p_iload 5 (i := 5) (by decide +kernel) rfl) ?_
            refine r_p (pc' := 73) (p_bipush (n := 8) (v := 8) (by decide +kernel) (by decide +kernel)) ?_
            refine r_icmpge (off := 21) (tgt := 94) (by decide +kernel) (by decide) (fun h19 => ?_) (fun h19 => ?_)
            · refine r_sub (lv' := [(0, vr a0), (1, vi v1), (2, vi v3), (3, vi x5), (4, vi x10)]) [0, 1, 2, 3, 4] rfl ?_
              exact he18 () _
            · refine r_p (pc' := 77) (p_aload_n 0 (k := 0) (by decide +kernel) rfl) ?_
              refine r_gR flX12_13_11 (by decide +kernel) fun v20 => ?_
              refine r_p (pc' := 81) (p_iload_n 1 (k := 1) (by decide +kernel) rfl) ?_
              refine r_p (pc' := 83) (p_iload 5 (i := 5) (by decide +kernel) rfl) ?_
              refine r_callSI msX12_61 (ctX12_partAt v1 x15) (as := [vi v1, vi x15]) (st := [vr v20]) rfl rfl (by decide +kernel) rfl (Nat.le_of_ble_eq_true rfl) (Nat.le_of_ble_eq_true rfl) fun v21 s => ?_
              refine r_p (pc' := 87) (p_iconst (n := 0) (v := 0) (by decide +kernel) rfl) ?_
              refine r_stI0 (by decide +kernel) fun s => ?_
              refine r_p (pc' := 91) (p_iinc 5 (i := 5) (n := 1) (x := x15) (v := x15 + 1) (lv' := [(5, vi (x15 + 1)), (0, vr a0), (1, vi v1), (2, vi v3), (3, vi x5), (4, vi x10)]) (by decide +kernel) rfl rfl (Nat.le_of_ble_eq_true rfl) rfl) ?_
              refine r_p (pc' := 69) (p_goto (off := -22) (tgt := 69) (by decide +kernel) (by decide)) ?_
              refine r_sub (lv' := [(0, vr a0), (1, vi v1), (2, vi v3), (3, vi x5), (4, vi x10), (5, vi (x15 + 1))]) [1, 2, 3, 4, 5, 0] rfl ?_
              exact hb17 (x15 + 1) _
        · refine r_p (pc' := 65) (p_iconst (n := 0) (v := 0) (by decide +kernel) rfl) ?_
          exact r_iret rfl rfl _ rfl rfl (by decide +kernel)
      · refine r_ifge (off := 7) (tgt := 48) (by decide +kernel) (by decide) (fun h9 => ?_) (fun h9 => ?_)
        · refine r_p (pc' := 49) (p_aload_n 1 (k := 0) (by decide +kernel) rfl) ?_
          refine r_p (pc' := 51) (p_ldcS (i := 140) (j := 32) (text := "wear") (by decide +kernel) (by decide +kernel)) ?_
          refine r_p (pc' := 52) (p_iconst (n := 0) (v := 0) (by decide +kernel) rfl) ?_
          refine r_p (pc' := 54) (p_bipush (n := 99) (v := 99) (by decide +kernel) (by decide +kernel)) ?_
          refine r_callVI mvX12_136 (ctX12_after a0 32 0 99) (rcX12_after a0 32 0 99) ⟨_, _, rfl⟩ (as := [vt 32, vi 0, vi 99]) (st := []) rfl rfl (by decide +kernel) rfl (Nat.le_of_ble_eq_true rfl) (Nat.le_of_ble_eq_true rfl) fun v13 s => ?_
          refine r_sub (lv' := [(0, vr a0), (1, vi v1), (2, vi v3), (3, vi x5)]) [1, 2, 3, 0] rfl ?_
          exact hj12 v13 _
        · refine r_p (pc' := 45) (p_iconst (n := -1) (v := -1) (by decide +kernel) rfl) ?_
          refine r_p (pc' := 57) (p_goto (off := 12) (tgt := 57) (by decide +kernel) (by decide)) ?_
          refine r_sub (lv' := [(0, vr a0), (1, vi v1), (2, vi v3), (3, vi x5)]) [1, 2, 3, 0] rfl ?_
          exact hj12 (-1) _
    · refine r_ifge (off := 7) (tgt := 30) (by decide +kernel) (by decide) (fun h4 => ?_) (fun h4 => ?_)
      · refine r_p (pc' := 31) (p_aload_n 2 (k := 0) (by decide +kernel) rfl) ?_
        refine r_p (pc' := 33) (p_ldcS (i := 134) (j := 31) (text := "edge") (by decide +kernel) (by decide +kernel)) ?_
        refine r_p (pc' := 34) (p_iconst (n := 0) (v := 0) (by decide +kernel) rfl) ?_
        refine r_p (pc' := 36) (p_bipush (n := 9) (v := 9) (by decide +kernel) (by decide +kernel)) ?_
        refine r_callVI mvX12_136 (ctX12_after a0 31 0 9) (rcX12_after a0 31 0 9) ⟨_, _, rfl⟩ (as := [vt 31, vi 0, vi 9]) (st := []) rfl rfl (by decide +kernel) rfl (Nat.le_of_ble_eq_true rfl) (Nat.le_of_ble_eq_true rfl) fun v8 s => ?_
        refine r_sub (lv' := [(0, vr a0), (1, vi v1), (2, vi v3)]) [2, 1, 0] rfl ?_
        exact hj7 v8 _
      · refine r_p (pc' := 27) (p_iconst (n := -1) (v := -1) (by decide +kernel) rfl) ?_
        refine r_p (pc' := 39) (p_goto (off := 12) (tgt := 39) (by decide +kernel) (by decide)) ?_
        refine r_sub (lv' := [(0, vr a0), (1, vi v1), (2, vi v3)]) [2, 1, 0] rfl ?_
        exact hj7 (-1) _
def aX12_partTold : StA := (RX12, cX12_partTold, 1, some .int, yX12_partTold, 12, [])
noncomputable def mX12_partTold (a0 : Nat) : MM Int32 := onC 11 a0 (
  mbnd (mX12_parts a0) fun (v1 : Int32) =>
  mbnd (mX12_number a0 0 (v1 - 1)) fun (v2 : Int32) =>
  mret v2
  )
theorem rcX12_partTold (a0 : Nat) : Rcv 11 a0 (mX12_partTold a0) := fun s r h => ⟨(onC_some h).1, (onC_some h).2.1⟩
set_option maxHeartbeats 4000000 in
set_option maxRecDepth 100000 in
theorem ctX12_partTold (a0 : Nat) : Ct aX12_partTold [vr a0] (mX12_partTold a0) rI := by
  unfold mX12_partTold
  refine ct_onC (ct_intro (by decide +kernel) rfl (Nat.le_of_ble_eq_true rfl) fun Y s => ?_)
  refine r_sub (lv' := [(0, vr a0)]) [0] rfl ?_
  refine r_p (pc' := 1) (p_aload_n 0 (k := 0) (by decide +kernel) rfl) ?_
  refine r_p (pc' := 2) (p_iconst (n := 0) (v := 0) (by decide +kernel) rfl) ?_
  refine r_p (pc' := 3) (p_aload_n 0 (k := 0) (by decide +kernel) rfl) ?_
  refine r_callVI mvX12_68 (ctX12_parts a0) (rcX12_parts a0) ⟨_, _, rfl⟩ (as := []) (st := [vi 0, vr a0]) rfl rfl (by decide +kernel) rfl (Nat.le_of_ble_eq_true rfl) (Nat.le_of_ble_eq_true rfl) fun v1 s => ?_
  refine r_p (pc' := 7) (p_iconst (n := 1) (v := 1) (by decide +kernel) rfl) ?_
  refine r_p (pc' := 8) (p_isub (by decide +kernel)) ?_
  refine r_callVI mvX12_122 (ctX12_number a0 0 (v1 - 1)) (rcX12_number a0 0 (v1 - 1)) ⟨_, _, rfl⟩ (as := [vi 0, vi (v1 - 1)]) (st := []) rfl rfl (by decide +kernel) rfl (Nat.le_of_ble_eq_true rfl) (Nat.le_of_ble_eq_true rfl) fun v2 s => ?_
  exact r_iret rfl rfl _ rfl rfl (by decide +kernel)
def aX12_isFigure : StA := (RX12, cX12_isFigure, 1, some .boolean, yX12_isFigure, 10, [])
noncomputable def mX12_isFigure (a0 : Nat) : MM Int32 := onC 11 a0 (
  mbnd (mX12_blanks a0) fun _ =>
  mbnd (mX12_isAt a0 48 57) fun (v1 : Int32) =>
  mbool v1
  )
theorem rcX12_isFigure (a0 : Nat) : Rcv 11 a0 (mX12_isFigure a0) := fun s r h => ⟨(onC_some h).1, (onC_some h).2.1⟩
set_option maxHeartbeats 4000000 in
set_option maxRecDepth 100000 in
theorem ctX12_isFigure (a0 : Nat) : Ct aX12_isFigure [vr a0] (mX12_isFigure a0) rI := by
  unfold mX12_isFigure
  refine ct_onC (ct_intro (by decide +kernel) rfl (Nat.le_of_ble_eq_true rfl) fun Y s => ?_)
  refine r_sub (lv' := [(0, vr a0)]) [0] rfl ?_
  refine r_p (pc' := 1) (p_aload_n 0 (k := 0) (by decide +kernel) rfl) ?_
  refine r_callVU mvX12_99 (ctX12_blanks a0) (rcX12_blanks a0) ⟨_, _, rfl⟩ (as := []) (st := []) rfl rfl (by decide +kernel) rfl (Nat.le_of_ble_eq_true rfl) (Nat.le_of_ble_eq_true rfl) fun s => ?_
  refine r_p (pc' := 5) (p_aload_n 0 (k := 0) (by decide +kernel) rfl) ?_
  refine r_p (pc' := 7) (p_bipush (n := 48) (v := 48) (by decide +kernel) (by decide +kernel)) ?_
  refine r_p (pc' := 9) (p_bipush (n := 57) (v := 57) (by decide +kernel) (by decide +kernel)) ?_
  refine r_callVI mvX12_92 (ctX12_isAt a0 48 57) (rcX12_isAt a0 48 57) ⟨_, _, rfl⟩ (as := [vi 48, vi 57]) (st := []) rfl rfl (by decide +kernel) rfl (Nat.le_of_ble_eq_true rfl) (Nat.le_of_ble_eq_true rfl) fun v1 s => ?_
  exact r_bret (y9 := fun v => v) (fun _ => rfl) (fun _ => rfl) rfl (by decide +kernel)
def aX12_puts : StA := (RX12, cX12_puts, 3, none, yX12_puts, 10, [])
noncomputable def mX12_puts (a0 : Nat) (a1 : Int32) (a2 : Int32) : MM Unit := onC 11 a0 (
  mbnd (gR 11 1 a0) fun (v1 : Nat) =>
  mbnd (mX12_of a0 a2 0) fun (v2 : Int32) =>
  mbnd (stI 0 v1 ((141 + (4 * a1)) + v2) a2) fun _ =>
  mbnd (gR 11 1 a0) fun (v3 : Nat) =>
  mbnd (mX12_partAt a2 6) fun (v4 : Int32) =>
  mbnd (stI 0 v3 v4 a1) fun _ =>
  mret ()
  )
theorem rcX12_puts (a0 : Nat) (a1 : Int32) (a2 : Int32) : Rcv 11 a0 (mX12_puts a0 a1 a2) := fun s r h => ⟨(onC_some h).1, (onC_some h).2.1⟩
set_option maxHeartbeats 4000000 in
set_option maxRecDepth 100000 in
theorem ctX12_puts (a0 : Nat) (a1 : Int32) (a2 : Int32) : Ct aX12_puts [vr a0, vi a1, vi a2] (mX12_puts a0 a1 a2) rU := by
  unfold mX12_puts
  refine ct_onC (ct_intro (by decide +kernel) rfl (Nat.le_of_ble_eq_true rfl) fun Y s => ?_)
  refine r_sub (lv' := [(0, vr a0), (1, vi a1), (2, vi a2)]) [0, 1, 2] rfl ?_
  refine r_p (pc' := 1) (p_aload_n 0 (k := 0) (by decide +kernel) rfl) ?_
  refine r_gR flX12_13_11 (by decide +kernel) fun v1 => ?_
  refine r_p (pc' := 7) (p_sipush (n := 141) (v := 141) (by decide +kernel) (by decide +kernel)) ?_
  refine r_p (pc' := 8) (p_iconst (n := 4) (v := 4) (by decide +kernel) rfl) ?_
  refine r_p (pc' := 9) (p_iload_n 1 (k := 1) (by decide +kernel) rfl) ?_
  refine r_p (pc' := 10) (p_imul (by decide +kernel)) ?_
  refine r_p (pc' := 11) (p_iadd (by decide +kernel)) ?_
  refine r_p (pc' := 12) (p_aload_n 0 (k := 0) (by decide +kernel) rfl) ?_
  refine r_p (pc' := 13) (p_iload_n 2 (k := 2) (by decide +kernel) rfl) ?_
  refine r_p (pc' := 14) (p_iconst (n := 0) (v := 0) (by decide +kernel) rfl) ?_
  refine r_callVI mvX12_65 (ctX12_of a0 a2 0) (rcX12_of a0 a2 0) ⟨_, _, rfl⟩ (as := [vi a2, vi 0]) (st := [vi (141 + (4 * a1)), vr v1]) rfl rfl (by decide +kernel) rfl (Nat.le_of_ble_eq_true rfl) (Nat.le_of_ble_eq_true rfl) fun v2 s => ?_
  refine r_p (pc' := 18) (p_iadd (by decide +kernel)) ?_
  refine r_p (pc' := 19) (p_iload_n 2 (k := 2) (by decide +kernel) rfl) ?_
  refine r_stI0 (by decide +kernel) fun s => ?_
  refine r_p (pc' := 21) (p_aload_n 0 (k := 0) (by decide +kernel) rfl) ?_
  refine r_gR flX12_13_11 (by decide +kernel) fun v3 => ?_
  refine r_p (pc' := 25) (p_iload_n 2 (k := 2) (by decide +kernel) rfl) ?_
  refine r_p (pc' := 27) (p_bipush (n := 6) (v := 6) (by decide +kernel) (by decide +kernel)) ?_
  refine r_callSI msX12_61 (ctX12_partAt a2 6) (as := [vi a2, vi 6]) (st := [vr v3]) rfl rfl (by decide +kernel) rfl (Nat.le_of_ble_eq_true rfl) (Nat.le_of_ble_eq_true rfl) fun v4 s => ?_
  refine r_p (pc' := 31) (p_iload_n 1 (k := 1) (by decide +kernel) rfl) ?_
  refine r_stI0 (by decide +kernel) fun s => ?_
  exact r_vret (y9 := ()) rfl rfl rfl (by decide +kernel)
def aX12_readTool : StA := (RX12, cX12_readTool, 3, some .boolean, yX12_readTool, 13, [])
theorem mvX12_142 : MV RX12 142 aX12_partTold 0 := ⟨tblG_of 1851 (by decide +kernel) (by decide +kernel), tblG_of 1853 (by decide +kernel) (by decide +kernel), tblG_of 67 (by decide +kernel) (by decide +kernel), tblG_of 157 (by decide +kernel) (by decide +kernel), tblG_of 1854 (by decide +kernel) (by decide +kernel), rfl, ⟨by decide, by decide⟩, by decide +kernel, by decide⟩
theorem mvX12_145 : MV RX12 145 aX12_isSpare 1 := ⟨tblG_of 1855 (by decide +kernel) (by decide +kernel), tblG_of 1857 (by decide +kernel) (by decide +kernel), tblG_of 68 (by decide +kernel) (by decide +kernel), tblG_of 157 (by decide +kernel) (by decide +kernel), tblG_of 1858 (by decide +kernel) (by decide +kernel), rfl, ⟨by decide, by decide⟩, by decide +kernel, by decide⟩
theorem mvX12_149 : MV RX12 149 aX12_inTool 2 := ⟨tblG_of 1863 (by decide +kernel) (by decide +kernel), tblG_of 1865 (by decide +kernel) (by decide +kernel), tblG_of 70 (by decide +kernel) (by decide +kernel), tblG_of 157 (by decide +kernel) (by decide +kernel), tblG_of 1866 (by decide +kernel) (by decide +kernel), rfl, ⟨by decide, by decide⟩, by decide +kernel, by decide⟩
theorem mvX12_152 : MV RX12 152 aX12_puts 2 := ⟨tblG_of 1867 (by decide +kernel) (by decide +kernel), tblG_of 1869 (by decide +kernel) (by decide +kernel), tblG_of 71 (by decide +kernel) (by decide +kernel), tblG_of 157 (by decide +kernel) (by decide +kernel), tblG_of 1870 (by decide +kernel) (by decide +kernel), rfl, ⟨by decide, by decide⟩, by decide +kernel, by decide⟩
theorem mvX12_156 : MV RX12 156 aX12_isFigure 0 := ⟨tblG_of 1871 (by decide +kernel) (by decide +kernel), tblG_of 1873 (by decide +kernel) (by decide +kernel), tblG_of 72 (by decide +kernel) (by decide +kernel), tblG_of 157 (by decide +kernel) (by decide +kernel), tblG_of 1874 (by decide +kernel) (by decide +kernel), rfl, ⟨by decide, by decide⟩, by decide +kernel, by decide⟩
noncomputable def mX12_readTool_L15 (a0 : Nat) (v1 : Int32) (x3 : Int32) : MM ((Int32) ⊕ (Unit)) :=
  if 3 ≤ x3 then (
    mret (.inr ())
  ) else (
    mbnd (gR 11 1 a0) fun (v8 : Nat) =>
    mbnd (stI 0 v8 ((141 + (4 * v1)) + x3) (-1)) fun _ =>
    mret (.inl (x3 + 1))
  )
noncomputable def mX12_readTool_L56 (a0 : Nat) (v1 : Int32) (x11 : Unit) : MM ((Unit) ⊕ (Unit ⊕ Unit)) :=
  mbnd (mX12_partTold a0) fun (v15 : Int32) =>
  if v15 < 0 then (
    mret (.inr ((.inl ())))
  ) else (
    mbnd (mX12_isSpare a0 v15) fun (v17 : Int32) =>
    if v17 = 0 then (
      mret (.inr ((.inl ())))
    ) else (
      mbnd (mX12_of a0 v15 0) fun (v19 : Int32) =>
      mbnd (mX12_inTool a0 v1 v19) fun (v20 : Int32) =>
      if v20 < 0 then (
        mbnd (mX12_puts a0 v1 v15) fun _ =>
        mbnd (mX12_isFigure a0) fun (v22 : Int32) =>
        if v22 = 0 then (
          mret (.inr ((.inr ())))
        ) else (
          mret (.inl ())
        )
      ) else (
        mret (.inr ((.inl ())))
      )
    )
  )
noncomputable def mX12_readTool (a0 : Nat) : MM Int32 := onC 11 a0 (
  mbnd (mX12_tools a0) fun (v1 : Int32) =>
  if v1 = 6 then (
    mret 0
  ) else (
    mbnd (loopM (mX12_readTool_L15 a0 v1) 0) fun (e9 : Unit) =>
    mbnd (gR 11 1 a0) fun (v10 : Nat) =>
    mbnd (stI 0 v10 ((141 + (4 * v1)) + 3) 0) fun _ =>
    mbnd (loopM (mX12_readTool_L56 a0 v1) ()) fun (e24 : Unit ⊕ Unit) => match e24 with
      | .inl e24 => (
        mret 0
        )
      | .inr e24 => (
        mbnd (gR 11 1 a0) fun (v25 : Nat) =>
        mbnd (ldI 0 v25 1) fun (v26 : Int32) =>
        mbnd (stI 0 v25 1 (v26 + 1)) fun _ =>
        mret 1
        )
  )
  )
theorem rcX12_readTool (a0 : Nat) : Rcv 11 a0 (mX12_readTool a0) := fun s r h => ⟨(onC_some h).1, (onC_some h).2.1⟩
set_option maxHeartbeats 4000000 in
set_option maxRecDepth 100000 in
theorem ctX12_readTool (a0 : Nat) : Ct aX12_readTool [vr a0] (mX12_readTool a0) rI := by
  unfold mX12_readTool
  refine ct_onC (ct_intro (by decide +kernel) rfl (Nat.le_of_ble_eq_true rfl) fun Y s => ?_)
  refine r_sub (lv' := [(0, vr a0)]) [0] rfl ?_
  refine r_p (pc' := 1) (p_aload_n 0 (k := 0) (by decide +kernel) rfl) ?_
  refine r_callVI mvX12_76 (ctX12_tools a0) (rcX12_tools a0) ⟨_, _, rfl⟩ (as := []) (st := []) rfl rfl (by decide +kernel) rfl (Nat.le_of_ble_eq_true rfl) (Nat.le_of_ble_eq_true rfl) fun v1 s => ?_
  refine r_p (pc' := 5) (p_istore_n (k := 1) (lv' := [(1, vi v1), (0, vr a0)]) (by decide +kernel) (Nat.le_of_ble_eq_true rfl) rfl) ?_
  refine r_p (pc' := 6) (p_iload_n 0 (k := 1) (by decide +kernel) rfl) ?_
  refine r_p (pc' := 8) (p_bipush (n := 6) (v := 6) (by decide +kernel) (by decide +kernel)) ?_
  refine r_icmpne (off := 5) (tgt := 13) (by decide +kernel) (by decide) (fun h2 => ?_) (fun h2 => ?_)
  · refine r_p (pc' := 12) (p_iconst (n := 0) (v := 0) (by decide +kernel) rfl) ?_
    exact r_iret rfl rfl _ rfl rfl (by decide +kernel)
  · refine r_p (pc' := 14) (p_iconst (n := 0) (v := 0) (by decide +kernel) rfl) ?_
    refine r_p (pc' := 15) (p_istore_n (k := 2) (lv' := [(2, vi 0), (1, vi v1), (0, vr a0)]) (by decide +kernel) (Nat.le_of_ble_eq_true rfl) rfl) ?_
    refine r_sub (lv' := [(0, vr a0), (1, vi v1), (2, vi 0)]) [2, 1, 0] rfl ?_
    refine r_loop2 (fun _ => 41) (fun (e9 : Unit) => [(0, vr a0), (1, vi v1)]) (fun (x3 : Int32) => [(0, vr a0), (1, vi v1), (2, vi x3)]) (fun e9 s => ?_) (fun K4 hb5 he6 x3 s => ?_) 0 _
    · refine r_p (pc' := 42) (p_aload_n 0 (k := 0) (by decide +kernel) rfl) ?_
      refine r_gR flX12_13_11 (by decide +kernel) fun v10 => ?_
      refine r_p (pc' := 48) (p_sipush (n := 141) (v := 141) (by decide +kernel) (by decide +kernel)) ?_
      refine r_p (pc' := 49) (p_iconst (n := 4) (v := 4) (by decide +kernel) rfl) ?_
      refine r_p (pc' := 50) (p_iload_n 1 (k := 1) (by decide +kernel) rfl) ?_
      refine r_p (pc' := 51) (p_imul (by decide +kernel)) ?_
      refine r_p (pc' := 52) (p_iadd (by decide +kernel)) ?_
      refine r_p (pc' := 53) (p_iconst (n := 3) (v := 3) (by decide +kernel) rfl) ?_
      refine r_p (pc' := 54) (p_iadd (by decide +kernel)) ?_
      refine r_p (pc' := 55) (p_iconst (n := 0) (v := 0) (by decide +kernel) rfl) ?_
      refine r_stI0 (by decide +kernel) fun s => ?_
      refine r_loop2 (fun (e24 : Unit ⊕ Unit) => match e24 with | .inl _ => 87 | .inr _ => 102) (fun (e24 : Unit ⊕ Unit) => match e24 with | .inl e24 => [] | .inr e24 => [(0, vr a0)]) (fun (x11 : Unit) => [(0, vr a0), (1, vi v1)]) (fun e24 s => ?_) (fun K12 hb13 he14 x11 s => ?_) () _
      · rcases e24 with e24 | e24
        · show Rr _ _ 87 [] [] _ _ _ _
          refine r_p (pc' := 88) (p_iconst (n := 0) (v := 0) (by decide +kernel) rfl) ?_
          exact r_iret rfl rfl _ rfl rfl (by decide +kernel)
        · show Rr _ _ 102 [(0, vr a0)] [] _ _ _ _
          refine r_p (pc' := 103) (p_aload_n 0 (k := 0) (by decide +kernel) rfl) ?_
          refine r_gR flX12_13_11 (by decide +kernel) fun v25 => ?_
          refine r_p (pc' := 107) (p_iconst (n := 1) (v := 1) (by decide +kernel) rfl) ?_
          refine r_p (pc' := 108) (p_dup2 rfl rfl (by decide +kernel)) ?_
          refine r_ldI0 (by decide +kernel) fun v26 => ?_
          refine r_p (pc' := 110) (p_iconst (n := 1) (v := 1) (by decide +kernel) rfl) ?_
          refine r_p (pc' := 111) (p_iadd (by decide +kernel)) ?_
          refine r_stI0 (by decide +kernel) fun s => ?_
          refine r_p (pc' := 113) (p_iconst (n := 1) (v := 1) (by decide +kernel) rfl) ?_
          exact r_iret rfl rfl _ rfl rfl (by decide +kernel)
      · unfold mX12_readTool_L56
        refine r_p (pc' := 57) (p_aload_n 0 (k := 0) (by decide +kernel) rfl) ?_
        refine r_callVI mvX12_142 (ctX12_partTold a0) (rcX12_partTold a0) ⟨_, _, rfl⟩ (as := []) (st := []) rfl rfl (by decide +kernel) rfl (Nat.le_of_ble_eq_true rfl) (Nat.le_of_ble_eq_true rfl) fun v15 s => ?_
        refine r_p (pc' := 61) (p_istore_n (k := 2) (lv' := [(2, vi v15), (0, vr a0), (1, vi v1)]) (by decide +kernel) (Nat.le_of_ble_eq_true rfl) rfl) ?_
        refine r_p (pc' := 62) (p_iload_n 0 (k := 2) (by decide +kernel) rfl) ?_
        refine r_iflt (off := 25) (tgt := 87) (by decide +kernel) (by decide) (fun h16 => ?_) (fun h16 => ?_)
        · refine r_sub (lv' := []) [] rfl ?_
          exact he14 ((.inl ())) _
        · refine r_p (pc' := 66) (p_aload_n 1 (k := 0) (by decide +kernel) rfl) ?_
          refine r_p (pc' := 67) (p_iload_n 0 (k := 2) (by decide +kernel) rfl) ?_
          refine r_callVI mvX12_145 (ctX12_isSpare a0 v15) (rcX12_isSpare a0 v15) ⟨_, _, rfl⟩ (as := [vi v15]) (st := []) rfl rfl (by decide +kernel) rfl (Nat.le_of_ble_eq_true rfl) (Nat.le_of_ble_eq_true rfl) fun v17 s => ?_
          refine r_ifeq (off := 17) (tgt := 87) (by decide +kernel) (by decide) (fun h18 => ?_) (fun h18 => ?_)
          · refine r_sub (lv' := []) [] rfl ?_
            exact he14 ((.inl ())) _
          · refine r_p (pc' := 74) (p_aload_n 1 (k := 0) (by decide +kernel) rfl) ?_
            refine r_p (pc' := 75) (p_iload_n 2 (k := 1) (by decide +kernel) rfl) ?_
            refine r_p (pc' := 76) (p_aload_n 1 (k := 0) (by decide +kernel) rfl) ?_
            refine r_p (pc' := 77) (p_iload_n 0 (k := 2) (by decide +kernel) rfl) ?_
            refine r_p (pc' := 78) (p_iconst (n := 0) (v := 0) (by decide +kernel) rfl) ?_
            refine r_callVI mvX12_65 (ctX12_of a0 v15 0) (rcX12_of a0 v15 0) ⟨_, _, rfl⟩ (as := [vi v15, vi 0]) (st := [vi v1, vr a0]) rfl rfl (by decide +kernel) rfl (Nat.le_of_ble_eq_true rfl) (Nat.le_of_ble_eq_true rfl) fun v19 s => ?_
            refine r_callVI mvX12_149 (ctX12_inTool a0 v1 v19) (rcX12_inTool a0 v1 v19) ⟨_, _, rfl⟩ (as := [vi v1, vi v19]) (st := []) rfl rfl (by decide +kernel) rfl (Nat.le_of_ble_eq_true rfl) (Nat.le_of_ble_eq_true rfl) fun v20 s => ?_
            refine r_iflt (off := 5) (tgt := 89) (by decide +kernel) (by decide) (fun h21 => ?_) (fun h21 => ?_)
            · refine r_p (pc' := 90) (p_aload_n 1 (k := 0) (by decide +kernel) rfl) ?_
              refine r_p (pc' := 91) (p_iload_n 2 (k := 1) (by decide +kernel) rfl) ?_
              refine r_p (pc' := 92) (p_iload_n 0 (k := 2) (by decide +kernel) rfl) ?_
              refine r_callVU mvX12_152 (ctX12_puts a0 v1 v15) (rcX12_puts a0 v1 v15) ⟨_, _, rfl⟩ (as := [vi v1, vi v15]) (st := []) rfl rfl (by decide +kernel) rfl (Nat.le_of_ble_eq_true rfl) (Nat.le_of_ble_eq_true rfl) fun s => ?_
              refine r_p (pc' := 96) (p_aload_n 1 (k := 0) (by decide +kernel) rfl) ?_
              refine r_callVI mvX12_156 (ctX12_isFigure a0) (rcX12_isFigure a0) ⟨_, _, rfl⟩ (as := []) (st := []) rfl rfl (by decide +kernel) rfl (Nat.le_of_ble_eq_true rfl) (Nat.le_of_ble_eq_true rfl) fun v22 s => ?_
              refine r_ifne (off := -43) (tgt := 56) (by decide +kernel) (by decide) (fun h23 => ?_) (fun h23 => ?_)
              · refine r_sub (lv' := [(0, vr a0)]) [1] rfl ?_
                exact he14 ((.inr ())) _
              · refine r_sub (lv' := [(0, vr a0), (1, vi v1)]) [1, 2] rfl ?_
                exact hb13 () _
            · refine r_sub (lv' := []) [] rfl ?_
              exact he14 ((.inl ())) _
    · unfold mX12_readTool_L15
      refine r_p (pc' := 16) (p_iload_n 2 (k := 2) (by decide +kernel) rfl) ?_
      refine r_p (pc' := 17) (p_iconst (n := 3) (v := 3) (by decide +kernel) rfl) ?_
      refine r_icmpge (off := 24) (tgt := 41) (by decide +kernel) (by decide) (fun h7 => ?_) (fun h7 => ?_)
      · refine r_sub (lv' := [(0, vr a0), (1, vi v1)]) [0, 1] rfl ?_
        exact he6 () _
      · refine r_p (pc' := 21) (p_aload_n 0 (k := 0) (by decide +kernel) rfl) ?_
        refine r_gR flX12_13_11 (by decide +kernel) fun v8 => ?_
        refine r_p (pc' := 27) (p_sipush (n := 141) (v := 141) (by decide +kernel) (by decide +kernel)) ?_
        refine r_p (pc' := 28) (p_iconst (n := 4) (v := 4) (by decide +kernel) rfl) ?_
        refine r_p (pc' := 29) (p_iload_n 1 (k := 1) (by decide +kernel) rfl) ?_
        refine r_p (pc' := 30) (p_imul (by decide +kernel)) ?_
        refine r_p (pc' := 31) (p_iadd (by decide +kernel)) ?_
        refine r_p (pc' := 32) (p_iload_n 2 (k := 2) (by decide +kernel) rfl) ?_
        refine r_p (pc' := 33) (p_iadd (by decide +kernel)) ?_
        refine r_p (pc' := 34) (p_iconst (n := -1) (v := -1) (by decide +kernel) rfl) ?_
        refine r_stI0 (by decide +kernel) fun s => ?_
        refine r_p (pc' := 38) (p_iinc 2 (i := 2) (n := 1) (x := x3) (v := x3 + 1) (lv' := [(2, vi (x3 + 1)), (0, vr a0), (1, vi v1)]) (by decide +kernel) rfl rfl (Nat.le_of_ble_eq_true rfl) rfl) ?_
        refine r_p (pc' := 15) (p_goto (off := -23) (tgt := 15) (by decide +kernel) (by decide)) ?_
        refine r_sub (lv' := [(0, vr a0), (1, vi v1), (2, vi (x3 + 1))]) [1, 2, 0] rfl ?_
        exact hb5 (x3 + 1) _
