/-! PRINTED BY wip/whole/gen.py -/
def aX2_init : StA := (RX2, cX2_init, 1, none, yX2_init, 8, [])
theorem fpX2_9_2 : FP RX2 9 2 0 (.array .int) true := ⟨_, TX2, 4, "ToolCourt$Hearing", tyX2, rfl, by decide, Or.inl (tblG_of 203 (by decide +kernel) (by decide +kernel)), Or.inl rfl, tyX2_ok, nmX2, rfl, by decide, by decide +kernel⟩
theorem fpX2_15_2 : FP RX2 15 2 1 (.array .int) true := ⟨_, TX2, 4, "ToolCourt$Hearing", tyX2, rfl, by decide, Or.inl (tblG_of 204 (by decide +kernel) (by decide +kernel)), Or.inl rfl, tyX2_ok, nmX2, rfl, by decide, by decide +kernel⟩
theorem fpX2_18_2 : FP RX2 18 2 2 (.array .int) true := ⟨_, TX2, 4, "ToolCourt$Hearing", tyX2, rfl, by decide, Or.inl (tblG_of 205 (by decide +kernel) (by decide +kernel)), Or.inl rfl, tyX2_ok, nmX2, rfl, by decide, by decide +kernel⟩
theorem fpX2_21_2 : FP RX2 21 2 3 (.array .int) true := ⟨_, TX2, 4, "ToolCourt$Hearing", tyX2, rfl, by decide, Or.inl (tblG_of 206 (by decide +kernel) (by decide +kernel)), Or.inl rfl, tyX2_ok, nmX2, rfl, by decide, by decide +kernel⟩
noncomputable def mX2_init (a0 : Nat) : MM Unit := onC 2 a0 (
  mbnd (nwI 0 10) fun (v1 : Nat) =>
  mbnd (pR 2 0 a0 v1) fun _ =>
  mbnd (nwI 0 3) fun (v2 : Nat) =>
  mbnd (pR 2 1 a0 v2) fun _ =>
  mbnd (nwI 0 3) fun (v3 : Nat) =>
  mbnd (pR 2 2 a0 v3) fun _ =>
  mbnd (nwI 0 3) fun (v4 : Nat) =>
  mbnd (pR 2 3 a0 v4) fun _ =>
  mret ()
  )
theorem rcX2_init (a0 : Nat) : Rcv 2 a0 (mX2_init a0) := fun s r h => ⟨(onC_some h).1, (onC_some h).2.1⟩
set_option maxHeartbeats 4000000 in
set_option maxRecDepth 100000 in
theorem ctX2_init (a0 : Nat) : Ct aX2_init [vr a0] (mX2_init a0) rU := by
  unfold mX2_init
  refine ct_onC (ct_intro (by decide +kernel) rfl (Nat.le_of_ble_eq_true rfl) fun Y s => ?_)
  refine r_sub (lv' := [(0, vr a0)]) [0] rfl ?_
  refine r_p (pc' := 1) (p_aload_n 0 (k := 0) (by decide +kernel) rfl) ?_
  refine r_p (pc' := 4) (p_obj (idx := 3) (tblG_of 202 (by decide +kernel) (by decide +kernel)) (Nat.le_of_ble_eq_true rfl) (Nat.le_of_ble_eq_true rfl) (by decide +kernel)) ?_
  refine r_p (pc' := 5) (p_aload_n 0 (k := 0) (by decide +kernel) rfl) ?_
  refine r_p (pc' := 7) (p_bipush (n := 10) (v := 10) (by decide +kernel) (by decide +kernel)) ?_
  refine r_nwI (at9 := .int) (ty := .int) rfl (by decide) (by decide +kernel) fun v1 s => ?_
  refine r_pR fpX2_9_2 (fun _ => rfl) (Or.inr ⟨_, rfl⟩) (by decide +kernel) fun s => ?_
  refine r_p (pc' := 13) (p_aload_n 0 (k := 0) (by decide +kernel) rfl) ?_
  refine r_p (pc' := 14) (p_iconst (n := 3) (v := 3) (by decide +kernel) rfl) ?_
  refine r_nwI (at9 := .int) (ty := .int) rfl (by decide) (by decide +kernel) fun v2 s => ?_
  refine r_pR fpX2_15_2 (fun _ => rfl) (Or.inr ⟨_, rfl⟩) (by decide +kernel) fun s => ?_
  refine r_p (pc' := 20) (p_aload_n 0 (k := 0) (by decide +kernel) rfl) ?_
  refine r_p (pc' := 21) (p_iconst (n := 3) (v := 3) (by decide +kernel) rfl) ?_
  refine r_nwI (at9 := .int) (ty := .int) rfl (by decide) (by decide +kernel) fun v3 s => ?_
  refine r_pR fpX2_18_2 (fun _ => rfl) (Or.inr ⟨_, rfl⟩) (by decide +kernel) fun s => ?_
  refine r_p (pc' := 27) (p_aload_n 0 (k := 0) (by decide +kernel) rfl) ?_
  refine r_p (pc' := 28) (p_iconst (n := 3) (v := 3) (by decide +kernel) rfl) ?_
  refine r_nwI (at9 := .int) (ty := .int) rfl (by decide) (by decide +kernel) fun v4 s => ?_
  refine r_pR fpX2_21_2 (fun _ => rfl) (Or.inr ⟨_, rfl⟩) (by decide +kernel) fun s => ?_
  exact r_vret (y9 := ()) rfl rfl rfl (by decide +kernel)
def aX2_layOut : StA := (RX2, cX2_layOut, 6, none, yX2_layOut, 10, [])
theorem flX2_9_2 : FL RX2 9 2 0 := ⟨_, TX2, 4, "ToolCourt$Hearing", rfl, by decide, Or.inl (tblG_of 203 (by decide +kernel) (by decide +kernel)), Or.inl rfl⟩
theorem flX2_61_1 : FL RX2 61 1 0 := ⟨_, TX1, 13, "ToolCourt$Court", rfl, by decide, Or.inr ⟨"ToolCourt", List.mem_of_getElem? (i := 344) (by decide +kernel)⟩, Or.inl rfl⟩
theorem mvX2_52 : MV RX2 52 aX8_get 2 := ⟨tblG_of 648 (by decide +kernel) (by decide +kernel), tblG_of 582 (by decide +kernel) (by decide +kernel), tblG_of 583 (by decide +kernel) (by decide +kernel), tblG_of 152 (by decide +kernel) (by decide +kernel), tblG_of 584 (by decide +kernel) (by decide +kernel), rfl, ⟨by decide, by decide⟩, by decide +kernel, by decide⟩
theorem mvX2_40 : MV RX2 40 aX1_guiltOf 1 := ⟨tblG_of 639 (by decide +kernel) (by decide +kernel), tblG_of 586 (by decide +kernel) (by decide +kernel), tblG_of 587 (by decide +kernel) (by decide +kernel), tblG_of 151 (by decide +kernel) (by decide +kernel), tblG_of 588 (by decide +kernel) (by decide +kernel), rfl, ⟨by decide, by decide⟩, by decide +kernel, by decide⟩
theorem flX2_64_1 : FL RX2 64 1 8 := ⟨_, TX1, 13, "ToolCourt$Court", rfl, by decide, Or.inr ⟨"ToolCourt", List.mem_of_getElem? (i := 367) (by decide +kernel)⟩, Or.inl rfl⟩
noncomputable def mX2_layOut (a0 : Nat) (a1 : Nat) (a2 : Int32) (a3 : Int32) (a4 : Int32) (a5 : Int32) : MM Unit := onC 2 a0 (
  mbnd (gR 2 0 a0) fun (v1 : Nat) =>
  mbnd (gR 1 0 a1) fun (v2 : Nat) =>
  mbnd (mX8_get v2 a2 1) fun (v3 : Int32) =>
  mbnd (stI 0 v1 0 v3) fun _ =>
  mbnd (gR 2 0 a0) fun (v4 : Nat) =>
  mbnd (gR 1 0 a1) fun (v5 : Nat) =>
  mbnd (mX8_get v5 a2 2) fun (v6 : Int32) =>
  mbnd (stI 0 v4 1 v6) fun _ =>
  mbnd (gR 2 0 a0) fun (v7 : Nat) =>
  mbnd (mX1_guiltOf a1 a2) fun (v8 : Int32) =>
  mbnd (stI 0 v7 2 v8) fun _ =>
  mbnd (gR 2 0 a0) fun (v9 : Nat) =>
  mbnd (stI 0 v9 3 a4) fun _ =>
  mbnd (gR 2 0 a0) fun (v10 : Nat) =>
  mbnd (stI 0 v10 4 a5) fun _ =>
  mbnd (gR 2 0 a0) fun (v11 : Nat) =>
  mbnd (stI 0 v11 5 a3) fun _ =>
  mbnd (gR 2 0 a0) fun (v12 : Nat) =>
  mbnd (gI 1 8 a1) fun (v13 : Int32) =>
  mbnd (stI 0 v12 6 v13) fun _ =>
  mbnd (gR 2 0 a0) fun (v14 : Nat) =>
  mbnd (gR 1 0 a1) fun (v15 : Nat) =>
  mbnd (mX8_get v15 a2 6) fun (v16 : Int32) =>
  mbnd (stI 0 v14 7 (imax 0 v16)) fun _ =>
  mbnd (gR 2 0 a0) fun (v17 : Nat) =>
  mbnd (gR 1 0 a1) fun (v18 : Nat) =>
  mbnd (mX8_get v18 a2 0) fun (v19 : Int32) =>
  mbnd (stI 0 v17 8 v19) fun _ =>
  mbnd (gR 2 0 a0) fun (v20 : Nat) =>
  mbnd (gR 1 0 a1) fun (v21 : Nat) =>
  mbnd (mX8_get v21 a2 4) fun (v22 : Int32) =>
  mbnd (stI 0 v20 9 v22) fun _ =>
  mret ()
  )
theorem rcX2_layOut (a0 : Nat) (a1 : Nat) (a2 : Int32) (a3 : Int32) (a4 : Int32) (a5 : Int32) : Rcv 2 a0 (mX2_layOut a0 a1 a2 a3 a4 a5) := fun s r h => ⟨(onC_some h).1, (onC_some h).2.1⟩
set_option maxHeartbeats 4000000 in
set_option maxRecDepth 100000 in
theorem ctX2_layOut (a0 : Nat) (a1 : Nat) (a2 : Int32) (a3 : Int32) (a4 : Int32) (a5 : Int32) : Ct aX2_layOut [vr a0, vr a1, vi a2, vi a3, vi a4, vi a5] (mX2_layOut a0 a1 a2 a3 a4 a5) rU := by
  unfold mX2_layOut
  refine ct_onC (ct_intro (by decide +kernel) rfl (Nat.le_of_ble_eq_true rfl) fun Y s => ?_)
  refine r_sub (lv' := [(0, vr a0), (1, vr a1), (2, vi a2), (3, vi a3), (4, vi a4), (5, vi a5)]) [0, 1, 2, 3, 4, 5] rfl ?_
  refine r_p (pc' := 1) (p_aload_n 0 (k := 0) (by decide +kernel) rfl) ?_
  refine r_gR flX2_9_2 (by decide +kernel) fun v1 => ?_
  refine r_p (pc' := 5) (p_iconst (n := 0) (v := 0) (by decide +kernel) rfl) ?_
  refine r_p (pc' := 6) (p_aload_n 1 (k := 1) (by decide +kernel) rfl) ?_
  refine r_gR flX2_61_1 (by decide +kernel) fun v2 => ?_
  refine r_p (pc' := 10) (p_iload_n 2 (k := 2) (by decide +kernel) rfl) ?_
  refine r_p (pc' := 11) (p_iconst (n := 1) (v := 1) (by decide +kernel) rfl) ?_
  refine r_callVI mvX2_52 (ctX8_get v2 a2 1) (rcX8_get v2 a2 1) ⟨_, _, rfl⟩ (as := [vi a2, vi 1]) (st := [vi 0, vr v1]) rfl rfl (by decide +kernel) rfl (Nat.le_of_ble_eq_true rfl) (Nat.le_of_ble_eq_true rfl) fun v3 s => ?_
  refine r_stI0 (by decide +kernel) fun s => ?_
  refine r_p (pc' := 16) (p_aload_n 0 (k := 0) (by decide +kernel) rfl) ?_
  refine r_gR flX2_9_2 (by decide +kernel) fun v4 => ?_
  refine r_p (pc' := 20) (p_iconst (n := 1) (v := 1) (by decide +kernel) rfl) ?_
  refine r_p (pc' := 21) (p_aload_n 1 (k := 1) (by decide +kernel) rfl) ?_
  refine r_gR flX2_61_1 (by decide +kernel) fun v5 => ?_
  refine r_p (pc' := 25) (p_iload_n 2 (k := 2) (by decide +kernel) rfl) ?_
  refine r_p (pc' := 26) (p_iconst (n := 2) (v := 2) (by decide +kernel) rfl) ?_
  refine r_callVI mvX2_52 (ctX8_get v5 a2 2) (rcX8_get v5 a2 2) ⟨_, _, rfl⟩ (as := [vi a2, vi 2]) (st := [vi 1, vr v4]) rfl rfl (by decide +kernel) rfl (Nat.le_of_ble_eq_true rfl) (Nat.le_of_ble_eq_true rfl) fun v6 s => ?_
  refine r_stI0 (by decide +kernel) fun s => ?_
  refine r_p (pc' := 31) (p_aload_n 0 (k := 0) (by decide +kernel) rfl) ?_
  refine r_gR flX2_9_2 (by decide +kernel) fun v7 => ?_
  refine r_p (pc' := 35) (p_iconst (n := 2) (v := 2) (by decide +kernel) rfl) ?_
  refine r_p (pc' := 36) (p_aload_n 1 (k := 1) (by decide +kernel) rfl) ?_
  refine r_p (pc' := 37) (p_iload_n 2 (k := 2) (by decide +kernel) rfl) ?_
  refine r_callVI mvX2_40 (ctX1_guiltOf a1 a2) (rcX1_guiltOf a1 a2) ⟨_, _, rfl⟩ (as := [vi a2]) (st := [vi 2, vr v7]) rfl rfl (by decide +kernel) rfl (Nat.le_of_ble_eq_true rfl) (Nat.le_of_ble_eq_true rfl) fun v8 s => ?_
  refine r_stI0 (by decide +kernel) fun s => ?_
  refine r_p (pc' := 42) (p_aload_n 0 (k := 0) (by decide +kernel) rfl) ?_
  refine r_gR flX2_9_2 (by decide +kernel) fun v9 => ?_
  refine r_p (pc' := 46) (p_iconst (n := 3) (v := 3) (by decide +kernel) rfl) ?_
  refine r_p (pc' := 48) (p_iload 4 (i := 4) (by decide +kernel) rfl) ?_
  refine r_stI0 (by decide +kernel) fun s => ?_
  refine r_p (pc' := 50) (p_aload_n 0 (k := 0) (by decide +kernel) rfl) ?_
  refine r_gR flX2_9_2 (by decide +kernel) fun v10 => ?_
  refine r_p (pc' := 54) (p_iconst (n := 4) (v := 4) (by decide +kernel) rfl) ?_
  refine r_p (pc' := 56) (p_iload 5 (i := 5) (by decide +kernel) rfl) ?_
  refine r_stI0 (by decide +kernel) fun s => ?_
  refine r_p (pc' := 58) (p_aload_n 0 (k := 0) (by decide +kernel) rfl) ?_
  refine r_gR flX2_9_2 (by decide +kernel) fun v11 => ?_
  refine r_p (pc' := 62) (p_iconst (n := 5) (v := 5) (by decide +kernel) rfl) ?_
  refine r_p (pc' := 63) (p_iload_n 3 (k := 3) (by decide +kernel) rfl) ?_
  refine r_stI0 (by decide +kernel) fun s => ?_
  refine r_p (pc' := 65) (p_aload_n 0 (k := 0) (by decide +kernel) rfl) ?_
  refine r_gR flX2_9_2 (by decide +kernel) fun v12 => ?_
  refine r_p (pc' := 70) (p_bipush (n := 6) (v := 6) (by decide +kernel) (by decide +kernel)) ?_
  refine r_p (pc' := 71) (p_aload_n 1 (k := 1) (by decide +kernel) rfl) ?_
  refine r_gI flX2_64_1 (by decide +kernel) fun v13 => ?_
  refine r_stI0 (by decide +kernel) fun s => ?_
  refine r_p (pc' := 76) (p_aload_n 0 (k := 0) (by decide +kernel) rfl) ?_
  refine r_gR flX2_9_2 (by decide +kernel) fun v14 => ?_
  refine r_p (pc' := 81) (p_bipush (n := 7) (v := 7) (by decide +kernel) (by decide +kernel)) ?_
  refine r_p (pc' := 82) (p_iconst (n := 0) (v := 0) (by decide +kernel) rfl) ?_
  refine r_p (pc' := 83) (p_aload_n 1 (k := 1) (by decide +kernel) rfl) ?_
  refine r_gR flX2_61_1 (by decide +kernel) fun v15 => ?_
  refine r_p (pc' := 87) (p_iload_n 2 (k := 2) (by decide +kernel) rfl) ?_
  refine r_p (pc' := 89) (p_bipush (n := 6) (v := 6) (by decide +kernel) (by decide +kernel)) ?_
  refine r_callVI mvX2_52 (ctX8_get v15 a2 6) (rcX8_get v15 a2 6) ⟨_, _, rfl⟩ (as := [vi a2, vi 6]) (st := [vi 0, vi 7, vr v14]) rfl rfl (by decide +kernel) rfl (Nat.le_of_ble_eq_true rfl) (Nat.le_of_ble_eq_true rfl) fun v16 s => ?_
  refine r_p (pc' := 95) (p_max (idx := 68) (tblG_of 649 (by decide +kernel) (by decide +kernel)) (Nat.le_of_ble_eq_true rfl) (Nat.le_of_ble_eq_true rfl) (by decide +kernel)) ?_
  refine r_stI0 (by decide +kernel) fun s => ?_
  refine r_p (pc' := 97) (p_aload_n 0 (k := 0) (by decide +kernel) rfl) ?_
  refine r_gR flX2_9_2 (by decide +kernel) fun v17 => ?_
  refine r_p (pc' := 102) (p_bipush (n := 8) (v := 8) (by decide +kernel) (by decide +kernel)) ?_
  refine r_p (pc' := 103) (p_aload_n 1 (k := 1) (by decide +kernel) rfl) ?_
  refine r_gR flX2_61_1 (by decide +kernel) fun v18 => ?_
  refine r_p (pc' := 107) (p_iload_n 2 (k := 2) (by decide +kernel) rfl) ?_
  refine r_p (pc' := 108) (p_iconst (n := 0) (v := 0) (by decide +kernel) rfl) ?_
  refine r_callVI mvX2_52 (ctX8_get v18 a2 0) (rcX8_get v18 a2 0) ⟨_, _, rfl⟩ (as := [vi a2, vi 0]) (st := [vi 8, vr v17]) rfl rfl (by decide +kernel) rfl (Nat.le_of_ble_eq_true rfl) (Nat.le_of_ble_eq_true rfl) fun v19 s => ?_
  refine r_stI0 (by decide +kernel) fun s => ?_
  refine r_p (pc' := 113) (p_aload_n 0 (k := 0) (by decide +kernel) rfl) ?_
  refine r_gR flX2_9_2 (by decide +kernel) fun v20 => ?_
  refine r_p (pc' := 118) (p_bipush (n := 9) (v := 9) (by decide +kernel) (by decide +kernel)) ?_
  refine r_p (pc' := 119) (p_aload_n 1 (k := 1) (by decide +kernel) rfl) ?_
  refine r_gR flX2_61_1 (by decide +kernel) fun v21 => ?_
  refine r_p (pc' := 123) (p_iload_n 2 (k := 2) (by decide +kernel) rfl) ?_
  refine r_p (pc' := 124) (p_iconst (n := 4) (v := 4) (by decide +kernel) rfl) ?_
  refine r_callVI mvX2_52 (ctX8_get v21 a2 4) (rcX8_get v21 a2 4) ⟨_, _, rfl⟩ (as := [vi a2, vi 4]) (st := [vi 9, vr v20]) rfl rfl (by decide +kernel) rfl (Nat.le_of_ble_eq_true rfl) (Nat.le_of_ble_eq_true rfl) fun v22 s => ?_
  refine r_stI0 (by decide +kernel) fun s => ?_
  exact r_vret (y9 := ()) rfl rfl rfl (by decide +kernel)
def aX2_told : StA := (RX2, cX2_told, 4, some .int, yX2_told, 11, [])
theorem mvX2_24 : MV RX2 24 aX2_layOut 5 := ⟨tblG_of 644 (by decide +kernel) (by decide +kernel), tblG_of 646 (by decide +kernel) (by decide +kernel), tblG_of 3 (by decide +kernel) (by decide +kernel), tblG_of 146 (by decide +kernel) (by decide +kernel), tblG_of 647 (by decide +kernel) (by decide +kernel), rfl, ⟨by decide, by decide⟩, by decide +kernel, by decide⟩
theorem flX2_28_1 : FL RX2 28 1 6 := ⟨_, TX1, 13, "ToolCourt$Court", rfl, by decide, Or.inr ⟨"ToolCourt", List.mem_of_getElem? (i := 361) (by decide +kernel)⟩, Or.inl rfl⟩
theorem mvX2_34 : MV RX2 34 aX4_total 2 := ⟨tblG_of 650 (by decide +kernel) (by decide +kernel), tblG_of 651 (by decide +kernel) (by decide +kernel), tblG_of 652 (by decide +kernel) (by decide +kernel), tblG_of 150 (by decide +kernel) (by decide +kernel), tblG_of 653 (by decide +kernel) (by decide +kernel), rfl, ⟨by decide, by decide⟩, by decide +kernel, by decide⟩
noncomputable def mX2_told (a0 : Nat) (a1 : Nat) (a2 : Int32) (a3 : Int32) : MM Int32 := onC 2 a0 (
  mbnd (mX2_layOut a0 a1 a2 0 0 0) fun _ =>
  mbnd (gR 1 6 a1) fun (v1 : Nat) =>
  mbnd (gR 2 0 a0) fun (v2 : Nat) =>
  mbnd (mX4_total v1 a3 v2) fun (v3 : Int32) =>
  mret v3
  )
theorem rcX2_told (a0 : Nat) (a1 : Nat) (a2 : Int32) (a3 : Int32) : Rcv 2 a0 (mX2_told a0 a1 a2 a3) := fun s r h => ⟨(onC_some h).1, (onC_some h).2.1⟩
set_option maxHeartbeats 4000000 in
set_option maxRecDepth 100000 in
theorem ctX2_told (a0 : Nat) (a1 : Nat) (a2 : Int32) (a3 : Int32) : Ct aX2_told [vr a0, vr a1, vi a2, vi a3] (mX2_told a0 a1 a2 a3) rI := by
  unfold mX2_told
  refine ct_onC (ct_intro (by decide +kernel) rfl (Nat.le_of_ble_eq_true rfl) fun Y s => ?_)
  refine r_sub (lv' := [(0, vr a0), (1, vr a1), (2, vi a2), (3, vi a3)]) [0, 1, 2, 3] rfl ?_
  refine r_p (pc' := 1) (p_aload_n 0 (k := 0) (by decide +kernel) rfl) ?_
  refine r_p (pc' := 2) (p_aload_n 1 (k := 1) (by decide +kernel) rfl) ?_
  refine r_p (pc' := 3) (p_iload_n 2 (k := 2) (by decide +kernel) rfl) ?_
  refine r_p (pc' := 4) (p_iconst (n := 0) (v := 0) (by decide +kernel) rfl) ?_
  refine r_p (pc' := 5) (p_iconst (n := 0) (v := 0) (by decide +kernel) rfl) ?_
  refine r_p (pc' := 6) (p_iconst (n := 0) (v := 0) (by decide +kernel) rfl) ?_
  refine r_callVU mvX2_24 (ctX2_layOut a0 a1 a2 0 0 0) (rcX2_layOut a0 a1 a2 0 0 0) ⟨_, _, rfl⟩ (as := [vr a1, vi a2, vi 0, vi 0, vi 0]) (st := []) rfl rfl (by decide +kernel) rfl (Nat.le_of_ble_eq_true rfl) (Nat.le_of_ble_eq_true rfl) fun s => ?_
  refine r_p (pc' := 10) (p_aload_n 1 (k := 1) (by decide +kernel) rfl) ?_
  refine r_gR flX2_28_1 (by decide +kernel) fun v1 => ?_
  refine r_p (pc' := 14) (p_iload_n 3 (k := 3) (by decide +kernel) rfl) ?_
  refine r_p (pc' := 15) (p_aload_n 0 (k := 0) (by decide +kernel) rfl) ?_
  refine r_gR flX2_9_2 (by decide +kernel) fun v2 => ?_
  refine r_callVI mvX2_34 (ctX4_total v1 a3 v2) (rcX4_total v1 a3 v2) ⟨_, _, rfl⟩ (as := [vi a3, vr v2]) (st := []) rfl rfl (by decide +kernel) rfl (Nat.le_of_ble_eq_true rfl) (Nat.le_of_ble_eq_true rfl) fun v3 s => ?_
  exact r_iret rfl rfl _ rfl rfl (by decide +kernel)
def aX2_hearGuilt : StA := (RX2, cX2_hearGuilt, 9, none, yX2_hearGuilt, 11, [])
theorem flX2_48_1 : FL RX2 48 1 1 := ⟨_, TX1, 13, "ToolCourt$Court", rfl, by decide, Or.inr ⟨"ToolCourt", List.mem_of_getElem? (i := 348) (by decide +kernel)⟩, Or.inl rfl⟩
theorem flX2_15_2 : FL RX2 15 2 1 := ⟨_, TX2, 4, "ToolCourt$Hearing", rfl, by decide, Or.inl (tblG_of 204 (by decide +kernel) (by decide +kernel)), Or.inl rfl⟩
theorem flX2_18_2 : FL RX2 18 2 2 := ⟨_, TX2, 4, "ToolCourt$Hearing", rfl, by decide, Or.inl (tblG_of 205 (by decide +kernel) (by decide +kernel)), Or.inl rfl⟩
noncomputable def mX2_hearGuilt_L3 (a0 : Nat) (a1 : Nat) (a2 : Int32) (a3 : Int32) (a4 : Int32) (a5 : Int32) (x1 : Int32) : MM ((Int32) ⊕ (Unit)) :=
  if 3 ≤ x1 then (
    mret (.inr ())
  ) else (
    mbnd (gR 1 1 a1) fun (v6 : Nat) =>
    mbnd (mX8_get v6 a2 x1) fun (v7 : Int32) =>
    mbnd (α := Int32) (
      if v7 = (-1) then (
        mret 0
      ) else (
        mret 1
      )
    ) fun (x9 : Int32) =>
    mbnd (mX2_layOut a0 a1 v7 a3 a4 a5) fun _ =>
    mbnd (gR 2 1 a0) fun (v12 : Nat) =>
    mbnd (α := Int32) (
      if x9 = 0 then (
        mret 0
      ) else (
        mbnd (gR 1 6 a1) fun (v17 : Nat) =>
        mbnd (gR 2 0 a0) fun (v18 : Nat) =>
        mbnd (mX4_total v17 0 v18) fun (v19 : Int32) =>
        mret v19
      )
    ) fun (x14 : Int32) =>
    mbnd (stI 0 v12 x1 x14) fun _ =>
    mbnd (gR 2 2 a0) fun (v20 : Nat) =>
    mbnd (α := Int32) (
      if x9 = 0 then (
        mret 0
      ) else (
        mbnd (gR 1 6 a1) fun (v25 : Nat) =>
        mbnd (gR 2 0 a0) fun (v26 : Nat) =>
        mbnd (mX4_total v25 1 v26) fun (v27 : Int32) =>
        mret v27
      )
    ) fun (x22 : Int32) =>
    mbnd (stI 0 v20 x1 x22) fun _ =>
    mret (.inl (x1 + 1))
  )
noncomputable def mX2_hearGuilt (a0 : Nat) (a1 : Nat) (a2 : Int32) (a3 : Int32) (a4 : Int32) (a5 : Int32) : MM Unit := onC 2 a0 (
  mbnd (loopM (mX2_hearGuilt_L3 a0 a1 a2 a3 a4 a5) 0) fun (e28 : Unit) =>
  mret ()
  )
theorem rcX2_hearGuilt (a0 : Nat) (a1 : Nat) (a2 : Int32) (a3 : Int32) (a4 : Int32) (a5 : Int32) : Rcv 2 a0 (mX2_hearGuilt a0 a1 a2 a3 a4 a5) := fun s r h => ⟨(onC_some h).1, (onC_some h).2.1⟩
set_option maxHeartbeats 4000000 in
set_option maxRecDepth 100000 in
theorem ctX2_hearGuilt (a0 : Nat) (a1 : Nat) (a2 : Int32) (a3 : Int32) (a4 : Int32) (a5 : Int32) : Ct aX2_hearGuilt [vr a0, vr a1, vi a2, vi a3, vi a4, vi a5] (mX2_hearGuilt a0 a1 a2 a3 a4 a5) rU := by
  unfold mX2_hearGuilt
  refine ct_onC (ct_intro (by decide +kernel) rfl (Nat.le_of_ble_eq_true rfl) fun Y s => ?_)
  refine r_sub (lv' := [(0, vr a0), (1, vr a1), (2, vi a2), (3, vi a3), (4, vi a4), (5, vi a5)]) [0, 1, 2, 3, 4, 5] rfl ?_
  refine r_p (pc' := 1) (p_iconst (n := 0) (v := 0) (by decide +kernel) rfl) ?_
  refine r_p (pc' := 3) (p_istore (i := 6) (lv' := [(6, vi 0), (0, vr a0), (1, vr a1), (2, vi a2), (3, vi a3), (4, vi a4), (5, vi a5)]) (by decide +kernel) (Nat.le_of_ble_eq_true rfl) rfl) ?_
  refine r_sub (lv' := [(0, vr a0), (1, vr a1), (2, vi a2), (3, vi a3), (4, vi a4), (5, vi a5), (6, vi 0)]) [1, 2, 3, 4, 5, 6, 0] rfl ?_
  refine r_loop2 (fun _ => 108) (fun (e28 : Unit) => []) (fun (x1 : Int32) => [(0, vr a0), (1, vr a1), (2, vi a2), (3, vi a3), (4, vi a4), (5, vi a5), (6, vi x1)]) (fun e28 s => ?_) (fun K2 hb3 he4 x1 s => ?_) 0 _
  · exact r_vret (y9 := ()) rfl rfl rfl (by decide +kernel)
  · unfold mX2_hearGuilt_L3
    refine r_p (pc' := 5) (p_iload 6 (i := 6) (by decide +kernel) rfl) ?_
    refine r_p (pc' := 6) (p_iconst (n := 3) (v := 3) (by decide +kernel) rfl) ?_
    refine r_icmpge (off := 102) (tgt := 108) (by decide +kernel) (by decide) (fun h5 => ?_) (fun h5 => ?_)
    · refine r_sub (lv' := []) [] rfl ?_
      exact he4 () _
    · refine r_p (pc' := 10) (p_aload_n 1 (k := 1) (by decide +kernel) rfl) ?_
      refine r_gR flX2_48_1 (by decide +kernel) fun v6 => ?_
      refine r_p (pc' := 14) (p_iload_n 2 (k := 2) (by decide +kernel) rfl) ?_
      refine r_p (pc' := 16) (p_iload 6 (i := 6) (by decide +kernel) rfl) ?_
      refine r_callVI mvX2_52 (ctX8_get v6 a2 x1) (rcX8_get v6 a2 x1) ⟨_, _, rfl⟩ (as := [vi a2, vi x1]) (st := []) rfl rfl (by decide +kernel) rfl (Nat.le_of_ble_eq_true rfl) (Nat.le_of_ble_eq_true rfl) fun v7 s => ?_
      refine r_p (pc' := 21) (p_istore (i := 7) (lv' := [(7, vi v7), (0, vr a0), (1, vr a1), (2, vi a2), (3, vi a3), (4, vi a4), (5, vi a5), (6, vi x1)]) (by decide +kernel) (Nat.le_of_ble_eq_true rfl) rfl) ?_
      refine r_p (pc' := 23) (p_iload 0 (i := 7) (by decide +kernel) rfl) ?_
      refine r_p (pc' := 24) (p_iconst (n := -1) (v := -1) (by decide +kernel) rfl) ?_
      refine r_join 32 (fun (x9 : Int32) => [(0, vr a0), (1, vr a1), (2, vi a2), (3, vi a3), (4, vi a4), (5, vi a5), (6, vi x1), (7, vi v7)]) (fun (x9 : Int32) => [vi x9]) (fun x9 s => ?_) (fun K10 hj11 => ?_)
      · refine r_p (pc' := 34) (p_istore (i := 8) (lv' := [(8, vi x9), (0, vr a0), (1, vr a1), (2, vi a2), (3, vi a3), (4, vi a4), (5, vi a5), (6, vi x1), (7, vi v7)]) (by decide +kernel) (Nat.le_of_ble_eq_true rfl) rfl) ?_
        refine r_p (pc' := 35) (p_aload_n 1 (k := 0) (by decide +kernel) rfl) ?_
        refine r_p (pc' := 36) (p_aload_n 2 (k := 1) (by decide +kernel) rfl) ?_
        refine r_p (pc' := 38) (p_iload 8 (i := 7) (by decide +kernel) rfl) ?_
        refine r_p (pc' := 39) (p_iload_n 4 (k := 3) (by decide +kernel) rfl) ?_
        refine r_p (pc' := 41) (p_iload 5 (i := 4) (by decide +kernel) rfl) ?_
        refine r_p (pc' := 43) (p_iload 6 (i := 5) (by decide +kernel) rfl) ?_
        refine r_callVU mvX2_24 (ctX2_layOut a0 a1 v7 a3 a4 a5) (rcX2_layOut a0 a1 v7 a3 a4 a5) ⟨_, _, rfl⟩ (as := [vr a1, vi v7, vi a3, vi a4, vi a5]) (st := []) rfl rfl (by decide +kernel) rfl (Nat.le_of_ble_eq_true rfl) (Nat.le_of_ble_eq_true rfl) fun s => ?_
        refine r_p (pc' := 47) (p_aload_n 1 (k := 0) (by decide +kernel) rfl) ?_
        refine r_gR flX2_15_2 (by decide +kernel) fun v12 => ?_
        refine r_p (pc' := 52) (p_iload 7 (i := 6) (by decide +kernel) rfl) ?_
        refine r_p (pc' := 54) (p_iload 0 (i := 8) (by decide +kernel) rfl) ?_
        refine r_join 73 (fun (x14 : Int32) => [(0, vr a0), (1, vr a1), (2, vi a2), (3, vi a3), (4, vi a4), (5, vi a5), (6, vi x1), (8, vi x9)]) (fun (x14 : Int32) => [vi x14, vi x1, vr v12]) (fun x14 s => ?_) (fun K15 hj16 => ?_)
        · refine r_stI0 (by decide +kernel) fun s => ?_
          refine r_p (pc' := 75) (p_aload_n 0 (k := 0) (by decide +kernel) rfl) ?_
          refine r_gR flX2_18_2 (by decide +kernel) fun v20 => ?_
          refine r_p (pc' := 80) (p_iload 6 (i := 6) (by decide +kernel) rfl) ?_
          refine r_p (pc' := 82) (p_iload 7 (i := 8) (by decide +kernel) rfl) ?_
          refine r_join 101 (fun (x22 : Int32) => [(0, vr a0), (1, vr a1), (2, vi a2), (3, vi a3), (4, vi a4), (5, vi a5), (6, vi x1)]) (fun (x22 : Int32) => [vi x22, vi x1, vr v20]) (fun x22 s => ?_) (fun K23 hj24 => ?_)
          · refine r_stI0 (by decide +kernel) fun s => ?_
            refine r_p (pc' := 105) (p_iinc 6 (i := 6) (n := 1) (x := x1) (v := x1 + 1) (lv' := [(6, vi (x1 + 1)), (0, vr a0), (1, vr a1), (2, vi a2), (3, vi a3), (4, vi a4), (5, vi a5)]) (by decide +kernel) rfl rfl (Nat.le_of_ble_eq_true rfl) rfl) ?_
            refine r_p (pc' := 3) (p_goto (off := -102) (tgt := 3) (by decide +kernel) (by decide)) ?_
            refine r_sub (lv' := [(0, vr a0), (1, vr a1), (2, vi a2), (3, vi a3), (4, vi a4), (5, vi a5), (6, vi (x1 + 1))]) [1, 2, 3, 4, 5, 6, 0] rfl ?_
            exact hb3 (x1 + 1) _
          · refine r_ifeq (off := 18) (tgt := 100) (by decide +kernel) (by decide) (fun h21 => ?_) (fun h21 => ?_)
            · refine r_p (pc' := 101) (p_iconst (n := 0) (v := 0) (by decide +kernel) rfl) ?_
              refine r_sub (lv' := [(0, vr a0), (1, vr a1), (2, vi a2), (3, vi a3), (4, vi a4), (5, vi a5), (6, vi x1)]) [0, 1, 2, 3, 4, 5, 6] rfl ?_
              exact hj24 0 _
            · refine r_p (pc' := 86) (p_aload_n 1 (k := 1) (by decide +kernel) rfl) ?_
              refine r_gR flX2_28_1 (by decide +kernel) fun v25 => ?_
              refine r_p (pc' := 90) (p_iconst (n := 1) (v := 1) (by decide +kernel) rfl) ?_
              refine r_p (pc' := 91) (p_aload_n 0 (k := 0) (by decide +kernel) rfl) ?_
              refine r_gR flX2_9_2 (by decide +kernel) fun v26 => ?_
              refine r_callVI mvX2_34 (ctX4_total v25 1 v26) (rcX4_total v25 1 v26) ⟨_, _, rfl⟩ (as := [vi 1, vr v26]) (st := [vi x1, vr v20]) rfl rfl (by decide +kernel) rfl (Nat.le_of_ble_eq_true rfl) (Nat.le_of_ble_eq_true rfl) fun v27 s => ?_
              refine r_p (pc' := 101) (p_goto (off := 4) (tgt := 101) (by decide +kernel) (by decide)) ?_
              refine r_sub (lv' := [(0, vr a0), (1, vr a1), (2, vi a2), (3, vi a3), (4, vi a4), (5, vi a5), (6, vi x1)]) [0, 1, 2, 3, 4, 5, 6] rfl ?_
              exact hj24 v27 _
        · refine r_ifeq (off := 18) (tgt := 72) (by decide +kernel) (by decide) (fun h13 => ?_) (fun h13 => ?_)
          · refine r_p (pc' := 73) (p_iconst (n := 0) (v := 0) (by decide +kernel) rfl) ?_
            refine r_sub (lv' := [(0, vr a0), (1, vr a1), (2, vi a2), (3, vi a3), (4, vi a4), (5, vi a5), (6, vi x1), (8, vi x9)]) [1, 2, 3, 4, 5, 6, 7, 0] rfl ?_
            exact hj16 0 _
          · refine r_p (pc' := 58) (p_aload_n 2 (k := 1) (by decide +kernel) rfl) ?_
            refine r_gR flX2_28_1 (by decide +kernel) fun v17 => ?_
            refine r_p (pc' := 62) (p_iconst (n := 0) (v := 0) (by decide +kernel) rfl) ?_
            refine r_p (pc' := 63) (p_aload_n 1 (k := 0) (by decide +kernel) rfl) ?_
            refine r_gR flX2_9_2 (by decide +kernel) fun v18 => ?_
            refine r_callVI mvX2_34 (ctX4_total v17 0 v18) (rcX4_total v17 0 v18) ⟨_, _, rfl⟩ (as := [vi 0, vr v18]) (st := [vi x1, vr v12]) rfl rfl (by decide +kernel) rfl (Nat.le_of_ble_eq_true rfl) (Nat.le_of_ble_eq_true rfl) fun v19 s => ?_
            refine r_p (pc' := 73) (p_goto (off := 4) (tgt := 73) (by decide +kernel) (by decide)) ?_
            refine r_sub (lv' := [(0, vr a0), (1, vr a1), (2, vi a2), (3, vi a3), (4, vi a4), (5, vi a5), (6, vi x1), (8, vi x9)]) [1, 2, 3, 4, 5, 6, 7, 0] rfl ?_
            exact hj16 v19 _
      · refine r_icmpeq (off := 7) (tgt := 31) (by decide +kernel) (by decide) (fun h8 => ?_) (fun h8 => ?_)
        · refine r_p (pc' := 32) (p_iconst (n := 0) (v := 0) (by decide +kernel) rfl) ?_
          refine r_sub (lv' := [(0, vr a0), (1, vr a1), (2, vi a2), (3, vi a3), (4, vi a4), (5, vi a5), (6, vi x1), (7, vi v7)]) [1, 2, 3, 4, 5, 6, 7, 0] rfl ?_
          exact hj11 0 _
        · refine r_p (pc' := 28) (p_iconst (n := 1) (v := 1) (by decide +kernel) rfl) ?_
          refine r_p (pc' := 32) (p_goto (off := 4) (tgt := 32) (by decide +kernel) (by decide)) ?_
          refine r_sub (lv' := [(0, vr a0), (1, vr a1), (2, vi a2), (3, vi a3), (4, vi a4), (5, vi a5), (6, vi x1), (7, vi v7)]) [1, 2, 3, 4, 5, 6, 7, 0] rfl ?_
          exact hj11 1 _
def aX2_hearWear : StA := (RX2, cX2_hearWear, 8, none, yX2_hearWear, 11, [])
theorem flX2_21_2 : FL RX2 21 2 3 := ⟨_, TX2, 4, "ToolCourt$Hearing", rfl, by decide, Or.inl (tblG_of 206 (by decide +kernel) (by decide +kernel)), Or.inl rfl⟩
noncomputable def mX2_hearWear_L3 (a0 : Nat) (a1 : Nat) (a2 : Int32) (a3 : Int32) (a4 : Int32) (a5 : Int32) (x1 : Int32) : MM ((Int32) ⊕ (Unit)) :=
  if 3 ≤ x1 then (
    mret (.inr ())
  ) else (
    mbnd (gR 1 1 a1) fun (v6 : Nat) =>
    mbnd (mX8_get v6 a2 x1) fun (v7 : Int32) =>
    mbnd (mX2_layOut a0 a1 v7 a3 a4 a5) fun _ =>
    mbnd (gR 2 3 a0) fun (v8 : Nat) =>
    mbnd (α := Int32) (
      if v7 = (-1) then (
        mret 0
      ) else (
        mbnd (gR 1 6 a1) fun (v13 : Nat) =>
        mbnd (gR 2 0 a0) fun (v14 : Nat) =>
        mbnd (mX4_total v13 3 v14) fun (v15 : Int32) =>
        mret v15
      )
    ) fun (x10 : Int32) =>
    mbnd (stI 0 v8 x1 x10) fun _ =>
    mret (.inl (x1 + 1))
  )
noncomputable def mX2_hearWear (a0 : Nat) (a1 : Nat) (a2 : Int32) (a3 : Int32) (a4 : Int32) (a5 : Int32) : MM Unit := onC 2 a0 (
  mbnd (loopM (mX2_hearWear_L3 a0 a1 a2 a3 a4 a5) 0) fun (e16 : Unit) =>
  mret ()
  )
theorem rcX2_hearWear (a0 : Nat) (a1 : Nat) (a2 : Int32) (a3 : Int32) (a4 : Int32) (a5 : Int32) : Rcv 2 a0 (mX2_hearWear a0 a1 a2 a3 a4 a5) := fun s r h => ⟨(onC_some h).1, (onC_some h).2.1⟩
set_option maxHeartbeats 4000000 in
set_option maxRecDepth 100000 in
theorem ctX2_hearWear (a0 : Nat) (a1 : Nat) (a2 : Int32) (a3 : Int32) (a4 : Int32) (a5 : Int32) : Ct aX2_hearWear [vr a0, vr a1, vi a2, vi a3, vi a4, vi a5] (mX2_hearWear a0 a1 a2 a3 a4 a5) rU := by
  unfold mX2_hearWear
  refine ct_onC (ct_intro (by decide +kernel) rfl (Nat.le_of_ble_eq_true rfl) fun Y s => ?_)
  refine r_sub (lv' := [(0, vr a0), (1, vr a1), (2, vi a2), (3, vi a3), (4, vi a4), (5, vi a5)]) [0, 1, 2, 3, 4, 5] rfl ?_
  refine r_p (pc' := 1) (p_iconst (n := 0) (v := 0) (by decide +kernel) rfl) ?_
  refine r_p (pc' := 3) (p_istore (i := 6) (lv' := [(6, vi 0), (0, vr a0), (1, vr a1), (2, vi a2), (3, vi a3), (4, vi a4), (5, vi a5)]) (by decide +kernel) (Nat.le_of_ble_eq_true rfl) rfl) ?_
  refine r_sub (lv' := [(0, vr a0), (1, vr a1), (2, vi a2), (3, vi a3), (4, vi a4), (5, vi a5), (6, vi 0)]) [1, 2, 3, 4, 5, 6, 0] rfl ?_
  refine r_loop2 (fun _ => 68) (fun (e16 : Unit) => []) (fun (x1 : Int32) => [(0, vr a0), (1, vr a1), (2, vi a2), (3, vi a3), (4, vi a4), (5, vi a5), (6, vi x1)]) (fun e16 s => ?_) (fun K2 hb3 he4 x1 s => ?_) 0 _
  · exact r_vret (y9 := ()) rfl rfl rfl (by decide +kernel)
  · unfold mX2_hearWear_L3
    refine r_p (pc' := 5) (p_iload 6 (i := 6) (by decide +kernel) rfl) ?_
    refine r_p (pc' := 6) (p_iconst (n := 3) (v := 3) (by decide +kernel) rfl) ?_
    refine r_icmpge (off := 62) (tgt := 68) (by decide +kernel) (by decide) (fun h5 => ?_) (fun h5 => ?_)
    · refine r_sub (lv' := []) [] rfl ?_
      exact he4 () _
    · refine r_p (pc' := 10) (p_aload_n 1 (k := 1) (by decide +kernel) rfl) ?_
      refine r_gR flX2_48_1 (by decide +kernel) fun v6 => ?_
      refine r_p (pc' := 14) (p_iload_n 2 (k := 2) (by decide +kernel) rfl) ?_
      refine r_p (pc' := 16) (p_iload 6 (i := 6) (by decide +kernel) rfl) ?_
      refine r_callVI mvX2_52 (ctX8_get v6 a2 x1) (rcX8_get v6 a2 x1) ⟨_, _, rfl⟩ (as := [vi a2, vi x1]) (st := []) rfl rfl (by decide +kernel) rfl (Nat.le_of_ble_eq_true rfl) (Nat.le_of_ble_eq_true rfl) fun v7 s => ?_
      refine r_p (pc' := 21) (p_istore (i := 7) (lv' := [(7, vi v7), (0, vr a0), (1, vr a1), (2, vi a2), (3, vi a3), (4, vi a4), (5, vi a5), (6, vi x1)]) (by decide +kernel) (Nat.le_of_ble_eq_true rfl) rfl) ?_
      refine r_p (pc' := 22) (p_aload_n 1 (k := 0) (by decide +kernel) rfl) ?_
      refine r_p (pc' := 23) (p_aload_n 2 (k := 1) (by decide +kernel) rfl) ?_
      refine r_p (pc' := 25) (p_iload 0 (i := 7) (by decide +kernel) rfl) ?_
      refine r_p (pc' := 26) (p_iload_n 4 (k := 3) (by decide +kernel) rfl) ?_
      refine r_p (pc' := 28) (p_iload 5 (i := 4) (by decide +kernel) rfl) ?_
      refine r_p (pc' := 30) (p_iload 6 (i := 5) (by decide +kernel) rfl) ?_
      refine r_callVU mvX2_24 (ctX2_layOut a0 a1 v7 a3 a4 a5) (rcX2_layOut a0 a1 v7 a3 a4 a5) ⟨_, _, rfl⟩ (as := [vr a1, vi v7, vi a3, vi a4, vi a5]) (st := []) rfl rfl (by decide +kernel) rfl (Nat.le_of_ble_eq_true rfl) (Nat.le_of_ble_eq_true rfl) fun s => ?_
      refine r_p (pc' := 34) (p_aload_n 1 (k := 0) (by decide +kernel) rfl) ?_
      refine r_gR flX2_21_2 (by decide +kernel) fun v8 => ?_
      refine r_p (pc' := 39) (p_iload 7 (i := 6) (by decide +kernel) rfl) ?_
      refine r_p (pc' := 41) (p_iload 0 (i := 7) (by decide +kernel) rfl) ?_
      refine r_p (pc' := 42) (p_iconst (n := -1) (v := -1) (by decide +kernel) rfl) ?_
      refine r_join 61 (fun (x10 : Int32) => [(0, vr a0), (1, vr a1), (2, vi a2), (3, vi a3), (4, vi a4), (5, vi a5), (6, vi x1)]) (fun (x10 : Int32) => [vi x10, vi x1, vr v8]) (fun x10 s => ?_) (fun K11 hj12 => ?_)
      · refine r_stI0 (by decide +kernel) fun s => ?_
        refine r_p (pc' := 65) (p_iinc 6 (i := 6) (n := 1) (x := x1) (v := x1 + 1) (lv' := [(6, vi (x1 + 1)), (0, vr a0), (1, vr a1), (2, vi a2), (3, vi a3), (4, vi a4), (5, vi a5)]) (by decide +kernel) rfl rfl (Nat.le_of_ble_eq_true rfl) rfl) ?_
        refine r_p (pc' := 3) (p_goto (off := -62) (tgt := 3) (by decide +kernel) (by decide)) ?_
        refine r_sub (lv' := [(0, vr a0), (1, vr a1), (2, vi a2), (3, vi a3), (4, vi a4), (5, vi a5), (6, vi (x1 + 1))]) [1, 2, 3, 4, 5, 6, 0] rfl ?_
        exact hb3 (x1 + 1) _
      · refine r_icmpne (off := 7) (tgt := 49) (by decide +kernel) (by decide) (fun h9 => ?_) (fun h9 => ?_)
        · refine r_p (pc' := 46) (p_iconst (n := 0) (v := 0) (by decide +kernel) rfl) ?_
          refine r_p (pc' := 61) (p_goto (off := 15) (tgt := 61) (by decide +kernel) (by decide)) ?_
          refine r_sub (lv' := [(0, vr a0), (1, vr a1), (2, vi a2), (3, vi a3), (4, vi a4), (5, vi a5), (6, vi x1)]) [1, 2, 3, 4, 5, 6, 7] rfl ?_
          exact hj12 0 _
        · refine r_p (pc' := 50) (p_aload_n 2 (k := 1) (by decide +kernel) rfl) ?_
          refine r_gR flX2_28_1 (by decide +kernel) fun v13 => ?_
          refine r_p (pc' := 54) (p_iconst (n := 3) (v := 3) (by decide +kernel) rfl) ?_
          refine r_p (pc' := 55) (p_aload_n 1 (k := 0) (by decide +kernel) rfl) ?_
          refine r_gR flX2_9_2 (by decide +kernel) fun v14 => ?_
          refine r_callVI mvX2_34 (ctX4_total v13 3 v14) (rcX4_total v13 3 v14) ⟨_, _, rfl⟩ (as := [vi 3, vr v14]) (st := [vi x1, vr v8]) rfl rfl (by decide +kernel) rfl (Nat.le_of_ble_eq_true rfl) (Nat.le_of_ble_eq_true rfl) fun v15 s => ?_
          refine r_sub (lv' := [(0, vr a0), (1, vr a1), (2, vi a2), (3, vi a3), (4, vi a4), (5, vi a5), (6, vi x1)]) [1, 2, 3, 4, 5, 6, 7] rfl ?_
          exact hj12 v15 _
def aX2_gain : StA := (RX2, cX2_gain, 3, some .int, yX2_gain, 8, [])
noncomputable def mX2_gain (a0 : Nat) (a1 : Int32) (a2 : Int32) : MM Int32 := onC 2 a0 (
  if a1 < 0 then (
    mret 0
  ) else (
    if a1 < 3 then (
      mbnd (gR 2 1 a0) fun (v3 : Nat) =>
      mbnd (ldI 0 v3 a1) fun (v4 : Int32) =>
      mbnd (gR 2 2 a0) fun (v5 : Nat) =>
      mbnd (ldI 0 v5 a1) fun (v6 : Int32) =>
      mret ((((a2 * v4) / 100) * (100 - v6)) / 100)
    ) else (
      mret 0
    )
  )
  )
theorem rcX2_gain (a0 : Nat) (a1 : Int32) (a2 : Int32) : Rcv 2 a0 (mX2_gain a0 a1 a2) := fun s r h => ⟨(onC_some h).1, (onC_some h).2.1⟩
set_option maxHeartbeats 4000000 in
set_option maxRecDepth 100000 in
theorem ctX2_gain (a0 : Nat) (a1 : Int32) (a2 : Int32) : Ct aX2_gain [vr a0, vi a1, vi a2] (mX2_gain a0 a1 a2) rI := by
  unfold mX2_gain
  refine ct_onC (ct_intro (by decide +kernel) rfl (Nat.le_of_ble_eq_true rfl) fun Y s => ?_)
  refine r_sub (lv' := [(0, vr a0), (1, vi a1), (2, vi a2)]) [0, 1, 2] rfl ?_
  refine r_p (pc' := 1) (p_iload_n 1 (k := 1) (by decide +kernel) rfl) ?_
  refine r_iflt (off := 8) (tgt := 9) (by decide +kernel) (by decide) (fun h1 => ?_) (fun h1 => ?_)
  · refine r_p (pc' := 10) (p_iconst (n := 0) (v := 0) (by decide +kernel) rfl) ?_
    exact r_iret rfl rfl _ rfl rfl (by decide +kernel)
  · refine r_p (pc' := 5) (p_iload_n 1 (k := 1) (by decide +kernel) rfl) ?_
    refine r_p (pc' := 6) (p_iconst (n := 3) (v := 3) (by decide +kernel) rfl) ?_
    refine r_icmplt (off := 5) (tgt := 11) (by decide +kernel) (by decide) (fun h2 => ?_) (fun h2 => ?_)
    · refine r_p (pc' := 12) (p_iload_n 2 (k := 2) (by decide +kernel) rfl) ?_
      refine r_p (pc' := 13) (p_aload_n 0 (k := 0) (by decide +kernel) rfl) ?_
      refine r_gR flX2_15_2 (by decide +kernel) fun v3 => ?_
      refine r_p (pc' := 17) (p_iload_n 1 (k := 1) (by decide +kernel) rfl) ?_
      refine r_ldI0 (by decide +kernel) fun v4 => ?_
      refine r_p (pc' := 19) (p_imul (by decide +kernel)) ?_
      refine r_p (pc' := 21) (p_bipush (n := 100) (v := 100) (by decide +kernel) (by decide +kernel)) ?_
      refine r_p (pc' := 22) (p_idiv (by decide +kernel) (by decide)) ?_
      refine r_p (pc' := 24) (p_bipush (n := 100) (v := 100) (by decide +kernel) (by decide +kernel)) ?_
      refine r_p (pc' := 25) (p_aload_n 0 (k := 0) (by decide +kernel) rfl) ?_
      refine r_gR flX2_18_2 (by decide +kernel) fun v5 => ?_
      refine r_p (pc' := 29) (p_iload_n 1 (k := 1) (by decide +kernel) rfl) ?_
      refine r_ldI0 (by decide +kernel) fun v6 => ?_
      refine r_p (pc' := 31) (p_isub (by decide +kernel)) ?_
      refine r_p (pc' := 32) (p_imul (by decide +kernel)) ?_
      refine r_p (pc' := 34) (p_bipush (n := 100) (v := 100) (by decide +kernel) (by decide +kernel)) ?_
      refine r_p (pc' := 35) (p_idiv (by decide +kernel) (by decide)) ?_
      exact r_iret rfl rfl _ rfl rfl (by decide +kernel)
    · refine r_p (pc' := 10) (p_iconst (n := 0) (v := 0) (by decide +kernel) rfl) ?_
      exact r_iret rfl rfl _ rfl rfl (by decide +kernel)
def aX2_blunt : StA := (RX2, cX2_blunt, 2, some .int, yX2_blunt, 8, [])
noncomputable def mX2_blunt (a0 : Nat) (a1 : Int32) : MM Int32 := onC 2 a0 (
  if a1 < 0 then (
    mret 0
  ) else (
    if 3 ≤ a1 then (
      mret 0
    ) else (
      mbnd (gR 2 3 a0) fun (v3 : Nat) =>
      mbnd (ldI 0 v3 a1) fun (v4 : Int32) =>
      mret v4
    )
  )
  )
theorem rcX2_blunt (a0 : Nat) (a1 : Int32) : Rcv 2 a0 (mX2_blunt a0 a1) := fun s r h => ⟨(onC_some h).1, (onC_some h).2.1⟩
set_option maxHeartbeats 4000000 in
set_option maxRecDepth 100000 in
theorem ctX2_blunt (a0 : Nat) (a1 : Int32) : Ct aX2_blunt [vr a0, vi a1] (mX2_blunt a0 a1) rI := by
  unfold mX2_blunt
  refine ct_onC (ct_intro (by decide +kernel) rfl (Nat.le_of_ble_eq_true rfl) fun Y s => ?_)
  refine r_sub (lv' := [(0, vr a0), (1, vi a1)]) [0, 1] rfl ?_
  refine r_p (pc' := 1) (p_iload_n 1 (k := 1) (by decide +kernel) rfl) ?_
  refine r_iflt (off := 17) (tgt := 18) (by decide +kernel) (by decide) (fun h1 => ?_) (fun h1 => ?_)
  · refine r_p (pc' := 19) (p_iconst (n := 0) (v := 0) (by decide +kernel) rfl) ?_
    exact r_iret rfl rfl _ rfl rfl (by decide +kernel)
  · refine r_p (pc' := 5) (p_iload_n 1 (k := 1) (by decide +kernel) rfl) ?_
    refine r_p (pc' := 6) (p_iconst (n := 3) (v := 3) (by decide +kernel) rfl) ?_
    refine r_icmpge (off := 12) (tgt := 18) (by decide +kernel) (by decide) (fun h2 => ?_) (fun h2 => ?_)
    · refine r_p (pc' := 19) (p_iconst (n := 0) (v := 0) (by decide +kernel) rfl) ?_
      exact r_iret rfl rfl _ rfl rfl (by decide +kernel)
    · refine r_p (pc' := 10) (p_aload_n 0 (k := 0) (by decide +kernel) rfl) ?_
      refine r_gR flX2_21_2 (by decide +kernel) fun v3 => ?_
      refine r_p (pc' := 14) (p_iload_n 1 (k := 1) (by decide +kernel) rfl) ?_
      refine r_ldI0 (by decide +kernel) fun v4 => ?_
      refine r_p (pc' := 19) (p_goto (off := 4) (tgt := 19) (by decide +kernel) (by decide)) ?_
      exact r_iret rfl rfl _ rfl rfl (by decide +kernel)
def aX2_inherited : StA := (RX2, cX2_inherited, 3, some .int, yX2_inherited, 12, [])
theorem mvX2_44 : MV RX2 44 aX2_told 3 := ⟨tblG_of 640 (by decide +kernel) (by decide +kernel), tblG_of 641 (by decide +kernel) (by decide +kernel), tblG_of 642 (by decide +kernel) (by decide +kernel), tblG_of 146 (by decide +kernel) (by decide +kernel), tblG_of 643 (by decide +kernel) (by decide +kernel), rfl, ⟨by decide, by decide⟩, by decide +kernel, by decide⟩
noncomputable def mX2_inherited (a0 : Nat) (a1 : Nat) (a2 : Int32) : MM Int32 := onC 2 a0 (
  mbnd (mX1_guiltOf a1 a2) fun (v1 : Int32) =>
  mbnd (mX2_told a0 a1 a2 2) fun (v2 : Int32) =>
  mret ((v1 * v2) / 100)
  )
theorem rcX2_inherited (a0 : Nat) (a1 : Nat) (a2 : Int32) : Rcv 2 a0 (mX2_inherited a0 a1 a2) := fun s r h => ⟨(onC_some h).1, (onC_some h).2.1⟩
set_option maxHeartbeats 4000000 in
set_option maxRecDepth 100000 in
theorem ctX2_inherited (a0 : Nat) (a1 : Nat) (a2 : Int32) : Ct aX2_inherited [vr a0, vr a1, vi a2] (mX2_inherited a0 a1 a2) rI := by
  unfold mX2_inherited
  refine ct_onC (ct_intro (by decide +kernel) rfl (Nat.le_of_ble_eq_true rfl) fun Y s => ?_)
  refine r_sub (lv' := [(0, vr a0), (1, vr a1), (2, vi a2)]) [0, 1, 2] rfl ?_
  refine r_p (pc' := 1) (p_aload_n 1 (k := 1) (by decide +kernel) rfl) ?_
  refine r_p (pc' := 2) (p_iload_n 2 (k := 2) (by decide +kernel) rfl) ?_
  refine r_callVI mvX2_40 (ctX1_guiltOf a1 a2) (rcX1_guiltOf a1 a2) ⟨_, _, rfl⟩ (as := [vi a2]) (st := []) rfl rfl (by decide +kernel) rfl (Nat.le_of_ble_eq_true rfl) (Nat.le_of_ble_eq_true rfl) fun v1 s => ?_
  refine r_p (pc' := 6) (p_aload_n 0 (k := 0) (by decide +kernel) rfl) ?_
  refine r_p (pc' := 7) (p_aload_n 1 (k := 1) (by decide +kernel) rfl) ?_
  refine r_p (pc' := 8) (p_iload_n 2 (k := 2) (by decide +kernel) rfl) ?_
  refine r_p (pc' := 9) (p_iconst (n := 2) (v := 2) (by decide +kernel) rfl) ?_
  refine r_callVI mvX2_44 (ctX2_told a0 a1 a2 2) (rcX2_told a0 a1 a2 2) ⟨_, _, rfl⟩ (as := [vr a1, vi a2, vi 2]) (st := [vi v1]) rfl rfl (by decide +kernel) rfl (Nat.le_of_ble_eq_true rfl) (Nat.le_of_ble_eq_true rfl) fun v2 s => ?_
  refine r_p (pc' := 13) (p_imul (by decide +kernel)) ?_
  refine r_p (pc' := 15) (p_bipush (n := 100) (v := 100) (by decide +kernel) (by decide +kernel)) ?_
  refine r_p (pc' := 16) (p_idiv (by decide +kernel) (by decide)) ?_
  exact r_iret rfl rfl _ rfl rfl (by decide +kernel)
def aX2_gains : StA := (RX2, cX2_gains, 2, some .int, yX2_gains, 9, [])
theorem mvX2_58 : MV RX2 58 aX2_gain 2 := ⟨tblG_of 1614 (by decide +kernel) (by decide +kernel), tblG_of 1309 (by decide +kernel) (by decide +kernel), tblG_of 1310 (by decide +kernel) (by decide +kernel), tblG_of 146 (by decide +kernel) (by decide +kernel), tblG_of 1311 (by decide +kernel) (by decide +kernel), rfl, ⟨by decide, by decide⟩, by decide +kernel, by decide⟩
noncomputable def mX2_gains (a0 : Nat) (a1 : Int32) : MM Int32 := onC 2 a0 (
  mbnd (mX2_gain a0 0 a1) fun (v1 : Int32) =>
  mbnd (mX2_gain a0 1 a1) fun (v2 : Int32) =>
  mbnd (mX2_gain a0 2 a1) fun (v3 : Int32) =>
  mret ((v1 + v2) + v3)
  )
theorem rcX2_gains (a0 : Nat) (a1 : Int32) : Rcv 2 a0 (mX2_gains a0 a1) := fun s r h => ⟨(onC_some h).1, (onC_some h).2.1⟩
set_option maxHeartbeats 4000000 in
set_option maxRecDepth 100000 in
theorem ctX2_gains (a0 : Nat) (a1 : Int32) : Ct aX2_gains [vr a0, vi a1] (mX2_gains a0 a1) rI := by
  unfold mX2_gains
  refine ct_onC (ct_intro (by decide +kernel) rfl (Nat.le_of_ble_eq_true rfl) fun Y s => ?_)
  refine r_sub (lv' := [(0, vr a0), (1, vi a1)]) [0, 1] rfl ?_
  refine r_p (pc' := 1) (p_aload_n 0 (k := 0) (by decide +kernel) rfl) ?_
  refine r_p (pc' := 2) (p_iconst (n := 0) (v := 0) (by decide +kernel) rfl) ?_
  refine r_p (pc' := 3) (p_iload_n 1 (k := 1) (by decide +kernel) rfl) ?_
  refine r_callVI mvX2_58 (ctX2_gain a0 0 a1) (rcX2_gain a0 0 a1) ⟨_, _, rfl⟩ (as := [vi 0, vi a1]) (st := []) rfl rfl (by decide +kernel) rfl (Nat.le_of_ble_eq_true rfl) (Nat.le_of_ble_eq_true rfl) fun v1 s => ?_
  refine r_p (pc' := 7) (p_aload_n 0 (k := 0) (by decide +kernel) rfl) ?_
  refine r_p (pc' := 8) (p_iconst (n := 1) (v := 1) (by decide +kernel) rfl) ?_
  refine r_p (pc' := 9) (p_iload_n 1 (k := 1) (by decide +kernel) rfl) ?_
  refine r_callVI mvX2_58 (ctX2_gain a0 1 a1) (rcX2_gain a0 1 a1) ⟨_, _, rfl⟩ (as := [vi 1, vi a1]) (st := [vi v1]) rfl rfl (by decide +kernel) rfl (Nat.le_of_ble_eq_true rfl) (Nat.le_of_ble_eq_true rfl) fun v2 s => ?_
  refine r_p (pc' := 13) (p_iadd (by decide +kernel)) ?_
  refine r_p (pc' := 14) (p_aload_n 0 (k := 0) (by decide +kernel) rfl) ?_
  refine r_p (pc' := 15) (p_iconst (n := 2) (v := 2) (by decide +kernel) rfl) ?_
  refine r_p (pc' := 16) (p_iload_n 1 (k := 1) (by decide +kernel) rfl) ?_
  refine r_callVI mvX2_58 (ctX2_gain a0 2 a1) (rcX2_gain a0 2 a1) ⟨_, _, rfl⟩ (as := [vi 2, vi a1]) (st := [vi (v1 + v2)]) rfl rfl (by decide +kernel) rfl (Nat.le_of_ble_eq_true rfl) (Nat.le_of_ble_eq_true rfl) fun v3 s => ?_
  refine r_p (pc' := 20) (p_iadd (by decide +kernel)) ?_
  exact r_iret rfl rfl _ rfl rfl (by decide +kernel)
