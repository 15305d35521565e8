/-! PRINTED BY wip/whole/gen.py -/
def aX1_init : StA := (RX1, cX1_init, 2, none, yX1_init, 9, [])
theorem nwX1_9 : NW RX1 9 8 4 [.null, .int 0, .int 0, .int 0] := ⟨_, TX8, tyX8, rfl, tyX8_ok, tblG_of 313 (by decide +kernel) (by decide +kernel), tblG_of 314 (by decide +kernel) (by decide +kernel), tblG_of 152 (by decide +kernel) (by decide +kernel), (fun j hj => by match j, hj with | 0, _ => rfl | 1, _ => rfl | 2, _ => rfl | 3, _ => rfl), rfl⟩
theorem miX1_11 : MI RX1 11 aX8_init 2 := ⟨tblG_of 315 (by decide +kernel) (by decide +kernel), tblG_of 316 (by decide +kernel) (by decide +kernel), tblG_of 152 (by decide +kernel) (by decide +kernel), tblG_of 317 (by decide +kernel) (by decide +kernel), rfl, ⟨by decide, by decide⟩, by decide +kernel, by decide, rfl, rfl⟩
theorem fpX1_14_1 : FP RX1 14 1 0 (.object "ToolCourt$Table") true := ⟨_, TX1, 13, "ToolCourt$Court", tyX1, rfl, by decide, Or.inl (tblG_of 340 (by decide +kernel) (by decide +kernel)), Or.inl rfl, tyX1_ok, nmX1, rfl, by decide, by decide +kernel⟩
theorem fpX1_20_1 : FP RX1 20 1 1 (.object "ToolCourt$Table") true := ⟨_, TX1, 13, "ToolCourt$Court", tyX1, rfl, by decide, Or.inl (tblG_of 345 (by decide +kernel) (by decide +kernel)), Or.inl rfl, tyX1_ok, nmX1, rfl, by decide, by decide +kernel⟩
theorem fpX1_23_1 : FP RX1 23 1 2 (.object "ToolCourt$Table") true := ⟨_, TX1, 13, "ToolCourt$Court", tyX1, rfl, by decide, Or.inl (tblG_of 351 (by decide +kernel) (by decide +kernel)), Or.inl rfl, tyX1_ok, nmX1, rfl, by decide, by decide +kernel⟩
theorem fpX1_26_1 : FP RX1 26 1 3 (.object "ToolCourt$Table") true := ⟨_, TX1, 13, "ToolCourt$Court", tyX1, rfl, by decide, Or.inl (tblG_of 354 (by decide +kernel) (by decide +kernel)), Or.inl rfl, tyX1_ok, nmX1, rfl, by decide, by decide +kernel⟩
theorem fpX1_29_1 : FP RX1 29 1 4 (.object "ToolCourt$Table") true := ⟨_, TX1, 13, "ToolCourt$Court", tyX1, rfl, by decide, Or.inl (tblG_of 356 (by decide +kernel) (by decide +kernel)), Or.inl rfl, tyX1_ok, nmX1, rfl, by decide, by decide +kernel⟩
theorem fpX1_32_1 : FP RX1 32 1 5 (.object "ToolCourt$Table") true := ⟨_, TX1, 13, "ToolCourt$Court", tyX1, rfl, by decide, Or.inl (tblG_of 358 (by decide +kernel) (by decide +kernel)), Or.inl rfl, tyX1_ok, nmX1, rfl, by decide, by decide +kernel⟩
theorem fpX1_35_1 : FP RX1 35 1 11 .int false := ⟨_, TX1, 13, "ToolCourt$Court", tyX1, rfl, by decide, Or.inl (tblG_of 376 (by decide +kernel) (by decide +kernel)), Or.inl rfl, tyX1_ok, nmX1, rfl, by decide, by decide +kernel⟩
theorem fpX1_39_1 : FP RX1 39 1 6 (.object "ToolCourt$Law") false := ⟨_, TX1, 13, "ToolCourt$Court", tyX1, rfl, by decide, Or.inl (tblG_of 360 (by decide +kernel) (by decide +kernel)), Or.inl rfl, tyX1_ok, nmX1, rfl, by decide, by decide +kernel⟩
noncomputable def mX1_init (a0 : Nat) (a1 : Nat) : MM Unit := onC 1 a0 (
  mbnd (nw 8 4 [.null, .int 0, .int 0, .int 0]) fun (v1 : Nat) =>
  mbnd (nox (mX8_init v1 16 8)) fun _ =>
  mbnd (pR 1 0 a0 v1) fun _ =>
  mbnd (nw 8 4 [.null, .int 0, .int 0, .int 0]) fun (v2 : Nat) =>
  mbnd (nox (mX8_init v2 6 4)) fun _ =>
  mbnd (pR 1 1 a0 v2) fun _ =>
  mbnd (nw 8 4 [.null, .int 0, .int 0, .int 0]) fun (v3 : Nat) =>
  mbnd (nox (mX8_init v3 6 1)) fun _ =>
  mbnd (pR 1 2 a0 v3) fun _ =>
  mbnd (nw 8 4 [.null, .int 0, .int 0, .int 0]) fun (v4 : Nat) =>
  mbnd (nox (mX8_init v4 60 7)) fun _ =>
  mbnd (pR 1 3 a0 v4) fun _ =>
  mbnd (nw 8 4 [.null, .int 0, .int 0, .int 0]) fun (v5 : Nat) =>
  mbnd (nox (mX8_init v5 60 5)) fun _ =>
  mbnd (pR 1 4 a0 v5) fun _ =>
  mbnd (nw 8 4 [.null, .int 0, .int 0, .int 0]) fun (v6 : Nat) =>
  mbnd (nox (mX8_init v6 30 6)) fun _ =>
  mbnd (pR 1 5 a0 v6) fun _ =>
  mbnd (pI 1 11 a0 1) fun _ =>
  mbnd (pR 1 6 a0 a1) fun _ =>
  mret ()
  )
theorem rcX1_init (a0 : Nat) (a1 : Nat) : Rcv 1 a0 (mX1_init a0 a1) := fun s r h => ⟨(onC_some h).1, (onC_some h).2.1⟩
set_option maxHeartbeats 4000000 in
set_option maxRecDepth 100000 in
theorem ctX1_init (a0 : Nat) (a1 : Nat) : Ct aX1_init [vr a0, vr a1] (mX1_init a0 a1) rU := by
  unfold mX1_init
  refine ct_onC (ct_intro (by decide +kernel) rfl (Nat.le_of_ble_eq_true rfl) fun Y s => ?_)
  refine r_sub (lv' := [(0, vr a0), (1, vr a1)]) [0, 1] rfl ?_
  refine r_p (pc' := 1) (p_aload_n 0 (k := 0) (by decide +kernel) rfl) ?_
  refine r_p (pc' := 4) (p_obj (idx := 3) (tblG_of 312 (by decide +kernel) (by decide +kernel)) (Nat.le_of_ble_eq_true rfl) (Nat.le_of_ble_eq_true rfl) (by decide +kernel)) ?_
  refine r_p (pc' := 5) (p_aload_n 0 (k := 0) (by decide +kernel) rfl) ?_
  refine r_nw nwX1_9 (by decide +kernel) fun v1 s => ?_
  refine r_p (pc' := 9) (p_dup rfl (by decide +kernel)) ?_
  refine r_p (pc' := 11) (p_bipush (n := 16) (v := 16) (by decide +kernel) (by decide +kernel)) ?_
  refine r_p (pc' := 13) (p_bipush (n := 8) (v := 8) (by decide +kernel) (by decide +kernel)) ?_
  refine r_callIU miX1_11 (ctX8_init v1 16 8) (as := [vi 16, vi 8]) (st := [vr v1, vr a0]) rfl rfl (by decide +kernel) rfl (Nat.le_of_ble_eq_true rfl) (Nat.le_of_ble_eq_true rfl) fun s => ?_
  refine r_pR fpX1_14_1 (fun _ => rfl) (Or.inl ⟨_, rfl⟩) (by decide +kernel) fun s => ?_
  refine r_p (pc' := 20) (p_aload_n 0 (k := 0) (by decide +kernel) rfl) ?_
  refine r_nw nwX1_9 (by decide +kernel) fun v2 s => ?_
  refine r_p (pc' := 24) (p_dup rfl (by decide +kernel)) ?_
  refine r_p (pc' := 26) (p_bipush (n := 6) (v := 6) (by decide +kernel) (by decide +kernel)) ?_
  refine r_p (pc' := 27) (p_iconst (n := 4) (v := 4) (by decide +kernel) rfl) ?_
  refine r_callIU miX1_11 (ctX8_init v2 6 4) (as := [vi 6, vi 4]) (st := [vr v2, vr a0]) rfl rfl (by decide +kernel) rfl (Nat.le_of_ble_eq_true rfl) (Nat.le_of_ble_eq_true rfl) fun s => ?_
  refine r_pR fpX1_20_1 (fun _ => rfl) (Or.inl ⟨_, rfl⟩) (by decide +kernel) fun s => ?_
  refine r_p (pc' := 34) (p_aload_n 0 (k := 0) (by decide +kernel) rfl) ?_
  refine r_nw nwX1_9 (by decide +kernel) fun v3 s => ?_
  refine r_p (pc' := 38) (p_dup rfl (by decide +kernel)) ?_
  refine r_p (pc' := 40) (p_bipush (n := 6) (v := 6) (by decide +kernel) (by decide +kernel)) ?_
  refine r_p (pc' := 41) (p_iconst (n := 1) (v := 1) (by decide +kernel) rfl) ?_
  refine r_callIU miX1_11 (ctX8_init v3 6 1) (as := [vi 6, vi 1]) (st := [vr v3, vr a0]) rfl rfl (by decide +kernel) rfl (Nat.le_of_ble_eq_true rfl) (Nat.le_of_ble_eq_true rfl) fun s => ?_
  refine r_pR fpX1_23_1 (fun _ => rfl) (Or.inl ⟨_, rfl⟩) (by decide +kernel) fun s => ?_
  refine r_p (pc' := 48) (p_aload_n 0 (k := 0) (by decide +kernel) rfl) ?_
  refine r_nw nwX1_9 (by decide +kernel) fun v4 s => ?_
  refine r_p (pc' := 52) (p_dup rfl (by decide +kernel)) ?_
  refine r_p (pc' := 54) (p_bipush (n := 60) (v := 60) (by decide +kernel) (by decide +kernel)) ?_
  refine r_p (pc' := 56) (p_bipush (n := 7) (v := 7) (by decide +kernel) (by decide +kernel)) ?_
  refine r_callIU miX1_11 (ctX8_init v4 60 7) (as := [vi 60, vi 7]) (st := [vr v4, vr a0]) rfl rfl (by decide +kernel) rfl (Nat.le_of_ble_eq_true rfl) (Nat.le_of_ble_eq_true rfl) fun s => ?_
  refine r_pR fpX1_26_1 (fun _ => rfl) (Or.inl ⟨_, rfl⟩) (by decide +kernel) fun s => ?_
  refine r_p (pc' := 63) (p_aload_n 0 (k := 0) (by decide +kernel) rfl) ?_
  refine r_nw nwX1_9 (by decide +kernel) fun v5 s => ?_
  refine r_p (pc' := 67) (p_dup rfl (by decide +kernel)) ?_
  refine r_p (pc' := 69) (p_bipush (n := 60) (v := 60) (by decide +kernel) (by decide +kernel)) ?_
  refine r_p (pc' := 70) (p_iconst (n := 5) (v := 5) (by decide +kernel) rfl) ?_
  refine r_callIU miX1_11 (ctX8_init v5 60 5) (as := [vi 60, vi 5]) (st := [vr v5, vr a0]) rfl rfl (by decide +kernel) rfl (Nat.le_of_ble_eq_true rfl) (Nat.le_of_ble_eq_true rfl) fun s => ?_
  refine r_pR fpX1_29_1 (fun _ => rfl) (Or.inl ⟨_, rfl⟩) (by decide +kernel) fun s => ?_
  refine r_p (pc' := 77) (p_aload_n 0 (k := 0) (by decide +kernel) rfl) ?_
  refine r_nw nwX1_9 (by decide +kernel) fun v6 s => ?_
  refine r_p (pc' := 81) (p_dup rfl (by decide +kernel)) ?_
  refine r_p (pc' := 83) (p_bipush (n := 30) (v := 30) (by decide +kernel) (by decide +kernel)) ?_
  refine r_p (pc' := 85) (p_bipush (n := 6) (v := 6) (by decide +kernel) (by decide +kernel)) ?_
  refine r_callIU miX1_11 (ctX8_init v6 30 6) (as := [vi 30, vi 6]) (st := [vr v6, vr a0]) rfl rfl (by decide +kernel) rfl (Nat.le_of_ble_eq_true rfl) (Nat.le_of_ble_eq_true rfl) fun s => ?_
  refine r_pR fpX1_32_1 (fun _ => rfl) (Or.inl ⟨_, rfl⟩) (by decide +kernel) fun s => ?_
  refine r_p (pc' := 92) (p_aload_n 0 (k := 0) (by decide +kernel) rfl) ?_
  refine r_p (pc' := 93) (p_iconst (n := 1) (v := 1) (by decide +kernel) rfl) ?_
  refine r_pI fpX1_35_1 (fun h => by cases h) (by decide +kernel) fun s => ?_
  refine r_p (pc' := 97) (p_aload_n 0 (k := 0) (by decide +kernel) rfl) ?_
  refine r_p (pc' := 98) (p_aload_n 1 (k := 1) (by decide +kernel) rfl) ?_
  refine r_pR fpX1_39_1 (fun h => by cases h) (Or.inl ⟨_, rfl⟩) (by decide +kernel) fun s => ?_
  exact r_vret (y9 := ()) rfl rfl rfl (by decide +kernel)
def aX1_copyFrom : StA := (RX1, cX1_copyFrom, 2, none, yX1_copyFrom, 9, [])
theorem flX1_14_1 : FL RX1 14 1 0 := ⟨_, TX1, 13, "ToolCourt$Court", rfl, by decide, Or.inl (tblG_of 340 (by decide +kernel) (by decide +kernel)), Or.inl rfl⟩
theorem mvX1_43 : MV RX1 43 aX8_copyFrom 1 := ⟨tblG_of 752 (by decide +kernel) (by decide +kernel), tblG_of 753 (by decide +kernel) (by decide +kernel), tblG_of 754 (by decide +kernel) (by decide +kernel), tblG_of 152 (by decide +kernel) (by decide +kernel), tblG_of 755 (by decide +kernel) (by decide +kernel), rfl, ⟨by decide, by decide⟩, by decide +kernel, by decide⟩
theorem flX1_20_1 : FL RX1 20 1 1 := ⟨_, TX1, 13, "ToolCourt$Court", rfl, by decide, Or.inl (tblG_of 345 (by decide +kernel) (by decide +kernel)), Or.inl rfl⟩
theorem flX1_23_1 : FL RX1 23 1 2 := ⟨_, TX1, 13, "ToolCourt$Court", rfl, by decide, Or.inl (tblG_of 351 (by decide +kernel) (by decide +kernel)), Or.inl rfl⟩
theorem flX1_26_1 : FL RX1 26 1 3 := ⟨_, TX1, 13, "ToolCourt$Court", rfl, by decide, Or.inl (tblG_of 354 (by decide +kernel) (by decide +kernel)), Or.inl rfl⟩
theorem flX1_29_1 : FL RX1 29 1 4 := ⟨_, TX1, 13, "ToolCourt$Court", rfl, by decide, Or.inl (tblG_of 356 (by decide +kernel) (by decide +kernel)), Or.inl rfl⟩
theorem flX1_32_1 : FL RX1 32 1 5 := ⟨_, TX1, 13, "ToolCourt$Court", rfl, by decide, Or.inl (tblG_of 358 (by decide +kernel) (by decide +kernel)), Or.inl rfl⟩
theorem flX1_39_1 : FL RX1 39 1 6 := ⟨_, TX1, 13, "ToolCourt$Court", rfl, by decide, Or.inl (tblG_of 360 (by decide +kernel) (by decide +kernel)), Or.inl rfl⟩
theorem flX1_47_1 : FL RX1 47 1 7 := ⟨_, TX1, 13, "ToolCourt$Court", rfl, by decide, Or.inl (tblG_of 364 (by decide +kernel) (by decide +kernel)), Or.inl rfl⟩
theorem fpX1_47_1 : FP RX1 47 1 7 .int false := ⟨_, TX1, 13, "ToolCourt$Court", tyX1, rfl, by decide, Or.inl (tblG_of 364 (by decide +kernel) (by decide +kernel)), Or.inl rfl, tyX1_ok, nmX1, rfl, by decide, by decide +kernel⟩
theorem flX1_50_1 : FL RX1 50 1 8 := ⟨_, TX1, 13, "ToolCourt$Court", rfl, by decide, Or.inl (tblG_of 366 (by decide +kernel) (by decide +kernel)), Or.inl rfl⟩
theorem fpX1_50_1 : FP RX1 50 1 8 .int false := ⟨_, TX1, 13, "ToolCourt$Court", tyX1, rfl, by decide, Or.inl (tblG_of 366 (by decide +kernel) (by decide +kernel)), Or.inl rfl, tyX1_ok, nmX1, rfl, by decide, by decide +kernel⟩
theorem flX1_53_1 : FL RX1 53 1 9 := ⟨_, TX1, 13, "ToolCourt$Court", rfl, by decide, Or.inl (tblG_of 369 (by decide +kernel) (by decide +kernel)), Or.inl rfl⟩
theorem fpX1_53_1 : FP RX1 53 1 9 .int false := ⟨_, TX1, 13, "ToolCourt$Court", tyX1, rfl, by decide, Or.inl (tblG_of 369 (by decide +kernel) (by decide +kernel)), Or.inl rfl, tyX1_ok, nmX1, rfl, by decide, by decide +kernel⟩
theorem flX1_56_1 : FL RX1 56 1 10 := ⟨_, TX1, 13, "ToolCourt$Court", rfl, by decide, Or.inl (tblG_of 372 (by decide +kernel) (by decide +kernel)), Or.inl rfl⟩
theorem fpX1_56_1 : FP RX1 56 1 10 .int false := ⟨_, TX1, 13, "ToolCourt$Court", tyX1, rfl, by decide, Or.inl (tblG_of 372 (by decide +kernel) (by decide +kernel)), Or.inl rfl, tyX1_ok, nmX1, rfl, by decide, by decide +kernel⟩
theorem flX1_35_1 : FL RX1 35 1 11 := ⟨_, TX1, 13, "ToolCourt$Court", rfl, by decide, Or.inl (tblG_of 376 (by decide +kernel) (by decide +kernel)), Or.inl rfl⟩
theorem flX1_59_1 : FL RX1 59 1 12 := ⟨_, TX1, 13, "ToolCourt$Court", rfl, by decide, Or.inl (tblG_of 378 (by decide +kernel) (by decide +kernel)), Or.inl rfl⟩
theorem fpX1_59_1 : FP RX1 59 1 12 .int false := ⟨_, TX1, 13, "ToolCourt$Court", tyX1, rfl, by decide, Or.inl (tblG_of 378 (by decide +kernel) (by decide +kernel)), Or.inl rfl, tyX1_ok, nmX1, rfl, by decide, by decide +kernel⟩
noncomputable def mX1_copyFrom (a0 : Nat) (a1 : Nat) : MM Unit := onC 1 a0 (
  mbnd (gR 1 0 a0) fun (v1 : Nat) =>
  mbnd (gR 1 0 a1) fun (v2 : Nat) =>
  mbnd (mX8_copyFrom v1 v2) fun _ =>
  mbnd (gR 1 1 a0) fun (v3 : Nat) =>
  mbnd (gR 1 1 a1) fun (v4 : Nat) =>
  mbnd (mX8_copyFrom v3 v4) fun _ =>
  mbnd (gR 1 2 a0) fun (v5 : Nat) =>
  mbnd (gR 1 2 a1) fun (v6 : Nat) =>
  mbnd (mX8_copyFrom v5 v6) fun _ =>
  mbnd (gR 1 3 a0) fun (v7 : Nat) =>
  mbnd (gR 1 3 a1) fun (v8 : Nat) =>
  mbnd (mX8_copyFrom v7 v8) fun _ =>
  mbnd (gR 1 4 a0) fun (v9 : Nat) =>
  mbnd (gR 1 4 a1) fun (v10 : Nat) =>
  mbnd (mX8_copyFrom v9 v10) fun _ =>
  mbnd (gR 1 5 a0) fun (v11 : Nat) =>
  mbnd (gR 1 5 a1) fun (v12 : Nat) =>
  mbnd (mX8_copyFrom v11 v12) fun _ =>
  mbnd (gR 1 6 a1) fun (v13 : Nat) =>
  mbnd (pR 1 6 a0 v13) fun _ =>
  mbnd (gI 1 7 a1) fun (v14 : Int32) =>
  mbnd (pI 1 7 a0 v14) fun _ =>
  mbnd (gI 1 8 a1) fun (v15 : Int32) =>
  mbnd (pI 1 8 a0 v15) fun _ =>
  mbnd (gI 1 9 a1) fun (v16 : Int32) =>
  mbnd (pI 1 9 a0 v16) fun _ =>
  mbnd (gI 1 10 a1) fun (v17 : Int32) =>
  mbnd (pI 1 10 a0 v17) fun _ =>
  mbnd (gI 1 11 a1) fun (v18 : Int32) =>
  mbnd (pI 1 11 a0 v18) fun _ =>
  mbnd (gI 1 12 a1) fun (v19 : Int32) =>
  mbnd (pI 1 12 a0 v19) fun _ =>
  mret ()
  )
theorem rcX1_copyFrom (a0 : Nat) (a1 : Nat) : Rcv 1 a0 (mX1_copyFrom a0 a1) := fun s r h => ⟨(onC_some h).1, (onC_some h).2.1⟩
set_option maxHeartbeats 4000000 in
set_option maxRecDepth 100000 in
theorem ctX1_copyFrom (a0 : Nat) (a1 : Nat) : Ct aX1_copyFrom [vr a0, vr a1] (mX1_copyFrom a0 a1) rU := by
  unfold mX1_copyFrom
  refine ct_onC (ct_intro (by decide +kernel) rfl (Nat.le_of_ble_eq_true rfl) fun Y s => ?_)
  refine r_sub (lv' := [(0, vr a0), (1, vr a1)]) [0, 1] rfl ?_
  refine r_p (pc' := 1) (p_aload_n 0 (k := 0) (by decide +kernel) rfl) ?_
  refine r_gR flX1_14_1 (by decide +kernel) fun v1 => ?_
  refine r_p (pc' := 5) (p_aload_n 1 (k := 1) (by decide +kernel) rfl) ?_
  refine r_gR flX1_14_1 (by decide +kernel) fun v2 => ?_
  refine r_callVU mvX1_43 (ctX8_copyFrom v1 v2) (rcX8_copyFrom v1 v2) ⟨_, _, rfl⟩ (as := [vr v2]) (st := []) rfl rfl (by decide +kernel) rfl (Nat.le_of_ble_eq_true rfl) (Nat.le_of_ble_eq_true rfl) fun s => ?_
  refine r_p (pc' := 12) (p_aload_n 0 (k := 0) (by decide +kernel) rfl) ?_
  refine r_gR flX1_20_1 (by decide +kernel) fun v3 => ?_
  refine r_p (pc' := 16) (p_aload_n 1 (k := 1) (by decide +kernel) rfl) ?_
  refine r_gR flX1_20_1 (by decide +kernel) fun v4 => ?_
  refine r_callVU mvX1_43 (ctX8_copyFrom v3 v4) (rcX8_copyFrom v3 v4) ⟨_, _, rfl⟩ (as := [vr v4]) (st := []) rfl rfl (by decide +kernel) rfl (Nat.le_of_ble_eq_true rfl) (Nat.le_of_ble_eq_true rfl) fun s => ?_
  refine r_p (pc' := 23) (p_aload_n 0 (k := 0) (by decide +kernel) rfl) ?_
  refine r_gR flX1_23_1 (by decide +kernel) fun v5 => ?_
  refine r_p (pc' := 27) (p_aload_n 1 (k := 1) (by decide +kernel) rfl) ?_
  refine r_gR flX1_23_1 (by decide +kernel) fun v6 => ?_
  refine r_callVU mvX1_43 (ctX8_copyFrom v5 v6) (rcX8_copyFrom v5 v6) ⟨_, _, rfl⟩ (as := [vr v6]) (st := []) rfl rfl (by decide +kernel) rfl (Nat.le_of_ble_eq_true rfl) (Nat.le_of_ble_eq_true rfl) fun s => ?_
  refine r_p (pc' := 34) (p_aload_n 0 (k := 0) (by decide +kernel) rfl) ?_
  refine r_gR flX1_26_1 (by decide +kernel) fun v7 => ?_
  refine r_p (pc' := 38) (p_aload_n 1 (k := 1) (by decide +kernel) rfl) ?_
  refine r_gR flX1_26_1 (by decide +kernel) fun v8 => ?_
  refine r_callVU mvX1_43 (ctX8_copyFrom v7 v8) (rcX8_copyFrom v7 v8) ⟨_, _, rfl⟩ (as := [vr v8]) (st := []) rfl rfl (by decide +kernel) rfl (Nat.le_of_ble_eq_true rfl) (Nat.le_of_ble_eq_true rfl) fun s => ?_
  refine r_p (pc' := 45) (p_aload_n 0 (k := 0) (by decide +kernel) rfl) ?_
  refine r_gR flX1_29_1 (by decide +kernel) fun v9 => ?_
  refine r_p (pc' := 49) (p_aload_n 1 (k := 1) (by decide +kernel) rfl) ?_
  refine r_gR flX1_29_1 (by decide +kernel) fun v10 => ?_
  refine r_callVU mvX1_43 (ctX8_copyFrom v9 v10) (rcX8_copyFrom v9 v10) ⟨_, _, rfl⟩ (as := [vr v10]) (st := []) rfl rfl (by decide +kernel) rfl (Nat.le_of_ble_eq_true rfl) (Nat.le_of_ble_eq_true rfl) fun s => ?_
  refine r_p (pc' := 56) (p_aload_n 0 (k := 0) (by decide +kernel) rfl) ?_
  refine r_gR flX1_32_1 (by decide +kernel) fun v11 => ?_
  refine r_p (pc' := 60) (p_aload_n 1 (k := 1) (by decide +kernel) rfl) ?_
  refine r_gR flX1_32_1 (by decide +kernel) fun v12 => ?_
  refine r_callVU mvX1_43 (ctX8_copyFrom v11 v12) (rcX8_copyFrom v11 v12) ⟨_, _, rfl⟩ (as := [vr v12]) (st := []) rfl rfl (by decide +kernel) rfl (Nat.le_of_ble_eq_true rfl) (Nat.le_of_ble_eq_true rfl) fun s => ?_
  refine r_p (pc' := 67) (p_aload_n 0 (k := 0) (by decide +kernel) rfl) ?_
  refine r_p (pc' := 68) (p_aload_n 1 (k := 1) (by decide +kernel) rfl) ?_
  refine r_gR flX1_39_1 (by decide +kernel) fun v13 => ?_
  refine r_pR fpX1_39_1 (fun h => by cases h) (Or.inl ⟨_, rfl⟩) (by decide +kernel) fun s => ?_
  refine r_p (pc' := 75) (p_aload_n 0 (k := 0) (by decide +kernel) rfl) ?_
  refine r_p (pc' := 76) (p_aload_n 1 (k := 1) (by decide +kernel) rfl) ?_
  refine r_gI flX1_47_1 (by decide +kernel) fun v14 => ?_
  refine r_pI fpX1_47_1 (fun h => by cases h) (by decide +kernel) fun s => ?_
  refine r_p (pc' := 83) (p_aload_n 0 (k := 0) (by decide +kernel) rfl) ?_
  refine r_p (pc' := 84) (p_aload_n 1 (k := 1) (by decide +kernel) rfl) ?_
  refine r_gI flX1_50_1 (by decide +kernel) fun v15 => ?_
  refine r_pI fpX1_50_1 (fun h => by cases h) (by decide +kernel) fun s => ?_
  refine r_p (pc' := 91) (p_aload_n 0 (k := 0) (by decide +kernel) rfl) ?_
  refine r_p (pc' := 92) (p_aload_n 1 (k := 1) (by decide +kernel) rfl) ?_
  refine r_gI flX1_53_1 (by decide +kernel) fun v16 => ?_
  refine r_pI fpX1_53_1 (fun h => by cases h) (by decide +kernel) fun s => ?_
  refine r_p (pc' := 99) (p_aload_n 0 (k := 0) (by decide +kernel) rfl) ?_
  refine r_p (pc' := 100) (p_aload_n 1 (k := 1) (by decide +kernel) rfl) ?_
  refine r_gI flX1_56_1 (by decide +kernel) fun v17 => ?_
  refine r_pI fpX1_56_1 (fun h => by cases h) (by decide +kernel) fun s => ?_
  refine r_p (pc' := 107) (p_aload_n 0 (k := 0) (by decide +kernel) rfl) ?_
  refine r_p (pc' := 108) (p_aload_n 1 (k := 1) (by decide +kernel) rfl) ?_
  refine r_gI flX1_35_1 (by decide +kernel) fun v18 => ?_
  refine r_pI fpX1_35_1 (fun h => by cases h) (by decide +kernel) fun s => ?_
  refine r_p (pc' := 115) (p_aload_n 0 (k := 0) (by decide +kernel) rfl) ?_
  refine r_p (pc' := 116) (p_aload_n 1 (k := 1) (by decide +kernel) rfl) ?_
  refine r_gI flX1_59_1 (by decide +kernel) fun v19 => ?_
  refine r_pI fpX1_59_1 (fun h => by cases h) (by decide +kernel) fun s => ?_
  exact r_vret (y9 := ()) rfl rfl rfl (by decide +kernel)
def aX1_isSpare : StA := (RX1, cX1_isSpare, 2, some .boolean, yX1_isSpare, 9, [])
theorem mvX1_62 : MV RX1 62 aX8_get 2 := ⟨tblG_of 581 (by decide +kernel) (by decide +kernel), tblG_of 582 (by decide +kernel) (by decide +kernel), tblG_of 583 (by decide +kernel) (by decide +kernel), tblG_of 152 (by decide +kernel) (by decide +kernel), tblG_of 584 (by decide +kernel) (by decide +kernel), rfl, ⟨by decide, by decide⟩, by decide +kernel, by decide⟩
noncomputable def mX1_isSpare (a0 : Nat) (a1 : Int32) : MM Int32 := onC 1 a0 (
  mbnd (gR 1 0 a0) fun (v1 : Nat) =>
  mbnd (mX8_get v1 a1 6) fun (v2 : Int32) =>
  if v2 = (-1) then (
    mret 1
  ) else (
    mret 0
  )
  )
theorem rcX1_isSpare (a0 : Nat) (a1 : Int32) : Rcv 1 a0 (mX1_isSpare a0 a1) := fun s r h => ⟨(onC_some h).1, (onC_some h).2.1⟩
set_option maxHeartbeats 4000000 in
set_option maxRecDepth 100000 in
theorem ctX1_isSpare (a0 : Nat) (a1 : Int32) : Ct aX1_isSpare [vr a0, vi a1] (mX1_isSpare a0 a1) rI := by
  unfold mX1_isSpare
  refine ct_onC (ct_intro (by decide +kernel) rfl (Nat.le_of_ble_eq_true rfl) fun Y s => ?_)
  refine r_sub (lv' := [(0, vr a0), (1, vi a1)]) [0, 1] rfl ?_
  refine r_p (pc' := 1) (p_aload_n 0 (k := 0) (by decide +kernel) rfl) ?_
  refine r_gR flX1_14_1 (by decide +kernel) fun v1 => ?_
  refine r_p (pc' := 5) (p_iload_n 1 (k := 1) (by decide +kernel) rfl) ?_
  refine r_p (pc' := 7) (p_bipush (n := 6) (v := 6) (by decide +kernel) (by decide +kernel)) ?_
  refine r_callVI mvX1_62 (ctX8_get v1 a1 6) (rcX8_get v1 a1 6) ⟨_, _, rfl⟩ (as := [vi a1, vi 6]) (st := []) rfl rfl (by decide +kernel) rfl (Nat.le_of_ble_eq_true rfl) (Nat.le_of_ble_eq_true rfl) fun v2 s => ?_
  refine r_p (pc' := 11) (p_iconst (n := -1) (v := -1) (by decide +kernel) rfl) ?_
  refine r_icmpne (off := 7) (tgt := 18) (by decide +kernel) (by decide) (fun h3 => ?_) (fun h3 => ?_)
  · refine r_p (pc' := 15) (p_iconst (n := 1) (v := 1) (by decide +kernel) rfl) ?_
    refine r_p (pc' := 19) (p_goto (off := 4) (tgt := 19) (by decide +kernel) (by decide)) ?_
    exact r_iret rfl rfl _ rfl rfl (by decide +kernel)
  · refine r_p (pc' := 19) (p_iconst (n := 0) (v := 0) (by decide +kernel) rfl) ?_
    exact r_iret rfl rfl _ rfl rfl (by decide +kernel)
def aX1_place : StA := (RX1, cX1_place, 4, none, yX1_place, 9, [])
theorem mvX1_83 : MV RX1 83 aX8_put 3 := ⟨tblG_of 1026 (by decide +kernel) (by decide +kernel), tblG_of 1008 (by decide +kernel) (by decide +kernel), tblG_of 1009 (by decide +kernel) (by decide +kernel), tblG_of 152 (by decide +kernel) (by decide +kernel), tblG_of 1010 (by decide +kernel) (by decide +kernel), rfl, ⟨by decide, by decide⟩, by decide +kernel, by decide⟩
noncomputable def mX1_place (a0 : Nat) (a1 : Int32) (a2 : Int32) (a3 : Int32) : MM Unit := onC 1 a0 (
  mbnd (gR 1 1 a0) fun (v1 : Nat) =>
  mbnd (mX8_put v1 a1 a2 a3) fun _ =>
  mbnd (gR 1 0 a0) fun (v2 : Nat) =>
  mbnd (mX8_put v2 a3 6 a1) fun _ =>
  mret ()
  )
theorem rcX1_place (a0 : Nat) (a1 : Int32) (a2 : Int32) (a3 : Int32) : Rcv 1 a0 (mX1_place a0 a1 a2 a3) := fun s r h => ⟨(onC_some h).1, (onC_some h).2.1⟩
set_option maxHeartbeats 4000000 in
set_option maxRecDepth 100000 in
theorem ctX1_place (a0 : Nat) (a1 : Int32) (a2 : Int32) (a3 : Int32) : Ct aX1_place [vr a0, vi a1, vi a2, vi a3] (mX1_place a0 a1 a2 a3) rU := by
  unfold mX1_place
  refine ct_onC (ct_intro (by decide +kernel) rfl (Nat.le_of_ble_eq_true rfl) fun Y s => ?_)
  refine r_sub (lv' := [(0, vr a0), (1, vi a1), (2, vi a2), (3, vi a3)]) [0, 1, 2, 3] rfl ?_
  refine r_p (pc' := 1) (p_aload_n 0 (k := 0) (by decide +kernel) rfl) ?_
  refine r_gR flX1_20_1 (by decide +kernel) fun v1 => ?_
  refine r_p (pc' := 5) (p_iload_n 1 (k := 1) (by decide +kernel) rfl) ?_
  refine r_p (pc' := 6) (p_iload_n 2 (k := 2) (by decide +kernel) rfl) ?_
  refine r_p (pc' := 7) (p_iload_n 3 (k := 3) (by decide +kernel) rfl) ?_
  refine r_callVU mvX1_83 (ctX8_put v1 a1 a2 a3) (rcX8_put v1 a1 a2 a3) ⟨_, _, rfl⟩ (as := [vi a1, vi a2, vi a3]) (st := []) rfl rfl (by decide +kernel) rfl (Nat.le_of_ble_eq_true rfl) (Nat.le_of_ble_eq_true rfl) fun s => ?_
  refine r_p (pc' := 11) (p_aload_n 0 (k := 0) (by decide +kernel) rfl) ?_
  refine r_gR flX1_14_1 (by decide +kernel) fun v2 => ?_
  refine r_p (pc' := 15) (p_iload_n 3 (k := 3) (by decide +kernel) rfl) ?_
  refine r_p (pc' := 17) (p_bipush (n := 6) (v := 6) (by decide +kernel) (by decide +kernel)) ?_
  refine r_p (pc' := 18) (p_iload_n 1 (k := 1) (by decide +kernel) rfl) ?_
  refine r_callVU mvX1_83 (ctX8_put v2 a3 6 a1) (rcX8_put v2 a3 6 a1) ⟨_, _, rfl⟩ (as := [vi a3, vi 6, vi a1]) (st := []) rfl rfl (by decide +kernel) rfl (Nat.le_of_ble_eq_true rfl) (Nat.le_of_ble_eq_true rfl) fun s => ?_
  exact r_vret (y9 := ()) rfl rfl rfl (by decide +kernel)
def aX1_need : StA := (RX1, cX1_need, 3, none, yX1_need, 9, [])
noncomputable def mX1_need (a0 : Nat) (a1 : Int32) (a2 : Int32) : MM Unit := onC 1 a0 (
  mbnd (gR 1 1 a0) fun (v1 : Nat) =>
  mbnd (gR 1 1 a0) fun (v2 : Nat) =>
  mbnd (mX8_get v2 a1 3) fun (v3 : Int32) =>
  mbnd (mX8_put v1 a1 3 (v3 ||| (1 <<< (a2 &&& (31 : Int32))))) fun _ =>
  mret ()
  )
theorem rcX1_need (a0 : Nat) (a1 : Int32) (a2 : Int32) : Rcv 1 a0 (mX1_need a0 a1 a2) := fun s r h => ⟨(onC_some h).1, (onC_some h).2.1⟩
set_option maxHeartbeats 4000000 in
set_option maxRecDepth 100000 in
theorem ctX1_need (a0 : Nat) (a1 : Int32) (a2 : Int32) : Ct aX1_need [vr a0, vi a1, vi a2] (mX1_need a0 a1 a2) rU := by
  unfold mX1_need
  refine ct_onC (ct_intro (by decide +kernel) rfl (Nat.le_of_ble_eq_true rfl) fun Y s => ?_)
  refine r_sub (lv' := [(0, vr a0), (1, vi a1), (2, vi a2)]) [0, 1, 2] rfl ?_
  refine r_p (pc' := 1) (p_aload_n 0 (k := 0) (by decide +kernel) rfl) ?_
  refine r_gR flX1_20_1 (by decide +kernel) fun v1 => ?_
  refine r_p (pc' := 5) (p_iload_n 1 (k := 1) (by decide +kernel) rfl) ?_
  refine r_p (pc' := 6) (p_iconst (n := 3) (v := 3) (by decide +kernel) rfl) ?_
  refine r_p (pc' := 7) (p_aload_n 0 (k := 0) (by decide +kernel) rfl) ?_
  refine r_gR flX1_20_1 (by decide +kernel) fun v2 => ?_
  refine r_p (pc' := 11) (p_iload_n 1 (k := 1) (by decide +kernel) rfl) ?_
  refine r_p (pc' := 12) (p_iconst (n := 3) (v := 3) (by decide +kernel) rfl) ?_
  refine r_callVI mvX1_62 (ctX8_get v2 a1 3) (rcX8_get v2 a1 3) ⟨_, _, rfl⟩ (as := [vi a1, vi 3]) (st := [vi 3, vi a1, vr v1]) rfl rfl (by decide +kernel) rfl (Nat.le_of_ble_eq_true rfl) (Nat.le_of_ble_eq_true rfl) fun v3 s => ?_
  refine r_p (pc' := 16) (p_iconst (n := 1) (v := 1) (by decide +kernel) rfl) ?_
  refine r_p (pc' := 17) (p_iload_n 2 (k := 2) (by decide +kernel) rfl) ?_
  refine r_p (pc' := 18) (p_ishl (by decide +kernel)) ?_
  refine r_p (pc' := 19) (p_ior (by decide +kernel)) ?_
  refine r_callVU mvX1_83 (ctX8_put v1 a1 3 (v3 ||| (1 <<< (a2 &&& (31 : Int32))))) (rcX8_put v1 a1 3 (v3 ||| (1 <<< (a2 &&& (31 : Int32))))) ⟨_, _, rfl⟩ (as := [vi a1, vi 3, vi (v3 ||| (1 <<< (a2 &&& (31 : Int32))))]) (st := []) rfl rfl (by decide +kernel) rfl (Nat.le_of_ble_eq_true rfl) (Nat.le_of_ble_eq_true rfl) fun s => ?_
  exact r_vret (y9 := ()) rfl rfl rfl (by decide +kernel)
def aX1_guiltOf : StA := (RX1, cX1_guiltOf, 2, some .int, yX1_guiltOf, 9, [])
theorem mvX1_66 : MV RX1 66 aX8_has 1 := ⟨tblG_of 589 (by decide +kernel) (by decide +kernel), tblG_of 590 (by decide +kernel) (by decide +kernel), tblG_of 591 (by decide +kernel) (by decide +kernel), tblG_of 152 (by decide +kernel) (by decide +kernel), tblG_of 592 (by decide +kernel) (by decide +kernel), rfl, ⟨by decide, by decide⟩, by decide +kernel, by decide⟩
noncomputable def mX1_guiltOf (a0 : Nat) (a1 : Int32) : MM Int32 := onC 1 a0 (
  mbnd (gR 1 0 a0) fun (v1 : Nat) =>
  mbnd (mX8_has v1 a1) fun (v2 : Int32) =>
  if v2 = 0 then (
    mret 0
  ) else (
    mbnd (gR 1 0 a0) fun (v4 : Nat) =>
    mbnd (mX8_get v4 a1 3) fun (v5 : Int32) =>
    mret v5
  )
  )
theorem rcX1_guiltOf (a0 : Nat) (a1 : Int32) : Rcv 1 a0 (mX1_guiltOf a0 a1) := fun s r h => ⟨(onC_some h).1, (onC_some h).2.1⟩
set_option maxHeartbeats 4000000 in
set_option maxRecDepth 100000 in
theorem ctX1_guiltOf (a0 : Nat) (a1 : Int32) : Ct aX1_guiltOf [vr a0, vi a1] (mX1_guiltOf a0 a1) rI := by
  unfold mX1_guiltOf
  refine ct_onC (ct_intro (by decide +kernel) rfl (Nat.le_of_ble_eq_true rfl) fun Y s => ?_)
  refine r_sub (lv' := [(0, vr a0), (1, vi a1)]) [0, 1] rfl ?_
  refine r_p (pc' := 1) (p_aload_n 0 (k := 0) (by decide +kernel) rfl) ?_
  refine r_gR flX1_14_1 (by decide +kernel) fun v1 => ?_
  refine r_p (pc' := 5) (p_iload_n 1 (k := 1) (by decide +kernel) rfl) ?_
  refine r_callVI mvX1_66 (ctX8_has v1 a1) (rcX8_has v1 a1) ⟨_, _, rfl⟩ (as := [vi a1]) (st := []) rfl rfl (by decide +kernel) rfl (Nat.le_of_ble_eq_true rfl) (Nat.le_of_ble_eq_true rfl) fun v2 s => ?_
  refine r_ifeq (off := 15) (tgt := 23) (by decide +kernel) (by decide) (fun h3 => ?_) (fun h3 => ?_)
  · refine r_p (pc' := 24) (p_iconst (n := 0) (v := 0) (by decide +kernel) rfl) ?_
    exact r_iret rfl rfl _ rfl rfl (by decide +kernel)
  · refine r_p (pc' := 12) (p_aload_n 0 (k := 0) (by decide +kernel) rfl) ?_
    refine r_gR flX1_14_1 (by decide +kernel) fun v4 => ?_
    refine r_p (pc' := 16) (p_iload_n 1 (k := 1) (by decide +kernel) rfl) ?_
    refine r_p (pc' := 17) (p_iconst (n := 3) (v := 3) (by decide +kernel) rfl) ?_
    refine r_callVI mvX1_62 (ctX8_get v4 a1 3) (rcX8_get v4 a1 3) ⟨_, _, rfl⟩ (as := [vi a1, vi 3]) (st := []) rfl rfl (by decide +kernel) rfl (Nat.le_of_ble_eq_true rfl) (Nat.le_of_ble_eq_true rfl) fun v5 s => ?_
    refine r_p (pc' := 24) (p_goto (off := 4) (tgt := 24) (by decide +kernel) (by decide)) ?_
    exact r_iret rfl rfl _ rfl rfl (by decide +kernel)
def aX1_answered : StA := (RX1, cX1_answered, 4, some .int, yX1_answered, 10, [])
theorem mvX1_73 : MV RX1 73 aX1_guiltOf 1 := ⟨tblG_of 585 (by decide +kernel) (by decide +kernel), tblG_of 586 (by decide +kernel) (by decide +kernel), tblG_of 587 (by decide +kernel) (by decide +kernel), tblG_of 151 (by decide +kernel) (by decide +kernel), tblG_of 588 (by decide +kernel) (by decide +kernel), rfl, ⟨by decide, by decide⟩, by decide +kernel, by decide⟩
noncomputable def mX1_answered_L4 (a0 : Nat) (a1 : Int32) (x1 : Int32 × Int32) : MM ((Int32 × Int32) ⊕ (Int32)) :=
  if 3 ≤ x1.2 then (
    mret (.inr x1.1)
  ) else (
    mbnd (gR 1 1 a0) fun (v6 : Nat) =>
    mbnd (mX8_get v6 a1 x1.2) fun (v7 : Int32) =>
    mbnd (mX1_guiltOf a0 v7) fun (v8 : Int32) =>
    mbnd (mret (x1.1 + v8)) fun (v9 : Int32) =>
    mret (.inl (v9, x1.2 + 1))
  )
noncomputable def mX1_answered (a0 : Nat) (a1 : Int32) : MM Int32 := onC 1 a0 (
  mbnd (loopM (mX1_answered_L4 a0 a1) (0, 0)) fun (e10 : Int32) =>
  mret e10
  )
theorem rcX1_answered (a0 : Nat) (a1 : Int32) : Rcv 1 a0 (mX1_answered a0 a1) := fun s r h => ⟨(onC_some h).1, (onC_some h).2.1⟩
set_option maxHeartbeats 4000000 in
set_option maxRecDepth 100000 in
theorem ctX1_answered (a0 : Nat) (a1 : Int32) : Ct aX1_answered [vr a0, vi a1] (mX1_answered a0 a1) rI := by
  unfold mX1_answered
  refine ct_onC (ct_intro (by decide +kernel) rfl (Nat.le_of_ble_eq_true rfl) fun Y s => ?_)
  refine r_sub (lv' := [(0, vr a0), (1, vi a1)]) [0, 1] rfl ?_
  refine r_p (pc' := 1) (p_iconst (n := 0) (v := 0) (by decide +kernel) rfl) ?_
  refine r_p (pc' := 2) (p_istore_n (k := 2) (lv' := [(2, vi 0), (0, vr a0), (1, vi a1)]) (by decide +kernel) (Nat.le_of_ble_eq_true rfl) rfl) ?_
  refine r_p (pc' := 3) (p_iconst (n := 0) (v := 0) (by decide +kernel) rfl) ?_
  refine r_p (pc' := 4) (p_istore_n (k := 3) (lv' := [(3, vi 0), (2, vi 0), (0, vr a0), (1, vi a1)]) (by decide +kernel) (Nat.le_of_ble_eq_true rfl) rfl) ?_
  refine r_sub (lv' := [(0, vr a0), (1, vi a1), (2, vi 0), (3, vi 0)]) [2, 3, 1, 0] rfl ?_
  refine r_loop2 (fun _ => 31) (fun (e10 : Int32) => [(2, vi e10)]) (fun (x1 : Int32 × Int32) => [(0, vr a0), (1, vi a1), (2, vi x1.1), (3, vi x1.2)]) (fun e10 s => ?_) (fun K2 hb3 he4 x1 s => ?_) (0, 0) _
  · refine r_p (pc' := 32) (p_iload_n 0 (k := 2) (by decide +kernel) rfl) ?_
    exact r_iret rfl rfl _ rfl rfl (by decide +kernel)
  · unfold mX1_answered_L4
    refine r_p (pc' := 5) (p_iload_n 3 (k := 3) (by decide +kernel) rfl) ?_
    refine r_p (pc' := 6) (p_iconst (n := 3) (v := 3) (by decide +kernel) rfl) ?_
    refine r_icmpge (off := 25) (tgt := 31) (by decide +kernel) (by decide) (fun h5 => ?_) (fun h5 => ?_)
    · refine r_sub (lv' := [(2, vi x1.1)]) [2] rfl ?_
      exact he4 x1.1 _
    · refine r_p (pc' := 10) (p_iload_n 2 (k := 2) (by decide +kernel) rfl) ?_
      refine r_p (pc' := 11) (p_aload_n 0 (k := 0) (by decide +kernel) rfl) ?_
      refine r_p (pc' := 12) (p_aload_n 0 (k := 0) (by decide +kernel) rfl) ?_
      refine r_gR flX1_20_1 (by decide +kernel) fun v6 => ?_
      refine r_p (pc' := 16) (p_iload_n 1 (k := 1) (by decide +kernel) rfl) ?_
      refine r_p (pc' := 17) (p_iload_n 3 (k := 3) (by decide +kernel) rfl) ?_
      refine r_callVI mvX1_62 (ctX8_get v6 a1 x1.2) (rcX8_get v6 a1 x1.2) ⟨_, _, rfl⟩ (as := [vi a1, vi x1.2]) (st := [vr a0, vi x1.1]) rfl rfl (by decide +kernel) rfl (Nat.le_of_ble_eq_true rfl) (Nat.le_of_ble_eq_true rfl) fun v7 s => ?_
      refine r_callVI mvX1_73 (ctX1_guiltOf a0 v7) (rcX1_guiltOf a0 v7) ⟨_, _, rfl⟩ (as := [vi v7]) (st := [vi x1.1]) rfl rfl (by decide +kernel) rfl (Nat.le_of_ble_eq_true rfl) (Nat.le_of_ble_eq_true rfl) fun v8 s => ?_
      refine r_p (pc' := 24) (p_iadd (by decide +kernel)) ?_
      refine r_letI fun v9 => ?_
      refine r_p (pc' := 25) (p_istore_n (k := 2) (lv' := [(2, vi v9), (0, vr a0), (1, vi a1), (3, vi x1.2)]) (by decide +kernel) (Nat.le_of_ble_eq_true rfl) rfl) ?_
      refine r_p (pc' := 28) (p_iinc 3 (i := 3) (n := 1) (x := x1.2) (v := x1.2 + 1) (lv' := [(3, vi (x1.2 + 1)), (2, vi v9), (0, vr a0), (1, vi a1)]) (by decide +kernel) rfl rfl (Nat.le_of_ble_eq_true rfl) rfl) ?_
      refine r_p (pc' := 4) (p_goto (off := -24) (tgt := 4) (by decide +kernel) (by decide)) ?_
      refine r_sub (lv' := [(0, vr a0), (1, vi a1), (2, vi v9), (3, vi (x1.2 + 1))]) [2, 3, 1, 0] rfl ?_
      exact hb3 (v9, x1.2 + 1) _
def aX1_sentence : StA := (RX1, cX1_sentence, 2, some .int, yX1_sentence, 11, [])
theorem mvX1_80 : MV RX1 80 aX1_answered 1 := ⟨tblG_of 577 (by decide +kernel) (by decide +kernel), tblG_of 578 (by decide +kernel) (by decide +kernel), tblG_of 579 (by decide +kernel) (by decide +kernel), tblG_of 151 (by decide +kernel) (by decide +kernel), tblG_of 580 (by decide +kernel) (by decide +kernel), rfl, ⟨by decide, by decide⟩, by decide +kernel, by decide⟩
noncomputable def mX1_sentence (a0 : Nat) (a1 : Int32) : MM Int32 := onC 1 a0 (
  mbnd (mX1_answered a0 a1) fun (v1 : Int32) =>
  mret (((v1 + 10) - 1) / 10)
  )
theorem rcX1_sentence (a0 : Nat) (a1 : Int32) : Rcv 1 a0 (mX1_sentence a0 a1) := fun s r h => ⟨(onC_some h).1, (onC_some h).2.1⟩
set_option maxHeartbeats 4000000 in
set_option maxRecDepth 100000 in
theorem ctX1_sentence (a0 : Nat) (a1 : Int32) : Ct aX1_sentence [vr a0, vi a1] (mX1_sentence a0 a1) rI := by
  unfold mX1_sentence
  refine ct_onC (ct_intro (by decide +kernel) rfl (Nat.le_of_ble_eq_true rfl) fun Y s => ?_)
  refine r_sub (lv' := [(0, vr a0), (1, vi a1)]) [0, 1] rfl ?_
  refine r_p (pc' := 1) (p_aload_n 0 (k := 0) (by decide +kernel) rfl) ?_
  refine r_p (pc' := 2) (p_iload_n 1 (k := 1) (by decide +kernel) rfl) ?_
  refine r_callVI mvX1_80 (ctX1_answered a0 a1) (rcX1_answered a0 a1) ⟨_, _, rfl⟩ (as := [vi a1]) (st := []) rfl rfl (by decide +kernel) rfl (Nat.le_of_ble_eq_true rfl) (Nat.le_of_ble_eq_true rfl) fun v1 s => ?_
  refine r_p (pc' := 7) (p_bipush (n := 10) (v := 10) (by decide +kernel) (by decide +kernel)) ?_
  refine r_p (pc' := 8) (p_iadd (by decide +kernel)) ?_
  refine r_p (pc' := 9) (p_iconst (n := 1) (v := 1) (by decide +kernel) rfl) ?_
  refine r_p (pc' := 10) (p_isub (by decide +kernel)) ?_
  refine r_p (pc' := 12) (p_bipush (n := 10) (v := 10) (by decide +kernel) (by decide +kernel)) ?_
  refine r_p (pc' := 13) (p_idiv (by decide +kernel) (by decide)) ?_
  exact r_iret rfl rfl _ rfl rfl (by decide +kernel)
def aX1_markOf : StA := (RX1, cX1_markOf, 3, some .int, yX1_markOf, 9, [])
noncomputable def mX1_markOf (a0 : Nat) (a1 : Int32) : MM Int32 := onC 1 a0 (
  mbnd (gR 1 1 a0) fun (v1 : Nat) =>
  mbnd (mX8_get v1 a1 1) fun (v2 : Int32) =>
  if v2 = (-1) then (
    mret (-1)
  ) else (
    mbnd (gR 1 0 a0) fun (v4 : Nat) =>
    mbnd (mX8_get v4 v2 1) fun (v5 : Int32) =>
    mbnd (gR 1 0 a0) fun (v6 : Nat) =>
    mbnd (mX8_get v6 v2 2) fun (v7 : Int32) =>
    mret ((v5 * 10) + (v7 / 10))
  )
  )
theorem rcX1_markOf (a0 : Nat) (a1 : Int32) : Rcv 1 a0 (mX1_markOf a0 a1) := fun s r h => ⟨(onC_some h).1, (onC_some h).2.1⟩
set_option maxHeartbeats 4000000 in
set_option maxRecDepth 100000 in
theorem ctX1_markOf (a0 : Nat) (a1 : Int32) : Ct aX1_markOf [vr a0, vi a1] (mX1_markOf a0 a1) rI := by
  unfold mX1_markOf
  refine ct_onC (ct_intro (by decide +kernel) rfl (Nat.le_of_ble_eq_true rfl) fun Y s => ?_)
  refine r_sub (lv' := [(0, vr a0), (1, vi a1)]) [0, 1] rfl ?_
  refine r_p (pc' := 1) (p_aload_n 0 (k := 0) (by decide +kernel) rfl) ?_
  refine r_gR flX1_20_1 (by decide +kernel) fun v1 => ?_
  refine r_p (pc' := 5) (p_iload_n 1 (k := 1) (by decide +kernel) rfl) ?_
  refine r_p (pc' := 6) (p_iconst (n := 1) (v := 1) (by decide +kernel) rfl) ?_
  refine r_callVI mvX1_62 (ctX8_get v1 a1 1) (rcX8_get v1 a1 1) ⟨_, _, rfl⟩ (as := [vi a1, vi 1]) (st := []) rfl rfl (by decide +kernel) rfl (Nat.le_of_ble_eq_true rfl) (Nat.le_of_ble_eq_true rfl) fun v2 s => ?_
  refine r_p (pc' := 10) (p_istore_n (k := 2) (lv' := [(2, vi v2), (0, vr a0), (1, vi a1)]) (by decide +kernel) (Nat.le_of_ble_eq_true rfl) rfl) ?_
  refine r_p (pc' := 11) (p_iload_n 0 (k := 2) (by decide +kernel) rfl) ?_
  refine r_p (pc' := 12) (p_iconst (n := -1) (v := -1) (by decide +kernel) rfl) ?_
  refine r_icmpne (off := 5) (tgt := 17) (by decide +kernel) (by decide) (fun h3 => ?_) (fun h3 => ?_)
  · refine r_p (pc' := 16) (p_iconst (n := -1) (v := -1) (by decide +kernel) rfl) ?_
    exact r_iret rfl rfl _ rfl rfl (by decide +kernel)
  · refine r_p (pc' := 18) (p_aload_n 1 (k := 0) (by decide +kernel) rfl) ?_
    refine r_gR flX1_14_1 (by decide +kernel) fun v4 => ?_
    refine r_p (pc' := 22) (p_iload_n 0 (k := 2) (by decide +kernel) rfl) ?_
    refine r_p (pc' := 23) (p_iconst (n := 1) (v := 1) (by decide +kernel) rfl) ?_
    refine r_callVI mvX1_62 (ctX8_get v4 v2 1) (rcX8_get v4 v2 1) ⟨_, _, rfl⟩ (as := [vi v2, vi 1]) (st := []) rfl rfl (by decide +kernel) rfl (Nat.le_of_ble_eq_true rfl) (Nat.le_of_ble_eq_true rfl) fun v5 s => ?_
    refine r_p (pc' := 28) (p_bipush (n := 10) (v := 10) (by decide +kernel) (by decide +kernel)) ?_
    refine r_p (pc' := 29) (p_imul (by decide +kernel)) ?_
    refine r_p (pc' := 30) (p_aload_n 1 (k := 0) (by decide +kernel) rfl) ?_
    refine r_gR flX1_14_1 (by decide +kernel) fun v6 => ?_
    refine r_p (pc' := 34) (p_iload_n 0 (k := 2) (by decide +kernel) rfl) ?_
    refine r_p (pc' := 35) (p_iconst (n := 2) (v := 2) (by decide +kernel) rfl) ?_
    refine r_callVI mvX1_62 (ctX8_get v6 v2 2) (rcX8_get v6 v2 2) ⟨_, _, rfl⟩ (as := [vi v2, vi 2]) (st := [vi (v5 * 10)]) rfl rfl (by decide +kernel) rfl (Nat.le_of_ble_eq_true rfl) (Nat.le_of_ble_eq_true rfl) fun v7 s => ?_
    refine r_p (pc' := 40) (p_bipush (n := 10) (v := 10) (by decide +kernel) (by decide +kernel)) ?_
    refine r_p (pc' := 41) (p_idiv (by decide +kernel) (by decide)) ?_
    refine r_p (pc' := 42) (p_iadd (by decide +kernel)) ?_
    exact r_iret rfl rfl _ rfl rfl (by decide +kernel)
def aX1_blame : StA := (RX1, cX1_blame, 6, none, yX1_blame, 11, [])
theorem mvX1_87 : MV RX1 87 aX8_add 3 := ⟨tblG_of 1316 (by decide +kernel) (by decide +kernel), tblG_of 1317 (by decide +kernel) (by decide +kernel), tblG_of 1318 (by decide +kernel) (by decide +kernel), tblG_of 152 (by decide +kernel) (by decide +kernel), tblG_of 1319 (by decide +kernel) (by decide +kernel), rfl, ⟨by decide, by decide⟩, by decide +kernel, by decide⟩
theorem mvX1_90 : MV RX1 90 aX8_openLatest 1 := ⟨tblG_of 1321 (by decide +kernel) (by decide +kernel), tblG_of 1322 (by decide +kernel) (by decide +kernel), tblG_of 1323 (by decide +kernel) (by decide +kernel), tblG_of 152 (by decide +kernel) (by decide +kernel), tblG_of 1324 (by decide +kernel) (by decide +kernel), rfl, ⟨by decide, by decide⟩, by decide +kernel, by decide⟩
noncomputable def mX1_blame (a0 : Nat) (a1 : Int32) (a2 : Int32) (a3 : Int32) (a4 : Int32) : MM Unit := onC 1 a0 (
  if 0 < a2 then (
    mbnd (gR 1 0 a0) fun (v2 : Nat) =>
    mbnd (mX8_add v2 a1 3 a2) fun _ =>
    mbnd (gR 1 4 a0) fun (v3 : Nat) =>
    mbnd (mX8_openLatest v3 0) fun (v4 : Int32) =>
    mbnd (gR 1 4 a0) fun (v5 : Nat) =>
    mbnd (gI 1 8 a0) fun (v6 : Int32) =>
    mbnd (mX8_put v5 v4 0 v6) fun _ =>
    mbnd (gR 1 4 a0) fun (v7 : Nat) =>
    mbnd (mX8_put v7 v4 1 a1) fun _ =>
    mbnd (gR 1 4 a0) fun (v8 : Nat) =>
    mbnd (mX8_put v8 v4 2 a2) fun _ =>
    mbnd (gR 1 4 a0) fun (v9 : Nat) =>
    mbnd (mX8_put v9 v4 3 a3) fun _ =>
    mbnd (gR 1 4 a0) fun (v10 : Nat) =>
    mbnd (mX8_put v10 v4 4 a4) fun _ =>
    mret ()
  ) else (
    mret ()
  )
  )
theorem rcX1_blame (a0 : Nat) (a1 : Int32) (a2 : Int32) (a3 : Int32) (a4 : Int32) : Rcv 1 a0 (mX1_blame a0 a1 a2 a3 a4) := fun s r h => ⟨(onC_some h).1, (onC_some h).2.1⟩
set_option maxHeartbeats 4000000 in
set_option maxRecDepth 100000 in
theorem ctX1_blame (a0 : Nat) (a1 : Int32) (a2 : Int32) (a3 : Int32) (a4 : Int32) : Ct aX1_blame [vr a0, vi a1, vi a2, vi a3, vi a4] (mX1_blame a0 a1 a2 a3 a4) rU := by
  unfold mX1_blame
  refine ct_onC (ct_intro (by decide +kernel) rfl (Nat.le_of_ble_eq_true rfl) fun Y s => ?_)
  refine r_sub (lv' := [(0, vr a0), (1, vi a1), (2, vi a2), (3, vi a3), (4, vi a4)]) [0, 1, 2, 3, 4] rfl ?_
  refine r_p (pc' := 1) (p_iload_n 2 (k := 2) (by decide +kernel) rfl) ?_
  refine r_ifgt (off := 4) (tgt := 5) (by decide +kernel) (by decide) (fun h1 => ?_) (fun h1 => ?_)
  · refine r_p (pc' := 6) (p_aload_n 0 (k := 0) (by decide +kernel) rfl) ?_
    refine r_gR flX1_14_1 (by decide +kernel) fun v2 => ?_
    refine r_p (pc' := 10) (p_iload_n 1 (k := 1) (by decide +kernel) rfl) ?_
    refine r_p (pc' := 11) (p_iconst (n := 3) (v := 3) (by decide +kernel) rfl) ?_
    refine r_p (pc' := 12) (p_iload_n 2 (k := 2) (by decide +kernel) rfl) ?_
    refine r_callVU mvX1_87 (ctX8_add v2 a1 3 a2) (rcX8_add v2 a1 3 a2) ⟨_, _, rfl⟩ (as := [vi a1, vi 3, vi a2]) (st := []) rfl rfl (by decide +kernel) rfl (Nat.le_of_ble_eq_true rfl) (Nat.le_of_ble_eq_true rfl) fun s => ?_
    refine r_p (pc' := 16) (p_aload_n 0 (k := 0) (by decide +kernel) rfl) ?_
    refine r_gR flX1_29_1 (by decide +kernel) fun v3 => ?_
    refine r_p (pc' := 20) (p_iconst (n := 0) (v := 0) (by decide +kernel) rfl) ?_
    refine r_callVI mvX1_90 (ctX8_openLatest v3 0) (rcX8_openLatest v3 0) ⟨_, _, rfl⟩ (as := [vi 0]) (st := []) rfl rfl (by decide +kernel) rfl (Nat.le_of_ble_eq_true rfl) (Nat.le_of_ble_eq_true rfl) fun v4 s => ?_
    refine r_p (pc' := 25) (p_istore (i := 5) (lv' := [(5, vi v4), (0, vr a0), (1, vi a1), (2, vi a2), (3, vi a3), (4, vi a4)]) (by decide +kernel) (Nat.le_of_ble_eq_true rfl) rfl) ?_
    refine r_p (pc' := 26) (p_aload_n 1 (k := 0) (by decide +kernel) rfl) ?_
    refine r_gR flX1_29_1 (by decide +kernel) fun v5 => ?_
    refine r_p (pc' := 31) (p_iload 0 (i := 5) (by decide +kernel) rfl) ?_
    refine r_p (pc' := 32) (p_iconst (n := 0) (v := 0) (by decide +kernel) rfl) ?_
    refine r_p (pc' := 33) (p_aload_n 1 (k := 0) (by decide +kernel) rfl) ?_
    refine r_gI flX1_50_1 (by decide +kernel) fun v6 => ?_
    refine r_callVU mvX1_83 (ctX8_put v5 v4 0 v6) (rcX8_put v5 v4 0 v6) ⟨_, _, rfl⟩ (as := [vi v4, vi 0, vi v6]) (st := []) rfl rfl (by decide +kernel) rfl (Nat.le_of_ble_eq_true rfl) (Nat.le_of_ble_eq_true rfl) fun s => ?_
    refine r_p (pc' := 40) (p_aload_n 1 (k := 0) (by decide +kernel) rfl) ?_
    refine r_gR flX1_29_1 (by decide +kernel) fun v7 => ?_
    refine r_p (pc' := 45) (p_iload 0 (i := 5) (by decide +kernel) rfl) ?_
    refine r_p (pc' := 46) (p_iconst (n := 1) (v := 1) (by decide +kernel) rfl) ?_
    refine r_p (pc' := 47) (p_iload_n 2 (k := 1) (by decide +kernel) rfl) ?_
    refine r_callVU mvX1_83 (ctX8_put v7 v4 1 a1) (rcX8_put v7 v4 1 a1) ⟨_, _, rfl⟩ (as := [vi v4, vi 1, vi a1]) (st := []) rfl rfl (by decide +kernel) rfl (Nat.le_of_ble_eq_true rfl) (Nat.le_of_ble_eq_true rfl) fun s => ?_
    refine r_p (pc' := 51) (p_aload_n 1 (k := 0) (by decide +kernel) rfl) ?_
    refine r_gR flX1_29_1 (by decide +kernel) fun v8 => ?_
    refine r_p (pc' := 56) (p_iload 0 (i := 5) (by decide +kernel) rfl) ?_
    refine r_p (pc' := 57) (p_iconst (n := 2) (v := 2) (by decide +kernel) rfl) ?_
    refine r_p (pc' := 58) (p_iload_n 3 (k := 2) (by decide +kernel) rfl) ?_
    refine r_callVU mvX1_83 (ctX8_put v8 v4 2 a2) (rcX8_put v8 v4 2 a2) ⟨_, _, rfl⟩ (as := [vi v4, vi 2, vi a2]) (st := []) rfl rfl (by decide +kernel) rfl (Nat.le_of_ble_eq_true rfl) (Nat.le_of_ble_eq_true rfl) fun s => ?_
    refine r_p (pc' := 62) (p_aload_n 1 (k := 0) (by decide +kernel) rfl) ?_
    refine r_gR flX1_29_1 (by decide +kernel) fun v9 => ?_
    refine r_p (pc' := 67) (p_iload 0 (i := 5) (by decide +kernel) rfl) ?_
    refine r_p (pc' := 68) (p_iconst (n := 3) (v := 3) (by decide +kernel) rfl) ?_
    refine r_p (pc' := 69) (p_iload_n 4 (k := 3) (by decide +kernel) rfl) ?_
    refine r_callVU mvX1_83 (ctX8_put v9 v4 3 a3) (rcX8_put v9 v4 3 a3) ⟨_, _, rfl⟩ (as := [vi v4, vi 3, vi a3]) (st := []) rfl rfl (by decide +kernel) rfl (Nat.le_of_ble_eq_true rfl) (Nat.le_of_ble_eq_true rfl) fun s => ?_
    refine r_p (pc' := 73) (p_aload_n 1 (k := 0) (by decide +kernel) rfl) ?_
    refine r_gR flX1_29_1 (by decide +kernel) fun v10 => ?_
    refine r_p (pc' := 78) (p_iload 0 (i := 5) (by decide +kernel) rfl) ?_
    refine r_p (pc' := 79) (p_iconst (n := 4) (v := 4) (by decide +kernel) rfl) ?_
    refine r_p (pc' := 81) (p_iload 5 (i := 4) (by decide +kernel) rfl) ?_
    refine r_callVU mvX1_83 (ctX8_put v10 v4 4 a4) (rcX8_put v10 v4 4 a4) ⟨_, _, rfl⟩ (as := [vi v4, vi 4, vi a4]) (st := []) rfl rfl (by decide +kernel) rfl (Nat.le_of_ble_eq_true rfl) (Nat.le_of_ble_eq_true rfl) fun s => ?_
    exact r_vret (y9 := ()) rfl rfl rfl (by decide +kernel)
  · exact r_vret (y9 := ()) rfl rfl rfl (by decide +kernel)
def aX1_wearOff : StA := (RX1, cX1_wearOff, 5, some .int, yX1_wearOff, 9, [])
noncomputable def mX1_wearOff (a0 : Nat) (a1 : Int32) (a2 : Int32) : MM Int32 := onC 1 a0 (
  mbnd (gR 1 0 a0) fun (v1 : Nat) =>
  mbnd (mX8_get v1 a1 2) fun (v2 : Int32) =>
  mbnd (mret (imin 99 (v2 + a2))) fun (v3 : Int32) =>
  mbnd (gR 1 0 a0) fun (v4 : Nat) =>
  mbnd (mX8_put v4 a1 2 v3) fun _ =>
  mret (v3 - v2)
  )
theorem rcX1_wearOff (a0 : Nat) (a1 : Int32) (a2 : Int32) : Rcv 1 a0 (mX1_wearOff a0 a1 a2) := fun s r h => ⟨(onC_some h).1, (onC_some h).2.1⟩
set_option maxHeartbeats 4000000 in
set_option maxRecDepth 100000 in
theorem ctX1_wearOff (a0 : Nat) (a1 : Int32) (a2 : Int32) : Ct aX1_wearOff [vr a0, vi a1, vi a2] (mX1_wearOff a0 a1 a2) rI := by
  unfold mX1_wearOff
  refine ct_onC (ct_intro (by decide +kernel) rfl (Nat.le_of_ble_eq_true rfl) fun Y s => ?_)
  refine r_sub (lv' := [(0, vr a0), (1, vi a1), (2, vi a2)]) [0, 1, 2] rfl ?_
  refine r_p (pc' := 1) (p_aload_n 0 (k := 0) (by decide +kernel) rfl) ?_
  refine r_gR flX1_14_1 (by decide +kernel) fun v1 => ?_
  refine r_p (pc' := 5) (p_iload_n 1 (k := 1) (by decide +kernel) rfl) ?_
  refine r_p (pc' := 6) (p_iconst (n := 2) (v := 2) (by decide +kernel) rfl) ?_
  refine r_callVI mvX1_62 (ctX8_get v1 a1 2) (rcX8_get v1 a1 2) ⟨_, _, rfl⟩ (as := [vi a1, vi 2]) (st := []) rfl rfl (by decide +kernel) rfl (Nat.le_of_ble_eq_true rfl) (Nat.le_of_ble_eq_true rfl) fun v2 s => ?_
  refine r_p (pc' := 10) (p_istore_n (k := 3) (lv' := [(3, vi v2), (0, vr a0), (1, vi a1), (2, vi a2)]) (by decide +kernel) (Nat.le_of_ble_eq_true rfl) rfl) ?_
  refine r_p (pc' := 12) (p_bipush (n := 99) (v := 99) (by decide +kernel) (by decide +kernel)) ?_
  refine r_p (pc' := 13) (p_iload_n 0 (k := 3) (by decide +kernel) rfl) ?_
  refine r_p (pc' := 14) (p_iload_n 3 (k := 2) (by decide +kernel) rfl) ?_
  refine r_p (pc' := 15) (p_iadd (by decide +kernel)) ?_
  refine r_p (pc' := 18) (p_min (idx := 97) (tblG_of 1334 (by decide +kernel) (by decide +kernel)) (Nat.le_of_ble_eq_true rfl) (Nat.le_of_ble_eq_true rfl) (by decide +kernel)) ?_
  refine r_letI fun v3 => ?_
  refine r_p (pc' := 20) (p_istore (i := 4) (lv' := [(4, vi v3), (3, vi v2), (0, vr a0), (1, vi a1), (2, vi a2)]) (by decide +kernel) (Nat.le_of_ble_eq_true rfl) rfl) ?_
  refine r_p (pc' := 21) (p_aload_n 2 (k := 0) (by decide +kernel) rfl) ?_
  refine r_gR flX1_14_1 (by decide +kernel) fun v4 => ?_
  refine r_p (pc' := 25) (p_iload_n 3 (k := 1) (by decide +kernel) rfl) ?_
  refine r_p (pc' := 26) (p_iconst (n := 2) (v := 2) (by decide +kernel) rfl) ?_
  refine r_p (pc' := 28) (p_iload 0 (i := 4) (by decide +kernel) rfl) ?_
  refine r_callVU mvX1_83 (ctX8_put v4 a1 2 v3) (rcX8_put v4 a1 2 v3) ⟨_, _, rfl⟩ (as := [vi a1, vi 2, vi v3]) (st := []) rfl rfl (by decide +kernel) rfl (Nat.le_of_ble_eq_true rfl) (Nat.le_of_ble_eq_true rfl) fun s => ?_
  refine r_p (pc' := 33) (p_iload 0 (i := 4) (by decide +kernel) rfl) ?_
  refine r_p (pc' := 34) (p_iload_n 1 (k := 3) (by decide +kernel) rfl) ?_
  refine r_p (pc' := 35) (p_isub (by decide +kernel)) ?_
  exact r_iret rfl rfl _ rfl rfl (by decide +kernel)
def aX1_isNailed : StA := (RX1, cX1_isNailed, 2, some .boolean, yX1_isNailed, 9, [])
noncomputable def mX1_isNailed (a0 : Nat) (a1 : Int32) : MM Int32 := onC 1 a0 (
  mbnd (gR 1 0 a0) fun (v1 : Nat) =>
  mbnd (mX8_get v1 a1 4) fun (v2 : Int32) =>
  if v2 = 1 then (
    mret 1
  ) else (
    mret 0
  )
  )
theorem rcX1_isNailed (a0 : Nat) (a1 : Int32) : Rcv 1 a0 (mX1_isNailed a0 a1) := fun s r h => ⟨(onC_some h).1, (onC_some h).2.1⟩
set_option maxHeartbeats 4000000 in
set_option maxRecDepth 100000 in
theorem ctX1_isNailed (a0 : Nat) (a1 : Int32) : Ct aX1_isNailed [vr a0, vi a1] (mX1_isNailed a0 a1) rI := by
  unfold mX1_isNailed
  refine ct_onC (ct_intro (by decide +kernel) rfl (Nat.le_of_ble_eq_true rfl) fun Y s => ?_)
  refine r_sub (lv' := [(0, vr a0), (1, vi a1)]) [0, 1] rfl ?_
  refine r_p (pc' := 1) (p_aload_n 0 (k := 0) (by decide +kernel) rfl) ?_
  refine r_gR flX1_14_1 (by decide +kernel) fun v1 => ?_
  refine r_p (pc' := 5) (p_iload_n 1 (k := 1) (by decide +kernel) rfl) ?_
  refine r_p (pc' := 6) (p_iconst (n := 4) (v := 4) (by decide +kernel) rfl) ?_
  refine r_callVI mvX1_62 (ctX8_get v1 a1 4) (rcX8_get v1 a1 4) ⟨_, _, rfl⟩ (as := [vi a1, vi 4]) (st := []) rfl rfl (by decide +kernel) rfl (Nat.le_of_ble_eq_true rfl) (Nat.le_of_ble_eq_true rfl) fun v2 s => ?_
  refine r_p (pc' := 10) (p_iconst (n := 1) (v := 1) (by decide +kernel) rfl) ?_
  refine r_icmpne (off := 7) (tgt := 17) (by decide +kernel) (by decide) (fun h3 => ?_) (fun h3 => ?_)
  · refine r_p (pc' := 14) (p_iconst (n := 1) (v := 1) (by decide +kernel) rfl) ?_
    refine r_p (pc' := 18) (p_goto (off := 4) (tgt := 18) (by decide +kernel) (by decide)) ?_
    exact r_iret rfl rfl _ rfl rfl (by decide +kernel)
  · refine r_p (pc' := 18) (p_iconst (n := 0) (v := 0) (by decide +kernel) rfl) ?_
    exact r_iret rfl rfl _ rfl rfl (by decide +kernel)
def aX1_take : StA := (RX1, cX1_take, 2, none, yX1_take, 9, [])
noncomputable def mX1_take (a0 : Nat) (a1 : Int32) : MM Unit := onC 1 a0 (
  mbnd (gR 1 0 a0) fun (v1 : Nat) =>
  mbnd (mX8_put v1 a1 6 (-1)) fun _ =>
  mret ()
  )
theorem rcX1_take (a0 : Nat) (a1 : Int32) : Rcv 1 a0 (mX1_take a0 a1) := fun s r h => ⟨(onC_some h).1, (onC_some h).2.1⟩
set_option maxHeartbeats 4000000 in
set_option maxRecDepth 100000 in
theorem ctX1_take (a0 : Nat) (a1 : Int32) : Ct aX1_take [vr a0, vi a1] (mX1_take a0 a1) rU := by
  unfold mX1_take
  refine ct_onC (ct_intro (by decide +kernel) rfl (Nat.le_of_ble_eq_true rfl) fun Y s => ?_)
  refine r_sub (lv' := [(0, vr a0), (1, vi a1)]) [0, 1] rfl ?_
  refine r_p (pc' := 1) (p_aload_n 0 (k := 0) (by decide +kernel) rfl) ?_
  refine r_gR flX1_14_1 (by decide +kernel) fun v1 => ?_
  refine r_p (pc' := 5) (p_iload_n 1 (k := 1) (by decide +kernel) rfl) ?_
  refine r_p (pc' := 7) (p_bipush (n := 6) (v := 6) (by decide +kernel) (by decide +kernel)) ?_
  refine r_p (pc' := 8) (p_iconst (n := -1) (v := -1) (by decide +kernel) rfl) ?_
  refine r_callVU mvX1_83 (ctX8_put v1 a1 6 (-1)) (rcX8_put v1 a1 6 (-1)) ⟨_, _, rfl⟩ (as := [vi a1, vi 6, vi (-1)]) (st := []) rfl rfl (by decide +kernel) rfl (Nat.le_of_ble_eq_true rfl) (Nat.le_of_ble_eq_true rfl) fun s => ?_
  exact r_vret (y9 := ()) rfl rfl rfl (by decide +kernel)
def aX1_passOn : StA := (RX1, cX1_passOn, 4, none, yX1_passOn, 12, [])
theorem mvX1_93 : MV RX1 93 aX1_blame 4 := ⟨tblG_of 1363 (by decide +kernel) (by decide +kernel), tblG_of 1313 (by decide +kernel) (by decide +kernel), tblG_of 1314 (by decide +kernel) (by decide +kernel), tblG_of 151 (by decide +kernel) (by decide +kernel), tblG_of 1315 (by decide +kernel) (by decide +kernel), rfl, ⟨by decide, by decide⟩, by decide +kernel, by decide⟩
noncomputable def mX1_passOn (a0 : Nat) (a1 : Int32) (a2 : Int32) (a3 : Int32) : MM Unit := onC 1 a0 (
  if a3 ≤ 0 then (
    mret ()
  ) else (
    mbnd (gR 1 0 a0) fun (v2 : Nat) =>
    mbnd (mX8_add v2 a1 3 (-a3)) fun _ =>
    mbnd (gR 1 0 a0) fun (v3 : Nat) =>
    mbnd (mX8_add v3 a2 7 a3) fun _ =>
    mbnd (mX1_blame a0 a2 a3 (-1) a1) fun _ =>
    mret ()
  )
  )
theorem rcX1_passOn (a0 : Nat) (a1 : Int32) (a2 : Int32) (a3 : Int32) : Rcv 1 a0 (mX1_passOn a0 a1 a2 a3) := fun s r h => ⟨(onC_some h).1, (onC_some h).2.1⟩
set_option maxHeartbeats 4000000 in
set_option maxRecDepth 100000 in
theorem ctX1_passOn (a0 : Nat) (a1 : Int32) (a2 : Int32) (a3 : Int32) : Ct aX1_passOn [vr a0, vi a1, vi a2, vi a3] (mX1_passOn a0 a1 a2 a3) rU := by
  unfold mX1_passOn
  refine ct_onC (ct_intro (by decide +kernel) rfl (Nat.le_of_ble_eq_true rfl) fun Y s => ?_)
  refine r_sub (lv' := [(0, vr a0), (1, vi a1), (2, vi a2), (3, vi a3)]) [0, 1, 2, 3] rfl ?_
  refine r_p (pc' := 1) (p_iload_n 3 (k := 3) (by decide +kernel) rfl) ?_
  refine r_ifle (off := 33) (tgt := 34) (by decide +kernel) (by decide) (fun h1 => ?_) (fun h1 => ?_)
  · exact r_vret (y9 := ()) rfl rfl rfl (by decide +kernel)
  · refine r_p (pc' := 5) (p_aload_n 0 (k := 0) (by decide +kernel) rfl) ?_
    refine r_gR flX1_14_1 (by decide +kernel) fun v2 => ?_
    refine r_p (pc' := 9) (p_iload_n 1 (k := 1) (by decide +kernel) rfl) ?_
    refine r_p (pc' := 10) (p_iconst (n := 3) (v := 3) (by decide +kernel) rfl) ?_
    refine r_p (pc' := 11) (p_iload_n 3 (k := 3) (by decide +kernel) rfl) ?_
    refine r_p (pc' := 12) (p_ineg (by decide +kernel)) ?_
    refine r_callVU mvX1_87 (ctX8_add v2 a1 3 (-a3)) (rcX8_add v2 a1 3 (-a3)) ⟨_, _, rfl⟩ (as := [vi a1, vi 3, vi (-a3)]) (st := []) rfl rfl (by decide +kernel) rfl (Nat.le_of_ble_eq_true rfl) (Nat.le_of_ble_eq_true rfl) fun s => ?_
    refine r_p (pc' := 16) (p_aload_n 0 (k := 0) (by decide +kernel) rfl) ?_
    refine r_gR flX1_14_1 (by decide +kernel) fun v3 => ?_
    refine r_p (pc' := 20) (p_iload_n 2 (k := 2) (by decide +kernel) rfl) ?_
    refine r_p (pc' := 22) (p_bipush (n := 7) (v := 7) (by decide +kernel) (by decide +kernel)) ?_
    refine r_p (pc' := 23) (p_iload_n 3 (k := 3) (by decide +kernel) rfl) ?_
    refine r_callVU mvX1_87 (ctX8_add v3 a2 7 a3) (rcX8_add v3 a2 7 a3) ⟨_, _, rfl⟩ (as := [vi a2, vi 7, vi a3]) (st := []) rfl rfl (by decide +kernel) rfl (Nat.le_of_ble_eq_true rfl) (Nat.le_of_ble_eq_true rfl) fun s => ?_
    refine r_p (pc' := 27) (p_aload_n 0 (k := 0) (by decide +kernel) rfl) ?_
    refine r_p (pc' := 28) (p_iload_n 2 (k := 2) (by decide +kernel) rfl) ?_
    refine r_p (pc' := 29) (p_iload_n 3 (k := 3) (by decide +kernel) rfl) ?_
    refine r_p (pc' := 30) (p_iconst (n := -1) (v := -1) (by decide +kernel) rfl) ?_
    refine r_p (pc' := 31) (p_iload_n 1 (k := 1) (by decide +kernel) rfl) ?_
    refine r_callVU mvX1_93 (ctX1_blame a0 a2 a3 (-1) a1) (rcX1_blame a0 a2 a3 (-1) a1) ⟨_, _, rfl⟩ (as := [vi a2, vi a3, vi (-1), vi a1]) (st := []) rfl rfl (by decide +kernel) rfl (Nat.le_of_ble_eq_true rfl) (Nat.le_of_ble_eq_true rfl) fun s => ?_
    exact r_vret (y9 := ()) rfl rfl rfl (by decide +kernel)
def aX1_workOff : StA := (RX1, cX1_workOff, 7, some .int, yX1_workOff, 10, [])
noncomputable def mX1_workOff_L5 (a0 : Nat) (a1 : Int32) (x1 : Int32 × Int32) : MM ((Int32 × Int32) ⊕ (Int32)) :=
  if 3 ≤ x1.2 then (
    mret (.inr x1.1)
  ) else (
    mbnd (gR 1 1 a0) fun (v6 : Nat) =>
    mbnd (mX8_get v6 a1 x1.2) fun (v7 : Int32) =>
    mbnd (mX1_guiltOf a0 v7) fun (v8 : Int32) =>
    mbnd (mret (imin x1.1 v8)) fun (v9 : Int32) =>
    mbnd (gR 1 0 a0) fun (v10 : Nat) =>
    mbnd (mX8_add v10 v7 3 (-v9)) fun _ =>
    mbnd (mret (x1.1 - v9)) fun (v11 : Int32) =>
    mret (.inl (v11, x1.2 + 1))
  )
noncomputable def mX1_workOff (a0 : Nat) (a1 : Int32) (a2 : Int32) : MM Int32 := onC 1 a0 (
  mbnd (loopM (mX1_workOff_L5 a0 a1) (a2, 0)) fun (e12 : Int32) =>
  mbnd (gI 1 12 a0) fun (v13 : Int32) =>
  mbnd (pI 1 12 a0 (v13 + (a2 - e12))) fun _ =>
  mret (a2 - e12)
  )
theorem rcX1_workOff (a0 : Nat) (a1 : Int32) (a2 : Int32) : Rcv 1 a0 (mX1_workOff a0 a1 a2) := fun s r h => ⟨(onC_some h).1, (onC_some h).2.1⟩
set_option maxHeartbeats 4000000 in
set_option maxRecDepth 100000 in
theorem ctX1_workOff (a0 : Nat) (a1 : Int32) (a2 : Int32) : Ct aX1_workOff [vr a0, vi a1, vi a2] (mX1_workOff a0 a1 a2) rI := by
  unfold mX1_workOff
  refine ct_onC (ct_intro (by decide +kernel) rfl (Nat.le_of_ble_eq_true rfl) fun Y s => ?_)
  refine r_sub (lv' := [(0, vr a0), (1, vi a1), (2, vi a2)]) [0, 1, 2] rfl ?_
  refine r_p (pc' := 1) (p_iload_n 2 (k := 2) (by decide +kernel) rfl) ?_
  refine r_p (pc' := 2) (p_istore_n (k := 3) (lv' := [(3, vi a2), (0, vr a0), (1, vi a1), (2, vi a2)]) (by decide +kernel) (Nat.le_of_ble_eq_true rfl) rfl) ?_
  refine r_p (pc' := 3) (p_iconst (n := 0) (v := 0) (by decide +kernel) rfl) ?_
  refine r_p (pc' := 5) (p_istore (i := 4) (lv' := [(4, vi 0), (3, vi a2), (0, vr a0), (1, vi a1), (2, vi a2)]) (by decide +kernel) (Nat.le_of_ble_eq_true rfl) rfl) ?_
  refine r_sub (lv' := [(0, vr a0), (1, vi a1), (2, vi a2), (3, vi a2), (4, vi 0)]) [2, 3, 4, 1, 0] rfl ?_
  refine r_loop2 (fun _ => 59) (fun (e12 : Int32) => [(0, vr a0), (2, vi a2), (3, vi e12)]) (fun (x1 : Int32 × Int32) => [(0, vr a0), (1, vi a1), (2, vi a2), (3, vi x1.1), (4, vi x1.2)]) (fun e12 s => ?_) (fun K2 hb3 he4 x1 s => ?_) (a2, 0) _
  · refine r_p (pc' := 60) (p_aload_n 0 (k := 0) (by decide +kernel) rfl) ?_
    refine r_p (pc' := 61) (p_dup rfl (by decide +kernel)) ?_
    refine r_gI flX1_59_1 (by decide +kernel) fun v13 => ?_
    refine r_p (pc' := 65) (p_iload_n 1 (k := 2) (by decide +kernel) rfl) ?_
    refine r_p (pc' := 66) (p_iload_n 2 (k := 3) (by decide +kernel) rfl) ?_
    refine r_p (pc' := 67) (p_isub (by decide +kernel)) ?_
    refine r_p (pc' := 68) (p_iadd (by decide +kernel)) ?_
    refine r_pI fpX1_59_1 (fun h => by cases h) (by decide +kernel) fun s => ?_
    refine r_p (pc' := 72) (p_iload_n 1 (k := 2) (by decide +kernel) rfl) ?_
    refine r_p (pc' := 73) (p_iload_n 2 (k := 3) (by decide +kernel) rfl) ?_
    refine r_p (pc' := 74) (p_isub (by decide +kernel)) ?_
    exact r_iret rfl rfl _ rfl rfl (by decide +kernel)
  · unfold mX1_workOff_L5
    refine r_p (pc' := 7) (p_iload 4 (i := 4) (by decide +kernel) rfl) ?_
    refine r_p (pc' := 8) (p_iconst (n := 3) (v := 3) (by decide +kernel) rfl) ?_
    refine r_icmpge (off := 51) (tgt := 59) (by decide +kernel) (by decide) (fun h5 => ?_) (fun h5 => ?_)
    · refine r_sub (lv' := [(0, vr a0), (2, vi a2), (3, vi x1.1)]) [0, 2, 3] rfl ?_
      exact he4 x1.1 _
    · refine r_p (pc' := 12) (p_aload_n 0 (k := 0) (by decide +kernel) rfl) ?_
      refine r_gR flX1_20_1 (by decide +kernel) fun v6 => ?_
      refine r_p (pc' := 16) (p_iload_n 1 (k := 1) (by decide +kernel) rfl) ?_
      refine r_p (pc' := 18) (p_iload 4 (i := 4) (by decide +kernel) rfl) ?_
      refine r_callVI mvX1_62 (ctX8_get v6 a1 x1.2) (rcX8_get v6 a1 x1.2) ⟨_, _, rfl⟩ (as := [vi a1, vi x1.2]) (st := []) rfl rfl (by decide +kernel) rfl (Nat.le_of_ble_eq_true rfl) (Nat.le_of_ble_eq_true rfl) fun v7 s => ?_
      refine r_p (pc' := 23) (p_istore (i := 5) (lv' := [(5, vi v7), (0, vr a0), (1, vi a1), (2, vi a2), (3, vi x1.1), (4, vi x1.2)]) (by decide +kernel) (Nat.le_of_ble_eq_true rfl) rfl) ?_
      refine r_p (pc' := 24) (p_iload_n 4 (k := 3) (by decide +kernel) rfl) ?_
      refine r_p (pc' := 25) (p_aload_n 1 (k := 0) (by decide +kernel) rfl) ?_
      refine r_p (pc' := 27) (p_iload 0 (i := 5) (by decide +kernel) rfl) ?_
      refine r_callVI mvX1_73 (ctX1_guiltOf a0 v7) (rcX1_guiltOf a0 v7) ⟨_, _, rfl⟩ (as := [vi v7]) (st := [vi x1.1]) rfl rfl (by decide +kernel) rfl (Nat.le_of_ble_eq_true rfl) (Nat.le_of_ble_eq_true rfl) fun v8 s => ?_
      refine r_p (pc' := 33) (p_min (idx := 97) (tblG_of 1334 (by decide +kernel) (by decide +kernel)) (Nat.le_of_ble_eq_true rfl) (Nat.le_of_ble_eq_true rfl) (by decide +kernel)) ?_
      refine r_letI fun v9 => ?_
      refine r_p (pc' := 35) (p_istore (i := 6) (lv' := [(6, vi v9), (5, vi v7), (0, vr a0), (1, vi a1), (2, vi a2), (3, vi x1.1), (4, vi x1.2)]) (by decide +kernel) (Nat.le_of_ble_eq_true rfl) rfl) ?_
      refine r_p (pc' := 36) (p_aload_n 2 (k := 0) (by decide +kernel) rfl) ?_
      refine r_gR flX1_14_1 (by decide +kernel) fun v10 => ?_
      refine r_p (pc' := 41) (p_iload 1 (i := 5) (by decide +kernel) rfl) ?_
      refine r_p (pc' := 42) (p_iconst (n := 3) (v := 3) (by decide +kernel) rfl) ?_
      refine r_p (pc' := 44) (p_iload 0 (i := 6) (by decide +kernel) rfl) ?_
      refine r_p (pc' := 45) (p_ineg (by decide +kernel)) ?_
      refine r_callVU mvX1_87 (ctX8_add v10 v7 3 (-v9)) (rcX8_add v10 v7 3 (-v9)) ⟨_, _, rfl⟩ (as := [vi v7, vi 3, vi (-v9)]) (st := []) rfl rfl (by decide +kernel) rfl (Nat.le_of_ble_eq_true rfl) (Nat.le_of_ble_eq_true rfl) fun s => ?_
      refine r_p (pc' := 49) (p_iload_n 5 (k := 3) (by decide +kernel) rfl) ?_
      refine r_p (pc' := 51) (p_iload 0 (i := 6) (by decide +kernel) rfl) ?_
      refine r_p (pc' := 52) (p_isub (by decide +kernel)) ?_
      refine r_letI fun v11 => ?_
      refine r_p (pc' := 53) (p_istore_n (k := 3) (lv' := [(3, vi v11), (6, vi v9), (5, vi v7), (0, vr a0), (1, vi a1), (2, vi a2), (4, vi x1.2)]) (by decide +kernel) (Nat.le_of_ble_eq_true rfl) rfl) ?_
      refine r_p (pc' := 56) (p_iinc 6 (i := 4) (n := 1) (x := x1.2) (v := x1.2 + 1) (lv' := [(4, vi (x1.2 + 1)), (3, vi v11), (6, vi v9), (5, vi v7), (0, vr a0), (1, vi a1), (2, vi a2)]) (by decide +kernel) rfl rfl (Nat.le_of_ble_eq_true rfl) rfl) ?_
      refine r_p (pc' := 5) (p_goto (off := -51) (tgt := 5) (by decide +kernel) (by decide)) ?_
      refine r_sub (lv' := [(0, vr a0), (1, vi a1), (2, vi a2), (3, vi v11), (4, vi (x1.2 + 1))]) [4, 5, 6, 1, 0] rfl ?_
      exact hb3 (v11, x1.2 + 1) _
def aX1_nextSeed : StA := (RX1, cX1_nextSeed, 1, some .int, yX1_nextSeed, 8, [])
noncomputable def mX1_nextSeed (a0 : Int32) : MM Int32 :=
  mret ((1103515245 * a0) + 12345)
set_option maxHeartbeats 4000000 in
set_option maxRecDepth 100000 in
theorem ctX1_nextSeed (a0 : Int32) : Ct aX1_nextSeed [vi a0] (mX1_nextSeed a0) rI := by
  unfold mX1_nextSeed
  refine ct_intro (by decide +kernel) rfl (Nat.le_of_ble_eq_true rfl) fun Y s => ?_
  refine r_sub (lv' := [(0, vi a0)]) [0] rfl ?_
  refine r_p (pc' := 2) (p_ldc (i := 118) (v := 1103515245) (by decide +kernel) (tblG_of 1413 (by decide +kernel) (by decide +kernel))) ?_
  refine r_p (pc' := 3) (p_iload_n 0 (k := 0) (by decide +kernel) rfl) ?_
  refine r_p (pc' := 4) (p_imul (by decide +kernel)) ?_
  refine r_p (pc' := 7) (p_sipush (n := 12345) (v := 12345) (by decide +kernel) (by decide +kernel)) ?_
  refine r_p (pc' := 8) (p_iadd (by decide +kernel)) ?_
  exact r_iret rfl rfl _ rfl rfl (by decide +kernel)
def aX1_isDamp : StA := (RX1, cX1_isDamp, 2, some .boolean, yX1_isDamp, 8, [])
noncomputable def mX1_isDamp (a0 : Nat) (a1 : Int32) : MM Int32 := onC 1 a0 (
  mbnd (gI 1 9 a0) fun (v1 : Int32) =>
  if v1 ≤ (((iushr a1 16) &&& 32767) - ((iushr a1 16) &&& 32767) / 100 * 100) then (
    mret 0
  ) else (
    mret 1
  )
  )
theorem rcX1_isDamp (a0 : Nat) (a1 : Int32) : Rcv 1 a0 (mX1_isDamp a0 a1) := fun s r h => ⟨(onC_some h).1, (onC_some h).2.1⟩
set_option maxHeartbeats 4000000 in
set_option maxRecDepth 100000 in
theorem ctX1_isDamp (a0 : Nat) (a1 : Int32) : Ct aX1_isDamp [vr a0, vi a1] (mX1_isDamp a0 a1) rI := by
  unfold mX1_isDamp
  refine ct_onC (ct_intro (by decide +kernel) rfl (Nat.le_of_ble_eq_true rfl) fun Y s => ?_)
  refine r_sub (lv' := [(0, vr a0), (1, vi a1)]) [0, 1] rfl ?_
  refine r_p (pc' := 1) (p_iload_n 1 (k := 1) (by decide +kernel) rfl) ?_
  refine r_p (pc' := 3) (p_bipush (n := 16) (v := 16) (by decide +kernel) (by decide +kernel)) ?_
  refine r_p (pc' := 4) (p_iushr (by decide +kernel)) ?_
  refine r_p (pc' := 7) (p_sipush (n := 32767) (v := 32767) (by decide +kernel) (by decide +kernel)) ?_
  refine r_p (pc' := 8) (p_iand (by decide +kernel)) ?_
  refine r_p (pc' := 10) (p_bipush (n := 100) (v := 100) (by decide +kernel) (by decide +kernel)) ?_
  refine r_p (pc' := 11) (p_irem (by decide +kernel) (by decide)) ?_
  refine r_p (pc' := 12) (p_aload_n 0 (k := 0) (by decide +kernel) rfl) ?_
  refine r_gI flX1_53_1 (by decide +kernel) fun v1 => ?_
  refine r_icmpge (off := 7) (tgt := 22) (by decide +kernel) (by decide) (fun h2 => ?_) (fun h2 => ?_)
  · refine r_p (pc' := 23) (p_iconst (n := 0) (v := 0) (by decide +kernel) rfl) ?_
    exact r_iret rfl rfl _ rfl rfl (by decide +kernel)
  · refine r_p (pc' := 19) (p_iconst (n := 1) (v := 1) (by decide +kernel) rfl) ?_
    refine r_p (pc' := 23) (p_goto (off := 4) (tgt := 23) (by decide +kernel) (by decide)) ?_
    exact r_iret rfl rfl _ rfl rfl (by decide +kernel)
def aX1_rust : StA := (RX1, cX1_rust, 3, some .int, yX1_rust, 10, [])
theorem flX1_70_8 : FL RX1 70 8 3 := ⟨_, TX8, 4, "ToolCourt$Table", rfl, by decide, Or.inr ⟨"ToolCourt", List.mem_of_getElem? (i := 328) (by decide +kernel)⟩, Or.inl rfl⟩
theorem mvX1_115 : MV RX1 115 aX1_wearOff 2 := ⟨tblG_of 1422 (by decide +kernel) (by decide +kernel), tblG_of 1331 (by decide +kernel) (by decide +kernel), tblG_of 1332 (by decide +kernel) (by decide +kernel), tblG_of 151 (by decide +kernel) (by decide +kernel), tblG_of 1333 (by decide +kernel) (by decide +kernel), rfl, ⟨by decide, by decide⟩, by decide +kernel, by decide⟩
noncomputable def mX1_rust_L4 (a0 : Nat) (x1 : Int32 × Int32) : MM ((Int32 × Int32) ⊕ (Int32)) :=
  mbnd (gR 1 0 a0) fun (v5 : Nat) =>
  mbnd (gI 8 3 v5) fun (v6 : Int32) =>
  if v6 ≤ x1.2 then (
    mret (.inr x1.1)
  ) else (
    mbnd (gR 1 0 a0) fun (v8 : Nat) =>
    mbnd (mX8_get v8 x1.2 0) fun (v9 : Int32) =>
    mbnd (α := Int32) (
      if v9 = 1 then (
        mbnd (mX1_wearOff a0 x1.2 1) fun (v14 : Int32) =>
        mbnd (mret (x1.1 + v14)) fun (v15 : Int32) =>
        mret v15
      ) else (
        mret x1.1
      )
    ) fun (x11 : Int32) =>
    mret (.inl (x11, x1.2 + 1))
  )
noncomputable def mX1_rust (a0 : Nat) : MM Int32 := onC 1 a0 (
  mbnd (loopM (mX1_rust_L4 a0) (0, 0)) fun (e16 : Int32) =>
  mret e16
  )
theorem rcX1_rust (a0 : Nat) : Rcv 1 a0 (mX1_rust a0) := fun s r h => ⟨(onC_some h).1, (onC_some h).2.1⟩
set_option maxHeartbeats 4000000 in
set_option maxRecDepth 100000 in
theorem ctX1_rust (a0 : Nat) : Ct aX1_rust [vr a0] (mX1_rust a0) rI := by
  unfold mX1_rust
  refine ct_onC (ct_intro (by decide +kernel) rfl (Nat.le_of_ble_eq_true rfl) fun Y s => ?_)
  refine r_sub (lv' := [(0, vr a0)]) [0] rfl ?_
  refine r_p (pc' := 1) (p_iconst (n := 0) (v := 0) (by decide +kernel) rfl) ?_
  refine r_p (pc' := 2) (p_istore_n (k := 1) (lv' := [(1, vi 0), (0, vr a0)]) (by decide +kernel) (Nat.le_of_ble_eq_true rfl) rfl) ?_
  refine r_p (pc' := 3) (p_iconst (n := 0) (v := 0) (by decide +kernel) rfl) ?_
  refine r_p (pc' := 4) (p_istore_n (k := 2) (lv' := [(2, vi 0), (1, vi 0), (0, vr a0)]) (by decide +kernel) (Nat.le_of_ble_eq_true rfl) rfl) ?_
  refine r_sub (lv' := [(0, vr a0), (1, vi 0), (2, vi 0)]) [2, 1, 0] rfl ?_
  refine r_loop2 (fun _ => 43) (fun (e16 : Int32) => [(1, vi e16)]) (fun (x1 : Int32 × Int32) => [(0, vr a0), (1, vi x1.1), (2, vi x1.2)]) (fun e16 s => ?_) (fun K2 hb3 he4 x1 s => ?_) (0, 0) _
  · refine r_p (pc' := 44) (p_iload_n 0 (k := 1) (by decide +kernel) rfl) ?_
    exact r_iret rfl rfl _ rfl rfl (by decide +kernel)
  · unfold mX1_rust_L4
    refine r_p (pc' := 5) (p_iload_n 2 (k := 2) (by decide +kernel) rfl) ?_
    refine r_p (pc' := 6) (p_aload_n 0 (k := 0) (by decide +kernel) rfl) ?_
    refine r_gR flX1_14_1 (by decide +kernel) fun v5 => ?_
    refine r_gI flX1_70_8 (by decide +kernel) fun v6 => ?_
    refine r_icmpge (off := 31) (tgt := 43) (by decide +kernel) (by decide) (fun h7 => ?_) (fun h7 => ?_)
    · refine r_sub (lv' := [(1, vi x1.1)]) [1] rfl ?_
      exact he4 x1.1 _
    · refine r_p (pc' := 16) (p_aload_n 0 (k := 0) (by decide +kernel) rfl) ?_
      refine r_gR flX1_14_1 (by decide +kernel) fun v8 => ?_
      refine r_p (pc' := 20) (p_iload_n 2 (k := 2) (by decide +kernel) rfl) ?_
      refine r_p (pc' := 21) (p_iconst (n := 0) (v := 0) (by decide +kernel) rfl) ?_
      refine r_callVI mvX1_62 (ctX8_get v8 x1.2 0) (rcX8_get v8 x1.2 0) ⟨_, _, rfl⟩ (as := [vi x1.2, vi 0]) (st := []) rfl rfl (by decide +kernel) rfl (Nat.le_of_ble_eq_true rfl) (Nat.le_of_ble_eq_true rfl) fun v9 s => ?_
      refine r_p (pc' := 25) (p_iconst (n := 1) (v := 1) (by decide +kernel) rfl) ?_
      refine r_join 37 (fun (x11 : Int32) => [(0, vr a0), (1, vi x11), (2, vi x1.2)]) (fun (x11 : Int32) => []) (fun x11 s => ?_) (fun K12 hj13 => ?_)
      · refine r_p (pc' := 40) (p_iinc 2 (i := 2) (n := 1) (x := x1.2) (v := x1.2 + 1) (lv' := [(2, vi (x1.2 + 1)), (0, vr a0), (1, vi x11)]) (by decide +kernel) rfl rfl (Nat.le_of_ble_eq_true rfl) rfl) ?_
        refine r_p (pc' := 4) (p_goto (off := -36) (tgt := 4) (by decide +kernel) (by decide)) ?_
        refine r_sub (lv' := [(0, vr a0), (1, vi x11), (2, vi (x1.2 + 1))]) [1, 2, 0] rfl ?_
        exact hb3 (x11, x1.2 + 1) _
      · refine r_icmpne (off := 12) (tgt := 37) (by decide +kernel) (by decide) (fun h10 => ?_) (fun h10 => ?_)
        · refine r_p (pc' := 29) (p_iload_n 1 (k := 1) (by decide +kernel) rfl) ?_
          refine r_p (pc' := 30) (p_aload_n 0 (k := 0) (by decide +kernel) rfl) ?_
          refine r_p (pc' := 31) (p_iload_n 2 (k := 2) (by decide +kernel) rfl) ?_
          refine r_p (pc' := 32) (p_iconst (n := 1) (v := 1) (by decide +kernel) rfl) ?_
          refine r_callVI mvX1_115 (ctX1_wearOff a0 x1.2 1) (rcX1_wearOff a0 x1.2 1) ⟨_, _, rfl⟩ (as := [vi x1.2, vi 1]) (st := [vi x1.1]) rfl rfl (by decide +kernel) rfl (Nat.le_of_ble_eq_true rfl) (Nat.le_of_ble_eq_true rfl) fun v14 s => ?_
          refine r_p (pc' := 36) (p_iadd (by decide +kernel)) ?_
          refine r_letI fun v15 => ?_
          refine r_p (pc' := 37) (p_istore_n (k := 1) (lv' := [(1, vi v15), (0, vr a0), (2, vi x1.2)]) (by decide +kernel) (Nat.le_of_ble_eq_true rfl) rfl) ?_
          refine r_sub (lv' := [(0, vr a0), (1, vi v15), (2, vi x1.2)]) [1, 0, 2] rfl ?_
          exact hj13 v15 _
        · exact hj13 x1.1 _
def aX1_passDay : StA := (RX1, cX1_passDay, 3, some .int, yX1_passDay, 11, [])
theorem mvX1_102 : MV RX1 102 aX1_markOf 1 := ⟨tblG_of 1409 (by decide +kernel) (by decide +kernel), tblG_of 602 (by decide +kernel) (by decide +kernel), tblG_of 603 (by decide +kernel) (by decide +kernel), tblG_of 151 (by decide +kernel) (by decide +kernel), tblG_of 604 (by decide +kernel) (by decide +kernel), rfl, ⟨by decide, by decide⟩, by decide +kernel, by decide⟩
theorem msX1_105 : MS RX1 105 aX1_nextSeed 1 := ⟨tblG_of 1410 (by decide +kernel) (by decide +kernel), tblG_of 1411 (by decide +kernel) (by decide +kernel), tblG_of 151 (by decide +kernel) (by decide +kernel), tblG_of 1412 (by decide +kernel) (by decide +kernel), rfl, ⟨by decide, by decide⟩, by decide +kernel, by decide⟩
theorem mvX1_108 : MV RX1 108 aX1_isDamp 1 := ⟨tblG_of 1414 (by decide +kernel) (by decide +kernel), tblG_of 1416 (by decide +kernel) (by decide +kernel), tblG_of 40 (by decide +kernel) (by decide +kernel), tblG_of 151 (by decide +kernel) (by decide +kernel), tblG_of 1417 (by decide +kernel) (by decide +kernel), rfl, ⟨by decide, by decide⟩, by decide +kernel, by decide⟩
theorem mvX1_111 : MV RX1 111 aX1_rust 0 := ⟨tblG_of 1418 (by decide +kernel) (by decide +kernel), tblG_of 1420 (by decide +kernel) (by decide +kernel), tblG_of 41 (by decide +kernel) (by decide +kernel), tblG_of 151 (by decide +kernel) (by decide +kernel), tblG_of 1421 (by decide +kernel) (by decide +kernel), rfl, ⟨by decide, by decide⟩, by decide +kernel, by decide⟩
noncomputable def mX1_passDay_L11 (a0 : Nat) (v2 : Int32) (x3 : Int32) : MM ((Int32) ⊕ (Unit)) :=
  mbnd (gR 1 1 a0) fun (v7 : Nat) =>
  mbnd (gI 8 3 v7) fun (v8 : Int32) =>
  if v8 ≤ x3 then (
    mret (.inr ())
  ) else (
    mbnd (gR 1 5 a0) fun (v10 : Nat) =>
    mbnd (mX1_markOf a0 x3) fun (v11 : Int32) =>
    mbnd (mX8_put v10 v2 x3 v11) fun _ =>
    mbnd (gR 1 1 a0) fun (v12 : Nat) =>
    mbnd (gR 1 1 a0) fun (v13 : Nat) =>
    mbnd (mX8_get v13 x3 3) fun (v14 : Int32) =>
    mbnd (mX8_put v12 x3 3 (iushr v14 1)) fun _ =>
    mret (.inl (x3 + 1))
  )
noncomputable def mX1_passDay (a0 : Nat) : MM Int32 := onC 1 a0 (
  mbnd (gR 1 5 a0) fun (v1 : Nat) =>
  mbnd (mX8_openLatest v1 (-1)) fun (v2 : Int32) =>
  mbnd (loopM (mX1_passDay_L11 a0 v2) 0) fun (e15 : Unit) =>
  mbnd (gI 1 11 a0) fun (v16 : Int32) =>
  mbnd (mX1_nextSeed v16) fun (v17 : Int32) =>
  mbnd (pI 1 11 a0 v17) fun _ =>
  mbnd (gI 1 8 a0) fun (v18 : Int32) =>
  mbnd (pI 1 8 a0 (v18 + 1)) fun _ =>
  mbnd (gI 1 11 a0) fun (v19 : Int32) =>
  mbnd (mX1_isDamp a0 v19) fun (v20 : Int32) =>
  if v20 = 0 then (
    mret 0
  ) else (
    mbnd (mX1_rust a0) fun (v22 : Int32) =>
    mret v22
  )
  )
theorem rcX1_passDay (a0 : Nat) : Rcv 1 a0 (mX1_passDay a0) := fun s r h => ⟨(onC_some h).1, (onC_some h).2.1⟩
set_option maxHeartbeats 4000000 in
set_option maxRecDepth 100000 in
theorem ctX1_passDay (a0 : Nat) : Ct aX1_passDay [vr a0] (mX1_passDay a0) rI := by
  unfold mX1_passDay
  refine ct_onC (ct_intro (by decide +kernel) rfl (Nat.le_of_ble_eq_true rfl) fun Y s => ?_)
  refine r_sub (lv' := [(0, vr a0)]) [0] rfl ?_
  refine r_p (pc' := 1) (p_aload_n 0 (k := 0) (by decide +kernel) rfl) ?_
  refine r_gR flX1_32_1 (by decide +kernel) fun v1 => ?_
  refine r_p (pc' := 5) (p_iconst (n := -1) (v := -1) (by decide +kernel) rfl) ?_
  refine r_callVI mvX1_90 (ctX8_openLatest v1 (-1)) (rcX8_openLatest v1 (-1)) ⟨_, _, rfl⟩ (as := [vi (-1)]) (st := []) rfl rfl (by decide +kernel) rfl (Nat.le_of_ble_eq_true rfl) (Nat.le_of_ble_eq_true rfl) fun v2 s => ?_
  refine r_p (pc' := 9) (p_istore_n (k := 1) (lv' := [(1, vi v2), (0, vr a0)]) (by decide +kernel) (Nat.le_of_ble_eq_true rfl) rfl) ?_
  refine r_p (pc' := 10) (p_iconst (n := 0) (v := 0) (by decide +kernel) rfl) ?_
  refine r_p (pc' := 11) (p_istore_n (k := 2) (lv' := [(2, vi 0), (1, vi v2), (0, vr a0)]) (by decide +kernel) (Nat.le_of_ble_eq_true rfl) rfl) ?_
  refine r_sub (lv' := [(0, vr a0), (1, vi v2), (2, vi 0)]) [2, 1, 0] rfl ?_
  refine r_loop2 (fun _ => 62) (fun (e15 : Unit) => [(0, vr a0)]) (fun (x3 : Int32) => [(0, vr a0), (1, vi v2), (2, vi x3)]) (fun e15 s => ?_) (fun K4 hb5 he6 x3 s => ?_) 0 _
  · refine r_p (pc' := 63) (p_aload_n 0 (k := 0) (by decide +kernel) rfl) ?_
    refine r_p (pc' := 64) (p_aload_n 0 (k := 0) (by decide +kernel) rfl) ?_
    refine r_gI flX1_35_1 (by decide +kernel) fun v16 => ?_
    refine r_callSI msX1_105 (ctX1_nextSeed v16) (as := [vi v16]) (st := [vr a0]) rfl rfl (by decide +kernel) rfl (Nat.le_of_ble_eq_true rfl) (Nat.le_of_ble_eq_true rfl) fun v17 s => ?_
    refine r_pI fpX1_35_1 (fun h => by cases h) (by decide +kernel) fun s => ?_
    refine r_p (pc' := 74) (p_aload_n 0 (k := 0) (by decide +kernel) rfl) ?_
    refine r_p (pc' := 75) (p_dup rfl (by decide +kernel)) ?_
    refine r_gI flX1_50_1 (by decide +kernel) fun v18 => ?_
    refine r_p (pc' := 79) (p_iconst (n := 1) (v := 1) (by decide +kernel) rfl) ?_
    refine r_p (pc' := 80) (p_iadd (by decide +kernel)) ?_
    refine r_pI fpX1_50_1 (fun h => by cases h) (by decide +kernel) fun s => ?_
    refine r_p (pc' := 84) (p_aload_n 0 (k := 0) (by decide +kernel) rfl) ?_
    refine r_p (pc' := 85) (p_aload_n 0 (k := 0) (by decide +kernel) rfl) ?_
    refine r_gI flX1_35_1 (by decide +kernel) fun v19 => ?_
    refine r_callVI mvX1_108 (ctX1_isDamp a0 v19) (rcX1_isDamp a0 v19) ⟨_, _, rfl⟩ (as := [vi v19]) (st := []) rfl rfl (by decide +kernel) rfl (Nat.le_of_ble_eq_true rfl) (Nat.le_of_ble_eq_true rfl) fun v20 s => ?_
    refine r_ifeq (off := 10) (tgt := 101) (by decide +kernel) (by decide) (fun h21 => ?_) (fun h21 => ?_)
    · refine r_p (pc' := 102) (p_iconst (n := 0) (v := 0) (by decide +kernel) rfl) ?_
      exact r_iret rfl rfl _ rfl rfl (by decide +kernel)
    · refine r_p (pc' := 95) (p_aload_n 0 (k := 0) (by decide +kernel) rfl) ?_
      refine r_callVI mvX1_111 (ctX1_rust a0) (rcX1_rust a0) ⟨_, _, rfl⟩ (as := []) (st := []) rfl rfl (by decide +kernel) rfl (Nat.le_of_ble_eq_true rfl) (Nat.le_of_ble_eq_true rfl) fun v22 s => ?_
      refine r_p (pc' := 102) (p_goto (off := 4) (tgt := 102) (by decide +kernel) (by decide)) ?_
      exact r_iret rfl rfl _ rfl rfl (by decide +kernel)
  · unfold mX1_passDay_L11
    refine r_p (pc' := 12) (p_iload_n 2 (k := 2) (by decide +kernel) rfl) ?_
    refine r_p (pc' := 13) (p_aload_n 0 (k := 0) (by decide +kernel) rfl) ?_
    refine r_gR flX1_20_1 (by decide +kernel) fun v7 => ?_
    refine r_gI flX1_70_8 (by decide +kernel) fun v8 => ?_
    refine r_icmpge (off := 43) (tgt := 62) (by decide +kernel) (by decide) (fun h9 => ?_) (fun h9 => ?_)
    · refine r_sub (lv' := [(0, vr a0)]) [0] rfl ?_
      exact he6 () _
    · refine r_p (pc' := 23) (p_aload_n 0 (k := 0) (by decide +kernel) rfl) ?_
      refine r_gR flX1_32_1 (by decide +kernel) fun v10 => ?_
      refine r_p (pc' := 27) (p_iload_n 1 (k := 1) (by decide +kernel) rfl) ?_
      refine r_p (pc' := 28) (p_iload_n 2 (k := 2) (by decide +kernel) rfl) ?_
      refine r_p (pc' := 29) (p_aload_n 0 (k := 0) (by decide +kernel) rfl) ?_
      refine r_p (pc' := 30) (p_iload_n 2 (k := 2) (by decide +kernel) rfl) ?_
      refine r_callVI mvX1_102 (ctX1_markOf a0 x3) (rcX1_markOf a0 x3) ⟨_, _, rfl⟩ (as := [vi x3]) (st := [vi x3, vi v2, vr v10]) rfl rfl (by decide +kernel) rfl (Nat.le_of_ble_eq_true rfl) (Nat.le_of_ble_eq_true rfl) fun v11 s => ?_
      refine r_callVU mvX1_83 (ctX8_put v10 v2 x3 v11) (rcX8_put v10 v2 x3 v11) ⟨_, _, rfl⟩ (as := [vi v2, vi x3, vi v11]) (st := []) rfl rfl (by decide +kernel) rfl (Nat.le_of_ble_eq_true rfl) (Nat.le_of_ble_eq_true rfl) fun s => ?_
      refine r_p (pc' := 37) (p_aload_n 0 (k := 0) (by decide +kernel) rfl) ?_
      refine r_gR flX1_20_1 (by decide +kernel) fun v12 => ?_
      refine r_p (pc' := 41) (p_iload_n 2 (k := 2) (by decide +kernel) rfl) ?_
      refine r_p (pc' := 42) (p_iconst (n := 3) (v := 3) (by decide +kernel) rfl) ?_
      refine r_p (pc' := 43) (p_aload_n 0 (k := 0) (by decide +kernel) rfl) ?_
      refine r_gR flX1_20_1 (by decide +kernel) fun v13 => ?_
      refine r_p (pc' := 47) (p_iload_n 2 (k := 2) (by decide +kernel) rfl) ?_
      refine r_p (pc' := 48) (p_iconst (n := 3) (v := 3) (by decide +kernel) rfl) ?_
      refine r_callVI mvX1_62 (ctX8_get v13 x3 3) (rcX8_get v13 x3 3) ⟨_, _, rfl⟩ (as := [vi x3, vi 3]) (st := [vi 3, vi x3, vr v12]) rfl rfl (by decide +kernel) rfl (Nat.le_of_ble_eq_true rfl) (Nat.le_of_ble_eq_true rfl) fun v14 s => ?_
      refine r_p (pc' := 52) (p_iconst (n := 1) (v := 1) (by decide +kernel) rfl) ?_
      refine r_p (pc' := 53) (p_iushr (by decide +kernel)) ?_
      refine r_callVU mvX1_83 (ctX8_put v12 x3 3 (iushr v14 1)) (rcX8_put v12 x3 3 (iushr v14 1)) ⟨_, _, rfl⟩ (as := [vi x3, vi 3, vi (iushr v14 1)]) (st := []) rfl rfl (by decide +kernel) rfl (Nat.le_of_ble_eq_true rfl) (Nat.le_of_ble_eq_true rfl) fun s => ?_
      refine r_p (pc' := 59) (p_iinc 2 (i := 2) (n := 1) (x := x3) (v := x3 + 1) (lv' := [(2, vi (x3 + 1)), (0, vr a0), (1, vi v2)]) (by decide +kernel) rfl rfl (Nat.le_of_ble_eq_true rfl) rfl) ?_
      refine r_p (pc' := 11) (p_goto (off := -48) (tgt := 11) (by decide +kernel) (by decide)) ?_
      refine r_sub (lv' := [(0, vr a0), (1, vi v2), (2, vi (x3 + 1))]) [1, 2, 0] rfl ?_
      exact hb5 (x3 + 1) _
def aX1_guiltySet : StA := (RX1, cX1_guiltySet, 3, some .int, yX1_guiltySet, 11, [])
noncomputable def mX1_guiltySet_L4 (a0 : Nat) (x1 : Int32 × Int32) : MM ((Int32 × Int32) ⊕ (Int32)) :=
  mbnd (gR 1 1 a0) fun (v5 : Nat) =>
  mbnd (gI 8 3 v5) fun (v6 : Int32) =>
  if v6 ≤ x1.2 then (
    mret (.inr x1.1)
  ) else (
    mbnd (mX1_answered a0 x1.2) fun (v8 : Int32) =>
    mbnd (gI 1 10 a0) fun (v9 : Int32) =>
    mbnd (α := Int32) (
      if v8 ≤ v9 then (
        mret 0
      ) else (
        mret (1 <<< (x1.2 &&& (31 : Int32)))
      )
    ) fun (x11 : Int32) =>
    mbnd (mret (x1.1 ||| x11)) fun (v14 : Int32) =>
    mret (.inl (v14, x1.2 + 1))
  )
noncomputable def mX1_guiltySet (a0 : Nat) : MM Int32 := onC 1 a0 (
  mbnd (loopM (mX1_guiltySet_L4 a0) (0, 0)) fun (e15 : Int32) =>
  mret e15
  )
theorem rcX1_guiltySet (a0 : Nat) : Rcv 1 a0 (mX1_guiltySet a0) := fun s r h => ⟨(onC_some h).1, (onC_some h).2.1⟩
set_option maxHeartbeats 4000000 in
set_option maxRecDepth 100000 in
theorem ctX1_guiltySet (a0 : Nat) : Ct aX1_guiltySet [vr a0] (mX1_guiltySet a0) rI := by
  unfold mX1_guiltySet
  refine ct_onC (ct_intro (by decide +kernel) rfl (Nat.le_of_ble_eq_true rfl) fun Y s => ?_)
  refine r_sub (lv' := [(0, vr a0)]) [0] rfl ?_
  refine r_p (pc' := 1) (p_iconst (n := 0) (v := 0) (by decide +kernel) rfl) ?_
  refine r_p (pc' := 2) (p_istore_n (k := 1) (lv' := [(1, vi 0), (0, vr a0)]) (by decide +kernel) (Nat.le_of_ble_eq_true rfl) rfl) ?_
  refine r_p (pc' := 3) (p_iconst (n := 0) (v := 0) (by decide +kernel) rfl) ?_
  refine r_p (pc' := 4) (p_istore_n (k := 2) (lv' := [(2, vi 0), (1, vi 0), (0, vr a0)]) (by decide +kernel) (Nat.le_of_ble_eq_true rfl) rfl) ?_
  refine r_sub (lv' := [(0, vr a0), (1, vi 0), (2, vi 0)]) [2, 1, 0] rfl ?_
  refine r_loop2 (fun _ => 43) (fun (e15 : Int32) => [(1, vi e15)]) (fun (x1 : Int32 × Int32) => [(0, vr a0), (1, vi x1.1), (2, vi x1.2)]) (fun e15 s => ?_) (fun K2 hb3 he4 x1 s => ?_) (0, 0) _
  · refine r_p (pc' := 44) (p_iload_n 0 (k := 1) (by decide +kernel) rfl) ?_
    exact r_iret rfl rfl _ rfl rfl (by decide +kernel)
  · unfold mX1_guiltySet_L4
    refine r_p (pc' := 5) (p_iload_n 2 (k := 2) (by decide +kernel) rfl) ?_
    refine r_p (pc' := 6) (p_aload_n 0 (k := 0) (by decide +kernel) rfl) ?_
    refine r_gR flX1_20_1 (by decide +kernel) fun v5 => ?_
    refine r_gI flX1_70_8 (by decide +kernel) fun v6 => ?_
    refine r_icmpge (off := 31) (tgt := 43) (by decide +kernel) (by decide) (fun h7 => ?_) (fun h7 => ?_)
    · refine r_sub (lv' := [(1, vi x1.1)]) [1] rfl ?_
      exact he4 x1.1 _
    · refine r_p (pc' := 16) (p_iload_n 1 (k := 1) (by decide +kernel) rfl) ?_
      refine r_p (pc' := 17) (p_aload_n 0 (k := 0) (by decide +kernel) rfl) ?_
      refine r_p (pc' := 18) (p_iload_n 2 (k := 2) (by decide +kernel) rfl) ?_
      refine r_callVI mvX1_80 (ctX1_answered a0 x1.2) (rcX1_answered a0 x1.2) ⟨_, _, rfl⟩ (as := [vi x1.2]) (st := [vi x1.1]) rfl rfl (by decide +kernel) rfl (Nat.le_of_ble_eq_true rfl) (Nat.le_of_ble_eq_true rfl) fun v8 s => ?_
      refine r_p (pc' := 22) (p_aload_n 0 (k := 0) (by decide +kernel) rfl) ?_
      refine r_gI flX1_56_1 (by decide +kernel) fun v9 => ?_
      refine r_join 35 (fun (x11 : Int32) => [(0, vr a0), (2, vi x1.2)]) (fun (x11 : Int32) => [vi x11, vi x1.1]) (fun x11 s => ?_) (fun K12 hj13 => ?_)
      · refine r_p (pc' := 36) (p_ior (by decide +kernel)) ?_
        refine r_letI fun v14 => ?_
        refine r_p (pc' := 37) (p_istore_n (k := 1) (lv' := [(1, vi v14), (0, vr a0), (2, vi x1.2)]) (by decide +kernel) (Nat.le_of_ble_eq_true rfl) rfl) ?_
        refine r_p (pc' := 40) (p_iinc 2 (i := 2) (n := 1) (x := x1.2) (v := x1.2 + 1) (lv' := [(2, vi (x1.2 + 1)), (1, vi v14), (0, vr a0)]) (by decide +kernel) rfl rfl (Nat.le_of_ble_eq_true rfl) rfl) ?_
        refine r_p (pc' := 4) (p_goto (off := -36) (tgt := 4) (by decide +kernel) (by decide)) ?_
        refine r_sub (lv' := [(0, vr a0), (1, vi v14), (2, vi (x1.2 + 1))]) [2, 1, 0] rfl ?_
        exact hb3 (v14, x1.2 + 1) _
      · refine r_icmple (off := 9) (tgt := 34) (by decide +kernel) (by decide) (fun h10 => ?_) (fun h10 => ?_)
        · refine r_p (pc' := 35) (p_iconst (n := 0) (v := 0) (by decide +kernel) rfl) ?_
          refine r_sub (lv' := [(0, vr a0), (2, vi x1.2)]) [0, 2] rfl ?_
          exact hj13 0 _
        · refine r_p (pc' := 29) (p_iconst (n := 1) (v := 1) (by decide +kernel) rfl) ?_
          refine r_p (pc' := 30) (p_iload_n 2 (k := 2) (by decide +kernel) rfl) ?_
          refine r_p (pc' := 31) (p_ishl (by decide +kernel)) ?_
          refine r_p (pc' := 35) (p_goto (off := 4) (tgt := 35) (by decide +kernel) (by decide)) ?_
          refine r_sub (lv' := [(0, vr a0), (2, vi x1.2)]) [0, 2] rfl ?_
          exact hj13 (1 <<< (x1.2 &&& (31 : Int32))) _
def aX1_allParts : StA := (RX1, cX1_allParts, 1, some .int, yX1_allParts, 8, [])
noncomputable def mX1_allParts (a0 : Nat) : MM Int32 := onC 1 a0 (
  mbnd (gR 1 0 a0) fun (v1 : Nat) =>
  mbnd (gI 8 3 v1) fun (v2 : Int32) =>
  mret ((1 <<< (v2 &&& (31 : Int32))) - 1)
  )
theorem rcX1_allParts (a0 : Nat) : Rcv 1 a0 (mX1_allParts a0) := fun s r h => ⟨(onC_some h).1, (onC_some h).2.1⟩
set_option maxHeartbeats 4000000 in
set_option maxRecDepth 100000 in
theorem ctX1_allParts (a0 : Nat) : Ct aX1_allParts [vr a0] (mX1_allParts a0) rI := by
  unfold mX1_allParts
  refine ct_onC (ct_intro (by decide +kernel) rfl (Nat.le_of_ble_eq_true rfl) fun Y s => ?_)
  refine r_sub (lv' := [(0, vr a0)]) [0] rfl ?_
  refine r_p (pc' := 1) (p_iconst (n := 1) (v := 1) (by decide +kernel) rfl) ?_
  refine r_p (pc' := 2) (p_aload_n 0 (k := 0) (by decide +kernel) rfl) ?_
  refine r_gR flX1_14_1 (by decide +kernel) fun v1 => ?_
  refine r_gI flX1_70_8 (by decide +kernel) fun v2 => ?_
  refine r_p (pc' := 9) (p_ishl (by decide +kernel)) ?_
  refine r_p (pc' := 10) (p_iconst (n := 1) (v := 1) (by decide +kernel) rfl) ?_
  refine r_p (pc' := 11) (p_isub (by decide +kernel)) ?_
  exact r_iret rfl rfl _ rfl rfl (by decide +kernel)
def aX1_wearAfter : StA := (RX1, cX1_wearAfter, 7, some .int, yX1_wearAfter, 9, [])
noncomputable def mX1_wearAfter_L8 (a0 : Nat) (a1 : Int32) (x1 : Int32 × Int32 × Int32) : MM ((Int32 × Int32 × Int32) ⊕ (Int32)) :=
  if a1 ≤ x1.2.2 then (
    mret (.inr x1.1)
  ) else (
    mbnd (mX1_nextSeed x1.2.1) fun (v6 : Int32) =>
    mbnd (mX1_isDamp a0 v6) fun (v7 : Int32) =>
    mbnd (α := Int32) (
      if v7 = 0 then (
        mret 0
      ) else (
        mret 1
      )
    ) fun (x9 : Int32) =>
    mbnd (mret (x1.1 + x9)) fun (v12 : Int32) =>
    mret (.inl (v12, v6, x1.2.2 + 1))
  )
noncomputable def mX1_wearAfter_L50 (a0 : Nat) (e13 : Int32) (x14 : Int32 × Int32) : MM ((Int32 × Int32) ⊕ (Int32)) :=
  mbnd (gR 1 0 a0) fun (v18 : Nat) =>
  mbnd (gI 8 3 v18) fun (v19 : Int32) =>
  if v19 ≤ x14.2 then (
    mret (.inr x14.1)
  ) else (
    mbnd (gR 1 0 a0) fun (v21 : Nat) =>
    mbnd (mX8_get v21 x14.2 0) fun (v22 : Int32) =>
    mbnd (α := Int32) (
      if v22 = 1 then (
        mbnd (gR 1 0 a0) fun (v27 : Nat) =>
        mbnd (mX8_get v27 x14.2 2) fun (v28 : Int32) =>
        mbnd (mret (x14.1 + (imin 99 (v28 + e13)))) fun (v29 : Int32) =>
        mret v29
      ) else (
        mret x14.1
      )
    ) fun (x24 : Int32) =>
    mret (.inl (x24, x14.2 + 1))
  )
noncomputable def mX1_wearAfter (a0 : Nat) (a1 : Int32) (a2 : Int32) : MM Int32 := onC 1 a0 (
  mbnd (loopM (mX1_wearAfter_L8 a0 a1) (0, a2, 0)) fun (e13 : Int32) =>
  mbnd (loopM (mX1_wearAfter_L50 a0 e13) (0, 0)) fun (e30 : Int32) =>
  mret e30
  )
theorem rcX1_wearAfter (a0 : Nat) (a1 : Int32) (a2 : Int32) : Rcv 1 a0 (mX1_wearAfter a0 a1 a2) := fun s r h => ⟨(onC_some h).1, (onC_some h).2.1⟩
set_option maxHeartbeats 4000000 in
set_option maxRecDepth 100000 in
theorem ctX1_wearAfter (a0 : Nat) (a1 : Int32) (a2 : Int32) : Ct aX1_wearAfter [vr a0, vi a1, vi a2] (mX1_wearAfter a0 a1 a2) rI := by
  unfold mX1_wearAfter
  refine ct_onC (ct_intro (by decide +kernel) rfl (Nat.le_of_ble_eq_true rfl) fun Y s => ?_)
  refine r_sub (lv' := [(0, vr a0), (1, vi a1), (2, vi a2)]) [0, 1, 2] rfl ?_
  refine r_p (pc' := 1) (p_iconst (n := 0) (v := 0) (by decide +kernel) rfl) ?_
  refine r_p (pc' := 2) (p_istore_n (k := 3) (lv' := [(3, vi 0), (0, vr a0), (1, vi a1), (2, vi a2)]) (by decide +kernel) (Nat.le_of_ble_eq_true rfl) rfl) ?_
  refine r_p (pc' := 3) (p_iload_n 3 (k := 2) (by decide +kernel) rfl) ?_
  refine r_p (pc' := 5) (p_istore (i := 4) (lv' := [(4, vi a2), (3, vi 0), (0, vr a0), (1, vi a1), (2, vi a2)]) (by decide +kernel) (Nat.le_of_ble_eq_true rfl) rfl) ?_
  refine r_p (pc' := 6) (p_iconst (n := 0) (v := 0) (by decide +kernel) rfl) ?_
  refine r_p (pc' := 8) (p_istore (i := 5) (lv' := [(5, vi 0), (4, vi a2), (3, vi 0), (0, vr a0), (1, vi a1), (2, vi a2)]) (by decide +kernel) (Nat.le_of_ble_eq_true rfl) rfl) ?_
  refine r_sub (lv' := [(0, vr a0), (1, vi a1), (3, vi 0), (4, vi a2), (5, vi 0)]) [3, 4, 2, 1, 0] rfl ?_
  refine r_loop2 (fun _ => 44) (fun (e13 : Int32) => [(0, vr a0), (3, vi e13)]) (fun (x1 : Int32 × Int32 × Int32) => [(0, vr a0), (1, vi a1), (3, vi x1.1), (4, vi x1.2.1), (5, vi x1.2.2)]) (fun e13 s => ?_) (fun K2 hb3 he4 x1 s => ?_) (0, a2, 0) _
  · refine r_p (pc' := 45) (p_iconst (n := 0) (v := 0) (by decide +kernel) rfl) ?_
    refine r_p (pc' := 47) (p_istore (i := 5) (lv' := [(5, vi 0), (0, vr a0), (3, vi e13)]) (by decide +kernel) (Nat.le_of_ble_eq_true rfl) rfl) ?_
    refine r_p (pc' := 48) (p_iconst (n := 0) (v := 0) (by decide +kernel) rfl) ?_
    refine r_p (pc' := 50) (p_istore (i := 6) (lv' := [(6, vi 0), (5, vi 0), (0, vr a0), (3, vi e13)]) (by decide +kernel) (Nat.le_of_ble_eq_true rfl) rfl) ?_
    refine r_sub (lv' := [(0, vr a0), (3, vi e13), (5, vi 0), (6, vi 0)]) [2, 3, 1, 0] rfl ?_
    refine r_loop2 (fun _ => 104) (fun (e30 : Int32) => [(5, vi e30)]) (fun (x14 : Int32 × Int32) => [(0, vr a0), (3, vi e13), (5, vi x14.1), (6, vi x14.2)]) (fun e30 s => ?_) (fun K15 hb16 he17 x14 s => ?_) (0, 0) _
    · refine r_p (pc' := 106) (p_iload 0 (i := 5) (by decide +kernel) rfl) ?_
      exact r_iret rfl rfl _ rfl rfl (by decide +kernel)
    · unfold mX1_wearAfter_L50
      refine r_p (pc' := 52) (p_iload 3 (i := 6) (by decide +kernel) rfl) ?_
      refine r_p (pc' := 53) (p_aload_n 0 (k := 0) (by decide +kernel) rfl) ?_
      refine r_gR flX1_14_1 (by decide +kernel) fun v18 => ?_
      refine r_gI flX1_70_8 (by decide +kernel) fun v19 => ?_
      refine r_icmpge (off := 45) (tgt := 104) (by decide +kernel) (by decide) (fun h20 => ?_) (fun h20 => ?_)
      · refine r_sub (lv' := [(5, vi x14.1)]) [2] rfl ?_
        exact he17 x14.1 _
      · refine r_p (pc' := 63) (p_aload_n 0 (k := 0) (by decide +kernel) rfl) ?_
        refine r_gR flX1_14_1 (by decide +kernel) fun v21 => ?_
        refine r_p (pc' := 68) (p_iload 3 (i := 6) (by decide +kernel) rfl) ?_
        refine r_p (pc' := 69) (p_iconst (n := 0) (v := 0) (by decide +kernel) rfl) ?_
        refine r_callVI mvX1_62 (ctX8_get v21 x14.2 0) (rcX8_get v21 x14.2 0) ⟨_, _, rfl⟩ (as := [vi x14.2, vi 0]) (st := []) rfl rfl (by decide +kernel) rfl (Nat.le_of_ble_eq_true rfl) (Nat.le_of_ble_eq_true rfl) fun v22 s => ?_
        refine r_p (pc' := 73) (p_iconst (n := 1) (v := 1) (by decide +kernel) rfl) ?_
        refine r_join 98 (fun (x24 : Int32) => [(0, vr a0), (3, vi e13), (5, vi x24), (6, vi x14.2)]) (fun (x24 : Int32) => []) (fun x24 s => ?_) (fun K25 hj26 => ?_)
        · refine r_p (pc' := 101) (p_iinc 3 (i := 6) (n := 1) (x := x14.2) (v := x14.2 + 1) (lv' := [(6, vi (x14.2 + 1)), (0, vr a0), (3, vi e13), (5, vi x24)]) (by decide +kernel) rfl rfl (Nat.le_of_ble_eq_true rfl) rfl) ?_
          refine r_p (pc' := 50) (p_goto (off := -51) (tgt := 50) (by decide +kernel) (by decide)) ?_
          refine r_sub (lv' := [(0, vr a0), (3, vi e13), (5, vi x24), (6, vi (x14.2 + 1))]) [1, 2, 3, 0] rfl ?_
          exact hb16 (x24, x14.2 + 1) _
        · refine r_icmpne (off := 25) (tgt := 98) (by decide +kernel) (by decide) (fun h23 => ?_) (fun h23 => ?_)
          · refine r_p (pc' := 78) (p_iload 2 (i := 5) (by decide +kernel) rfl) ?_
            refine r_p (pc' := 80) (p_bipush (n := 99) (v := 99) (by decide +kernel) (by decide +kernel)) ?_
            refine r_p (pc' := 81) (p_aload_n 0 (k := 0) (by decide +kernel) rfl) ?_
            refine r_gR flX1_14_1 (by decide +kernel) fun v27 => ?_
            refine r_p (pc' := 86) (p_iload 3 (i := 6) (by decide +kernel) rfl) ?_
            refine r_p (pc' := 87) (p_iconst (n := 2) (v := 2) (by decide +kernel) rfl) ?_
            refine r_callVI mvX1_62 (ctX8_get v27 x14.2 2) (rcX8_get v27 x14.2 2) ⟨_, _, rfl⟩ (as := [vi x14.2, vi 2]) (st := [vi 99, vi x14.1]) rfl rfl (by decide +kernel) rfl (Nat.le_of_ble_eq_true rfl) (Nat.le_of_ble_eq_true rfl) fun v28 s => ?_
            refine r_p (pc' := 91) (p_iload_n 1 (k := 3) (by decide +kernel) rfl) ?_
            refine r_p (pc' := 92) (p_iadd (by decide +kernel)) ?_
            refine r_p (pc' := 95) (p_min (idx := 97) (tblG_of 1334 (by decide +kernel) (by decide +kernel)) (Nat.le_of_ble_eq_true rfl) (Nat.le_of_ble_eq_true rfl) (by decide +kernel)) ?_
            refine r_p (pc' := 96) (p_iadd (by decide +kernel)) ?_
            refine r_letI fun v29 => ?_
            refine r_p (pc' := 98) (p_istore (i := 5) (lv' := [(5, vi v29), (0, vr a0), (3, vi e13), (6, vi x14.2)]) (by decide +kernel) (Nat.le_of_ble_eq_true rfl) rfl) ?_
            refine r_sub (lv' := [(0, vr a0), (3, vi e13), (5, vi v29), (6, vi x14.2)]) [1, 2, 0, 3] rfl ?_
            exact hj26 v29 _
          · exact hj26 x14.1 _
  · unfold mX1_wearAfter_L8
    refine r_p (pc' := 10) (p_iload 4 (i := 5) (by decide +kernel) rfl) ?_
    refine r_p (pc' := 11) (p_iload_n 1 (k := 1) (by decide +kernel) rfl) ?_
    refine r_icmpge (off := 33) (tgt := 44) (by decide +kernel) (by decide) (fun h5 => ?_) (fun h5 => ?_)
    · refine r_sub (lv' := [(0, vr a0), (3, vi x1.1)]) [0, 2] rfl ?_
      exact he4 x1.1 _
    · refine r_p (pc' := 16) (p_iload 3 (i := 4) (by decide +kernel) rfl) ?_
      refine r_callSI msX1_105 (ctX1_nextSeed x1.2.1) (as := [vi x1.2.1]) (st := []) rfl rfl (by decide +kernel) rfl (Nat.le_of_ble_eq_true rfl) (Nat.le_of_ble_eq_true rfl) fun v6 s => ?_
      refine r_p (pc' := 21) (p_istore (i := 4) (lv' := [(4, vi v6), (0, vr a0), (1, vi a1), (3, vi x1.1), (5, vi x1.2.2)]) (by decide +kernel) (Nat.le_of_ble_eq_true rfl) rfl) ?_
      refine r_p (pc' := 22) (p_iload_n 3 (k := 3) (by decide +kernel) rfl) ?_
      refine r_p (pc' := 23) (p_aload_n 1 (k := 0) (by decide +kernel) rfl) ?_
      refine r_p (pc' := 25) (p_iload 0 (i := 4) (by decide +kernel) rfl) ?_
      refine r_callVI mvX1_108 (ctX1_isDamp a0 v6) (rcX1_isDamp a0 v6) ⟨_, _, rfl⟩ (as := [vi v6]) (st := [vi x1.1]) rfl rfl (by decide +kernel) rfl (Nat.le_of_ble_eq_true rfl) (Nat.le_of_ble_eq_true rfl) fun v7 s => ?_
      refine r_join 36 (fun (x9 : Int32) => [(0, vr a0), (1, vi a1), (4, vi v6), (5, vi x1.2.2)]) (fun (x9 : Int32) => [vi x9, vi x1.1]) (fun x9 s => ?_) (fun K10 hj11 => ?_)
      · refine r_p (pc' := 37) (p_iadd (by decide +kernel)) ?_
        refine r_letI fun v12 => ?_
        refine r_p (pc' := 38) (p_istore_n (k := 3) (lv' := [(3, vi v12), (0, vr a0), (1, vi a1), (4, vi v6), (5, vi x1.2.2)]) (by decide +kernel) (Nat.le_of_ble_eq_true rfl) rfl) ?_
        refine r_p (pc' := 41) (p_iinc 4 (i := 5) (n := 1) (x := x1.2.2) (v := x1.2.2 + 1) (lv' := [(5, vi (x1.2.2 + 1)), (3, vi v12), (0, vr a0), (1, vi a1), (4, vi v6)]) (by decide +kernel) rfl rfl (Nat.le_of_ble_eq_true rfl) rfl) ?_
        refine r_p (pc' := 8) (p_goto (off := -33) (tgt := 8) (by decide +kernel) (by decide)) ?_
        refine r_sub (lv' := [(0, vr a0), (1, vi a1), (3, vi v12), (4, vi v6), (5, vi (x1.2.2 + 1))]) [2, 3, 1, 4, 0] rfl ?_
        exact hb3 (v12, v6, x1.2.2 + 1) _
      · refine r_ifeq (off := 7) (tgt := 35) (by decide +kernel) (by decide) (fun h8 => ?_) (fun h8 => ?_)
        · refine r_p (pc' := 36) (p_iconst (n := 0) (v := 0) (by decide +kernel) rfl) ?_
          refine r_sub (lv' := [(0, vr a0), (1, vi a1), (4, vi v6), (5, vi x1.2.2)]) [1, 2, 0, 4] rfl ?_
          exact hj11 0 _
        · refine r_p (pc' := 32) (p_iconst (n := 1) (v := 1) (by decide +kernel) rfl) ?_
          refine r_p (pc' := 36) (p_goto (off := 4) (tgt := 36) (by decide +kernel) (by decide)) ?_
          refine r_sub (lv' := [(0, vr a0), (1, vi a1), (4, vi v6), (5, vi x1.2.2)]) [1, 2, 0, 4] rfl ?_
          exact hj11 1 _
def aX1_spareSet : StA := (RX1, cX1_spareSet, 3, some .int, yX1_spareSet, 10, [])
theorem mvX1_77 : MV RX1 77 aX1_isSpare 1 := ⟨tblG_of 790 (by decide +kernel) (by decide +kernel), tblG_of 670 (by decide +kernel) (by decide +kernel), tblG_of 671 (by decide +kernel) (by decide +kernel), tblG_of 151 (by decide +kernel) (by decide +kernel), tblG_of 672 (by decide +kernel) (by decide +kernel), rfl, ⟨by decide, by decide⟩, by decide +kernel, by decide⟩
noncomputable def mX1_spareSet_L4 (a0 : Nat) (x1 : Int32 × Int32) : MM ((Int32 × Int32) ⊕ (Int32)) :=
  mbnd (gR 1 0 a0) fun (v5 : Nat) =>
  mbnd (gI 8 3 v5) fun (v6 : Int32) =>
  if v6 ≤ x1.2 then (
    mret (.inr x1.1)
  ) else (
    mbnd (mX1_isSpare a0 x1.2) fun (v8 : Int32) =>
    mbnd (α := Int32) (
      if v8 = 0 then (
        mret 0
      ) else (
        mret (1 <<< (x1.2 &&& (31 : Int32)))
      )
    ) fun (x10 : Int32) =>
    mbnd (mret (x1.1 ||| x10)) fun (v13 : Int32) =>
    mret (.inl (v13, x1.2 + 1))
  )
noncomputable def mX1_spareSet (a0 : Nat) : MM Int32 := onC 1 a0 (
  mbnd (loopM (mX1_spareSet_L4 a0) (0, 0)) fun (e14 : Int32) =>
  mret e14
  )
theorem rcX1_spareSet (a0 : Nat) : Rcv 1 a0 (mX1_spareSet a0) := fun s r h => ⟨(onC_some h).1, (onC_some h).2.1⟩
set_option maxHeartbeats 4000000 in
set_option maxRecDepth 100000 in
theorem ctX1_spareSet (a0 : Nat) : Ct aX1_spareSet [vr a0] (mX1_spareSet a0) rI := by
  unfold mX1_spareSet
  refine ct_onC (ct_intro (by decide +kernel) rfl (Nat.le_of_ble_eq_true rfl) fun Y s => ?_)
  refine r_sub (lv' := [(0, vr a0)]) [0] rfl ?_
  refine r_p (pc' := 1) (p_iconst (n := 0) (v := 0) (by decide +kernel) rfl) ?_
  refine r_p (pc' := 2) (p_istore_n (k := 1) (lv' := [(1, vi 0), (0, vr a0)]) (by decide +kernel) (Nat.le_of_ble_eq_true rfl) rfl) ?_
  refine r_p (pc' := 3) (p_iconst (n := 0) (v := 0) (by decide +kernel) rfl) ?_
  refine r_p (pc' := 4) (p_istore_n (k := 2) (lv' := [(2, vi 0), (1, vi 0), (0, vr a0)]) (by decide +kernel) (Nat.le_of_ble_eq_true rfl) rfl) ?_
  refine r_sub (lv' := [(0, vr a0), (1, vi 0), (2, vi 0)]) [2, 1, 0] rfl ?_
  refine r_loop2 (fun _ => 39) (fun (e14 : Int32) => [(1, vi e14)]) (fun (x1 : Int32 × Int32) => [(0, vr a0), (1, vi x1.1), (2, vi x1.2)]) (fun e14 s => ?_) (fun K2 hb3 he4 x1 s => ?_) (0, 0) _
  · refine r_p (pc' := 40) (p_iload_n 0 (k := 1) (by decide +kernel) rfl) ?_
    exact r_iret rfl rfl _ rfl rfl (by decide +kernel)
  · unfold mX1_spareSet_L4
    refine r_p (pc' := 5) (p_iload_n 2 (k := 2) (by decide +kernel) rfl) ?_
    refine r_p (pc' := 6) (p_aload_n 0 (k := 0) (by decide +kernel) rfl) ?_
    refine r_gR flX1_14_1 (by decide +kernel) fun v5 => ?_
    refine r_gI flX1_70_8 (by decide +kernel) fun v6 => ?_
    refine r_icmpge (off := 27) (tgt := 39) (by decide +kernel) (by decide) (fun h7 => ?_) (fun h7 => ?_)
    · refine r_sub (lv' := [(1, vi x1.1)]) [1] rfl ?_
      exact he4 x1.1 _
    · refine r_p (pc' := 16) (p_iload_n 1 (k := 1) (by decide +kernel) rfl) ?_
      refine r_p (pc' := 17) (p_aload_n 0 (k := 0) (by decide +kernel) rfl) ?_
      refine r_p (pc' := 18) (p_iload_n 2 (k := 2) (by decide +kernel) rfl) ?_
      refine r_callVI mvX1_77 (ctX1_isSpare a0 x1.2) (rcX1_isSpare a0 x1.2) ⟨_, _, rfl⟩ (as := [vi x1.2]) (st := [vi x1.1]) rfl rfl (by decide +kernel) rfl (Nat.le_of_ble_eq_true rfl) (Nat.le_of_ble_eq_true rfl) fun v8 s => ?_
      refine r_join 31 (fun (x10 : Int32) => [(0, vr a0), (2, vi x1.2)]) (fun (x10 : Int32) => [vi x10, vi x1.1]) (fun x10 s => ?_) (fun K11 hj12 => ?_)
      · refine r_p (pc' := 32) (p_ior (by decide +kernel)) ?_
        refine r_letI fun v13 => ?_
        refine r_p (pc' := 33) (p_istore_n (k := 1) (lv' := [(1, vi v13), (0, vr a0), (2, vi x1.2)]) (by decide +kernel) (Nat.le_of_ble_eq_true rfl) rfl) ?_
        refine r_p (pc' := 36) (p_iinc 2 (i := 2) (n := 1) (x := x1.2) (v := x1.2 + 1) (lv' := [(2, vi (x1.2 + 1)), (1, vi v13), (0, vr a0)]) (by decide +kernel) rfl rfl (Nat.le_of_ble_eq_true rfl) rfl) ?_
        refine r_p (pc' := 4) (p_goto (off := -32) (tgt := 4) (by decide +kernel) (by decide)) ?_
        refine r_sub (lv' := [(0, vr a0), (1, vi v13), (2, vi (x1.2 + 1))]) [2, 1, 0] rfl ?_
        exact hb3 (v13, x1.2 + 1) _
      · refine r_ifeq (off := 9) (tgt := 30) (by decide +kernel) (by decide) (fun h9 => ?_) (fun h9 => ?_)
        · refine r_p (pc' := 31) (p_iconst (n := 0) (v := 0) (by decide +kernel) rfl) ?_
          refine r_sub (lv' := [(0, vr a0), (2, vi x1.2)]) [0, 2] rfl ?_
          exact hj12 0 _
        · refine r_p (pc' := 25) (p_iconst (n := 1) (v := 1) (by decide +kernel) rfl) ?_
          refine r_p (pc' := 26) (p_iload_n 2 (k := 2) (by decide +kernel) rfl) ?_
          refine r_p (pc' := 27) (p_ishl (by decide +kernel)) ?_
          refine r_p (pc' := 31) (p_goto (off := 4) (tgt := 31) (by decide +kernel) (by decide)) ?_
          refine r_sub (lv' := [(0, vr a0), (2, vi x1.2)]) [0, 2] rfl ?_
          exact hj12 (1 <<< (x1.2 &&& (31 : Int32))) _
def aX1_guiltOfAll : StA := (RX1, cX1_guiltOfAll, 3, some .int, yX1_guiltOfAll, 10, [])
noncomputable def mX1_guiltOfAll_L4 (a0 : Nat) (x1 : Int32 × Int32) : MM ((Int32 × Int32) ⊕ (Int32)) :=
  mbnd (gR 1 0 a0) fun (v5 : Nat) =>
  mbnd (gI 8 3 v5) fun (v6 : Int32) =>
  if v6 ≤ x1.2 then (
    mret (.inr x1.1)
  ) else (
    mbnd (mX1_guiltOf a0 x1.2) fun (v8 : Int32) =>
    mbnd (mret (x1.1 + v8)) fun (v9 : Int32) =>
    mret (.inl (v9, x1.2 + 1))
  )
noncomputable def mX1_guiltOfAll (a0 : Nat) : MM Int32 := onC 1 a0 (
  mbnd (loopM (mX1_guiltOfAll_L4 a0) (0, 0)) fun (e10 : Int32) =>
  mret e10
  )
theorem rcX1_guiltOfAll (a0 : Nat) : Rcv 1 a0 (mX1_guiltOfAll a0) := fun s r h => ⟨(onC_some h).1, (onC_some h).2.1⟩
set_option maxHeartbeats 4000000 in
set_option maxRecDepth 100000 in
theorem ctX1_guiltOfAll (a0 : Nat) : Ct aX1_guiltOfAll [vr a0] (mX1_guiltOfAll a0) rI := by
  unfold mX1_guiltOfAll
  refine ct_onC (ct_intro (by decide +kernel) rfl (Nat.le_of_ble_eq_true rfl) fun Y s => ?_)
  refine r_sub (lv' := [(0, vr a0)]) [0] rfl ?_
  refine r_p (pc' := 1) (p_iconst (n := 0) (v := 0) (by decide +kernel) rfl) ?_
  refine r_p (pc' := 2) (p_istore_n (k := 1) (lv' := [(1, vi 0), (0, vr a0)]) (by decide +kernel) (Nat.le_of_ble_eq_true rfl) rfl) ?_
  refine r_p (pc' := 3) (p_iconst (n := 0) (v := 0) (by decide +kernel) rfl) ?_
  refine r_p (pc' := 4) (p_istore_n (k := 2) (lv' := [(2, vi 0), (1, vi 0), (0, vr a0)]) (by decide +kernel) (Nat.le_of_ble_eq_true rfl) rfl) ?_
  refine r_sub (lv' := [(0, vr a0), (1, vi 0), (2, vi 0)]) [2, 1, 0] rfl ?_
  refine r_loop2 (fun _ => 29) (fun (e10 : Int32) => [(1, vi e10)]) (fun (x1 : Int32 × Int32) => [(0, vr a0), (1, vi x1.1), (2, vi x1.2)]) (fun e10 s => ?_) (fun K2 hb3 he4 x1 s => ?_) (0, 0) _
  · refine r_p (pc' := 30) (p_iload_n 0 (k := 1) (by decide +kernel) rfl) ?_
    exact r_iret rfl rfl _ rfl rfl (by decide +kernel)
  · unfold mX1_guiltOfAll_L4
    refine r_p (pc' := 5) (p_iload_n 2 (k := 2) (by decide +kernel) rfl) ?_
    refine r_p (pc' := 6) (p_aload_n 0 (k := 0) (by decide +kernel) rfl) ?_
    refine r_gR flX1_14_1 (by decide +kernel) fun v5 => ?_
    refine r_gI flX1_70_8 (by decide +kernel) fun v6 => ?_
    refine r_icmpge (off := 17) (tgt := 29) (by decide +kernel) (by decide) (fun h7 => ?_) (fun h7 => ?_)
    · refine r_sub (lv' := [(1, vi x1.1)]) [1] rfl ?_
      exact he4 x1.1 _
    · refine r_p (pc' := 16) (p_iload_n 1 (k := 1) (by decide +kernel) rfl) ?_
      refine r_p (pc' := 17) (p_aload_n 0 (k := 0) (by decide +kernel) rfl) ?_
      refine r_p (pc' := 18) (p_iload_n 2 (k := 2) (by decide +kernel) rfl) ?_
      refine r_callVI mvX1_73 (ctX1_guiltOf a0 x1.2) (rcX1_guiltOf a0 x1.2) ⟨_, _, rfl⟩ (as := [vi x1.2]) (st := [vi x1.1]) rfl rfl (by decide +kernel) rfl (Nat.le_of_ble_eq_true rfl) (Nat.le_of_ble_eq_true rfl) fun v8 s => ?_
      refine r_p (pc' := 22) (p_iadd (by decide +kernel)) ?_
      refine r_letI fun v9 => ?_
      refine r_p (pc' := 23) (p_istore_n (k := 1) (lv' := [(1, vi v9), (0, vr a0), (2, vi x1.2)]) (by decide +kernel) (Nat.le_of_ble_eq_true rfl) rfl) ?_
      refine r_p (pc' := 26) (p_iinc 2 (i := 2) (n := 1) (x := x1.2) (v := x1.2 + 1) (lv' := [(2, vi (x1.2 + 1)), (1, vi v9), (0, vr a0)]) (by decide +kernel) rfl rfl (Nat.le_of_ble_eq_true rfl) rfl) ?_
      refine r_p (pc' := 4) (p_goto (off := -22) (tgt := 4) (by decide +kernel) (by decide)) ?_
      refine r_sub (lv' := [(0, vr a0), (1, vi v9), (2, vi (x1.2 + 1))]) [2, 1, 0] rfl ?_
      exact hb3 (v9, x1.2 + 1) _
