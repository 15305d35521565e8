/-! PRINTED BY wip/whole/gen.py -/
def aX11_init : StA := (RX11, cX11_init, 2, none, yX11_init, 10, [])
theorem nwX11_7 : NW RX11 7 9 2 [.null, .int 0] := ⟨_, TX9, tyX9, rfl, tyX9_ok, tblG_of 181 (by decide +kernel) (by decide +kernel), tblG_of 182 (by decide +kernel) (by decide +kernel), tblG_of 145 (by decide +kernel) (by decide +kernel), (fun j hj => by match j, hj with | 0, _ => rfl | 1, _ => rfl), rfl⟩
theorem miX11_9 : MIN RX11 9 "ToolCourt" aX9_init 0 := ⟨List.mem_of_getElem? (i := 183) (by decide +kernel), tblG_of 184 (by decide +kernel) (by decide +kernel), tblG_of 145 (by decide +kernel) (by decide +kernel), tblG_of 185 (by decide +kernel) (by decide +kernel), rfl, ⟨by decide, by decide⟩, by decide +kernel, by decide, rfl, rfl⟩
theorem fpX11_10_10 : FP RX11 10 10 0 (.object "ToolCourt$Tape") true := ⟨_, TX11, 10, "ToolCourt", tyX11, rfl, by decide, Or.inl (tblG_of 514 (by decide +kernel) (by decide +kernel)), Or.inl rfl, tyX11_ok, nmX11, rfl, by decide, by decide +kernel⟩
theorem nwX11_16 : NW RX11 16 2 4 [.null, .null, .null, .null] := ⟨_, TX2, tyX2, rfl, tyX2_ok, tblG_of 197 (by decide +kernel) (by decide +kernel), tblG_of 198 (by decide +kernel) (by decide +kernel), tblG_of 146 (by decide +kernel) (by decide +kernel), (fun j hj => by match j, hj with | 0, _ => rfl | 1, _ => rfl | 2, _ => rfl | 3, _ => rfl), rfl⟩
theorem miX11_18 : MIN RX11 18 "ToolCourt" aX2_init 0 := ⟨List.mem_of_getElem? (i := 199) (by decide +kernel), tblG_of 200 (by decide +kernel) (by decide +kernel), tblG_of 146 (by decide +kernel) (by decide +kernel), tblG_of 201 (by decide +kernel) (by decide +kernel), rfl, ⟨by decide, by decide⟩, by decide +kernel, by decide, rfl, rfl⟩
theorem fpX11_19_10 : FP RX11 19 10 3 (.object "ToolCourt$Hearing") true := ⟨_, TX11, 10, "ToolCourt", tyX11, rfl, by decide, Or.inl (tblG_of 517 (by decide +kernel) (by decide +kernel)), Or.inl rfl, tyX11_ok, nmX11, rfl, by decide, by decide +kernel⟩
theorem nwX11_23 : NW RX11 23 3 5 [.null, .null, .null, .int 0, .int 0] := ⟨_, TX3, tyX3, rfl, tyX3_ok, tblG_of 216 (by decide +kernel) (by decide +kernel), tblG_of 217 (by decide +kernel) (by decide +kernel), tblG_of 147 (by decide +kernel) (by decide +kernel), (fun j hj => by match j, hj with | 0, _ => rfl | 1, _ => rfl | 2, _ => rfl | 3, _ => rfl | 4, _ => rfl), rfl⟩
theorem miX11_25 : MIN RX11 25 "ToolCourt" aX3_init 0 := ⟨List.mem_of_getElem? (i := 218) (by decide +kernel), tblG_of 219 (by decide +kernel) (by decide +kernel), tblG_of 147 (by decide +kernel) (by decide +kernel), tblG_of 220 (by decide +kernel) (by decide +kernel), rfl, ⟨by decide, by decide⟩, by decide +kernel, by decide, rfl, rfl⟩
theorem fpX11_26_10 : FP RX11 26 10 4 (.object "ToolCourt$Laundry") true := ⟨_, TX11, 10, "ToolCourt", tyX11, rfl, by decide, Or.inl (tblG_of 518 (by decide +kernel) (by decide +kernel)), Or.inl rfl, tyX11_ok, nmX11, rfl, by decide, by decide +kernel⟩
theorem nwX11_30 : NW RX11 30 0 6 [.null, .null, .null, .null, .int 0, .int 0] := ⟨_, TX0, tyX0, rfl, tyX0_ok, tblG_of 242 (by decide +kernel) (by decide +kernel), tblG_of 243 (by decide +kernel) (by decide +kernel), tblG_of 148 (by decide +kernel) (by decide +kernel), (fun j hj => by match j, hj with | 0, _ => rfl | 1, _ => rfl | 2, _ => rfl | 3, _ => rfl | 4, _ => rfl | 5, _ => rfl), rfl⟩
theorem miX11_32 : MIN RX11 32 "ToolCourt" aX0_init 0 := ⟨List.mem_of_getElem? (i := 244) (by decide +kernel), tblG_of 245 (by decide +kernel) (by decide +kernel), tblG_of 148 (by decide +kernel) (by decide +kernel), tblG_of 246 (by decide +kernel) (by decide +kernel), rfl, ⟨by decide, by decide⟩, by decide +kernel, by decide, rfl, rfl⟩
theorem fpX11_33_10 : FP RX11 33 10 5 (.object "ToolCourt$Cell") true := ⟨_, TX11, 10, "ToolCourt", tyX11, rfl, by decide, Or.inl (tblG_of 519 (by decide +kernel) (by decide +kernel)), Or.inl rfl, tyX11_ok, nmX11, rfl, by decide, by decide +kernel⟩
theorem nwX11_37 : NW RX11 37 6 4 [.null, .int 0, .int 0, .null] := ⟨_, TX6, tyX6, rfl, tyX6_ok, tblG_of 268 (by decide +kernel) (by decide +kernel), tblG_of 269 (by decide +kernel) (by decide +kernel), tblG_of 149 (by decide +kernel) (by decide +kernel), (fun j hj => by match j, hj with | 0, _ => rfl | 1, _ => rfl | 2, _ => rfl | 3, _ => rfl), rfl⟩
theorem miX11_39 : MIN RX11 39 "ToolCourt" aX6_init 0 := ⟨List.mem_of_getElem? (i := 270) (by decide +kernel), tblG_of 271 (by decide +kernel) (by decide +kernel), tblG_of 149 (by decide +kernel) (by decide +kernel), tblG_of 272 (by decide +kernel) (by decide +kernel), rfl, ⟨by decide, by decide⟩, by decide +kernel, by decide, rfl, rfl⟩
theorem fpX11_40_10 : FP RX11 40 10 6 (.object "ToolCourt$Memory") true := ⟨_, TX11, 10, "ToolCourt", tyX11, rfl, by decide, Or.inl (tblG_of 520 (by decide +kernel) (by decide +kernel)), Or.inl rfl, tyX11_ok, nmX11, rfl, by decide, by decide +kernel⟩
theorem nwX11_44 : NW RX11 44 4 3 [.int 0, .null, .null] := ⟨_, TX4, tyX4, rfl, tyX4_ok, tblG_of 290 (by decide +kernel) (by decide +kernel), tblG_of 291 (by decide +kernel) (by decide +kernel), tblG_of 150 (by decide +kernel) (by decide +kernel), (fun j hj => by match j, hj with | 0, _ => rfl | 1, _ => rfl | 2, _ => rfl), rfl⟩
theorem miX11_46 : MI RX11 46 aX4_init 2 := ⟨tblG_of 292 (by decide +kernel) (by decide +kernel), tblG_of 293 (by decide +kernel) (by decide +kernel), tblG_of 150 (by decide +kernel) (by decide +kernel), tblG_of 294 (by decide +kernel) (by decide +kernel), rfl, ⟨by decide, by decide⟩, by decide +kernel, by decide, rfl, rfl⟩
theorem nwX11_49 : NW RX11 49 1 13 [.null, .null, .null, .null, .null, .null, .null, .int 0, .int 0, .int 0, .int 0, .int 0, .int 0] := ⟨_, TX1, tyX1, rfl, tyX1_ok, tblG_of 307 (by decide +kernel) (by decide +kernel), tblG_of 308 (by decide +kernel) (by decide +kernel), tblG_of 151 (by decide +kernel) (by decide +kernel), (fun j hj => by match j, hj with | 0, _ => rfl | 1, _ => rfl | 2, _ => rfl | 3, _ => rfl | 4, _ => rfl | 5, _ => rfl | 6, _ => rfl | 7, _ => rfl | 8, _ => rfl | 9, _ => rfl | 10, _ => rfl | 11, _ => rfl | 12, _ => rfl), rfl⟩
theorem miX11_51 : MI RX11 51 aX1_init 1 := ⟨tblG_of 309 (by decide +kernel) (by decide +kernel), tblG_of 310 (by decide +kernel) (by decide +kernel), tblG_of 151 (by decide +kernel) (by decide +kernel), tblG_of 311 (by decide +kernel) (by decide +kernel), rfl, ⟨by decide, by decide⟩, by decide +kernel, by decide, rfl, rfl⟩
theorem fpX11_54_10 : FP RX11 54 10 7 (.object "ToolCourt$Court") true := ⟨_, TX11, 10, "ToolCourt", tyX11, rfl, by decide, Or.inl (tblG_of 521 (by decide +kernel) (by decide +kernel)), Or.inl rfl, tyX11_ok, nmX11, rfl, by decide, by decide +kernel⟩
theorem fpX11_58_10 : FP RX11 58 10 8 (.object "ToolCourt$Court") true := ⟨_, TX11, 10, "ToolCourt", tyX11, rfl, by decide, Or.inl (tblG_of 522 (by decide +kernel) (by decide +kernel)), Or.inl rfl, tyX11_ok, nmX11, rfl, by decide, by decide +kernel⟩
theorem nwX11_61 : NW RX11 61 7 14 [.null, .null, .null, .null, .null, .int 0, .int 0, .int 0, .int 0, .int 0, .int 0, .int 0, .null, .null] := ⟨_, TX7, tyX7, rfl, tyX7_ok, tblG_of 407 (by decide +kernel) (by decide +kernel), tblG_of 408 (by decide +kernel) (by decide +kernel), tblG_of 155 (by decide +kernel) (by decide +kernel), (fun j hj => by match j, hj with | 0, _ => rfl | 1, _ => rfl | 2, _ => rfl | 3, _ => rfl | 4, _ => rfl | 5, _ => rfl | 6, _ => rfl | 7, _ => rfl | 8, _ => rfl | 9, _ => rfl | 10, _ => rfl | 11, _ => rfl | 12, _ => rfl | 13, _ => rfl), rfl⟩
theorem flX11_10_10 : FL RX11 10 10 0 := ⟨_, TX11, 10, "ToolCourt", rfl, by decide, Or.inl (tblG_of 514 (by decide +kernel) (by decide +kernel)), Or.inl rfl⟩
theorem flX11_54_10 : FL RX11 54 10 7 := ⟨_, TX11, 10, "ToolCourt", rfl, by decide, Or.inl (tblG_of 521 (by decide +kernel) (by decide +kernel)), Or.inl rfl⟩
theorem flX11_58_10 : FL RX11 58 10 8 := ⟨_, TX11, 10, "ToolCourt", rfl, by decide, Or.inl (tblG_of 522 (by decide +kernel) (by decide +kernel)), Or.inl rfl⟩
theorem miX11_63 : MI RX11 63 aX7_init 3 := ⟨tblG_of 409 (by decide +kernel) (by decide +kernel), tblG_of 410 (by decide +kernel) (by decide +kernel), tblG_of 155 (by decide +kernel) (by decide +kernel), tblG_of 411 (by decide +kernel) (by decide +kernel), rfl, ⟨by decide, by decide⟩, by decide +kernel, by decide, rfl, rfl⟩
theorem fpX11_66_10 : FP RX11 66 10 1 (.object "ToolCourt$ShopReader") true := ⟨_, TX11, 10, "ToolCourt", tyX11, rfl, by decide, Or.inl (tblG_of 515 (by decide +kernel) (by decide +kernel)), Or.inl rfl, tyX11_ok, nmX11, rfl, by decide, by decide +kernel⟩
theorem nwX11_70 : NW RX11 70 5 18 [.null, .null, .null, .null, .null, .int 0, .int 0, .int 0, .int 0, .int 0, .int 0, .int 0, .null, .null, .int 0, .int 0, .int 0, .int 0] := ⟨_, TX5, tyX5, rfl, tyX5_ok, tblG_of 477 (by decide +kernel) (by decide +kernel), tblG_of 478 (by decide +kernel) (by decide +kernel), tblG_of 156 (by decide +kernel) (by decide +kernel), (fun j hj => by match j, hj with | 0, _ => rfl | 1, _ => rfl | 2, _ => rfl | 3, _ => rfl | 4, _ => rfl | 5, _ => rfl | 6, _ => rfl | 7, _ => rfl | 8, _ => rfl | 9, _ => rfl | 10, _ => rfl | 11, _ => rfl | 12, _ => rfl | 13, _ => rfl | 14, _ => rfl | 15, _ => rfl | 16, _ => rfl | 17, _ => rfl | j + 18, h => exact absurd h (by omega)), rfl⟩
theorem miX11_72 : MI RX11 72 aX5_init 1 := ⟨tblG_of 479 (by decide +kernel) (by decide +kernel), tblG_of 480 (by decide +kernel) (by decide +kernel), tblG_of 156 (by decide +kernel) (by decide +kernel), tblG_of 481 (by decide +kernel) (by decide +kernel), rfl, ⟨by decide, by decide⟩, by decide +kernel, by decide, rfl, rfl⟩
theorem fpX11_75_10 : FP RX11 75 10 2 (.object "ToolCourt$LawReader") true := ⟨_, TX11, 10, "ToolCourt", tyX11, rfl, by decide, Or.inl (tblG_of 516 (by decide +kernel) (by decide +kernel)), Or.inl rfl, tyX11_ok, nmX11, rfl, by decide, by decide +kernel⟩
theorem fpX11_79_10 : FP RX11 79 10 9 .int false := ⟨_, TX11, 10, "ToolCourt", tyX11, rfl, by decide, Or.inl (tblG_of 523 (by decide +kernel) (by decide +kernel)), Or.inl rfl, tyX11_ok, nmX11, rfl, by decide, by decide +kernel⟩
noncomputable def mX11_init (a0 : Nat) : MM Unit := onC 10 a0 (
  mbnd (nw 9 2 [.null, .int 0]) fun (v1 : Nat) =>
  mbnd (nox (mX9_init v1)) fun _ =>
  mbnd (pR 10 0 a0 v1) fun _ =>
  mbnd (nw 2 4 [.null, .null, .null, .null]) fun (v2 : Nat) =>
  mbnd (nox (mX2_init v2)) fun _ =>
  mbnd (pR 10 3 a0 v2) fun _ =>
  mbnd (nw 3 5 [.null, .null, .null, .int 0, .int 0]) fun (v3 : Nat) =>
  mbnd (nox (mX3_init v3)) fun _ =>
  mbnd (pR 10 4 a0 v3) fun _ =>
  mbnd (nw 0 6 [.null, .null, .null, .null, .int 0, .int 0]) fun (v4 : Nat) =>
  mbnd (nox (mX0_init v4)) fun _ =>
  mbnd (pR 10 5 a0 v4) fun _ =>
  mbnd (nw 6 4 [.null, .int 0, .int 0, .null]) fun (v5 : Nat) =>
  mbnd (nox (mX6_init v5)) fun _ =>
  mbnd (pR 10 6 a0 v5) fun _ =>
  mbnd (nw 4 3 [.int 0, .null, .null]) fun (v6 : Nat) =>
  mbnd (nwI 0 0) fun (v7 : Nat) =>
  mbnd (nox (mX4_init v6 (-1) v7)) fun _ =>
  mbnd (nw 1 13 [.null, .null, .null, .null, .null, .null, .null, .int 0, .int 0, .int 0, .int 0, .int 0, .int 0]) fun (v8 : Nat) =>
  mbnd (nox (mX1_init v8 v6)) fun _ =>
  mbnd (pR 10 7 a0 v8) fun _ =>
  mbnd (nw 1 13 [.null, .null, .null, .null, .null, .null, .null, .int 0, .int 0, .int 0, .int 0, .int 0, .int 0]) fun (v9 : Nat) =>
  mbnd (nox (mX1_init v9 v6)) fun _ =>
  mbnd (pR 10 8 a0 v9) fun _ =>
  mbnd (nw 7 14 [.null, .null, .null, .null, .null, .int 0, .int 0, .int 0, .int 0, .int 0, .int 0, .int 0, .null, .null]) fun (v10 : Nat) =>
  mbnd (gR 10 0 a0) fun (v11 : Nat) =>
  mbnd (gR 10 7 a0) fun (v12 : Nat) =>
  mbnd (gR 10 8 a0) fun (v13 : Nat) =>
  mbnd (nox (mX7_init v10 v11 v12 v13)) fun _ =>
  mbnd (pR 10 1 a0 v10) fun _ =>
  mbnd (nw 5 18 [.null, .null, .null, .null, .null, .int 0, .int 0, .int 0, .int 0, .int 0, .int 0, .int 0, .null, .null, .int 0, .int 0, .int 0, .int 0]) fun (v14 : Nat) =>
  mbnd (gR 10 0 a0) fun (v15 : Nat) =>
  mbnd (nox (mX5_init v14 v15)) fun _ =>
  mbnd (pR 10 2 a0 v14) fun _ =>
  mbnd (pI 10 9 a0 (-1)) fun _ =>
  mret ()
  )
theorem rcX11_init (a0 : Nat) : Rcv 10 a0 (mX11_init a0) := fun s r h => ⟨(onC_some h).1, (onC_some h).2.1⟩
set_option maxHeartbeats 4000000 in
set_option maxRecDepth 100000 in
theorem ctX11_init (a0 : Nat) : Ct aX11_init [vr a0] (mX11_init a0) rU := by
  unfold mX11_init
  refine ct_onC (ct_intro (by decide +kernel) rfl (Nat.le_of_ble_eq_true rfl) fun Y s => ?_)
  refine r_sub (lv' := [(0, vr a0)]) [0] rfl ?_
  refine r_p (pc' := 1) (p_aload_n 0 (k := 0) (by decide +kernel) rfl) ?_
  refine r_p (pc' := 4) (p_obj (idx := 1) (tblG_of 178 (by decide +kernel) (by decide +kernel)) (Nat.le_of_ble_eq_true rfl) (Nat.le_of_ble_eq_true rfl) (by decide +kernel)) ?_
  refine r_p (pc' := 5) (p_aload_n 0 (k := 0) (by decide +kernel) rfl) ?_
  refine r_nw nwX11_7 (by decide +kernel) fun v1 s => ?_
  refine r_p (pc' := 9) (p_dup rfl (by decide +kernel)) ?_
  refine r_callINU miX11_9 (ctX9_init v1) (as := []) (st := [vr v1, vr a0]) rfl rfl (by decide +kernel) rfl (Nat.le_of_ble_eq_true rfl) (Nat.le_of_ble_eq_true rfl) fun s => ?_
  refine r_pR fpX11_10_10 (fun _ => rfl) (Or.inl ⟨_, rfl⟩) (by decide +kernel) fun s => ?_
  refine r_p (pc' := 16) (p_aload_n 0 (k := 0) (by decide +kernel) rfl) ?_
  refine r_nw nwX11_16 (by decide +kernel) fun v2 s => ?_
  refine r_p (pc' := 20) (p_dup rfl (by decide +kernel)) ?_
  refine r_callINU miX11_18 (ctX2_init v2) (as := []) (st := [vr v2, vr a0]) rfl rfl (by decide +kernel) rfl (Nat.le_of_ble_eq_true rfl) (Nat.le_of_ble_eq_true rfl) fun s => ?_
  refine r_pR fpX11_19_10 (fun _ => rfl) (Or.inl ⟨_, rfl⟩) (by decide +kernel) fun s => ?_
  refine r_p (pc' := 27) (p_aload_n 0 (k := 0) (by decide +kernel) rfl) ?_
  refine r_nw nwX11_23 (by decide +kernel) fun v3 s => ?_
  refine r_p (pc' := 31) (p_dup rfl (by decide +kernel)) ?_
  refine r_callINU miX11_25 (ctX3_init v3) (as := []) (st := [vr v3, vr a0]) rfl rfl (by decide +kernel) rfl (Nat.le_of_ble_eq_true rfl) (Nat.le_of_ble_eq_true rfl) fun s => ?_
  refine r_pR fpX11_26_10 (fun _ => rfl) (Or.inl ⟨_, rfl⟩) (by decide +kernel) fun s => ?_
  refine r_p (pc' := 38) (p_aload_n 0 (k := 0) (by decide +kernel) rfl) ?_
  refine r_nw nwX11_30 (by decide +kernel) fun v4 s => ?_
  refine r_p (pc' := 42) (p_dup rfl (by decide +kernel)) ?_
  refine r_callINU miX11_32 (ctX0_init v4) (as := []) (st := [vr v4, vr a0]) rfl rfl (by decide +kernel) rfl (Nat.le_of_ble_eq_true rfl) (Nat.le_of_ble_eq_true rfl) fun s => ?_
  refine r_pR fpX11_33_10 (fun _ => rfl) (Or.inl ⟨_, rfl⟩) (by decide +kernel) fun s => ?_
  refine r_p (pc' := 49) (p_aload_n 0 (k := 0) (by decide +kernel) rfl) ?_
  refine r_nw nwX11_37 (by decide +kernel) fun v5 s => ?_
  refine r_p (pc' := 53) (p_dup rfl (by decide +kernel)) ?_
  refine r_callINU miX11_39 (ctX6_init v5) (as := []) (st := [vr v5, vr a0]) rfl rfl (by decide +kernel) rfl (Nat.le_of_ble_eq_true rfl) (Nat.le_of_ble_eq_true rfl) fun s => ?_
  refine r_pR fpX11_40_10 (fun _ => rfl) (Or.inl ⟨_, rfl⟩) (by decide +kernel) fun s => ?_
  refine r_nw nwX11_44 (by decide +kernel) fun v6 s => ?_
  refine r_p (pc' := 63) (p_dup rfl (by decide +kernel)) ?_
  refine r_p (pc' := 64) (p_iconst (n := -1) (v := -1) (by decide +kernel) rfl) ?_
  refine r_p (pc' := 65) (p_iconst (n := 0) (v := 0) (by decide +kernel) rfl) ?_
  refine r_nwI (at9 := .int) (ty := .int) rfl (by decide) (by decide +kernel) fun v7 s => ?_
  refine r_callIU miX11_46 (ctX4_init v6 (-1) v7) (as := [vi (-1), vr v7]) (st := [vr v6]) rfl rfl (by decide +kernel) rfl (Nat.le_of_ble_eq_true rfl) (Nat.le_of_ble_eq_true rfl) fun s => ?_
  refine r_p (pc' := 71) (p_astore_n (k := 1) (lv' := [(1, vr v6), (0, vr a0)]) (by decide +kernel) (Nat.le_of_ble_eq_true rfl) rfl) ?_
  refine r_p (pc' := 72) (p_aload_n 1 (k := 0) (by decide +kernel) rfl) ?_
  refine r_nw nwX11_49 (by decide +kernel) fun v8 s => ?_
  refine r_p (pc' := 76) (p_dup rfl (by decide +kernel)) ?_
  refine r_p (pc' := 77) (p_aload_n 0 (k := 1) (by decide +kernel) rfl) ?_
  refine r_callIU miX11_51 (ctX1_init v8 v6) (as := [vr v6]) (st := [vr v8, vr a0]) rfl rfl (by decide +kernel) rfl (Nat.le_of_ble_eq_true rfl) (Nat.le_of_ble_eq_true rfl) fun s => ?_
  refine r_pR fpX11_54_10 (fun _ => rfl) (Or.inl ⟨_, rfl⟩) (by decide +kernel) fun s => ?_
  refine r_p (pc' := 84) (p_aload_n 1 (k := 0) (by decide +kernel) rfl) ?_
  refine r_nw nwX11_49 (by decide +kernel) fun v9 s => ?_
  refine r_p (pc' := 88) (p_dup rfl (by decide +kernel)) ?_
  refine r_p (pc' := 89) (p_aload_n 0 (k := 1) (by decide +kernel) rfl) ?_
  refine r_callIU miX11_51 (ctX1_init v9 v6) (as := [vr v6]) (st := [vr v9, vr a0]) rfl rfl (by decide +kernel) rfl (Nat.le_of_ble_eq_true rfl) (Nat.le_of_ble_eq_true rfl) fun s => ?_
  refine r_pR fpX11_58_10 (fun _ => rfl) (Or.inl ⟨_, rfl⟩) (by decide +kernel) fun s => ?_
  refine r_p (pc' := 96) (p_aload_n 1 (k := 0) (by decide +kernel) rfl) ?_
  refine r_nw nwX11_61 (by decide +kernel) fun v10 s => ?_
  refine r_p (pc' := 100) (p_dup rfl (by decide +kernel)) ?_
  refine r_p (pc' := 101) (p_aload_n 1 (k := 0) (by decide +kernel) rfl) ?_
  refine r_gR flX11_10_10 (by decide +kernel) fun v11 => ?_
  refine r_p (pc' := 105) (p_aload_n 1 (k := 0) (by decide +kernel) rfl) ?_
  refine r_gR flX11_54_10 (by decide +kernel) fun v12 => ?_
  refine r_p (pc' := 109) (p_aload_n 1 (k := 0) (by decide +kernel) rfl) ?_
  refine r_gR flX11_58_10 (by decide +kernel) fun v13 => ?_
  refine r_callIU miX11_63 (ctX7_init v10 v11 v12 v13) (as := [vr v11, vr v12, vr v13]) (st := [vr v10, vr a0]) rfl rfl (by decide +kernel) rfl (Nat.le_of_ble_eq_true rfl) (Nat.le_of_ble_eq_true rfl) fun s => ?_
  refine r_pR fpX11_66_10 (fun _ => rfl) (Or.inl ⟨_, rfl⟩) (by decide +kernel) fun s => ?_
  refine r_p (pc' := 119) (p_aload_n 1 (k := 0) (by decide +kernel) rfl) ?_
  refine r_nw nwX11_70 (by decide +kernel) fun v14 s => ?_
  refine r_p (pc' := 123) (p_dup rfl (by decide +kernel)) ?_
  refine r_p (pc' := 124) (p_aload_n 1 (k := 0) (by decide +kernel) rfl) ?_
  refine r_gR flX11_10_10 (by decide +kernel) fun v15 => ?_
  refine r_callIU miX11_72 (ctX5_init v14 v15) (as := [vr v15]) (st := [vr v14, vr a0]) rfl rfl (by decide +kernel) rfl (Nat.le_of_ble_eq_true rfl) (Nat.le_of_ble_eq_true rfl) fun s => ?_
  refine r_pR fpX11_75_10 (fun _ => rfl) (Or.inl ⟨_, rfl⟩) (by decide +kernel) fun s => ?_
  refine r_p (pc' := 134) (p_aload_n 1 (k := 0) (by decide +kernel) rfl) ?_
  refine r_p (pc' := 135) (p_iconst (n := -1) (v := -1) (by decide +kernel) rfl) ?_
  refine r_pI fpX11_79_10 (fun h => by cases h) (by decide +kernel) fun s => ?_
  exact r_vret (y9 := ()) rfl rfl rfl (by decide +kernel)
def aX11_feed : StA := (RX11, cX11_feed, 6, some .int, yX11_feed, 9, [])
theorem mvX11_83 : MV RX11 83 aX9_hasRoom 1 := ⟨tblG_of 549 (by decide +kernel) (by decide +kernel), tblG_of 550 (by decide +kernel) (by decide +kernel), tblG_of 551 (by decide +kernel) (by decide +kernel), tblG_of 145 (by decide +kernel) (by decide +kernel), tblG_of 552 (by decide +kernel) (by decide +kernel), rfl, ⟨by decide, by decide⟩, by decide +kernel, by decide⟩
theorem mvX11_87 : MV RX11 87 aX9_append 1 := ⟨tblG_of 553 (by decide +kernel) (by decide +kernel), tblG_of 554 (by decide +kernel) (by decide +kernel), tblG_of 555 (by decide +kernel) (by decide +kernel), tblG_of 145 (by decide +kernel) (by decide +kernel), tblG_of 556 (by decide +kernel) (by decide +kernel), rfl, ⟨by decide, by decide⟩, by decide +kernel, by decide⟩
theorem flX11_91_9 : FL RX11 91 9 1 := ⟨_, TX9, 2, "ToolCourt$Tape", rfl, by decide, Or.inr ⟨"ToolCourt", List.mem_of_getElem? (i := 189) (by decide +kernel)⟩, Or.inl rfl⟩
noncomputable def mX11_feed (a0 : Nat) (a1 : Int32) (a2 : Int32) (a3 : Int32) (a4 : Int32) (a5 : Int32) : MM Int32 := onC 10 a0 (
  mbnd (gR 10 0 a0) fun (v1 : Nat) =>
  mbnd (mX9_hasRoom v1 20) fun (v2 : Int32) =>
  if v2 = 0 then (
    mret (-1)
  ) else (
    mbnd (gR 10 0 a0) fun (v4 : Nat) =>
    mbnd (mX9_append v4 a1) fun _ =>
    mbnd (gR 10 0 a0) fun (v5 : Nat) =>
    mbnd (mX9_append v5 a2) fun _ =>
    mbnd (gR 10 0 a0) fun (v6 : Nat) =>
    mbnd (mX9_append v6 a3) fun _ =>
    mbnd (gR 10 0 a0) fun (v7 : Nat) =>
    mbnd (mX9_append v7 a4) fun _ =>
    mbnd (gR 10 0 a0) fun (v8 : Nat) =>
    mbnd (mX9_append v8 a5) fun _ =>
    mbnd (gR 10 0 a0) fun (v9 : Nat) =>
    mbnd (gI 9 1 v9) fun (v10 : Int32) =>
    mret v10
  )
  )
theorem rcX11_feed (a0 : Nat) (a1 : Int32) (a2 : Int32) (a3 : Int32) (a4 : Int32) (a5 : Int32) : Rcv 10 a0 (mX11_feed a0 a1 a2 a3 a4 a5) := fun s r h => ⟨(onC_some h).1, (onC_some h).2.1⟩
set_option maxHeartbeats 4000000 in
set_option maxRecDepth 100000 in
theorem ctX11_feed (a0 : Nat) (a1 : Int32) (a2 : Int32) (a3 : Int32) (a4 : Int32) (a5 : Int32) : Ct aX11_feed [vr a0, vi a1, vi a2, vi a3, vi a4, vi a5] (mX11_feed a0 a1 a2 a3 a4 a5) rI := by
  unfold mX11_feed
  refine ct_onC (ct_intro (by decide +kernel) rfl (Nat.le_of_ble_eq_true rfl) fun Y s => ?_)
  refine r_sub (lv' := [(0, vr a0), (1, vi a1), (2, vi a2), (3, vi a3), (4, vi a4), (5, vi a5)]) [0, 1, 2, 3, 4, 5] rfl ?_
  refine r_p (pc' := 1) (p_aload_n 0 (k := 0) (by decide +kernel) rfl) ?_
  refine r_gR flX11_10_10 (by decide +kernel) fun v1 => ?_
  refine r_p (pc' := 6) (p_bipush (n := 20) (v := 20) (by decide +kernel) (by decide +kernel)) ?_
  refine r_callVI mvX11_83 (ctX9_hasRoom v1 20) (rcX9_hasRoom v1 20) ⟨_, _, rfl⟩ (as := [vi 20]) (st := []) rfl rfl (by decide +kernel) rfl (Nat.le_of_ble_eq_true rfl) (Nat.le_of_ble_eq_true rfl) fun v2 s => ?_
  refine r_ifne (off := 5) (tgt := 14) (by decide +kernel) (by decide) (fun h3 => ?_) (fun h3 => ?_)
  · refine r_p (pc' := 13) (p_iconst (n := -1) (v := -1) (by decide +kernel) rfl) ?_
    exact r_iret rfl rfl _ rfl rfl (by decide +kernel)
  · refine r_p (pc' := 15) (p_aload_n 0 (k := 0) (by decide +kernel) rfl) ?_
    refine r_gR flX11_10_10 (by decide +kernel) fun v4 => ?_
    refine r_p (pc' := 19) (p_iload_n 1 (k := 1) (by decide +kernel) rfl) ?_
    refine r_callVU mvX11_87 (ctX9_append v4 a1) (rcX9_append v4 a1) ⟨_, _, rfl⟩ (as := [vi a1]) (st := []) rfl rfl (by decide +kernel) rfl (Nat.le_of_ble_eq_true rfl) (Nat.le_of_ble_eq_true rfl) fun s => ?_
    refine r_p (pc' := 23) (p_aload_n 0 (k := 0) (by decide +kernel) rfl) ?_
    refine r_gR flX11_10_10 (by decide +kernel) fun v5 => ?_
    refine r_p (pc' := 27) (p_iload_n 2 (k := 2) (by decide +kernel) rfl) ?_
    refine r_callVU mvX11_87 (ctX9_append v5 a2) (rcX9_append v5 a2) ⟨_, _, rfl⟩ (as := [vi a2]) (st := []) rfl rfl (by decide +kernel) rfl (Nat.le_of_ble_eq_true rfl) (Nat.le_of_ble_eq_true rfl) fun s => ?_
    refine r_p (pc' := 31) (p_aload_n 0 (k := 0) (by decide +kernel) rfl) ?_
    refine r_gR flX11_10_10 (by decide +kernel) fun v6 => ?_
    refine r_p (pc' := 35) (p_iload_n 3 (k := 3) (by decide +kernel) rfl) ?_
    refine r_callVU mvX11_87 (ctX9_append v6 a3) (rcX9_append v6 a3) ⟨_, _, rfl⟩ (as := [vi a3]) (st := []) rfl rfl (by decide +kernel) rfl (Nat.le_of_ble_eq_true rfl) (Nat.le_of_ble_eq_true rfl) fun s => ?_
    refine r_p (pc' := 39) (p_aload_n 0 (k := 0) (by decide +kernel) rfl) ?_
    refine r_gR flX11_10_10 (by decide +kernel) fun v7 => ?_
    refine r_p (pc' := 44) (p_iload 4 (i := 4) (by decide +kernel) rfl) ?_
    refine r_callVU mvX11_87 (ctX9_append v7 a4) (rcX9_append v7 a4) ⟨_, _, rfl⟩ (as := [vi a4]) (st := []) rfl rfl (by decide +kernel) rfl (Nat.le_of_ble_eq_true rfl) (Nat.le_of_ble_eq_true rfl) fun s => ?_
    refine r_p (pc' := 48) (p_aload_n 0 (k := 0) (by decide +kernel) rfl) ?_
    refine r_gR flX11_10_10 (by decide +kernel) fun v8 => ?_
    refine r_p (pc' := 53) (p_iload 5 (i := 5) (by decide +kernel) rfl) ?_
    refine r_callVU mvX11_87 (ctX9_append v8 a5) (rcX9_append v8 a5) ⟨_, _, rfl⟩ (as := [vi a5]) (st := []) rfl rfl (by decide +kernel) rfl (Nat.le_of_ble_eq_true rfl) (Nat.le_of_ble_eq_true rfl) fun s => ?_
    refine r_p (pc' := 57) (p_aload_n 0 (k := 0) (by decide +kernel) rfl) ?_
    refine r_gR flX11_10_10 (by decide +kernel) fun v9 => ?_
    refine r_gI flX11_91_9 (by decide +kernel) fun v10 => ?_
    exact r_iret rfl rfl _ rfl rfl (by decide +kernel)
def aX11_end : StA := (RX11, cX11_end, 2, some .boolean, yX11_end, 9, [])
theorem mvX11_94 : MV RX11 94 aX9_cut 1 := ⟨tblG_of 561 (by decide +kernel) (by decide +kernel), tblG_of 562 (by decide +kernel) (by decide +kernel), tblG_of 563 (by decide +kernel) (by decide +kernel), tblG_of 145 (by decide +kernel) (by decide +kernel), tblG_of 564 (by decide +kernel) (by decide +kernel), rfl, ⟨by decide, by decide⟩, by decide +kernel, by decide⟩
noncomputable def mX11_end (a0 : Nat) (a1 : Int32) : MM Int32 := onC 10 a0 (
  mbnd (gR 10 0 a0) fun (v1 : Nat) =>
  mbnd (mX9_cut v1 a1) fun (v2 : Int32) =>
  mbool v2
  )
theorem rcX11_end (a0 : Nat) (a1 : Int32) : Rcv 10 a0 (mX11_end a0 a1) := fun s r h => ⟨(onC_some h).1, (onC_some h).2.1⟩
set_option maxHeartbeats 4000000 in
set_option maxRecDepth 100000 in
theorem ctX11_end (a0 : Nat) (a1 : Int32) : Ct aX11_end [vr a0, vi a1] (mX11_end a0 a1) rI := by
  unfold mX11_end
  refine ct_onC (ct_intro (by decide +kernel) rfl (Nat.le_of_ble_eq_true rfl) fun Y s => ?_)
  refine r_sub (lv' := [(0, vr a0), (1, vi a1)]) [0, 1] rfl ?_
  refine r_p (pc' := 1) (p_aload_n 0 (k := 0) (by decide +kernel) rfl) ?_
  refine r_gR flX11_10_10 (by decide +kernel) fun v1 => ?_
  refine r_p (pc' := 5) (p_iload_n 1 (k := 1) (by decide +kernel) rfl) ?_
  refine r_callVI mvX11_94 (ctX9_cut v1 a1) (rcX9_cut v1 a1) ⟨_, _, rfl⟩ (as := [vi a1]) (st := []) rfl rfl (by decide +kernel) rfl (Nat.le_of_ble_eq_true rfl) (Nat.le_of_ble_eq_true rfl) fun v2 s => ?_
  exact r_bret (y9 := fun v => v) (fun _ => rfl) (fun _ => rfl) rfl (by decide +kernel)
def aX11_shop : StA := (RX11, cX11_shop, 2, some .int, yX11_shop, 14, [])
theorem flX11_66_10 : FL RX11 66 10 1 := ⟨_, TX11, 10, "ToolCourt", rfl, by decide, Or.inl (tblG_of 515 (by decide +kernel) (by decide +kernel)), Or.inl rfl⟩
theorem muX11_97s : MU RX11 97 "ToolCourt$ShopReader" "ToolCourt$TextReader" ⟨"ToolCourt$ShopReader", "readLines", "(I)Z"⟩ aX10_readLiness 1 := ⟨tblG_of 804 (by decide +kernel) (by decide +kernel), tblG_of 808 (by decide +kernel) (by decide +kernel), tblG_of 807 (by decide +kernel) (by decide +kernel), tblG_of 805 (by decide +kernel) (by decide +kernel), tblG_of 154 (by decide +kernel) (by decide +kernel), tblG_of 809 (by decide +kernel) (by decide +kernel), rfl, ⟨by decide, by decide⟩, by decide +kernel, by decide, Or.inl rfl⟩
theorem flX11_100_7 : FL RX11 100 7 11 := ⟨_, TX7, 14, "ToolCourt$ShopReader", rfl, by decide, Or.inl (tblG_of 444 (by decide +kernel) (by decide +kernel)), Or.inr (tblG_of 445 (by decide +kernel) (by decide +kernel))⟩
theorem thX11_103_105 : TH RX11 101 103 105 0 "the text is wrong" 1 := ⟨by decide +kernel, tblG_of 1052 (by decide +kernel) (by decide +kernel), tblG_of 166 (by decide +kernel) (by decide +kernel), by decide +kernel, by decide +kernel, by decide +kernel⟩
theorem flX11_108_1 : FL RX11 108 1 7 := ⟨_, TX1, 13, "ToolCourt$Court", rfl, by decide, Or.inr ⟨"ToolCourt", List.mem_of_getElem? (i := 365) (by decide +kernel)⟩, Or.inl rfl⟩
theorem fpX11_108_1 : FP RX11 108 1 7 .int false := ⟨_, TX1, 13, "ToolCourt$Court", tyX1, rfl, by decide, Or.inr ⟨rfl, "ToolCourt", List.mem_of_getElem? (i := 365) (by decide +kernel)⟩, Or.inl rfl, tyX1_ok, nmX1, rfl, by decide, by decide +kernel⟩
theorem mvX11_116 : MV RX11 116 aX1_copyFrom 1 := ⟨tblG_of 1138 (by decide +kernel) (by decide +kernel), tblG_of 749 (by decide +kernel) (by decide +kernel), tblG_of 750 (by decide +kernel) (by decide +kernel), tblG_of 151 (by decide +kernel) (by decide +kernel), tblG_of 751 (by decide +kernel) (by decide +kernel), rfl, ⟨by decide, by decide⟩, by decide +kernel, by decide⟩
theorem flX11_40_10 : FL RX11 40 10 6 := ⟨_, TX11, 10, "ToolCourt", rfl, by decide, Or.inl (tblG_of 520 (by decide +kernel) (by decide +kernel)), Or.inl rfl⟩
theorem mvX11_120 : MV RX11 120 aX6_forgetActs 0 := ⟨tblG_of 1139 (by decide +kernel) (by decide +kernel), tblG_of 779 (by decide +kernel) (by decide +kernel), tblG_of 780 (by decide +kernel) (by decide +kernel), tblG_of 149 (by decide +kernel) (by decide +kernel), tblG_of 781 (by decide +kernel) (by decide +kernel), rfl, ⟨by decide, by decide⟩, by decide +kernel, by decide⟩
theorem thX11_113_115 : TH RX11 111 113 115 1 "there are 12 texts" 2 := ⟨by decide +kernel, tblG_of 1122 (by decide +kernel) (by decide +kernel), tblG_of 167 (by decide +kernel) (by decide +kernel), by decide +kernel, by decide +kernel, by decide +kernel⟩
noncomputable def mX11_shop (a0 : Nat) : MM Int32 := onC 10 a0 (
  mbnd (gR 10 1 a0) fun (v1 : Nat) =>
  mbnd (nox (mX10_readLiness v1 14)) fun (v2 : Int32) =>
  mbnd (gR 10 1 a0) fun (v3 : Nat) =>
  mbnd (gI 7 11 v3) fun (v4 : Int32) =>
  mbnd (pI 10 9 a0 v4) fun _ =>
  mbnd (gR 10 0 a0) fun (v5 : Nat) =>
  mbnd (mX9_cut v5 0) fun (v6 : Int32) =>
  if v2 = 0 then (
    mthr 0
  ) else (
    mbnd (gR 10 7 a0) fun (v8 : Nat) =>
    mbnd (gI 1 7 v8) fun (v9 : Int32) =>
    if v9 < 12 then (
      mbnd (gR 10 8 a0) fun (v11 : Nat) =>
      mbnd (gI 1 7 v11) fun (v12 : Int32) =>
      mbnd (pI 1 7 v11 (v12 + 1)) fun _ =>
      mbnd (gR 10 7 a0) fun (v13 : Nat) =>
      mbnd (gR 10 8 a0) fun (v14 : Nat) =>
      mbnd (mX1_copyFrom v13 v14) fun _ =>
      mbnd (gR 10 6 a0) fun (v15 : Nat) =>
      mbnd (mX6_forgetActs v15) fun _ =>
      mbnd (gR 10 7 a0) fun (v16 : Nat) =>
      mbnd (gI 1 7 v16) fun (v17 : Int32) =>
      mret v17
    ) else (
      mthr 1
    )
  )
  )
theorem rcX11_shop (a0 : Nat) : Rcv 10 a0 (mX11_shop a0) := fun s r h => ⟨(onC_some h).1, (onC_some h).2.1⟩
set_option maxHeartbeats 4000000 in
set_option maxRecDepth 100000 in
theorem ctX11_shop (a0 : Nat) : Ct aX11_shop [vr a0] (mX11_shop a0) rI := by
  unfold mX11_shop
  refine ct_onC (ct_intro (by decide +kernel) rfl (Nat.le_of_ble_eq_true rfl) fun Y s => ?_)
  refine r_sub (lv' := [(0, vr a0)]) [0] rfl ?_
  refine r_p (pc' := 1) (p_aload_n 0 (k := 0) (by decide +kernel) rfl) ?_
  refine r_gR flX11_66_10 (by decide +kernel) fun v1 => ?_
  refine r_p (pc' := 6) (p_bipush (n := 14) (v := 14) (by decide +kernel) (by decide +kernel)) ?_
  refine r_callUI muX11_97s (ctX10_readLiness v1 14) (rcX10_readLiness v1 14) ⟨_, _, rfl⟩ (as := [vi 14]) (st := []) rfl rfl (by decide +kernel) rfl (Nat.le_of_ble_eq_true rfl) (Nat.le_of_ble_eq_true rfl) fun v2 s => ?_
  refine r_p (pc' := 10) (p_istore_n (k := 1) (lv' := [(1, vi v2), (0, vr a0)]) (by decide +kernel) (Nat.le_of_ble_eq_true rfl) rfl) ?_
  refine r_p (pc' := 11) (p_aload_n 1 (k := 0) (by decide +kernel) rfl) ?_
  refine r_p (pc' := 12) (p_aload_n 1 (k := 0) (by decide +kernel) rfl) ?_
  refine r_gR flX11_66_10 (by decide +kernel) fun v3 => ?_
  refine r_gI flX11_100_7 (by decide +kernel) fun v4 => ?_
  refine r_pI fpX11_79_10 (fun h => by cases h) (by decide +kernel) fun s => ?_
  refine r_p (pc' := 22) (p_aload_n 1 (k := 0) (by decide +kernel) rfl) ?_
  refine r_gR flX11_10_10 (by decide +kernel) fun v5 => ?_
  refine r_p (pc' := 26) (p_iconst (n := 0) (v := 0) (by decide +kernel) rfl) ?_
  refine r_callVI mvX11_94 (ctX9_cut v5 0) (rcX9_cut v5 0) ⟨_, _, rfl⟩ (as := [vi 0]) (st := []) rfl rfl (by decide +kernel) rfl (Nat.le_of_ble_eq_true rfl) (Nat.le_of_ble_eq_true rfl) fun v6 s => ?_
  refine r_p (pc' := 30) (p_pop rfl (by decide +kernel)) ?_
  refine r_p (pc' := 31) (p_iload_n 0 (k := 1) (by decide +kernel) rfl) ?_
  refine r_ifne (off := 13) (tgt := 44) (by decide +kernel) (by decide) (fun h7 => ?_) (fun h7 => ?_)
  · exact r_thr thX11_103_105 rfl (Nat.le_of_ble_eq_true rfl) (Nat.le_of_ble_eq_true rfl) (by decide +kernel) (by decide +kernel) (by decide +kernel) (by decide +kernel) (by decide +kernel)
  · refine r_p (pc' := 45) (p_aload_n 1 (k := 0) (by decide +kernel) rfl) ?_
    refine r_gR flX11_54_10 (by decide +kernel) fun v8 => ?_
    refine r_gI flX11_108_1 (by decide +kernel) fun v9 => ?_
    refine r_p (pc' := 53) (p_bipush (n := 12) (v := 12) (by decide +kernel) (by decide +kernel)) ?_
    refine r_icmplt (off := 13) (tgt := 66) (by decide +kernel) (by decide) (fun h10 => ?_) (fun h10 => ?_)
    · refine r_p (pc' := 67) (p_aload_n 1 (k := 0) (by decide +kernel) rfl) ?_
      refine r_gR flX11_58_10 (by decide +kernel) fun v11 => ?_
      refine r_p (pc' := 71) (p_dup rfl (by decide +kernel)) ?_
      refine r_gI flX11_108_1 (by decide +kernel) fun v12 => ?_
      refine r_p (pc' := 75) (p_iconst (n := 1) (v := 1) (by decide +kernel) rfl) ?_
      refine r_p (pc' := 76) (p_iadd (by decide +kernel)) ?_
      refine r_pI fpX11_108_1 (fun h => by cases h) (by decide +kernel) fun s => ?_
      refine r_p (pc' := 80) (p_aload_n 1 (k := 0) (by decide +kernel) rfl) ?_
      refine r_gR flX11_54_10 (by decide +kernel) fun v13 => ?_
      refine r_p (pc' := 84) (p_aload_n 1 (k := 0) (by decide +kernel) rfl) ?_
      refine r_gR flX11_58_10 (by decide +kernel) fun v14 => ?_
      refine r_callVU mvX11_116 (ctX1_copyFrom v13 v14) (rcX1_copyFrom v13 v14) ⟨_, _, rfl⟩ (as := [vr v14]) (st := []) rfl rfl (by decide +kernel) rfl (Nat.le_of_ble_eq_true rfl) (Nat.le_of_ble_eq_true rfl) fun s => ?_
      refine r_p (pc' := 91) (p_aload_n 1 (k := 0) (by decide +kernel) rfl) ?_
      refine r_gR flX11_40_10 (by decide +kernel) fun v15 => ?_
      refine r_callVU mvX11_120 (ctX6_forgetActs v15) (rcX6_forgetActs v15) ⟨_, _, rfl⟩ (as := []) (st := []) rfl rfl (by decide +kernel) rfl (Nat.le_of_ble_eq_true rfl) (Nat.le_of_ble_eq_true rfl) fun s => ?_
      refine r_p (pc' := 98) (p_aload_n 1 (k := 0) (by decide +kernel) rfl) ?_
      refine r_gR flX11_54_10 (by decide +kernel) fun v16 => ?_
      refine r_gI flX11_108_1 (by decide +kernel) fun v17 => ?_
      exact r_iret rfl rfl _ rfl rfl (by decide +kernel)
    · exact r_thr thX11_113_115 rfl (Nat.le_of_ble_eq_true rfl) (Nat.le_of_ble_eq_true rfl) (by decide +kernel) (by decide +kernel) (by decide +kernel) (by decide +kernel) (by decide +kernel)
def aX11_fault : StA := (RX11, cX11_fault, 1, some .int, yX11_fault, 8, [])
theorem flX11_79_10 : FL RX11 79 10 9 := ⟨_, TX11, 10, "ToolCourt", rfl, by decide, Or.inl (tblG_of 523 (by decide +kernel) (by decide +kernel)), Or.inl rfl⟩
noncomputable def mX11_fault (a0 : Nat) : MM Int32 := onC 10 a0 (
  mbnd (gI 10 9 a0) fun (v1 : Int32) =>
  mret v1
  )
theorem rcX11_fault (a0 : Nat) : Rcv 10 a0 (mX11_fault a0) := fun s r h => ⟨(onC_some h).1, (onC_some h).2.1⟩
set_option maxHeartbeats 4000000 in
set_option maxRecDepth 100000 in
theorem ctX11_fault (a0 : Nat) : Ct aX11_fault [vr a0] (mX11_fault a0) rI := by
  unfold mX11_fault
  refine ct_onC (ct_intro (by decide +kernel) rfl (Nat.le_of_ble_eq_true rfl) fun Y s => ?_)
  refine r_sub (lv' := [(0, vr a0)]) [0] rfl ?_
  refine r_p (pc' := 1) (p_aload_n 0 (k := 0) (by decide +kernel) rfl) ?_
  refine r_gI flX11_79_10 (by decide +kernel) fun v1 => ?_
  exact r_iret rfl rfl _ rfl rfl (by decide +kernel)
def aX11_needPart : StA := (RX11, cX11_needPart, 2, none, yX11_needPart, 9, [])
theorem flX11_147_1 : FL RX11 147 1 0 := ⟨_, TX1, 13, "ToolCourt$Court", rfl, by decide, Or.inr ⟨"ToolCourt", List.mem_of_getElem? (i := 343) (by decide +kernel)⟩, Or.inl rfl⟩
theorem mvX11_296 : MV RX11 296 aX8_has 1 := ⟨tblG_of 1182 (by decide +kernel) (by decide +kernel), tblG_of 590 (by decide +kernel) (by decide +kernel), tblG_of 591 (by decide +kernel) (by decide +kernel), tblG_of 152 (by decide +kernel) (by decide +kernel), tblG_of 592 (by decide +kernel) (by decide +kernel), rfl, ⟨by decide, by decide⟩, by decide +kernel, by decide⟩
theorem thX11_416_218 : TH RX11 214 416 218 2 "there is no such PART" 3 := ⟨by decide +kernel, tblG_of 1183 (by decide +kernel) (by decide +kernel), tblG_of 169 (by decide +kernel) (by decide +kernel), by decide +kernel, by decide +kernel, by decide +kernel⟩
noncomputable def mX11_needPart (a0 : Nat) (a1 : Int32) : MM Unit := onC 10 a0 (
  mbnd (gR 10 7 a0) fun (v1 : Nat) =>
  mbnd (gR 1 0 v1) fun (v2 : Nat) =>
  mbnd (mX8_has v2 a1) fun (v3 : Int32) =>
  if v3 = 0 then (
    mthr 2
  ) else (
    mret ()
  )
  )
theorem rcX11_needPart (a0 : Nat) (a1 : Int32) : Rcv 10 a0 (mX11_needPart a0 a1) := fun s r h => ⟨(onC_some h).1, (onC_some h).2.1⟩
set_option maxHeartbeats 4000000 in
set_option maxRecDepth 100000 in
theorem ctX11_needPart (a0 : Nat) (a1 : Int32) : Ct aX11_needPart [vr a0, vi a1] (mX11_needPart a0 a1) rU := by
  unfold mX11_needPart
  refine ct_onC (ct_intro (by decide +kernel) rfl (Nat.le_of_ble_eq_true rfl) fun Y s => ?_)
  refine r_sub (lv' := [(0, vr a0), (1, vi a1)]) [0, 1] rfl ?_
  refine r_p (pc' := 1) (p_aload_n 0 (k := 0) (by decide +kernel) rfl) ?_
  refine r_gR flX11_54_10 (by decide +kernel) fun v1 => ?_
  refine r_gR flX11_147_1 (by decide +kernel) fun v2 => ?_
  refine r_p (pc' := 8) (p_iload_n 1 (k := 1) (by decide +kernel) rfl) ?_
  refine r_callVI mvX11_296 (ctX8_has v2 a1) (rcX8_has v2 a1) ⟨_, _, rfl⟩ (as := [vi a1]) (st := []) rfl rfl (by decide +kernel) rfl (Nat.le_of_ble_eq_true rfl) (Nat.le_of_ble_eq_true rfl) fun v3 s => ?_
  refine r_ifne (off := 14) (tgt := 25) (by decide +kernel) (by decide) (fun h4 => ?_) (fun h4 => ?_)
  · exact r_thrw thX11_416_218 rfl (Nat.le_of_ble_eq_true rfl) (Nat.le_of_ble_eq_true rfl) (by decide +kernel) (by decide +kernel) (by decide +kernel) (by decide +kernel) (by decide +kernel)
  · exact r_vret (y9 := ()) rfl rfl rfl (by decide +kernel)
def aX11_shareOf : StA := (RX11, cX11_shareOf, 3, some .int, yX11_shareOf, 11, [])
theorem mvX11_259 : MV RX11 259 aX1_isSpare 1 := ⟨tblG_of 1203 (by decide +kernel) (by decide +kernel), tblG_of 670 (by decide +kernel) (by decide +kernel), tblG_of 671 (by decide +kernel) (by decide +kernel), tblG_of 151 (by decide +kernel) (by decide +kernel), tblG_of 672 (by decide +kernel) (by decide +kernel), rfl, ⟨by decide, by decide⟩, by decide +kernel, by decide⟩
theorem mvX11_151 : MV RX11 151 aX8_get 2 := ⟨tblG_of 727 (by decide +kernel) (by decide +kernel), tblG_of 582 (by decide +kernel) (by decide +kernel), tblG_of 583 (by decide +kernel) (by decide +kernel), tblG_of 152 (by decide +kernel) (by decide +kernel), tblG_of 584 (by decide +kernel) (by decide +kernel), rfl, ⟨by decide, by decide⟩, by decide +kernel, by decide⟩
theorem mvX11_163 : MV RX11 163 aX1_answered 1 := ⟨tblG_of 1204 (by decide +kernel) (by decide +kernel), tblG_of 578 (by decide +kernel) (by decide +kernel), tblG_of 579 (by decide +kernel) (by decide +kernel), tblG_of 151 (by decide +kernel) (by decide +kernel), tblG_of 580 (by decide +kernel) (by decide +kernel), rfl, ⟨by decide, by decide⟩, by decide +kernel, by decide⟩
theorem mvX11_354 : MV RX11 354 aX1_guiltOf 1 := ⟨tblG_of 1205 (by decide +kernel) (by decide +kernel), tblG_of 586 (by decide +kernel) (by decide +kernel), tblG_of 587 (by decide +kernel) (by decide +kernel), tblG_of 151 (by decide +kernel) (by decide +kernel), tblG_of 588 (by decide +kernel) (by decide +kernel), rfl, ⟨by decide, by decide⟩, by decide +kernel, by decide⟩
noncomputable def mX11_shareOf (a0 : Nat) (a1 : Int32) : MM Int32 := onC 10 a0 (
  mbnd (gR 10 7 a0) fun (v1 : Nat) =>
  mbnd (mX1_isSpare v1 a1) fun (v2 : Int32) =>
  if v2 = 0 then (
    mbnd (gR 10 7 a0) fun (v4 : Nat) =>
    mbnd (gR 10 7 a0) fun (v5 : Nat) =>
    mbnd (gR 1 0 v5) fun (v6 : Nat) =>
    mbnd (mX8_get v6 a1 6) fun (v7 : Int32) =>
    mbnd (mX1_answered v4 v7) fun (v8 : Int32) =>
    if 0 < v8 then (
      mbnd (gR 10 7 a0) fun (v10 : Nat) =>
      mbnd (mX1_guiltOf v10 a1) fun (v11 : Int32) =>
      mbnd (nzL (v8.toInt64)) fun _ =>
      mret ((((v11.toInt64) * 10000) / (v8.toInt64)).toInt32)
    ) else (
      mret 0
    )
  ) else (
    mret 0
  )
  )
theorem rcX11_shareOf (a0 : Nat) (a1 : Int32) : Rcv 10 a0 (mX11_shareOf a0 a1) := fun s r h => ⟨(onC_some h).1, (onC_some h).2.1⟩
set_option maxHeartbeats 4000000 in
set_option maxRecDepth 100000 in
theorem ctX11_shareOf (a0 : Nat) (a1 : Int32) : Ct aX11_shareOf [vr a0, vi a1] (mX11_shareOf a0 a1) rI := by
  unfold mX11_shareOf
  refine ct_onC (ct_intro (by decide +kernel) rfl (Nat.le_of_ble_eq_true rfl) fun Y s => ?_)
  refine r_sub (lv' := [(0, vr a0), (1, vi a1)]) [0, 1] rfl ?_
  refine r_p (pc' := 1) (p_aload_n 0 (k := 0) (by decide +kernel) rfl) ?_
  refine r_gR flX11_54_10 (by decide +kernel) fun v1 => ?_
  refine r_p (pc' := 5) (p_iload_n 1 (k := 1) (by decide +kernel) rfl) ?_
  refine r_callVI mvX11_259 (ctX1_isSpare v1 a1) (rcX1_isSpare v1 a1) ⟨_, _, rfl⟩ (as := [vi a1]) (st := []) rfl rfl (by decide +kernel) rfl (Nat.le_of_ble_eq_true rfl) (Nat.le_of_ble_eq_true rfl) fun v2 s => ?_
  refine r_ifeq (off := 5) (tgt := 13) (by decide +kernel) (by decide) (fun h3 => ?_) (fun h3 => ?_)
  · refine r_p (pc' := 14) (p_aload_n 0 (k := 0) (by decide +kernel) rfl) ?_
    refine r_gR flX11_54_10 (by decide +kernel) fun v4 => ?_
    refine r_p (pc' := 18) (p_aload_n 0 (k := 0) (by decide +kernel) rfl) ?_
    refine r_gR flX11_54_10 (by decide +kernel) fun v5 => ?_
    refine r_gR flX11_147_1 (by decide +kernel) fun v6 => ?_
    refine r_p (pc' := 25) (p_iload_n 1 (k := 1) (by decide +kernel) rfl) ?_
    refine r_p (pc' := 27) (p_bipush (n := 6) (v := 6) (by decide +kernel) (by decide +kernel)) ?_
    refine r_callVI mvX11_151 (ctX8_get v6 a1 6) (rcX8_get v6 a1 6) ⟨_, _, rfl⟩ (as := [vi a1, vi 6]) (st := [vr v4]) rfl rfl (by decide +kernel) rfl (Nat.le_of_ble_eq_true rfl) (Nat.le_of_ble_eq_true rfl) fun v7 s => ?_
    refine r_callVI mvX11_163 (ctX1_answered v4 v7) (rcX1_answered v4 v7) ⟨_, _, rfl⟩ (as := [vi v7]) (st := []) rfl rfl (by decide +kernel) rfl (Nat.le_of_ble_eq_true rfl) (Nat.le_of_ble_eq_true rfl) fun v8 s => ?_
    refine r_p (pc' := 34) (p_istore_n (k := 2) (lv' := [(2, vi v8), (0, vr a0), (1, vi a1)]) (by decide +kernel) (Nat.le_of_ble_eq_true rfl) rfl) ?_
    refine r_p (pc' := 35) (p_iload_n 0 (k := 2) (by decide +kernel) rfl) ?_
    refine r_ifgt (off := 7) (tgt := 42) (by decide +kernel) (by decide) (fun h9 => ?_) (fun h9 => ?_)
    · refine r_p (pc' := 43) (p_aload_n 1 (k := 0) (by decide +kernel) rfl) ?_
      refine r_gR flX11_54_10 (by decide +kernel) fun v10 => ?_
      refine r_p (pc' := 47) (p_iload_n 2 (k := 1) (by decide +kernel) rfl) ?_
      refine r_callVI mvX11_354 (ctX1_guiltOf v10 a1) (rcX1_guiltOf v10 a1) ⟨_, _, rfl⟩ (as := [vi a1]) (st := []) rfl rfl (by decide +kernel) rfl (Nat.le_of_ble_eq_true rfl) (Nat.le_of_ble_eq_true rfl) fun v11 s => ?_
      refine r_p (pc' := 51) (p_i2l (by decide +kernel)) ?_
      refine r_p (pc' := 54) (p_ldc2 (i := 442) (v := 10000) (by decide +kernel) (tblG_of 1206 (by decide +kernel) (by decide +kernel))) ?_
      refine r_p (pc' := 55) (p_lmul (by decide +kernel)) ?_
      refine r_p (pc' := 56) (p_iload_n 0 (k := 2) (by decide +kernel) rfl) ?_
      refine r_p (pc' := 57) (p_i2l (by decide +kernel)) ?_
      refine r_nzL (fun h12 => ?_)
      refine r_p (pc' := 58) (p_ldiv (by decide +kernel) h12) ?_
      refine r_p (pc' := 59) (p_l2i (by decide +kernel)) ?_
      exact r_iret rfl rfl _ rfl rfl (by decide +kernel)
    · refine r_p (pc' := 39) (p_iconst (n := 0) (v := 0) (by decide +kernel) rfl) ?_
      refine r_p (pc' := 59) (p_goto (off := 20) (tgt := 59) (by decide +kernel) (by decide)) ?_
      exact r_iret rfl rfl _ rfl rfl (by decide +kernel)
  · refine r_p (pc' := 12) (p_iconst (n := 0) (v := 0) (by decide +kernel) rfl) ?_
    exact r_iret rfl rfl _ rfl rfl (by decide +kernel)
def aX11_needWhat : StA := (RX11, cX11_needWhat, 2, none, yX11_needWhat, 8, [])
theorem thX11_436_173 : THN RX11 169 436 173 "there is no such thing to ask" 4 := ⟨tblG_of 1210 (by decide +kernel) (by decide +kernel), tblG_of 170 (by decide +kernel) (by decide +kernel), by decide +kernel, by decide +kernel, by decide +kernel⟩
noncomputable def mX11_needWhat (a0 : Int32) (a1 : Int32) : MM Unit :=
  if a0 < 0 then (
    mthr 3
  ) else (
    if a0 < a1 then (
      mret ()
    ) else (
      mthr 3
    )
  )
set_option maxHeartbeats 4000000 in
set_option maxRecDepth 100000 in
theorem ctX11_needWhat (a0 : Int32) (a1 : Int32) : Ct aX11_needWhat [vi a0, vi a1] (mX11_needWhat a0 a1) rU := by
  unfold mX11_needWhat
  refine ct_intro (by decide +kernel) rfl (Nat.le_of_ble_eq_true rfl) fun Y s => ?_
  refine r_sub (lv' := [(0, vi a0), (1, vi a1)]) [0, 1] rfl ?_
  refine r_p (pc' := 1) (p_iload_n 0 (k := 0) (by decide +kernel) rfl) ?_
  refine r_iflt (off := 8) (tgt := 9) (by decide +kernel) (by decide) (fun h1 => ?_) (fun h1 => ?_)
  · exact r_thrNw thX11_436_173 rfl (Nat.le_of_ble_eq_true rfl) (Nat.le_of_ble_eq_true rfl) (by decide +kernel) (by decide +kernel) (by decide +kernel) (by decide +kernel) (by decide +kernel)
  · refine r_p (pc' := 5) (p_iload_n 0 (k := 0) (by decide +kernel) rfl) ?_
    refine r_p (pc' := 6) (p_iload_n 1 (k := 1) (by decide +kernel) rfl) ?_
    refine r_icmplt (off := 14) (tgt := 20) (by decide +kernel) (by decide) (fun h2 => ?_) (fun h2 => ?_)
    · exact r_vret (y9 := ()) rfl rfl rfl (by decide +kernel)
    · exact r_thrNw thX11_436_173 rfl (Nat.le_of_ble_eq_true rfl) (Nat.le_of_ble_eq_true rfl) (by decide +kernel) (by decide +kernel) (by decide +kernel) (by decide +kernel) (by decide +kernel)
def aX11_part : StA := (RX11, cX11_part, 3, some .int, yX11_part, 12, [])
theorem mvX11_136 : MV RX11 136 aX11_needPart 1 := ⟨tblG_of 1178 (by decide +kernel) (by decide +kernel), tblG_of 1180 (by decide +kernel) (by decide +kernel), tblG_of 32 (by decide +kernel) (by decide +kernel), tblG_of 144 (by decide +kernel) (by decide +kernel), tblG_of 1181 (by decide +kernel) (by decide +kernel), rfl, ⟨by decide, by decide⟩, by decide +kernel, by decide⟩
theorem mvX11_139 : MV RX11 139 aX11_shareOf 1 := ⟨tblG_of 1199 (by decide +kernel) (by decide +kernel), tblG_of 1201 (by decide +kernel) (by decide +kernel), tblG_of 33 (by decide +kernel) (by decide +kernel), tblG_of 144 (by decide +kernel) (by decide +kernel), tblG_of 1202 (by decide +kernel) (by decide +kernel), rfl, ⟨by decide, by decide⟩, by decide +kernel, by decide⟩
theorem msX11_143 : MS RX11 143 aX11_needWhat 2 := ⟨tblG_of 1207 (by decide +kernel) (by decide +kernel), tblG_of 1208 (by decide +kernel) (by decide +kernel), tblG_of 144 (by decide +kernel) (by decide +kernel), tblG_of 1209 (by decide +kernel) (by decide +kernel), rfl, ⟨by decide, by decide⟩, by decide +kernel, by decide⟩
noncomputable def mX11_part (a0 : Nat) (a1 : Int32) (a2 : Int32) : MM Int32 := onC 10 a0 (
  mbnd (mX11_needPart a0 a1) fun _ =>
  if a2 = 8 then (
    mbnd (mX11_shareOf a0 a1) fun (v2 : Int32) =>
    mret v2
  ) else (
    mbnd (mX11_needWhat a2 8) fun _ =>
    mbnd (gR 10 7 a0) fun (v3 : Nat) =>
    mbnd (gR 1 0 v3) fun (v4 : Nat) =>
    mbnd (mX8_get v4 a1 a2) fun (v5 : Int32) =>
    mret v5
  )
  )
theorem rcX11_part (a0 : Nat) (a1 : Int32) (a2 : Int32) : Rcv 10 a0 (mX11_part a0 a1 a2) := fun s r h => ⟨(onC_some h).1, (onC_some h).2.1⟩
set_option maxHeartbeats 4000000 in
set_option maxRecDepth 100000 in
theorem ctX11_part (a0 : Nat) (a1 : Int32) (a2 : Int32) : Ct aX11_part [vr a0, vi a1, vi a2] (mX11_part a0 a1 a2) rI := by
  unfold mX11_part
  refine ct_onC (ct_intro (by decide +kernel) rfl (Nat.le_of_ble_eq_true rfl) fun Y s => ?_)
  refine r_sub (lv' := [(0, vr a0), (1, vi a1), (2, vi a2)]) [0, 1, 2] rfl ?_
  refine r_p (pc' := 1) (p_aload_n 0 (k := 0) (by decide +kernel) rfl) ?_
  refine r_p (pc' := 2) (p_iload_n 1 (k := 1) (by decide +kernel) rfl) ?_
  refine r_callVU mvX11_136 (ctX11_needPart a0 a1) (rcX11_needPart a0 a1) ⟨_, _, rfl⟩ (as := [vi a1]) (st := []) rfl rfl (by decide +kernel) rfl (Nat.le_of_ble_eq_true rfl) (Nat.le_of_ble_eq_true rfl) fun s => ?_
  refine r_p (pc' := 6) (p_iload_n 2 (k := 2) (by decide +kernel) rfl) ?_
  refine r_p (pc' := 8) (p_bipush (n := 8) (v := 8) (by decide +kernel) (by decide +kernel)) ?_
  refine r_icmpne (off := 9) (tgt := 17) (by decide +kernel) (by decide) (fun h1 => ?_) (fun h1 => ?_)
  · refine r_p (pc' := 12) (p_aload_n 0 (k := 0) (by decide +kernel) rfl) ?_
    refine r_p (pc' := 13) (p_iload_n 1 (k := 1) (by decide +kernel) rfl) ?_
    refine r_callVI mvX11_139 (ctX11_shareOf a0 a1) (rcX11_shareOf a0 a1) ⟨_, _, rfl⟩ (as := [vi a1]) (st := []) rfl rfl (by decide +kernel) rfl (Nat.le_of_ble_eq_true rfl) (Nat.le_of_ble_eq_true rfl) fun v2 s => ?_
    exact r_iret rfl rfl _ rfl rfl (by decide +kernel)
  · refine r_p (pc' := 18) (p_iload_n 2 (k := 2) (by decide +kernel) rfl) ?_
    refine r_p (pc' := 20) (p_bipush (n := 8) (v := 8) (by decide +kernel) (by decide +kernel)) ?_
    refine r_callSU msX11_143 (ctX11_needWhat a2 8) (as := [vi a2, vi 8]) (st := []) rfl rfl (by decide +kernel) rfl (Nat.le_of_ble_eq_true rfl) (Nat.le_of_ble_eq_true rfl) fun s => ?_
    refine r_p (pc' := 24) (p_aload_n 0 (k := 0) (by decide +kernel) rfl) ?_
    refine r_gR flX11_54_10 (by decide +kernel) fun v3 => ?_
    refine r_gR flX11_147_1 (by decide +kernel) fun v4 => ?_
    refine r_p (pc' := 31) (p_iload_n 1 (k := 1) (by decide +kernel) rfl) ?_
    refine r_p (pc' := 32) (p_iload_n 2 (k := 2) (by decide +kernel) rfl) ?_
    refine r_callVI mvX11_151 (ctX8_get v4 a1 a2) (rcX8_get v4 a1 a2) ⟨_, _, rfl⟩ (as := [vi a1, vi a2]) (st := []) rfl rfl (by decide +kernel) rfl (Nat.le_of_ble_eq_true rfl) (Nat.le_of_ble_eq_true rfl) fun v5 s => ?_
    exact r_iret rfl rfl _ rfl rfl (by decide +kernel)
def aX11_needTool : StA := (RX11, cX11_needTool, 2, none, yX11_needTool, 9, [])
theorem flX11_160_1 : FL RX11 160 1 1 := ⟨_, TX1, 13, "ToolCourt$Court", rfl, by decide, Or.inr ⟨"ToolCourt", List.mem_of_getElem? (i := 350) (by decide +kernel)⟩, Or.inl rfl⟩
theorem thX11_418_218 : TH RX11 214 418 218 2 "there is no such TOOL" 5 := ⟨by decide +kernel, tblG_of 1183 (by decide +kernel) (by decide +kernel), tblG_of 169 (by decide +kernel) (by decide +kernel), by decide +kernel, by decide +kernel, by decide +kernel⟩
noncomputable def mX11_needTool (a0 : Nat) (a1 : Int32) : MM Unit := onC 10 a0 (
  mbnd (gR 10 7 a0) fun (v1 : Nat) =>
  mbnd (gR 1 1 v1) fun (v2 : Nat) =>
  mbnd (mX8_has v2 a1) fun (v3 : Int32) =>
  if v3 = 0 then (
    mthr 2
  ) else (
    mret ()
  )
  )
theorem rcX11_needTool (a0 : Nat) (a1 : Int32) : Rcv 10 a0 (mX11_needTool a0 a1) := fun s r h => ⟨(onC_some h).1, (onC_some h).2.1⟩
set_option maxHeartbeats 4000000 in
set_option maxRecDepth 100000 in
theorem ctX11_needTool (a0 : Nat) (a1 : Int32) : Ct aX11_needTool [vr a0, vi a1] (mX11_needTool a0 a1) rU := by
  unfold mX11_needTool
  refine ct_onC (ct_intro (by decide +kernel) rfl (Nat.le_of_ble_eq_true rfl) fun Y s => ?_)
  refine r_sub (lv' := [(0, vr a0), (1, vi a1)]) [0, 1] rfl ?_
  refine r_p (pc' := 1) (p_aload_n 0 (k := 0) (by decide +kernel) rfl) ?_
  refine r_gR flX11_54_10 (by decide +kernel) fun v1 => ?_
  refine r_gR flX11_160_1 (by decide +kernel) fun v2 => ?_
  refine r_p (pc' := 8) (p_iload_n 1 (k := 1) (by decide +kernel) rfl) ?_
  refine r_callVI mvX11_296 (ctX8_has v2 a1) (rcX8_has v2 a1) ⟨_, _, rfl⟩ (as := [vi a1]) (st := []) rfl rfl (by decide +kernel) rfl (Nat.le_of_ble_eq_true rfl) (Nat.le_of_ble_eq_true rfl) fun v3 s => ?_
  refine r_ifne (off := 14) (tgt := 25) (by decide +kernel) (by decide) (fun h4 => ?_) (fun h4 => ?_)
  · exact r_thrw thX11_418_218 rfl (Nat.le_of_ble_eq_true rfl) (Nat.le_of_ble_eq_true rfl) (by decide +kernel) (by decide +kernel) (by decide +kernel) (by decide +kernel) (by decide +kernel)
  · exact r_vret (y9 := ()) rfl rfl rfl (by decide +kernel)
def aX11_tool : StA := (RX11, cX11_tool, 3, some .int, yX11_tool, 12, [])
theorem mvX11_157 : MV RX11 157 aX11_needTool 1 := ⟨tblG_of 1233 (by decide +kernel) (by decide +kernel), tblG_of 1235 (by decide +kernel) (by decide +kernel), tblG_of 34 (by decide +kernel) (by decide +kernel), tblG_of 144 (by decide +kernel) (by decide +kernel), tblG_of 1236 (by decide +kernel) (by decide +kernel), rfl, ⟨by decide, by decide⟩, by decide +kernel, by decide⟩
theorem mvX11_166 : MV RX11 166 aX1_sentence 1 := ⟨tblG_of 1238 (by decide +kernel) (by decide +kernel), tblG_of 695 (by decide +kernel) (by decide +kernel), tblG_of 696 (by decide +kernel) (by decide +kernel), tblG_of 151 (by decide +kernel) (by decide +kernel), tblG_of 697 (by decide +kernel) (by decide +kernel), rfl, ⟨by decide, by decide⟩, by decide +kernel, by decide⟩
theorem thX11_171_173 : THN RX11 169 171 173 "there is no such thing of a TOOL" 6 := ⟨tblG_of 1210 (by decide +kernel) (by decide +kernel), tblG_of 170 (by decide +kernel) (by decide +kernel), by decide +kernel, by decide +kernel, by decide +kernel⟩
noncomputable def mX11_tool (a0 : Nat) (a1 : Int32) (a2 : Int32) : MM Int32 := onC 10 a0 (
  mbnd (mX11_needTool a0 a1) fun _ =>
  if a2 = 0 then (
    mbnd (gR 10 7 a0) fun (v2 : Nat) =>
    mbnd (gR 1 1 v2) fun (v3 : Nat) =>
    mbnd (mX8_get v3 a1 a2) fun (v4 : Int32) =>
    mret v4
  ) else (
    if a2 = 1 then (
      mbnd (gR 10 7 a0) fun (v6 : Nat) =>
      mbnd (gR 1 1 v6) fun (v7 : Nat) =>
      mbnd (mX8_get v7 a1 a2) fun (v8 : Int32) =>
      mret v8
    ) else (
      if a2 = 2 then (
        mbnd (gR 10 7 a0) fun (v10 : Nat) =>
        mbnd (gR 1 1 v10) fun (v11 : Nat) =>
        mbnd (mX8_get v11 a1 a2) fun (v12 : Int32) =>
        mret v12
      ) else (
        if a2 = 3 then (
          mbnd (gR 10 7 a0) fun (v14 : Nat) =>
          mbnd (mX1_answered v14 a1) fun (v15 : Int32) =>
          mret v15
        ) else (
          if a2 = 4 then (
            mbnd (gR 10 7 a0) fun (v17 : Nat) =>
            mbnd (mX1_sentence v17 a1) fun (v18 : Int32) =>
            mret v18
          ) else (
            if a2 = 5 then (
              mbnd (gR 10 7 a0) fun (v20 : Nat) =>
              mbnd (gR 1 1 v20) fun (v21 : Nat) =>
              mbnd (mX8_get v21 a1 3) fun (v22 : Int32) =>
              mret v22
            ) else (
              mthr 3
            )
          )
        )
      )
    )
  )
  )
theorem rcX11_tool (a0 : Nat) (a1 : Int32) (a2 : Int32) : Rcv 10 a0 (mX11_tool a0 a1 a2) := fun s r h => ⟨(onC_some h).1, (onC_some h).2.1⟩
set_option maxHeartbeats 4000000 in
set_option maxRecDepth 100000 in
theorem ctX11_tool (a0 : Nat) (a1 : Int32) (a2 : Int32) : Ct aX11_tool [vr a0, vi a1, vi a2] (mX11_tool a0 a1 a2) rI := by
  unfold mX11_tool
  refine ct_onC (ct_intro (by decide +kernel) rfl (Nat.le_of_ble_eq_true rfl) fun Y s => ?_)
  refine r_sub (lv' := [(0, vr a0), (1, vi a1), (2, vi a2)]) [0, 1, 2] rfl ?_
  refine r_p (pc' := 1) (p_aload_n 0 (k := 0) (by decide +kernel) rfl) ?_
  refine r_p (pc' := 2) (p_iload_n 1 (k := 1) (by decide +kernel) rfl) ?_
  refine r_callVU mvX11_157 (ctX11_needTool a0 a1) (rcX11_needTool a0 a1) ⟨_, _, rfl⟩ (as := [vi a1]) (st := []) rfl rfl (by decide +kernel) rfl (Nat.le_of_ble_eq_true rfl) (Nat.le_of_ble_eq_true rfl) fun s => ?_
  refine r_p (pc' := 6) (p_iload_n 2 (k := 2) (by decide +kernel) rfl) ?_
  refine r_tcase (fun h1 => ?_) (fun h1 => ?_)
  · refine r_tsin (tgt := 44) (lo := 0) (hi := 5) (dflt := 82) (offs := #[38, 38, 38, 51, 60, 69]) (len := 38) (off := 38) (by decide +kernel) (by rw [h1]; decide) (by rw [h1]; decide) (by rw [h1]; rfl) (by decide) ?_
    refine r_p (pc' := 45) (p_aload_n 0 (k := 0) (by decide +kernel) rfl) ?_
    refine r_gR flX11_54_10 (by decide +kernel) fun v2 => ?_
    refine r_gR flX11_160_1 (by decide +kernel) fun v3 => ?_
    refine r_p (pc' := 52) (p_iload_n 1 (k := 1) (by decide +kernel) rfl) ?_
    refine r_p (pc' := 53) (p_iload_n 2 (k := 2) (by decide +kernel) rfl) ?_
    refine r_callVI mvX11_151 (ctX8_get v3 a1 a2) (rcX8_get v3 a1 a2) ⟨_, _, rfl⟩ (as := [vi a1, vi a2]) (st := []) rfl rfl (by decide +kernel) rfl (Nat.le_of_ble_eq_true rfl) (Nat.le_of_ble_eq_true rfl) fun v4 s => ?_
    exact r_iret rfl rfl _ rfl rfl (by decide +kernel)
  · refine r_tcase (fun h5 => ?_) (fun h5 => ?_)
    · refine r_tsin (tgt := 44) (lo := 0) (hi := 5) (dflt := 82) (offs := #[38, 38, 38, 51, 60, 69]) (len := 38) (off := 38) (by decide +kernel) (by rw [h5]; decide) (by rw [h5]; decide) (by rw [h5]; rfl) (by decide) ?_
      refine r_p (pc' := 45) (p_aload_n 0 (k := 0) (by decide +kernel) rfl) ?_
      refine r_gR flX11_54_10 (by decide +kernel) fun v6 => ?_
      refine r_gR flX11_160_1 (by decide +kernel) fun v7 => ?_
      refine r_p (pc' := 52) (p_iload_n 1 (k := 1) (by decide +kernel) rfl) ?_
      refine r_p (pc' := 53) (p_iload_n 2 (k := 2) (by decide +kernel) rfl) ?_
      refine r_callVI mvX11_151 (ctX8_get v7 a1 a2) (rcX8_get v7 a1 a2) ⟨_, _, rfl⟩ (as := [vi a1, vi a2]) (st := []) rfl rfl (by decide +kernel) rfl (Nat.le_of_ble_eq_true rfl) (Nat.le_of_ble_eq_true rfl) fun v8 s => ?_
      exact r_iret rfl rfl _ rfl rfl (by decide +kernel)
    · refine r_tcase (fun h9 => ?_) (fun h9 => ?_)
      · refine r_tsin (tgt := 44) (lo := 0) (hi := 5) (dflt := 82) (offs := #[38, 38, 38, 51, 60, 69]) (len := 38) (off := 38) (by decide +kernel) (by rw [h9]; decide) (by rw [h9]; decide) (by rw [h9]; rfl) (by decide) ?_
        refine r_p (pc' := 45) (p_aload_n 0 (k := 0) (by decide +kernel) rfl) ?_
        refine r_gR flX11_54_10 (by decide +kernel) fun v10 => ?_
        refine r_gR flX11_160_1 (by decide +kernel) fun v11 => ?_
        refine r_p (pc' := 52) (p_iload_n 1 (k := 1) (by decide +kernel) rfl) ?_
        refine r_p (pc' := 53) (p_iload_n 2 (k := 2) (by decide +kernel) rfl) ?_
        refine r_callVI mvX11_151 (ctX8_get v11 a1 a2) (rcX8_get v11 a1 a2) ⟨_, _, rfl⟩ (as := [vi a1, vi a2]) (st := []) rfl rfl (by decide +kernel) rfl (Nat.le_of_ble_eq_true rfl) (Nat.le_of_ble_eq_true rfl) fun v12 s => ?_
        exact r_iret rfl rfl _ rfl rfl (by decide +kernel)
      · refine r_tcase (fun h13 => ?_) (fun h13 => ?_)
        · refine r_tsin (tgt := 57) (lo := 0) (hi := 5) (dflt := 82) (offs := #[38, 38, 38, 51, 60, 69]) (len := 38) (off := 51) (by decide +kernel) (by rw [h13]; decide) (by rw [h13]; decide) (by rw [h13]; rfl) (by decide) ?_
          refine r_p (pc' := 58) (p_aload_n 0 (k := 0) (by decide +kernel) rfl) ?_
          refine r_gR flX11_54_10 (by decide +kernel) fun v14 => ?_
          refine r_p (pc' := 62) (p_iload_n 1 (k := 1) (by decide +kernel) rfl) ?_
          refine r_callVI mvX11_163 (ctX1_answered v14 a1) (rcX1_answered v14 a1) ⟨_, _, rfl⟩ (as := [vi a1]) (st := []) rfl rfl (by decide +kernel) rfl (Nat.le_of_ble_eq_true rfl) (Nat.le_of_ble_eq_true rfl) fun v15 s => ?_
          exact r_iret rfl rfl _ rfl rfl (by decide +kernel)
        · refine r_tcase (fun h16 => ?_) (fun h16 => ?_)
          · refine r_tsin (tgt := 66) (lo := 0) (hi := 5) (dflt := 82) (offs := #[38, 38, 38, 51, 60, 69]) (len := 38) (off := 60) (by decide +kernel) (by rw [h16]; decide) (by rw [h16]; decide) (by rw [h16]; rfl) (by decide) ?_
            refine r_p (pc' := 67) (p_aload_n 0 (k := 0) (by decide +kernel) rfl) ?_
            refine r_gR flX11_54_10 (by decide +kernel) fun v17 => ?_
            refine r_p (pc' := 71) (p_iload_n 1 (k := 1) (by decide +kernel) rfl) ?_
            refine r_callVI mvX11_166 (ctX1_sentence v17 a1) (rcX1_sentence v17 a1) ⟨_, _, rfl⟩ (as := [vi a1]) (st := []) rfl rfl (by decide +kernel) rfl (Nat.le_of_ble_eq_true rfl) (Nat.le_of_ble_eq_true rfl) fun v18 s => ?_
            exact r_iret rfl rfl _ rfl rfl (by decide +kernel)
          · refine r_tcase (fun h19 => ?_) (fun h19 => ?_)
            · refine r_tsin (tgt := 75) (lo := 0) (hi := 5) (dflt := 82) (offs := #[38, 38, 38, 51, 60, 69]) (len := 38) (off := 69) (by decide +kernel) (by rw [h19]; decide) (by rw [h19]; decide) (by rw [h19]; rfl) (by decide) ?_
              refine r_p (pc' := 76) (p_aload_n 0 (k := 0) (by decide +kernel) rfl) ?_
              refine r_gR flX11_54_10 (by decide +kernel) fun v20 => ?_
              refine r_gR flX11_160_1 (by decide +kernel) fun v21 => ?_
              refine r_p (pc' := 83) (p_iload_n 1 (k := 1) (by decide +kernel) rfl) ?_
              refine r_p (pc' := 84) (p_iconst (n := 3) (v := 3) (by decide +kernel) rfl) ?_
              refine r_callVI mvX11_151 (ctX8_get v21 a1 3) (rcX8_get v21 a1 3) ⟨_, _, rfl⟩ (as := [vi a1, vi 3]) (st := []) rfl rfl (by decide +kernel) rfl (Nat.le_of_ble_eq_true rfl) (Nat.le_of_ble_eq_true rfl) fun v22 s => ?_
              exact r_iret rfl rfl _ rfl rfl (by decide +kernel)
            · have h1i := lv_neT (a := 0) h1 rfl
              have h5i := lv_neT (a := 1) h5 rfl
              have h9i := lv_neT (a := 2) h9 rfl
              have h13i := lv_neT (a := 3) h13 rfl
              have h16i := lv_neT (a := 4) h16 rfl
              have h19i := lv_neT (a := 5) h19 rfl
              refine r_tsout (tgt := 88) (lo := 0) (hi := 5) (dflt := 82) (offs := #[38, 38, 38, 51, 60, 69]) (len := 38) (by decide +kernel) (by omega) (by decide) ?_
              exact r_thrN thX11_171_173 rfl (Nat.le_of_ble_eq_true rfl) (Nat.le_of_ble_eq_true rfl) (by decide +kernel) (by decide +kernel) (by decide +kernel) (by decide +kernel) (by decide +kernel)
def aX11_needMaster : StA := (RX11, cX11_needMaster, 2, none, yX11_needMaster, 9, [])
theorem flX11_180_1 : FL RX11 180 1 2 := ⟨_, TX1, 13, "ToolCourt$Court", rfl, by decide, Or.inr ⟨"ToolCourt", List.mem_of_getElem? (i := 353) (by decide +kernel)⟩, Or.inl rfl⟩
theorem thX11_420_218 : TH RX11 214 420 218 2 "there is no such MASTER" 7 := ⟨by decide +kernel, tblG_of 1183 (by decide +kernel) (by decide +kernel), tblG_of 169 (by decide +kernel) (by decide +kernel), by decide +kernel, by decide +kernel, by decide +kernel⟩
noncomputable def mX11_needMaster (a0 : Nat) (a1 : Int32) : MM Unit := onC 10 a0 (
  mbnd (gR 10 7 a0) fun (v1 : Nat) =>
  mbnd (gR 1 2 v1) fun (v2 : Nat) =>
  mbnd (mX8_has v2 a1) fun (v3 : Int32) =>
  if v3 = 0 then (
    mthr 2
  ) else (
    mret ()
  )
  )
theorem rcX11_needMaster (a0 : Nat) (a1 : Int32) : Rcv 10 a0 (mX11_needMaster a0 a1) := fun s r h => ⟨(onC_some h).1, (onC_some h).2.1⟩
set_option maxHeartbeats 4000000 in
set_option maxRecDepth 100000 in
theorem ctX11_needMaster (a0 : Nat) (a1 : Int32) : Ct aX11_needMaster [vr a0, vi a1] (mX11_needMaster a0 a1) rU := by
  unfold mX11_needMaster
  refine ct_onC (ct_intro (by decide +kernel) rfl (Nat.le_of_ble_eq_true rfl) fun Y s => ?_)
  refine r_sub (lv' := [(0, vr a0), (1, vi a1)]) [0, 1] rfl ?_
  refine r_p (pc' := 1) (p_aload_n 0 (k := 0) (by decide +kernel) rfl) ?_
  refine r_gR flX11_54_10 (by decide +kernel) fun v1 => ?_
  refine r_gR flX11_180_1 (by decide +kernel) fun v2 => ?_
  refine r_p (pc' := 8) (p_iload_n 1 (k := 1) (by decide +kernel) rfl) ?_
  refine r_callVI mvX11_296 (ctX8_has v2 a1) (rcX8_has v2 a1) ⟨_, _, rfl⟩ (as := [vi a1]) (st := []) rfl rfl (by decide +kernel) rfl (Nat.le_of_ble_eq_true rfl) (Nat.le_of_ble_eq_true rfl) fun v3 s => ?_
  refine r_ifne (off := 14) (tgt := 25) (by decide +kernel) (by decide) (fun h4 => ?_) (fun h4 => ?_)
  · exact r_thrw thX11_420_218 rfl (Nat.le_of_ble_eq_true rfl) (Nat.le_of_ble_eq_true rfl) (by decide +kernel) (by decide +kernel) (by decide +kernel) (by decide +kernel) (by decide +kernel)
  · exact r_vret (y9 := ()) rfl rfl rfl (by decide +kernel)
def aX11_harmOf : StA := (RX11, cX11_harmOf, 4, some .int, yX11_harmOf, 9, [])
theorem flX11_191_1 : FL RX11 191 1 3 := ⟨_, TX1, 13, "ToolCourt$Court", rfl, by decide, Or.inr ⟨"ToolCourt", List.mem_of_getElem? (i := 355) (by decide +kernel)⟩, Or.inl rfl⟩
theorem flX11_293_8 : FL RX11 293 8 3 := ⟨_, TX8, 4, "ToolCourt$Table", rfl, by decide, Or.inr ⟨"ToolCourt", List.mem_of_getElem? (i := 330) (by decide +kernel)⟩, Or.inl rfl⟩
noncomputable def mX11_harmOf_L4 (a0 : Nat) (a1 : Int32) (x1 : Int32 × Int32) : MM ((Int32 × Int32) ⊕ (Int32)) :=
  mbnd (gR 10 7 a0) fun (v5 : Nat) =>
  mbnd (gR 1 3 v5) fun (v6 : Nat) =>
  mbnd (gI 8 3 v6) fun (v7 : Int32) =>
  if v7 ≤ x1.2 then (
    mret (.inr x1.1)
  ) else (
    mbnd (gR 10 7 a0) fun (v9 : Nat) =>
    mbnd (gR 1 3 v9) fun (v10 : Nat) =>
    mbnd (mX8_get v10 x1.2 2) fun (v11 : Int32) =>
    mbnd (α := Int32) (
      if v11 = a1 then (
        mbnd (gR 10 7 a0) fun (v16 : Nat) =>
        mbnd (gR 1 3 v16) fun (v17 : Nat) =>
        mbnd (mX8_get v17 x1.2 3) fun (v18 : Int32) =>
        mret v18
      ) else (
        mret 0
      )
    ) fun (x13 : Int32) =>
    mbnd (mret (x1.1 + x13)) fun (v19 : Int32) =>
    mret (.inl (v19, x1.2 + 1))
  )
noncomputable def mX11_harmOf (a0 : Nat) (a1 : Int32) : MM Int32 := onC 10 a0 (
  mbnd (loopM (mX11_harmOf_L4 a0 a1) (0, 0)) fun (e20 : Int32) =>
  mret e20
  )
theorem rcX11_harmOf (a0 : Nat) (a1 : Int32) : Rcv 10 a0 (mX11_harmOf a0 a1) := fun s r h => ⟨(onC_some h).1, (onC_some h).2.1⟩
set_option maxHeartbeats 4000000 in
set_option maxRecDepth 100000 in
theorem ctX11_harmOf (a0 : Nat) (a1 : Int32) : Ct aX11_harmOf [vr a0, vi a1] (mX11_harmOf a0 a1) rI := by
  unfold mX11_harmOf
  refine ct_onC (ct_intro (by decide +kernel) rfl (Nat.le_of_ble_eq_true rfl) fun Y s => ?_)
  refine r_sub (lv' := [(0, vr a0), (1, vi a1)]) [0, 1] rfl ?_
  refine r_p (pc' := 1) (p_iconst (n := 0) (v := 0) (by decide +kernel) rfl) ?_
  refine r_p (pc' := 2) (p_istore_n (k := 2) (lv' := [(2, vi 0), (0, vr a0), (1, vi a1)]) (by decide +kernel) (Nat.le_of_ble_eq_true rfl) rfl) ?_
  refine r_p (pc' := 3) (p_iconst (n := 0) (v := 0) (by decide +kernel) rfl) ?_
  refine r_p (pc' := 4) (p_istore_n (k := 3) (lv' := [(3, vi 0), (2, vi 0), (0, vr a0), (1, vi a1)]) (by decide +kernel) (Nat.le_of_ble_eq_true rfl) rfl) ?_
  refine r_sub (lv' := [(0, vr a0), (1, vi a1), (2, vi 0), (3, vi 0)]) [2, 3, 1, 0] rfl ?_
  refine r_loop2 (fun _ => 59) (fun (e20 : Int32) => [(2, vi e20)]) (fun (x1 : Int32 × Int32) => [(0, vr a0), (1, vi a1), (2, vi x1.1), (3, vi x1.2)]) (fun e20 s => ?_) (fun K2 hb3 he4 x1 s => ?_) (0, 0) _
  · refine r_p (pc' := 60) (p_iload_n 0 (k := 2) (by decide +kernel) rfl) ?_
    exact r_iret rfl rfl _ rfl rfl (by decide +kernel)
  · unfold mX11_harmOf_L4
    refine r_p (pc' := 5) (p_iload_n 3 (k := 3) (by decide +kernel) rfl) ?_
    refine r_p (pc' := 6) (p_aload_n 0 (k := 0) (by decide +kernel) rfl) ?_
    refine r_gR flX11_54_10 (by decide +kernel) fun v5 => ?_
    refine r_gR flX11_191_1 (by decide +kernel) fun v6 => ?_
    refine r_gI flX11_293_8 (by decide +kernel) fun v7 => ?_
    refine r_icmpge (off := 44) (tgt := 59) (by decide +kernel) (by decide) (fun h8 => ?_) (fun h8 => ?_)
    · refine r_sub (lv' := [(2, vi x1.1)]) [2] rfl ?_
      exact he4 x1.1 _
    · refine r_p (pc' := 19) (p_iload_n 2 (k := 2) (by decide +kernel) rfl) ?_
      refine r_p (pc' := 20) (p_aload_n 0 (k := 0) (by decide +kernel) rfl) ?_
      refine r_gR flX11_54_10 (by decide +kernel) fun v9 => ?_
      refine r_gR flX11_191_1 (by decide +kernel) fun v10 => ?_
      refine r_p (pc' := 27) (p_iload_n 3 (k := 3) (by decide +kernel) rfl) ?_
      refine r_p (pc' := 28) (p_iconst (n := 2) (v := 2) (by decide +kernel) rfl) ?_
      refine r_callVI mvX11_151 (ctX8_get v10 x1.2 2) (rcX8_get v10 x1.2 2) ⟨_, _, rfl⟩ (as := [vi x1.2, vi 2]) (st := [vi x1.1]) rfl rfl (by decide +kernel) rfl (Nat.le_of_ble_eq_true rfl) (Nat.le_of_ble_eq_true rfl) fun v11 s => ?_
      refine r_p (pc' := 32) (p_iload_n 1 (k := 1) (by decide +kernel) rfl) ?_
      refine r_join 51 (fun (x13 : Int32) => [(0, vr a0), (1, vi a1), (3, vi x1.2)]) (fun (x13 : Int32) => [vi x13, vi x1.1]) (fun x13 s => ?_) (fun K14 hj15 => ?_)
      · refine r_p (pc' := 52) (p_iadd (by decide +kernel)) ?_
        refine r_letI fun v19 => ?_
        refine r_p (pc' := 53) (p_istore_n (k := 2) (lv' := [(2, vi v19), (0, vr a0), (1, vi a1), (3, vi x1.2)]) (by decide +kernel) (Nat.le_of_ble_eq_true rfl) rfl) ?_
        refine r_p (pc' := 56) (p_iinc 3 (i := 3) (n := 1) (x := x1.2) (v := x1.2 + 1) (lv' := [(3, vi (x1.2 + 1)), (2, vi v19), (0, vr a0), (1, vi a1)]) (by decide +kernel) rfl rfl (Nat.le_of_ble_eq_true rfl) rfl) ?_
        refine r_p (pc' := 4) (p_goto (off := -52) (tgt := 4) (by decide +kernel) (by decide)) ?_
        refine r_sub (lv' := [(0, vr a0), (1, vi a1), (2, vi v19), (3, vi (x1.2 + 1))]) [2, 3, 1, 0] rfl ?_
        exact hb3 (v19, x1.2 + 1) _
      · refine r_icmpne (off := 18) (tgt := 50) (by decide +kernel) (by decide) (fun h12 => ?_) (fun h12 => ?_)
        · refine r_p (pc' := 36) (p_aload_n 0 (k := 0) (by decide +kernel) rfl) ?_
          refine r_gR flX11_54_10 (by decide +kernel) fun v16 => ?_
          refine r_gR flX11_191_1 (by decide +kernel) fun v17 => ?_
          refine r_p (pc' := 43) (p_iload_n 3 (k := 3) (by decide +kernel) rfl) ?_
          refine r_p (pc' := 44) (p_iconst (n := 3) (v := 3) (by decide +kernel) rfl) ?_
          refine r_callVI mvX11_151 (ctX8_get v17 x1.2 3) (rcX8_get v17 x1.2 3) ⟨_, _, rfl⟩ (as := [vi x1.2, vi 3]) (st := [vi x1.1]) rfl rfl (by decide +kernel) rfl (Nat.le_of_ble_eq_true rfl) (Nat.le_of_ble_eq_true rfl) fun v18 s => ?_
          refine r_p (pc' := 51) (p_goto (off := 4) (tgt := 51) (by decide +kernel) (by decide)) ?_
          refine r_sub (lv' := [(0, vr a0), (1, vi a1), (3, vi x1.2)]) [0, 1, 3] rfl ?_
          exact hj15 v18 _
        · refine r_p (pc' := 51) (p_iconst (n := 0) (v := 0) (by decide +kernel) rfl) ?_
          refine r_sub (lv' := [(0, vr a0), (1, vi a1), (3, vi x1.2)]) [0, 1, 3] rfl ?_
          exact hj15 0 _
def aX11_master : StA := (RX11, cX11_master, 3, some .int, yX11_master, 10, [])
theorem mvX11_174 : MV RX11 174 aX11_needMaster 1 := ⟨tblG_of 1247 (by decide +kernel) (by decide +kernel), tblG_of 1249 (by decide +kernel) (by decide +kernel), tblG_of 35 (by decide +kernel) (by decide +kernel), tblG_of 144 (by decide +kernel) (by decide +kernel), tblG_of 1250 (by decide +kernel) (by decide +kernel), rfl, ⟨by decide, by decide⟩, by decide +kernel, by decide⟩
theorem mvX11_177 : MV RX11 177 aX11_harmOf 1 := ⟨tblG_of 732 (by decide +kernel) (by decide +kernel), tblG_of 734 (by decide +kernel) (by decide +kernel), tblG_of 11 (by decide +kernel) (by decide +kernel), tblG_of 144 (by decide +kernel) (by decide +kernel), tblG_of 735 (by decide +kernel) (by decide +kernel), rfl, ⟨by decide, by decide⟩, by decide +kernel, by decide⟩
noncomputable def mX11_master (a0 : Nat) (a1 : Int32) (a2 : Int32) : MM Int32 := onC 10 a0 (
  mbnd (mX11_needMaster a0 a1) fun _ =>
  if a2 = 0 then (
    mbnd (gR 10 7 a0) fun (v2 : Nat) =>
    mbnd (gR 1 2 v2) fun (v3 : Nat) =>
    mbnd (mX8_get v3 a1 0) fun (v4 : Int32) =>
    mret v4
  ) else (
    mbnd (mX11_harmOf a0 a1) fun (v5 : Int32) =>
    mret v5
  )
  )
theorem rcX11_master (a0 : Nat) (a1 : Int32) (a2 : Int32) : Rcv 10 a0 (mX11_master a0 a1 a2) := fun s r h => ⟨(onC_some h).1, (onC_some h).2.1⟩
set_option maxHeartbeats 4000000 in
set_option maxRecDepth 100000 in
theorem ctX11_master (a0 : Nat) (a1 : Int32) (a2 : Int32) : Ct aX11_master [vr a0, vi a1, vi a2] (mX11_master a0 a1 a2) rI := by
  unfold mX11_master
  refine ct_onC (ct_intro (by decide +kernel) rfl (Nat.le_of_ble_eq_true rfl) fun Y s => ?_)
  refine r_sub (lv' := [(0, vr a0), (1, vi a1), (2, vi a2)]) [0, 1, 2] rfl ?_
  refine r_p (pc' := 1) (p_aload_n 0 (k := 0) (by decide +kernel) rfl) ?_
  refine r_p (pc' := 2) (p_iload_n 1 (k := 1) (by decide +kernel) rfl) ?_
  refine r_callVU mvX11_174 (ctX11_needMaster a0 a1) (rcX11_needMaster a0 a1) ⟨_, _, rfl⟩ (as := [vi a1]) (st := []) rfl rfl (by decide +kernel) rfl (Nat.le_of_ble_eq_true rfl) (Nat.le_of_ble_eq_true rfl) fun s => ?_
  refine r_p (pc' := 6) (p_iload_n 2 (k := 2) (by decide +kernel) rfl) ?_
  refine r_ifeq (off := 11) (tgt := 17) (by decide +kernel) (by decide) (fun h1 => ?_) (fun h1 => ?_)
  · refine r_p (pc' := 18) (p_aload_n 0 (k := 0) (by decide +kernel) rfl) ?_
    refine r_gR flX11_54_10 (by decide +kernel) fun v2 => ?_
    refine r_gR flX11_180_1 (by decide +kernel) fun v3 => ?_
    refine r_p (pc' := 25) (p_iload_n 1 (k := 1) (by decide +kernel) rfl) ?_
    refine r_p (pc' := 26) (p_iconst (n := 0) (v := 0) (by decide +kernel) rfl) ?_
    refine r_callVI mvX11_151 (ctX8_get v3 a1 0) (rcX8_get v3 a1 0) ⟨_, _, rfl⟩ (as := [vi a1, vi 0]) (st := []) rfl rfl (by decide +kernel) rfl (Nat.le_of_ble_eq_true rfl) (Nat.le_of_ble_eq_true rfl) fun v4 s => ?_
    exact r_iret rfl rfl _ rfl rfl (by decide +kernel)
  · refine r_p (pc' := 10) (p_aload_n 0 (k := 0) (by decide +kernel) rfl) ?_
    refine r_p (pc' := 11) (p_iload_n 1 (k := 1) (by decide +kernel) rfl) ?_
    refine r_callVI mvX11_177 (ctX11_harmOf a0 a1) (rcX11_harmOf a0 a1) ⟨_, _, rfl⟩ (as := [vi a1]) (st := []) rfl rfl (by decide +kernel) rfl (Nat.le_of_ble_eq_true rfl) (Nat.le_of_ble_eq_true rfl) fun v5 s => ?_
    refine r_p (pc' := 29) (p_goto (off := 15) (tgt := 29) (by decide +kernel) (by decide)) ?_
    exact r_iret rfl rfl _ rfl rfl (by decide +kernel)
def aX11_rule : StA := (RX11, cX11_rule, 3, some .int, yX11_rule, 12, [])
theorem flX11_19_10 : FL RX11 19 10 3 := ⟨_, TX11, 10, "ToolCourt", rfl, by decide, Or.inl (tblG_of 517 (by decide +kernel) (by decide +kernel)), Or.inl rfl⟩
theorem mvX11_183 : MV RX11 183 aX2_told 3 := ⟨tblG_of 1259 (by decide +kernel) (by decide +kernel), tblG_of 641 (by decide +kernel) (by decide +kernel), tblG_of 642 (by decide +kernel) (by decide +kernel), tblG_of 146 (by decide +kernel) (by decide +kernel), tblG_of 643 (by decide +kernel) (by decide +kernel), rfl, ⟨by decide, by decide⟩, by decide +kernel, by decide⟩
noncomputable def mX11_rule (a0 : Nat) (a1 : Int32) (a2 : Int32) : MM Int32 := onC 10 a0 (
  mbnd (mX11_needPart a0 a1) fun _ =>
  mbnd (mX11_needWhat a2 4) fun _ =>
  mbnd (gR 10 3 a0) fun (v1 : Nat) =>
  mbnd (gR 10 7 a0) fun (v2 : Nat) =>
  mbnd (mX2_told v1 v2 a1 a2) fun (v3 : Int32) =>
  mret v3
  )
theorem rcX11_rule (a0 : Nat) (a1 : Int32) (a2 : Int32) : Rcv 10 a0 (mX11_rule a0 a1 a2) := fun s r h => ⟨(onC_some h).1, (onC_some h).2.1⟩
set_option maxHeartbeats 4000000 in
set_option maxRecDepth 100000 in
theorem ctX11_rule (a0 : Nat) (a1 : Int32) (a2 : Int32) : Ct aX11_rule [vr a0, vi a1, vi a2] (mX11_rule a0 a1 a2) rI := by
  unfold mX11_rule
  refine ct_onC (ct_intro (by decide +kernel) rfl (Nat.le_of_ble_eq_true rfl) fun Y s => ?_)
  refine r_sub (lv' := [(0, vr a0), (1, vi a1), (2, vi a2)]) [0, 1, 2] rfl ?_
  refine r_p (pc' := 1) (p_aload_n 0 (k := 0) (by decide +kernel) rfl) ?_
  refine r_p (pc' := 2) (p_iload_n 1 (k := 1) (by decide +kernel) rfl) ?_
  refine r_callVU mvX11_136 (ctX11_needPart a0 a1) (rcX11_needPart a0 a1) ⟨_, _, rfl⟩ (as := [vi a1]) (st := []) rfl rfl (by decide +kernel) rfl (Nat.le_of_ble_eq_true rfl) (Nat.le_of_ble_eq_true rfl) fun s => ?_
  refine r_p (pc' := 6) (p_iload_n 2 (k := 2) (by decide +kernel) rfl) ?_
  refine r_p (pc' := 7) (p_iconst (n := 4) (v := 4) (by decide +kernel) rfl) ?_
  refine r_callSU msX11_143 (ctX11_needWhat a2 4) (as := [vi a2, vi 4]) (st := []) rfl rfl (by decide +kernel) rfl (Nat.le_of_ble_eq_true rfl) (Nat.le_of_ble_eq_true rfl) fun s => ?_
  refine r_p (pc' := 11) (p_aload_n 0 (k := 0) (by decide +kernel) rfl) ?_
  refine r_gR flX11_19_10 (by decide +kernel) fun v1 => ?_
  refine r_p (pc' := 15) (p_aload_n 0 (k := 0) (by decide +kernel) rfl) ?_
  refine r_gR flX11_54_10 (by decide +kernel) fun v2 => ?_
  refine r_p (pc' := 19) (p_iload_n 1 (k := 1) (by decide +kernel) rfl) ?_
  refine r_p (pc' := 20) (p_iload_n 2 (k := 2) (by decide +kernel) rfl) ?_
  refine r_callVI mvX11_183 (ctX2_told v1 v2 a1 a2) (rcX2_told v1 v2 a1 a2) ⟨_, _, rfl⟩ (as := [vr v2, vi a1, vi a2]) (st := []) rfl rfl (by decide +kernel) rfl (Nat.le_of_ble_eq_true rfl) (Nat.le_of_ble_eq_true rfl) fun v3 s => ?_
  exact r_iret rfl rfl _ rfl rfl (by decide +kernel)
def aX11_needDeed : StA := (RX11, cX11_needDeed, 5, none, yX11_needDeed, 10, [])
theorem thX11_426_105 : TH RX11 101 426 105 0 "HARM or HARD are none" 8 := ⟨by decide +kernel, tblG_of 1052 (by decide +kernel) (by decide +kernel), tblG_of 166 (by decide +kernel) (by decide +kernel), by decide +kernel, by decide +kernel, by decide +kernel⟩
theorem thX11_428_250 : TH RX11 246 428 250 4 "there is no head" 9 := ⟨by decide +kernel, tblG_of 1273 (by decide +kernel) (by decide +kernel), tblG_of 171 (by decide +kernel) (by decide +kernel), by decide +kernel, by decide +kernel, by decide +kernel⟩
noncomputable def mX11_needDeed (a0 : Nat) (a1 : Int32) (a2 : Int32) (a3 : Int32) (a4 : Int32) : MM Unit := onC 10 a0 (
  mbnd (mX11_needTool a0 a1) fun _ =>
  mbnd (mX11_needMaster a0 a2) fun _ =>
  if a3 < 1 then (
    mthr 0
  ) else (
    if 999 < a3 then (
      mthr 0
    ) else (
      if a4 < 0 then (
        mthr 0
      ) else (
        if a4 ≤ 9 then (
          mbnd (gR 10 7 a0) fun (v5 : Nat) =>
          mbnd (gR 1 1 v5) fun (v6 : Nat) =>
          mbnd (mX8_get v6 a1 1) fun (v7 : Int32) =>
          if v7 = (-1) then (
            mthr 4
          ) else (
            mret ()
          )
        ) else (
          mthr 0
        )
      )
    )
  )
  )
theorem rcX11_needDeed (a0 : Nat) (a1 : Int32) (a2 : Int32) (a3 : Int32) (a4 : Int32) : Rcv 10 a0 (mX11_needDeed a0 a1 a2 a3 a4) := fun s r h => ⟨(onC_some h).1, (onC_some h).2.1⟩
set_option maxHeartbeats 4000000 in
set_option maxRecDepth 100000 in
theorem ctX11_needDeed (a0 : Nat) (a1 : Int32) (a2 : Int32) (a3 : Int32) (a4 : Int32) : Ct aX11_needDeed [vr a0, vi a1, vi a2, vi a3, vi a4] (mX11_needDeed a0 a1 a2 a3 a4) rU := by
  unfold mX11_needDeed
  refine ct_onC (ct_intro (by decide +kernel) rfl (Nat.le_of_ble_eq_true rfl) fun Y s => ?_)
  refine r_sub (lv' := [(0, vr a0), (1, vi a1), (2, vi a2), (3, vi a3), (4, vi a4)]) [0, 1, 2, 3, 4] rfl ?_
  refine r_p (pc' := 1) (p_aload_n 0 (k := 0) (by decide +kernel) rfl) ?_
  refine r_p (pc' := 2) (p_iload_n 1 (k := 1) (by decide +kernel) rfl) ?_
  refine r_callVU mvX11_157 (ctX11_needTool a0 a1) (rcX11_needTool a0 a1) ⟨_, _, rfl⟩ (as := [vi a1]) (st := []) rfl rfl (by decide +kernel) rfl (Nat.le_of_ble_eq_true rfl) (Nat.le_of_ble_eq_true rfl) fun s => ?_
  refine r_p (pc' := 6) (p_aload_n 0 (k := 0) (by decide +kernel) rfl) ?_
  refine r_p (pc' := 7) (p_iload_n 2 (k := 2) (by decide +kernel) rfl) ?_
  refine r_callVU mvX11_174 (ctX11_needMaster a0 a2) (rcX11_needMaster a0 a2) ⟨_, _, rfl⟩ (as := [vi a2]) (st := []) rfl rfl (by decide +kernel) rfl (Nat.le_of_ble_eq_true rfl) (Nat.le_of_ble_eq_true rfl) fun s => ?_
  refine r_p (pc' := 11) (p_iload_n 3 (k := 3) (by decide +kernel) rfl) ?_
  refine r_p (pc' := 12) (p_iconst (n := 1) (v := 1) (by decide +kernel) rfl) ?_
  refine r_icmplt (off := 22) (tgt := 34) (by decide +kernel) (by decide) (fun h1 => ?_) (fun h1 => ?_)
  · exact r_thrw thX11_426_105 rfl (Nat.le_of_ble_eq_true rfl) (Nat.le_of_ble_eq_true rfl) (by decide +kernel) (by decide +kernel) (by decide +kernel) (by decide +kernel) (by decide +kernel)
  · refine r_p (pc' := 16) (p_iload_n 3 (k := 3) (by decide +kernel) rfl) ?_
    refine r_p (pc' := 19) (p_sipush (n := 999) (v := 999) (by decide +kernel) (by decide +kernel)) ?_
    refine r_icmpgt (off := 15) (tgt := 34) (by decide +kernel) (by decide) (fun h2 => ?_) (fun h2 => ?_)
    · exact r_thrw thX11_426_105 rfl (Nat.le_of_ble_eq_true rfl) (Nat.le_of_ble_eq_true rfl) (by decide +kernel) (by decide +kernel) (by decide +kernel) (by decide +kernel) (by decide +kernel)
    · refine r_p (pc' := 24) (p_iload 4 (i := 4) (by decide +kernel) rfl) ?_
      refine r_iflt (off := 10) (tgt := 34) (by decide +kernel) (by decide) (fun h3 => ?_) (fun h3 => ?_)
      · exact r_thrw thX11_426_105 rfl (Nat.le_of_ble_eq_true rfl) (Nat.le_of_ble_eq_true rfl) (by decide +kernel) (by decide +kernel) (by decide +kernel) (by decide +kernel) (by decide +kernel)
      · refine r_p (pc' := 29) (p_iload 4 (i := 4) (by decide +kernel) rfl) ?_
        refine r_p (pc' := 31) (p_bipush (n := 9) (v := 9) (by decide +kernel) (by decide +kernel)) ?_
        refine r_icmple (off := 14) (tgt := 45) (by decide +kernel) (by decide) (fun h4 => ?_) (fun h4 => ?_)
        · refine r_p (pc' := 46) (p_aload_n 0 (k := 0) (by decide +kernel) rfl) ?_
          refine r_gR flX11_54_10 (by decide +kernel) fun v5 => ?_
          refine r_gR flX11_160_1 (by decide +kernel) fun v6 => ?_
          refine r_p (pc' := 53) (p_iload_n 1 (k := 1) (by decide +kernel) rfl) ?_
          refine r_p (pc' := 54) (p_iconst (n := 1) (v := 1) (by decide +kernel) rfl) ?_
          refine r_callVI mvX11_151 (ctX8_get v6 a1 1) (rcX8_get v6 a1 1) ⟨_, _, rfl⟩ (as := [vi a1, vi 1]) (st := []) rfl rfl (by decide +kernel) rfl (Nat.le_of_ble_eq_true rfl) (Nat.le_of_ble_eq_true rfl) fun v7 s => ?_
          refine r_p (pc' := 58) (p_iconst (n := -1) (v := -1) (by decide +kernel) rfl) ?_
          refine r_icmpne (off := 14) (tgt := 72) (by decide +kernel) (by decide) (fun h8 => ?_) (fun h8 => ?_)
          · exact r_thrw thX11_428_250 rfl (Nat.le_of_ble_eq_true rfl) (Nat.le_of_ble_eq_true rfl) (by decide +kernel) (by decide +kernel) (by decide +kernel) (by decide +kernel) (by decide +kernel)
          · exact r_vret (y9 := ()) rfl rfl rfl (by decide +kernel)
        · exact r_thrw thX11_426_105 rfl (Nat.le_of_ble_eq_true rfl) (Nat.le_of_ble_eq_true rfl) (by decide +kernel) (by decide +kernel) (by decide +kernel) (by decide +kernel) (by decide +kernel)
def aX11_commit : StA := (RX11, cX11_commit, 10, some .int, yX11_commit, 12, [])
theorem mvX11_444 : MV RX11 444 aX1_markOf 1 := ⟨tblG_of 601 (by decide +kernel) (by decide +kernel), tblG_of 602 (by decide +kernel) (by decide +kernel), tblG_of 603 (by decide +kernel) (by decide +kernel), tblG_of 151 (by decide +kernel) (by decide +kernel), tblG_of 604 (by decide +kernel) (by decide +kernel), rfl, ⟨by decide, by decide⟩, by decide +kernel, by decide⟩
theorem mvX11_447 : MV RX11 447 aX8_open 1 := ⟨tblG_of 1307 (by decide +kernel) (by decide +kernel), tblG_of 1004 (by decide +kernel) (by decide +kernel), tblG_of 1005 (by decide +kernel) (by decide +kernel), tblG_of 152 (by decide +kernel) (by decide +kernel), tblG_of 1006 (by decide +kernel) (by decide +kernel), rfl, ⟨by decide, by decide⟩, by decide +kernel, by decide⟩
theorem mvX11_450 : MV RX11 450 aX2_gain 2 := ⟨tblG_of 1308 (by decide +kernel) (by decide +kernel), tblG_of 1309 (by decide +kernel) (by decide +kernel), tblG_of 1310 (by decide +kernel) (by decide +kernel), tblG_of 146 (by decide +kernel) (by decide +kernel), tblG_of 1311 (by decide +kernel) (by decide +kernel), rfl, ⟨by decide, by decide⟩, by decide +kernel, by decide⟩
theorem mvX11_453 : MV RX11 453 aX1_blame 4 := ⟨tblG_of 1312 (by decide +kernel) (by decide +kernel), tblG_of 1313 (by decide +kernel) (by decide +kernel), tblG_of 1314 (by decide +kernel) (by decide +kernel), tblG_of 151 (by decide +kernel) (by decide +kernel), tblG_of 1315 (by decide +kernel) (by decide +kernel), rfl, ⟨by decide, by decide⟩, by decide +kernel, by decide⟩
theorem mvX11_456 : MV RX11 456 aX2_blunt 1 := ⟨tblG_of 1326 (by decide +kernel) (by decide +kernel), tblG_of 1327 (by decide +kernel) (by decide +kernel), tblG_of 1328 (by decide +kernel) (by decide +kernel), tblG_of 146 (by decide +kernel) (by decide +kernel), tblG_of 1329 (by decide +kernel) (by decide +kernel), rfl, ⟨by decide, by decide⟩, by decide +kernel, by decide⟩
theorem mvX11_459 : MV RX11 459 aX1_wearOff 2 := ⟨tblG_of 1330 (by decide +kernel) (by decide +kernel), tblG_of 1331 (by decide +kernel) (by decide +kernel), tblG_of 1332 (by decide +kernel) (by decide +kernel), tblG_of 151 (by decide +kernel) (by decide +kernel), tblG_of 1333 (by decide +kernel) (by decide +kernel), rfl, ⟨by decide, by decide⟩, by decide +kernel, by decide⟩
theorem flX11_282_1 : FL RX11 282 1 8 := ⟨_, TX1, 13, "ToolCourt$Court", rfl, by decide, Or.inr ⟨"ToolCourt", List.mem_of_getElem? (i := 368) (by decide +kernel)⟩, Or.inl rfl⟩
theorem mvX11_256 : MV RX11 256 aX8_put 3 := ⟨tblG_of 1335 (by decide +kernel) (by decide +kernel), tblG_of 1008 (by decide +kernel) (by decide +kernel), tblG_of 1009 (by decide +kernel) (by decide +kernel), tblG_of 152 (by decide +kernel) (by decide +kernel), tblG_of 1010 (by decide +kernel) (by decide +kernel), rfl, ⟨by decide, by decide⟩, by decide +kernel, by decide⟩
noncomputable def mX11_commit_L29 (a0 : Nat) (a1 : Int32) (a3 : Int32) (a4 : Int32) (v5 : Int32) (x6 : Int32 × Int32) : MM ((Int32 × Int32) ⊕ (Int32)) :=
  if 3 ≤ x6.2 then (
    mret (.inr x6.1)
  ) else (
    mbnd (gR 10 7 a0) fun (v11 : Nat) =>
    mbnd (gR 1 1 v11) fun (v12 : Nat) =>
    mbnd (mX8_get v12 a1 x6.2) fun (v13 : Int32) =>
    mbnd (α := Int32) (
      if v13 = (-1) then (
        mret x6.1
      ) else (
        mbnd (mret (x6.1 ||| (1 <<< (v13 &&& (31 : Int32))))) fun (v18 : Int32) =>
        mbnd (gR 10 7 a0) fun (v19 : Nat) =>
        mbnd (gR 10 3 a0) fun (v20 : Nat) =>
        mbnd (mX2_gain v20 x6.2 a3) fun (v21 : Int32) =>
        mbnd (mX1_blame v19 v13 v21 v5 (-1)) fun _ =>
        mbnd (gR 10 7 a0) fun (v22 : Nat) =>
        mbnd (gR 10 3 a0) fun (v23 : Nat) =>
        mbnd (mX2_blunt v23 x6.2) fun (v24 : Int32) =>
        mbnd (α := Int32) (
          if x6.2 = 1 then (
            mret a4
          ) else (
            mret 0
          )
        ) fun (x26 : Int32) =>
        mbnd (mX1_wearOff v22 v13 (v24 + x26)) fun (v29 : Int32) =>
        mret v18
      )
    ) fun (x15 : Int32) =>
    mret (.inl (x15, x6.2 + 1))
  )
noncomputable def mX11_commit (a0 : Nat) (a1 : Int32) (a2 : Int32) (a3 : Int32) (a4 : Int32) : MM Int32 := onC 10 a0 (
  mbnd (gR 10 7 a0) fun (v1 : Nat) =>
  mbnd (mX1_markOf v1 a1) fun (v2 : Int32) =>
  mbnd (gR 10 7 a0) fun (v3 : Nat) =>
  mbnd (gR 1 3 v3) fun (v4 : Nat) =>
  mbnd (mX8_open v4 0) fun (v5 : Int32) =>
  mbnd (loopM (mX11_commit_L29 a0 a1 a3 a4 v5) (0, 0)) fun (e30 : Int32) =>
  mbnd (gR 10 7 a0) fun (v31 : Nat) =>
  mbnd (gR 1 3 v31) fun (v32 : Nat) =>
  mbnd (gR 10 7 a0) fun (v33 : Nat) =>
  mbnd (gI 1 8 v33) fun (v34 : Int32) =>
  mbnd (mX8_put v32 v5 0 v34) fun _ =>
  mbnd (gR 10 7 a0) fun (v35 : Nat) =>
  mbnd (gR 1 3 v35) fun (v36 : Nat) =>
  mbnd (mX8_put v36 v5 1 a1) fun _ =>
  mbnd (gR 10 7 a0) fun (v37 : Nat) =>
  mbnd (gR 1 3 v37) fun (v38 : Nat) =>
  mbnd (mX8_put v38 v5 2 a2) fun _ =>
  mbnd (gR 10 7 a0) fun (v39 : Nat) =>
  mbnd (gR 1 3 v39) fun (v40 : Nat) =>
  mbnd (mX8_put v40 v5 3 a3) fun _ =>
  mbnd (gR 10 7 a0) fun (v41 : Nat) =>
  mbnd (gR 1 3 v41) fun (v42 : Nat) =>
  mbnd (mX8_put v42 v5 4 (v2 / 10)) fun _ =>
  mbnd (gR 10 7 a0) fun (v43 : Nat) =>
  mbnd (gR 1 3 v43) fun (v44 : Nat) =>
  mbnd (mX8_put v44 v5 5 (v2 - v2 / 10 * 10)) fun _ =>
  mbnd (gR 10 7 a0) fun (v45 : Nat) =>
  mbnd (gR 1 3 v45) fun (v46 : Nat) =>
  mbnd (mX8_put v46 v5 6 e30) fun _ =>
  mret v2
  )
theorem rcX11_commit (a0 : Nat) (a1 : Int32) (a2 : Int32) (a3 : Int32) (a4 : Int32) : Rcv 10 a0 (mX11_commit a0 a1 a2 a3 a4) := fun s r h => ⟨(onC_some h).1, (onC_some h).2.1⟩
set_option maxHeartbeats 4000000 in
set_option maxRecDepth 100000 in
theorem ctX11_commit (a0 : Nat) (a1 : Int32) (a2 : Int32) (a3 : Int32) (a4 : Int32) : Ct aX11_commit [vr a0, vi a1, vi a2, vi a3, vi a4] (mX11_commit a0 a1 a2 a3 a4) rI := by
  unfold mX11_commit
  refine ct_onC (ct_intro (by decide +kernel) rfl (Nat.le_of_ble_eq_true rfl) fun Y s => ?_)
  refine r_sub (lv' := [(0, vr a0), (1, vi a1), (2, vi a2), (3, vi a3), (4, vi a4)]) [0, 1, 2, 3, 4] rfl ?_
  refine r_p (pc' := 1) (p_aload_n 0 (k := 0) (by decide +kernel) rfl) ?_
  refine r_gR flX11_54_10 (by decide +kernel) fun v1 => ?_
  refine r_p (pc' := 5) (p_iload_n 1 (k := 1) (by decide +kernel) rfl) ?_
  refine r_callVI mvX11_444 (ctX1_markOf v1 a1) (rcX1_markOf v1 a1) ⟨_, _, rfl⟩ (as := [vi a1]) (st := []) rfl rfl (by decide +kernel) rfl (Nat.le_of_ble_eq_true rfl) (Nat.le_of_ble_eq_true rfl) fun v2 s => ?_
  refine r_p (pc' := 10) (p_istore (i := 5) (lv' := [(5, vi v2), (0, vr a0), (1, vi a1), (2, vi a2), (3, vi a3), (4, vi a4)]) (by decide +kernel) (Nat.le_of_ble_eq_true rfl) rfl) ?_
  refine r_p (pc' := 11) (p_aload_n 1 (k := 0) (by decide +kernel) rfl) ?_
  refine r_gR flX11_54_10 (by decide +kernel) fun v3 => ?_
  refine r_gR flX11_191_1 (by decide +kernel) fun v4 => ?_
  refine r_p (pc' := 18) (p_iconst (n := 0) (v := 0) (by decide +kernel) rfl) ?_
  refine r_callVI mvX11_447 (ctX8_open v4 0) (rcX8_open v4 0) ⟨_, _, rfl⟩ (as := [vi 0]) (st := []) rfl rfl (by decide +kernel) rfl (Nat.le_of_ble_eq_true rfl) (Nat.le_of_ble_eq_true rfl) fun v5 s => ?_
  refine r_p (pc' := 23) (p_istore (i := 6) (lv' := [(6, vi v5), (5, vi v2), (0, vr a0), (1, vi a1), (2, vi a2), (3, vi a3), (4, vi a4)]) (by decide +kernel) (Nat.le_of_ble_eq_true rfl) rfl) ?_
  refine r_p (pc' := 24) (p_iconst (n := 0) (v := 0) (by decide +kernel) rfl) ?_
  refine r_p (pc' := 26) (p_istore (i := 7) (lv' := [(7, vi 0), (6, vi v5), (5, vi v2), (0, vr a0), (1, vi a1), (2, vi a2), (3, vi a3), (4, vi a4)]) (by decide +kernel) (Nat.le_of_ble_eq_true rfl) rfl) ?_
  refine r_p (pc' := 27) (p_iconst (n := 0) (v := 0) (by decide +kernel) rfl) ?_
  refine r_p (pc' := 29) (p_istore (i := 8) (lv' := [(8, vi 0), (7, vi 0), (6, vi v5), (5, vi v2), (0, vr a0), (1, vi a1), (2, vi a2), (3, vi a3), (4, vi a4)]) (by decide +kernel) (Nat.le_of_ble_eq_true rfl) rfl) ?_
  refine r_sub (lv' := [(0, vr a0), (1, vi a1), (2, vi a2), (3, vi a3), (4, vi a4), (5, vi v2), (6, vi v5), (7, vi 0), (8, vi 0)]) [4, 5, 6, 7, 8, 3, 2, 1, 0] rfl ?_
  refine r_loop2 (fun _ => 125) (fun (e30 : Int32) => [(0, vr a0), (1, vi a1), (2, vi a2), (3, vi a3), (5, vi v2), (6, vi v5), (7, vi e30)]) (fun (x6 : Int32 × Int32) => [(0, vr a0), (1, vi a1), (2, vi a2), (3, vi a3), (4, vi a4), (5, vi v2), (6, vi v5), (7, vi x6.1), (8, vi x6.2)]) (fun e30 s => ?_) (fun K7 hb8 he9 x6 s => ?_) (0, 0) _
  · refine r_p (pc' := 126) (p_aload_n 0 (k := 0) (by decide +kernel) rfl) ?_
    refine r_gR flX11_54_10 (by decide +kernel) fun v31 => ?_
    refine r_gR flX11_191_1 (by decide +kernel) fun v32 => ?_
    refine r_p (pc' := 134) (p_iload 5 (i := 6) (by decide +kernel) rfl) ?_
    refine r_p (pc' := 135) (p_iconst (n := 0) (v := 0) (by decide +kernel) rfl) ?_
    refine r_p (pc' := 136) (p_aload_n 0 (k := 0) (by decide +kernel) rfl) ?_
    refine r_gR flX11_54_10 (by decide +kernel) fun v33 => ?_
    refine r_gI flX11_282_1 (by decide +kernel) fun v34 => ?_
    refine r_callVU mvX11_256 (ctX8_put v32 v5 0 v34) (rcX8_put v32 v5 0 v34) ⟨_, _, rfl⟩ (as := [vi v5, vi 0, vi v34]) (st := []) rfl rfl (by decide +kernel) rfl (Nat.le_of_ble_eq_true rfl) (Nat.le_of_ble_eq_true rfl) fun s => ?_
    refine r_p (pc' := 146) (p_aload_n 0 (k := 0) (by decide +kernel) rfl) ?_
    refine r_gR flX11_54_10 (by decide +kernel) fun v35 => ?_
    refine r_gR flX11_191_1 (by decide +kernel) fun v36 => ?_
    refine r_p (pc' := 154) (p_iload 5 (i := 6) (by decide +kernel) rfl) ?_
    refine r_p (pc' := 155) (p_iconst (n := 1) (v := 1) (by decide +kernel) rfl) ?_
    refine r_p (pc' := 156) (p_iload_n 1 (k := 1) (by decide +kernel) rfl) ?_
    refine r_callVU mvX11_256 (ctX8_put v36 v5 1 a1) (rcX8_put v36 v5 1 a1) ⟨_, _, rfl⟩ (as := [vi v5, vi 1, vi a1]) (st := []) rfl rfl (by decide +kernel) rfl (Nat.le_of_ble_eq_true rfl) (Nat.le_of_ble_eq_true rfl) fun s => ?_
    refine r_p (pc' := 160) (p_aload_n 0 (k := 0) (by decide +kernel) rfl) ?_
    refine r_gR flX11_54_10 (by decide +kernel) fun v37 => ?_
    refine r_gR flX11_191_1 (by decide +kernel) fun v38 => ?_
    refine r_p (pc' := 168) (p_iload 5 (i := 6) (by decide +kernel) rfl) ?_
    refine r_p (pc' := 169) (p_iconst (n := 2) (v := 2) (by decide +kernel) rfl) ?_
    refine r_p (pc' := 170) (p_iload_n 2 (k := 2) (by decide +kernel) rfl) ?_
    refine r_callVU mvX11_256 (ctX8_put v38 v5 2 a2) (rcX8_put v38 v5 2 a2) ⟨_, _, rfl⟩ (as := [vi v5, vi 2, vi a2]) (st := []) rfl rfl (by decide +kernel) rfl (Nat.le_of_ble_eq_true rfl) (Nat.le_of_ble_eq_true rfl) fun s => ?_
    refine r_p (pc' := 174) (p_aload_n 0 (k := 0) (by decide +kernel) rfl) ?_
    refine r_gR flX11_54_10 (by decide +kernel) fun v39 => ?_
    refine r_gR flX11_191_1 (by decide +kernel) fun v40 => ?_
    refine r_p (pc' := 182) (p_iload 5 (i := 6) (by decide +kernel) rfl) ?_
    refine r_p (pc' := 183) (p_iconst (n := 3) (v := 3) (by decide +kernel) rfl) ?_
    refine r_p (pc' := 184) (p_iload_n 3 (k := 3) (by decide +kernel) rfl) ?_
    refine r_callVU mvX11_256 (ctX8_put v40 v5 3 a3) (rcX8_put v40 v5 3 a3) ⟨_, _, rfl⟩ (as := [vi v5, vi 3, vi a3]) (st := []) rfl rfl (by decide +kernel) rfl (Nat.le_of_ble_eq_true rfl) (Nat.le_of_ble_eq_true rfl) fun s => ?_
    refine r_p (pc' := 188) (p_aload_n 0 (k := 0) (by decide +kernel) rfl) ?_
    refine r_gR flX11_54_10 (by decide +kernel) fun v41 => ?_
    refine r_gR flX11_191_1 (by decide +kernel) fun v42 => ?_
    refine r_p (pc' := 196) (p_iload 5 (i := 6) (by decide +kernel) rfl) ?_
    refine r_p (pc' := 197) (p_iconst (n := 4) (v := 4) (by decide +kernel) rfl) ?_
    refine r_p (pc' := 199) (p_iload 4 (i := 5) (by decide +kernel) rfl) ?_
    refine r_p (pc' := 201) (p_bipush (n := 10) (v := 10) (by decide +kernel) (by decide +kernel)) ?_
    refine r_p (pc' := 202) (p_idiv (by decide +kernel) (by decide)) ?_
    refine r_callVU mvX11_256 (ctX8_put v42 v5 4 (v2 / 10)) (rcX8_put v42 v5 4 (v2 / 10)) ⟨_, _, rfl⟩ (as := [vi v5, vi 4, vi (v2 / 10)]) (st := []) rfl rfl (by decide +kernel) rfl (Nat.le_of_ble_eq_true rfl) (Nat.le_of_ble_eq_true rfl) fun s => ?_
    refine r_p (pc' := 206) (p_aload_n 0 (k := 0) (by decide +kernel) rfl) ?_
    refine r_gR flX11_54_10 (by decide +kernel) fun v43 => ?_
    refine r_gR flX11_191_1 (by decide +kernel) fun v44 => ?_
    refine r_p (pc' := 214) (p_iload 5 (i := 6) (by decide +kernel) rfl) ?_
    refine r_p (pc' := 215) (p_iconst (n := 5) (v := 5) (by decide +kernel) rfl) ?_
    refine r_p (pc' := 217) (p_iload 4 (i := 5) (by decide +kernel) rfl) ?_
    refine r_p (pc' := 219) (p_bipush (n := 10) (v := 10) (by decide +kernel) (by decide +kernel)) ?_
    refine r_p (pc' := 220) (p_irem (by decide +kernel) (by decide)) ?_
    refine r_callVU mvX11_256 (ctX8_put v44 v5 5 (v2 - v2 / 10 * 10)) (rcX8_put v44 v5 5 (v2 - v2 / 10 * 10)) ⟨_, _, rfl⟩ (as := [vi v5, vi 5, vi (v2 - v2 / 10 * 10)]) (st := []) rfl rfl (by decide +kernel) rfl (Nat.le_of_ble_eq_true rfl) (Nat.le_of_ble_eq_true rfl) fun s => ?_
    refine r_p (pc' := 224) (p_aload_n 0 (k := 0) (by decide +kernel) rfl) ?_
    refine r_gR flX11_54_10 (by decide +kernel) fun v45 => ?_
    refine r_gR flX11_191_1 (by decide +kernel) fun v46 => ?_
    refine r_p (pc' := 232) (p_iload 5 (i := 6) (by decide +kernel) rfl) ?_
    refine r_p (pc' := 234) (p_bipush (n := 6) (v := 6) (by decide +kernel) (by decide +kernel)) ?_
    refine r_p (pc' := 236) (p_iload 6 (i := 7) (by decide +kernel) rfl) ?_
    refine r_callVU mvX11_256 (ctX8_put v46 v5 6 e30) (rcX8_put v46 v5 6 e30) ⟨_, _, rfl⟩ (as := [vi v5, vi 6, vi e30]) (st := []) rfl rfl (by decide +kernel) rfl (Nat.le_of_ble_eq_true rfl) (Nat.le_of_ble_eq_true rfl) fun s => ?_
    refine r_p (pc' := 241) (p_iload 4 (i := 5) (by decide +kernel) rfl) ?_
    exact r_iret rfl rfl _ rfl rfl (by decide +kernel)
  · unfold mX11_commit_L29
    refine r_p (pc' := 31) (p_iload 8 (i := 8) (by decide +kernel) rfl) ?_
    refine r_p (pc' := 32) (p_iconst (n := 3) (v := 3) (by decide +kernel) rfl) ?_
    refine r_icmpge (off := 93) (tgt := 125) (by decide +kernel) (by decide) (fun h10 => ?_) (fun h10 => ?_)
    · refine r_sub (lv' := [(0, vr a0), (1, vi a1), (2, vi a2), (3, vi a3), (5, vi v2), (6, vi v5), (7, vi x6.1)]) [0, 1, 2, 3, 5, 6, 7] rfl ?_
      exact he9 x6.1 _
    · refine r_p (pc' := 36) (p_aload_n 0 (k := 0) (by decide +kernel) rfl) ?_
      refine r_gR flX11_54_10 (by decide +kernel) fun v11 => ?_
      refine r_gR flX11_160_1 (by decide +kernel) fun v12 => ?_
      refine r_p (pc' := 43) (p_iload_n 1 (k := 1) (by decide +kernel) rfl) ?_
      refine r_p (pc' := 45) (p_iload 8 (i := 8) (by decide +kernel) rfl) ?_
      refine r_callVI mvX11_151 (ctX8_get v12 a1 x6.2) (rcX8_get v12 a1 x6.2) ⟨_, _, rfl⟩ (as := [vi a1, vi x6.2]) (st := []) rfl rfl (by decide +kernel) rfl (Nat.le_of_ble_eq_true rfl) (Nat.le_of_ble_eq_true rfl) fun v13 s => ?_
      refine r_p (pc' := 50) (p_istore (i := 9) (lv' := [(9, vi v13), (0, vr a0), (1, vi a1), (2, vi a2), (3, vi a3), (4, vi a4), (5, vi v2), (6, vi v5), (7, vi x6.1), (8, vi x6.2)]) (by decide +kernel) (Nat.le_of_ble_eq_true rfl) rfl) ?_
      refine r_p (pc' := 52) (p_iload 0 (i := 9) (by decide +kernel) rfl) ?_
      refine r_p (pc' := 53) (p_iconst (n := -1) (v := -1) (by decide +kernel) rfl) ?_
      refine r_join 119 (fun (x15 : Int32) => [(0, vr a0), (1, vi a1), (2, vi a2), (3, vi a3), (4, vi a4), (5, vi v2), (6, vi v5), (7, vi x15), (8, vi x6.2)]) (fun (x15 : Int32) => []) (fun x15 s => ?_) (fun K16 hj17 => ?_)
      · refine r_p (pc' := 122) (p_iinc 8 (i := 8) (n := 1) (x := x6.2) (v := x6.2 + 1) (lv' := [(8, vi (x6.2 + 1)), (0, vr a0), (1, vi a1), (2, vi a2), (3, vi a3), (4, vi a4), (5, vi v2), (6, vi v5), (7, vi x15)]) (by decide +kernel) rfl rfl (Nat.le_of_ble_eq_true rfl) rfl) ?_
        refine r_p (pc' := 29) (p_goto (off := -93) (tgt := 29) (by decide +kernel) (by decide)) ?_
        refine r_sub (lv' := [(0, vr a0), (1, vi a1), (2, vi a2), (3, vi a3), (4, vi a4), (5, vi v2), (6, vi v5), (7, vi x15), (8, vi (x6.2 + 1))]) [1, 2, 3, 4, 5, 6, 7, 8, 0] rfl ?_
        exact hb8 (x15, x6.2 + 1) _
      · refine r_icmpeq (off := 66) (tgt := 119) (by decide +kernel) (by decide) (fun h14 => ?_) (fun h14 => ?_)
        · refine r_sub (lv' := [(0, vr a0), (1, vi a1), (2, vi a2), (3, vi a3), (4, vi a4), (5, vi v2), (6, vi v5), (7, vi x6.1), (8, vi x6.2)]) [1, 2, 3, 4, 5, 6, 7, 8, 9] rfl ?_
          exact hj17 x6.1 _
        · refine r_p (pc' := 58) (p_iload 8 (i := 7) (by decide +kernel) rfl) ?_
          refine r_p (pc' := 59) (p_iconst (n := 1) (v := 1) (by decide +kernel) rfl) ?_
          refine r_p (pc' := 61) (p_iload 0 (i := 9) (by decide +kernel) rfl) ?_
          refine r_p (pc' := 62) (p_ishl (by decide +kernel)) ?_
          refine r_p (pc' := 63) (p_ior (by decide +kernel)) ?_
          refine r_letI fun v18 => ?_
          refine r_p (pc' := 65) (p_istore (i := 7) (lv' := [(7, vi v18), (9, vi v13), (0, vr a0), (1, vi a1), (2, vi a2), (3, vi a3), (4, vi a4), (5, vi v2), (6, vi v5), (8, vi x6.2)]) (by decide +kernel) (Nat.le_of_ble_eq_true rfl) rfl) ?_
          refine r_p (pc' := 66) (p_aload_n 2 (k := 0) (by decide +kernel) rfl) ?_
          refine r_gR flX11_54_10 (by decide +kernel) fun v19 => ?_
          refine r_p (pc' := 71) (p_iload 1 (i := 9) (by decide +kernel) rfl) ?_
          refine r_p (pc' := 72) (p_aload_n 2 (k := 0) (by decide +kernel) rfl) ?_
          refine r_gR flX11_19_10 (by decide +kernel) fun v20 => ?_
          refine r_p (pc' := 77) (p_iload 9 (i := 8) (by decide +kernel) rfl) ?_
          refine r_p (pc' := 78) (p_iload_n 5 (k := 3) (by decide +kernel) rfl) ?_
          refine r_callVI mvX11_450 (ctX2_gain v20 x6.2 a3) (rcX2_gain v20 x6.2 a3) ⟨_, _, rfl⟩ (as := [vi x6.2, vi a3]) (st := [vi v13, vr v19]) rfl rfl (by decide +kernel) rfl (Nat.le_of_ble_eq_true rfl) (Nat.le_of_ble_eq_true rfl) fun v21 s => ?_
          refine r_p (pc' := 83) (p_iload 8 (i := 6) (by decide +kernel) rfl) ?_
          refine r_p (pc' := 84) (p_iconst (n := -1) (v := -1) (by decide +kernel) rfl) ?_
          refine r_callVU mvX11_453 (ctX1_blame v19 v13 v21 v5 (-1)) (rcX1_blame v19 v13 v21 v5 (-1)) ⟨_, _, rfl⟩ (as := [vi v13, vi v21, vi v5, vi (-1)]) (st := []) rfl rfl (by decide +kernel) rfl (Nat.le_of_ble_eq_true rfl) (Nat.le_of_ble_eq_true rfl) fun s => ?_
          refine r_p (pc' := 88) (p_aload_n 2 (k := 0) (by decide +kernel) rfl) ?_
          refine r_gR flX11_54_10 (by decide +kernel) fun v22 => ?_
          refine r_p (pc' := 93) (p_iload 1 (i := 9) (by decide +kernel) rfl) ?_
          refine r_p (pc' := 94) (p_aload_n 2 (k := 0) (by decide +kernel) rfl) ?_
          refine r_gR flX11_19_10 (by decide +kernel) fun v23 => ?_
          refine r_p (pc' := 99) (p_iload 9 (i := 8) (by decide +kernel) rfl) ?_
          refine r_callVI mvX11_456 (ctX2_blunt v23 x6.2) (rcX2_blunt v23 x6.2) ⟨_, _, rfl⟩ (as := [vi x6.2]) (st := [vi v13, vr v22]) rfl rfl (by decide +kernel) rfl (Nat.le_of_ble_eq_true rfl) (Nat.le_of_ble_eq_true rfl) fun v24 s => ?_
          refine r_p (pc' := 104) (p_iload 9 (i := 8) (by decide +kernel) rfl) ?_
          refine r_p (pc' := 105) (p_iconst (n := 1) (v := 1) (by decide +kernel) rfl) ?_
          refine r_join 114 (fun (x26 : Int32) => [(0, vr a0), (1, vi a1), (2, vi a2), (3, vi a3), (4, vi a4), (5, vi v2), (6, vi v5), (7, vi v18), (8, vi x6.2)]) (fun (x26 : Int32) => [vi x26, vi v24, vi v13, vr v22]) (fun x26 s => ?_) (fun K27 hj28 => ?_)
          · refine r_p (pc' := 115) (p_iadd (by decide +kernel)) ?_
            refine r_callVI mvX11_459 (ctX1_wearOff v22 v13 (v24 + x26)) (rcX1_wearOff v22 v13 (v24 + x26)) ⟨_, _, rfl⟩ (as := [vi v13, vi (v24 + x26)]) (st := []) rfl rfl (by decide +kernel) rfl (Nat.le_of_ble_eq_true rfl) (Nat.le_of_ble_eq_true rfl) fun v29 s => ?_
            refine r_p (pc' := 119) (p_pop rfl (by decide +kernel)) ?_
            exact hj17 v18 _
          · refine r_icmpne (off := 8) (tgt := 113) (by decide +kernel) (by decide) (fun h25 => ?_) (fun h25 => ?_)
            · refine r_p (pc' := 110) (p_iload 6 (i := 4) (by decide +kernel) rfl) ?_
              refine r_p (pc' := 114) (p_goto (off := 4) (tgt := 114) (by decide +kernel) (by decide)) ?_
              refine r_sub (lv' := [(0, vr a0), (1, vi a1), (2, vi a2), (3, vi a3), (4, vi a4), (5, vi v2), (6, vi v5), (7, vi v18), (8, vi x6.2)]) [2, 3, 4, 5, 6, 7, 8, 0, 9] rfl ?_
              exact hj28 a4 _
            · refine r_p (pc' := 114) (p_iconst (n := 0) (v := 0) (by decide +kernel) rfl) ?_
              refine r_sub (lv' := [(0, vr a0), (1, vi a1), (2, vi a2), (3, vi a3), (4, vi a4), (5, vi v2), (6, vi v5), (7, vi v18), (8, vi x6.2)]) [2, 3, 4, 5, 6, 7, 8, 0, 9] rfl ?_
              exact hj28 0 _
def aX11_deed : StA := (RX11, cX11_deed, 5, some .int, yX11_deed, 13, [])
theorem mvX11_187 : MV RX11 187 aX11_needDeed 4 := ⟨tblG_of 1268 (by decide +kernel) (by decide +kernel), tblG_of 1270 (by decide +kernel) (by decide +kernel), tblG_of 36 (by decide +kernel) (by decide +kernel), tblG_of 144 (by decide +kernel) (by decide +kernel), tblG_of 1271 (by decide +kernel) (by decide +kernel), rfl, ⟨by decide, by decide⟩, by decide +kernel, by decide⟩
theorem mvX11_194 : MV RX11 194 aX8_isFull 0 := ⟨tblG_of 1289 (by decide +kernel) (by decide +kernel), tblG_of 984 (by decide +kernel) (by decide +kernel), tblG_of 985 (by decide +kernel) (by decide +kernel), tblG_of 152 (by decide +kernel) (by decide +kernel), tblG_of 986 (by decide +kernel) (by decide +kernel), rfl, ⟨by decide, by decide⟩, by decide +kernel, by decide⟩
theorem mvX11_200 : MV RX11 200 aX6_keepAct 1 := ⟨tblG_of 1291 (by decide +kernel) (by decide +kernel), tblG_of 1292 (by decide +kernel) (by decide +kernel), tblG_of 1293 (by decide +kernel) (by decide +kernel), tblG_of 149 (by decide +kernel) (by decide +kernel), tblG_of 1294 (by decide +kernel) (by decide +kernel), rfl, ⟨by decide, by decide⟩, by decide +kernel, by decide⟩
theorem mvX11_203 : MV RX11 203 aX2_hearGuilt 5 := ⟨tblG_of 1295 (by decide +kernel) (by decide +kernel), tblG_of 1296 (by decide +kernel) (by decide +kernel), tblG_of 1297 (by decide +kernel) (by decide +kernel), tblG_of 146 (by decide +kernel) (by decide +kernel), tblG_of 1298 (by decide +kernel) (by decide +kernel), rfl, ⟨by decide, by decide⟩, by decide +kernel, by decide⟩
theorem mvX11_207 : MV RX11 207 aX2_hearWear 5 := ⟨tblG_of 1299 (by decide +kernel) (by decide +kernel), tblG_of 1300 (by decide +kernel) (by decide +kernel), tblG_of 1301 (by decide +kernel) (by decide +kernel), tblG_of 146 (by decide +kernel) (by decide +kernel), tblG_of 1302 (by decide +kernel) (by decide +kernel), rfl, ⟨by decide, by decide⟩, by decide +kernel, by decide⟩
theorem mvX11_210 : MV RX11 210 aX11_commit 4 := ⟨tblG_of 1303 (by decide +kernel) (by decide +kernel), tblG_of 1305 (by decide +kernel) (by decide +kernel), tblG_of 37 (by decide +kernel) (by decide +kernel), tblG_of 144 (by decide +kernel) (by decide +kernel), tblG_of 1306 (by decide +kernel) (by decide +kernel), rfl, ⟨by decide, by decide⟩, by decide +kernel, by decide⟩
theorem thX11_198_115 : TH RX11 111 198 115 1 "there are 60 DEEDS" 10 := ⟨by decide +kernel, tblG_of 1122 (by decide +kernel) (by decide +kernel), tblG_of 167 (by decide +kernel) (by decide +kernel), by decide +kernel, by decide +kernel, by decide +kernel⟩
noncomputable def mX11_deed (a0 : Nat) (a1 : Int32) (a2 : Int32) (a3 : Int32) (a4 : Int32) : MM Int32 := onC 10 a0 (
  mbnd (mX11_needDeed a0 a1 a2 a3 a4) fun _ =>
  mbnd (gR 10 7 a0) fun (v1 : Nat) =>
  mbnd (gR 1 3 v1) fun (v2 : Nat) =>
  mbnd (mX8_isFull v2) fun (v3 : Int32) =>
  if v3 = 0 then (
    mbnd (gR 10 6 a0) fun (v5 : Nat) =>
    mbnd (gR 10 7 a0) fun (v6 : Nat) =>
    mbnd (mX6_keepAct v5 v6) fun _ =>
    mbnd (gR 10 3 a0) fun (v7 : Nat) =>
    mbnd (gR 10 7 a0) fun (v8 : Nat) =>
    mbnd (mX2_hearGuilt v7 v8 a1 a2 a3 a4) fun _ =>
    mbnd (gR 10 3 a0) fun (v9 : Nat) =>
    mbnd (gR 10 7 a0) fun (v10 : Nat) =>
    mbnd (mX2_hearWear v9 v10 a1 a2 a3 a4) fun _ =>
    mbnd (mX11_commit a0 a1 a2 a3 a4) fun (v11 : Int32) =>
    mret v11
  ) else (
    mthr 1
  )
  )
theorem rcX11_deed (a0 : Nat) (a1 : Int32) (a2 : Int32) (a3 : Int32) (a4 : Int32) : Rcv 10 a0 (mX11_deed a0 a1 a2 a3 a4) := fun s r h => ⟨(onC_some h).1, (onC_some h).2.1⟩
set_option maxHeartbeats 4000000 in
set_option maxRecDepth 100000 in
theorem ctX11_deed (a0 : Nat) (a1 : Int32) (a2 : Int32) (a3 : Int32) (a4 : Int32) : Ct aX11_deed [vr a0, vi a1, vi a2, vi a3, vi a4] (mX11_deed a0 a1 a2 a3 a4) rI := by
  unfold mX11_deed
  refine ct_onC (ct_intro (by decide +kernel) rfl (Nat.le_of_ble_eq_true rfl) fun Y s => ?_)
  refine r_sub (lv' := [(0, vr a0), (1, vi a1), (2, vi a2), (3, vi a3), (4, vi a4)]) [0, 1, 2, 3, 4] rfl ?_
  refine r_p (pc' := 1) (p_aload_n 0 (k := 0) (by decide +kernel) rfl) ?_
  refine r_p (pc' := 2) (p_iload_n 1 (k := 1) (by decide +kernel) rfl) ?_
  refine r_p (pc' := 3) (p_iload_n 2 (k := 2) (by decide +kernel) rfl) ?_
  refine r_p (pc' := 4) (p_iload_n 3 (k := 3) (by decide +kernel) rfl) ?_
  refine r_p (pc' := 6) (p_iload 4 (i := 4) (by decide +kernel) rfl) ?_
  refine r_callVU mvX11_187 (ctX11_needDeed a0 a1 a2 a3 a4) (rcX11_needDeed a0 a1 a2 a3 a4) ⟨_, _, rfl⟩ (as := [vi a1, vi a2, vi a3, vi a4]) (st := []) rfl rfl (by decide +kernel) rfl (Nat.le_of_ble_eq_true rfl) (Nat.le_of_ble_eq_true rfl) fun s => ?_
  refine r_p (pc' := 10) (p_aload_n 0 (k := 0) (by decide +kernel) rfl) ?_
  refine r_gR flX11_54_10 (by decide +kernel) fun v1 => ?_
  refine r_gR flX11_191_1 (by decide +kernel) fun v2 => ?_
  refine r_callVI mvX11_194 (ctX8_isFull v2) (rcX8_isFull v2) ⟨_, _, rfl⟩ (as := []) (st := []) rfl rfl (by decide +kernel) rfl (Nat.le_of_ble_eq_true rfl) (Nat.le_of_ble_eq_true rfl) fun v3 s => ?_
  refine r_ifeq (off := 13) (tgt := 32) (by decide +kernel) (by decide) (fun h4 => ?_) (fun h4 => ?_)
  · refine r_p (pc' := 33) (p_aload_n 0 (k := 0) (by decide +kernel) rfl) ?_
    refine r_gR flX11_40_10 (by decide +kernel) fun v5 => ?_
    refine r_p (pc' := 37) (p_aload_n 0 (k := 0) (by decide +kernel) rfl) ?_
    refine r_gR flX11_54_10 (by decide +kernel) fun v6 => ?_
    refine r_callVU mvX11_200 (ctX6_keepAct v5 v6) (rcX6_keepAct v5 v6) ⟨_, _, rfl⟩ (as := [vr v6]) (st := []) rfl rfl (by decide +kernel) rfl (Nat.le_of_ble_eq_true rfl) (Nat.le_of_ble_eq_true rfl) fun s => ?_
    refine r_p (pc' := 44) (p_aload_n 0 (k := 0) (by decide +kernel) rfl) ?_
    refine r_gR flX11_19_10 (by decide +kernel) fun v7 => ?_
    refine r_p (pc' := 48) (p_aload_n 0 (k := 0) (by decide +kernel) rfl) ?_
    refine r_gR flX11_54_10 (by decide +kernel) fun v8 => ?_
    refine r_p (pc' := 52) (p_iload_n 1 (k := 1) (by decide +kernel) rfl) ?_
    refine r_p (pc' := 53) (p_iload_n 2 (k := 2) (by decide +kernel) rfl) ?_
    refine r_p (pc' := 54) (p_iload_n 3 (k := 3) (by decide +kernel) rfl) ?_
    refine r_p (pc' := 56) (p_iload 4 (i := 4) (by decide +kernel) rfl) ?_
    refine r_callVU mvX11_203 (ctX2_hearGuilt v7 v8 a1 a2 a3 a4) (rcX2_hearGuilt v7 v8 a1 a2 a3 a4) ⟨_, _, rfl⟩ (as := [vr v8, vi a1, vi a2, vi a3, vi a4]) (st := []) rfl rfl (by decide +kernel) rfl (Nat.le_of_ble_eq_true rfl) (Nat.le_of_ble_eq_true rfl) fun s => ?_
    refine r_p (pc' := 60) (p_aload_n 0 (k := 0) (by decide +kernel) rfl) ?_
    refine r_gR flX11_19_10 (by decide +kernel) fun v9 => ?_
    refine r_p (pc' := 64) (p_aload_n 0 (k := 0) (by decide +kernel) rfl) ?_
    refine r_gR flX11_54_10 (by decide +kernel) fun v10 => ?_
    refine r_p (pc' := 68) (p_iload_n 1 (k := 1) (by decide +kernel) rfl) ?_
    refine r_p (pc' := 69) (p_iload_n 2 (k := 2) (by decide +kernel) rfl) ?_
    refine r_p (pc' := 70) (p_iload_n 3 (k := 3) (by decide +kernel) rfl) ?_
    refine r_p (pc' := 72) (p_iload 4 (i := 4) (by decide +kernel) rfl) ?_
    refine r_callVU mvX11_207 (ctX2_hearWear v9 v10 a1 a2 a3 a4) (rcX2_hearWear v9 v10 a1 a2 a3 a4) ⟨_, _, rfl⟩ (as := [vr v10, vi a1, vi a2, vi a3, vi a4]) (st := []) rfl rfl (by decide +kernel) rfl (Nat.le_of_ble_eq_true rfl) (Nat.le_of_ble_eq_true rfl) fun s => ?_
    refine r_p (pc' := 76) (p_aload_n 0 (k := 0) (by decide +kernel) rfl) ?_
    refine r_p (pc' := 77) (p_iload_n 1 (k := 1) (by decide +kernel) rfl) ?_
    refine r_p (pc' := 78) (p_iload_n 2 (k := 2) (by decide +kernel) rfl) ?_
    refine r_p (pc' := 79) (p_iload_n 3 (k := 3) (by decide +kernel) rfl) ?_
    refine r_p (pc' := 81) (p_iload 4 (i := 4) (by decide +kernel) rfl) ?_
    refine r_callVI mvX11_210 (ctX11_commit a0 a1 a2 a3 a4) (rcX11_commit a0 a1 a2 a3 a4) ⟨_, _, rfl⟩ (as := [vi a1, vi a2, vi a3, vi a4]) (st := []) rfl rfl (by decide +kernel) rfl (Nat.le_of_ble_eq_true rfl) (Nat.le_of_ble_eq_true rfl) fun v11 s => ?_
    exact r_iret rfl rfl _ rfl rfl (by decide +kernel)
  · exact r_thr thX11_198_115 rfl (Nat.le_of_ble_eq_true rfl) (Nat.le_of_ble_eq_true rfl) (by decide +kernel) (by decide +kernel) (by decide +kernel) (by decide +kernel) (by decide +kernel)
def aX11_needSwap : StA := (RX11, cX11_needSwap, 3, none, yX11_needSwap, 10, [])
theorem thX11_430_250 : TH RX11 246 430 250 4 "both are none" 13 := ⟨by decide +kernel, tblG_of 1273 (by decide +kernel) (by decide +kernel), tblG_of 171 (by decide +kernel) (by decide +kernel), by decide +kernel, by decide +kernel, by decide +kernel⟩
theorem mvX11_264 : MV RX11 264 aX1_isNailed 1 := ⟨tblG_of 1350 (by decide +kernel) (by decide +kernel), tblG_of 632 (by decide +kernel) (by decide +kernel), tblG_of 633 (by decide +kernel) (by decide +kernel), tblG_of 151 (by decide +kernel) (by decide +kernel), tblG_of 634 (by decide +kernel) (by decide +kernel), rfl, ⟨by decide, by decide⟩, by decide +kernel, by decide⟩
theorem thX11_432_250 : TH RX11 246 432 250 4 "the PART there is NAILED" 14 := ⟨by decide +kernel, tblG_of 1273 (by decide +kernel) (by decide +kernel), tblG_of 171 (by decide +kernel) (by decide +kernel), by decide +kernel, by decide +kernel, by decide +kernel⟩
theorem thX11_434_250 : TH RX11 246 434 250 4 "the PART that comes is not SPARE" 15 := ⟨by decide +kernel, tblG_of 1273 (by decide +kernel) (by decide +kernel), tblG_of 171 (by decide +kernel) (by decide +kernel), by decide +kernel, by decide +kernel, by decide +kernel⟩
noncomputable def mX11_needSwap (a0 : Nat) (a1 : Int32) (a2 : Int32) : MM Unit := onC 10 a0 (
  mbnd (α := Unit) (
    if a1 = (-1) then (
      if a2 = (-1) then (
        mthr 4
      ) else (
        mret ()
      )
    ) else (
      mret ()
    )
  ) fun (x2 : Unit) =>
  mbnd (α := Unit) (
    if a1 = (-1) then (
      mret ()
    ) else (
      mbnd (gR 10 7 a0) fun (v10 : Nat) =>
      mbnd (mX1_isNailed v10 a1) fun (v11 : Int32) =>
      if v11 = 0 then (
        mret ()
      ) else (
        mthr 4
      )
    )
  ) fun (x7 : Unit) =>
  if a2 = (-1) then (
    mret ()
  ) else (
    mbnd (gR 10 7 a0) fun (v14 : Nat) =>
    mbnd (mX1_isSpare v14 a2) fun (v15 : Int32) =>
    if v15 = 0 then (
      mthr 4
    ) else (
      mret ()
    )
  )
  )
theorem rcX11_needSwap (a0 : Nat) (a1 : Int32) (a2 : Int32) : Rcv 10 a0 (mX11_needSwap a0 a1 a2) := fun s r h => ⟨(onC_some h).1, (onC_some h).2.1⟩
set_option maxHeartbeats 4000000 in
set_option maxRecDepth 100000 in
theorem ctX11_needSwap (a0 : Nat) (a1 : Int32) (a2 : Int32) : Ct aX11_needSwap [vr a0, vi a1, vi a2] (mX11_needSwap a0 a1 a2) rU := by
  unfold mX11_needSwap
  refine ct_onC (ct_intro (by decide +kernel) rfl (Nat.le_of_ble_eq_true rfl) fun Y s => ?_)
  refine r_sub (lv' := [(0, vr a0), (1, vi a1), (2, vi a2)]) [0, 1, 2] rfl ?_
  refine r_p (pc' := 1) (p_iload_n 1 (k := 1) (by decide +kernel) rfl) ?_
  refine r_p (pc' := 2) (p_iconst (n := -1) (v := -1) (by decide +kernel) rfl) ?_
  refine r_join 21 (fun (x2 : Unit) => [(0, vr a0), (1, vi a1), (2, vi a2)]) (fun (x2 : Unit) => []) (fun x2 s => ?_) (fun K3 hj4 => ?_)
  · refine r_p (pc' := 22) (p_iload_n 1 (k := 1) (by decide +kernel) rfl) ?_
    refine r_p (pc' := 23) (p_iconst (n := -1) (v := -1) (by decide +kernel) rfl) ?_
    refine r_join 48 (fun (x7 : Unit) => [(0, vr a0), (2, vi a2)]) (fun (x7 : Unit) => []) (fun x7 s => ?_) (fun K8 hj9 => ?_)
    · refine r_p (pc' := 49) (p_iload_n 1 (k := 2) (by decide +kernel) rfl) ?_
      refine r_p (pc' := 50) (p_iconst (n := -1) (v := -1) (by decide +kernel) rfl) ?_
      refine r_icmpeq (off := 25) (tgt := 75) (by decide +kernel) (by decide) (fun h13 => ?_) (fun h13 => ?_)
      · exact r_vret (y9 := ()) rfl rfl rfl (by decide +kernel)
      · refine r_p (pc' := 54) (p_aload_n 0 (k := 0) (by decide +kernel) rfl) ?_
        refine r_gR flX11_54_10 (by decide +kernel) fun v14 => ?_
        refine r_p (pc' := 58) (p_iload_n 1 (k := 2) (by decide +kernel) rfl) ?_
        refine r_callVI mvX11_259 (ctX1_isSpare v14 a2) (rcX1_isSpare v14 a2) ⟨_, _, rfl⟩ (as := [vi a2]) (st := []) rfl rfl (by decide +kernel) rfl (Nat.le_of_ble_eq_true rfl) (Nat.le_of_ble_eq_true rfl) fun v15 s => ?_
        refine r_ifne (off := 14) (tgt := 75) (by decide +kernel) (by decide) (fun h16 => ?_) (fun h16 => ?_)
        · exact r_thrw thX11_434_250 rfl (Nat.le_of_ble_eq_true rfl) (Nat.le_of_ble_eq_true rfl) (by decide +kernel) (by decide +kernel) (by decide +kernel) (by decide +kernel) (by decide +kernel)
        · exact r_vret (y9 := ()) rfl rfl rfl (by decide +kernel)
    · refine r_icmpeq (off := 25) (tgt := 48) (by decide +kernel) (by decide) (fun h6 => ?_) (fun h6 => ?_)
      · refine r_sub (lv' := [(0, vr a0), (2, vi a2)]) [0, 2] rfl ?_
        exact hj9 () _
      · refine r_p (pc' := 27) (p_aload_n 0 (k := 0) (by decide +kernel) rfl) ?_
        refine r_gR flX11_54_10 (by decide +kernel) fun v10 => ?_
        refine r_p (pc' := 31) (p_iload_n 1 (k := 1) (by decide +kernel) rfl) ?_
        refine r_callVI mvX11_264 (ctX1_isNailed v10 a1) (rcX1_isNailed v10 a1) ⟨_, _, rfl⟩ (as := [vi a1]) (st := []) rfl rfl (by decide +kernel) rfl (Nat.le_of_ble_eq_true rfl) (Nat.le_of_ble_eq_true rfl) fun v11 s => ?_
        refine r_ifeq (off := 14) (tgt := 48) (by decide +kernel) (by decide) (fun h12 => ?_) (fun h12 => ?_)
        · refine r_sub (lv' := [(0, vr a0), (2, vi a2)]) [0, 2] rfl ?_
          exact hj9 () _
        · exact r_thrw thX11_432_250 rfl (Nat.le_of_ble_eq_true rfl) (Nat.le_of_ble_eq_true rfl) (by decide +kernel) (by decide +kernel) (by decide +kernel) (by decide +kernel) (by decide +kernel)
  · refine r_icmpne (off := 19) (tgt := 21) (by decide +kernel) (by decide) (fun h1 => ?_) (fun h1 => ?_)
    · refine r_p (pc' := 6) (p_iload_n 2 (k := 2) (by decide +kernel) rfl) ?_
      refine r_p (pc' := 7) (p_iconst (n := -1) (v := -1) (by decide +kernel) rfl) ?_
      refine r_icmpne (off := 14) (tgt := 21) (by decide +kernel) (by decide) (fun h5 => ?_) (fun h5 => ?_)
      · exact r_thrw thX11_430_250 rfl (Nat.le_of_ble_eq_true rfl) (Nat.le_of_ble_eq_true rfl) (by decide +kernel) (by decide +kernel) (by decide +kernel) (by decide +kernel) (by decide +kernel)
      · exact hj4 () _
    · exact hj4 () _
def aX11_swap : StA := (RX11, cX11_swap, 6, some .int, yX11_swap, 13, [])
theorem thX11_216_218 : TH RX11 214 216 218 2 "there is no such SORT" 11 := ⟨by decide +kernel, tblG_of 1183 (by decide +kernel) (by decide +kernel), tblG_of 169 (by decide +kernel) (by decide +kernel), by decide +kernel, by decide +kernel, by decide +kernel⟩
theorem thX11_219_105 : TH RX11 101 219 105 0 "the PART is of another SORT" 12 := ⟨by decide +kernel, tblG_of 1052 (by decide +kernel) (by decide +kernel), tblG_of 166 (by decide +kernel) (by decide +kernel), by decide +kernel, by decide +kernel, by decide +kernel⟩
theorem mvX11_221 : MV RX11 221 aX11_needSwap 2 := ⟨tblG_of 1345 (by decide +kernel) (by decide +kernel), tblG_of 1347 (by decide +kernel) (by decide +kernel), tblG_of 38 (by decide +kernel) (by decide +kernel), tblG_of 144 (by decide +kernel) (by decide +kernel), tblG_of 1348 (by decide +kernel) (by decide +kernel), rfl, ⟨by decide, by decide⟩, by decide +kernel, by decide⟩
theorem mvX11_224 : MV RX11 224 aX2_inherited 2 := ⟨tblG_of 1353 (by decide +kernel) (by decide +kernel), tblG_of 636 (by decide +kernel) (by decide +kernel), tblG_of 637 (by decide +kernel) (by decide +kernel), tblG_of 146 (by decide +kernel) (by decide +kernel), tblG_of 638 (by decide +kernel) (by decide +kernel), rfl, ⟨by decide, by decide⟩, by decide +kernel, by decide⟩
theorem mvX11_228 : MV RX11 228 aX1_take 1 := ⟨tblG_of 1354 (by decide +kernel) (by decide +kernel), tblG_of 1355 (by decide +kernel) (by decide +kernel), tblG_of 1356 (by decide +kernel) (by decide +kernel), tblG_of 151 (by decide +kernel) (by decide +kernel), tblG_of 1357 (by decide +kernel) (by decide +kernel), rfl, ⟨by decide, by decide⟩, by decide +kernel, by decide⟩
theorem mvX11_231 : MV RX11 231 aX1_place 3 := ⟨tblG_of 1358 (by decide +kernel) (by decide +kernel), tblG_of 1023 (by decide +kernel) (by decide +kernel), tblG_of 1024 (by decide +kernel) (by decide +kernel), tblG_of 151 (by decide +kernel) (by decide +kernel), tblG_of 1025 (by decide +kernel) (by decide +kernel), rfl, ⟨by decide, by decide⟩, by decide +kernel, by decide⟩
theorem mvX11_235 : MV RX11 235 aX1_passOn 3 := ⟨tblG_of 1359 (by decide +kernel) (by decide +kernel), tblG_of 1360 (by decide +kernel) (by decide +kernel), tblG_of 1361 (by decide +kernel) (by decide +kernel), tblG_of 151 (by decide +kernel) (by decide +kernel), tblG_of 1362 (by decide +kernel) (by decide +kernel), rfl, ⟨by decide, by decide⟩, by decide +kernel, by decide⟩
noncomputable def mX11_swap (a0 : Nat) (a1 : Int32) (a2 : Int32) (a3 : Int32) : MM Int32 := onC 10 a0 (
  mbnd (mX11_needTool a0 a1) fun _ =>
  if a2 < 0 then (
    mthr 2
  ) else (
    if a2 < 3 then (
      mbnd (α := Unit) (
        if a3 = (-1) then (
          mret ()
        ) else (
          mbnd (mX11_needPart a0 a3) fun _ =>
          mbnd (gR 10 7 a0) fun (v7 : Nat) =>
          mbnd (gR 1 0 v7) fun (v8 : Nat) =>
          mbnd (mX8_get v8 a3 0) fun (v9 : Int32) =>
          if v9 = a2 then (
            mret ()
          ) else (
            mthr 0
          )
        )
      ) fun (x4 : Unit) =>
      mbnd (gR 10 7 a0) fun (v11 : Nat) =>
      mbnd (gR 1 1 v11) fun (v12 : Nat) =>
      mbnd (mX8_get v12 a1 a2) fun (v13 : Int32) =>
      mbnd (mX11_needSwap a0 v13 a3) fun _ =>
      mbnd (gR 10 6 a0) fun (v14 : Nat) =>
      mbnd (gR 10 7 a0) fun (v15 : Nat) =>
      mbnd (mX6_keepAct v14 v15) fun _ =>
      mbnd (α := Int32) (
        if v13 = (-1) then (
          mret 0
        ) else (
          if a3 = (-1) then (
            mret 0
          ) else (
            mbnd (gR 10 3 a0) fun (v21 : Nat) =>
            mbnd (gR 10 7 a0) fun (v22 : Nat) =>
            mbnd (mX2_inherited v21 v22 v13) fun (v23 : Int32) =>
            mret v23
          )
        )
      ) fun (x17 : Int32) =>
      mbnd (gR 10 7 a0) fun (v24 : Nat) =>
      mbnd (mX1_take v24 v13) fun _ =>
      mbnd (gR 10 7 a0) fun (v25 : Nat) =>
      mbnd (mX1_place v25 a1 a2 a3) fun _ =>
      mbnd (gR 10 7 a0) fun (v26 : Nat) =>
      mbnd (mX1_passOn v26 v13 a3 x17) fun _ =>
      mret x17
    ) else (
      mthr 2
    )
  )
  )
theorem rcX11_swap (a0 : Nat) (a1 : Int32) (a2 : Int32) (a3 : Int32) : Rcv 10 a0 (mX11_swap a0 a1 a2 a3) := fun s r h => ⟨(onC_some h).1, (onC_some h).2.1⟩
set_option maxHeartbeats 4000000 in
set_option maxRecDepth 100000 in
theorem ctX11_swap (a0 : Nat) (a1 : Int32) (a2 : Int32) (a3 : Int32) : Ct aX11_swap [vr a0, vi a1, vi a2, vi a3] (mX11_swap a0 a1 a2 a3) rI := by
  unfold mX11_swap
  refine ct_onC (ct_intro (by decide +kernel) rfl (Nat.le_of_ble_eq_true rfl) fun Y s => ?_)
  refine r_sub (lv' := [(0, vr a0), (1, vi a1), (2, vi a2), (3, vi a3)]) [0, 1, 2, 3] rfl ?_
  refine r_p (pc' := 1) (p_aload_n 0 (k := 0) (by decide +kernel) rfl) ?_
  refine r_p (pc' := 2) (p_iload_n 1 (k := 1) (by decide +kernel) rfl) ?_
  refine r_callVU mvX11_157 (ctX11_needTool a0 a1) (rcX11_needTool a0 a1) ⟨_, _, rfl⟩ (as := [vi a1]) (st := []) rfl rfl (by decide +kernel) rfl (Nat.le_of_ble_eq_true rfl) (Nat.le_of_ble_eq_true rfl) fun s => ?_
  refine r_p (pc' := 6) (p_iload_n 2 (k := 2) (by decide +kernel) rfl) ?_
  refine r_iflt (off := 8) (tgt := 14) (by decide +kernel) (by decide) (fun h1 => ?_) (fun h1 => ?_)
  · exact r_thr thX11_216_218 rfl (Nat.le_of_ble_eq_true rfl) (Nat.le_of_ble_eq_true rfl) (by decide +kernel) (by decide +kernel) (by decide +kernel) (by decide +kernel) (by decide +kernel)
  · refine r_p (pc' := 10) (p_iload_n 2 (k := 2) (by decide +kernel) rfl) ?_
    refine r_p (pc' := 11) (p_iconst (n := 3) (v := 3) (by decide +kernel) rfl) ?_
    refine r_icmplt (off := 13) (tgt := 24) (by decide +kernel) (by decide) (fun h2 => ?_) (fun h2 => ?_)
    · refine r_p (pc' := 25) (p_iload_n 3 (k := 3) (by decide +kernel) rfl) ?_
      refine r_p (pc' := 26) (p_iconst (n := -1) (v := -1) (by decide +kernel) rfl) ?_
      refine r_join 60 (fun (x4 : Unit) => [(0, vr a0), (1, vi a1), (2, vi a2), (3, vi a3)]) (fun (x4 : Unit) => []) (fun x4 s => ?_) (fun K5 hj6 => ?_)
      · refine r_p (pc' := 61) (p_aload_n 0 (k := 0) (by decide +kernel) rfl) ?_
        refine r_gR flX11_54_10 (by decide +kernel) fun v11 => ?_
        refine r_gR flX11_160_1 (by decide +kernel) fun v12 => ?_
        refine r_p (pc' := 68) (p_iload_n 1 (k := 1) (by decide +kernel) rfl) ?_
        refine r_p (pc' := 69) (p_iload_n 2 (k := 2) (by decide +kernel) rfl) ?_
        refine r_callVI mvX11_151 (ctX8_get v12 a1 a2) (rcX8_get v12 a1 a2) ⟨_, _, rfl⟩ (as := [vi a1, vi a2]) (st := []) rfl rfl (by decide +kernel) rfl (Nat.le_of_ble_eq_true rfl) (Nat.le_of_ble_eq_true rfl) fun v13 s => ?_
        refine r_p (pc' := 74) (p_istore (i := 4) (lv' := [(4, vi v13), (0, vr a0), (1, vi a1), (2, vi a2), (3, vi a3)]) (by decide +kernel) (Nat.le_of_ble_eq_true rfl) rfl) ?_
        refine r_p (pc' := 75) (p_aload_n 1 (k := 0) (by decide +kernel) rfl) ?_
        refine r_p (pc' := 77) (p_iload 0 (i := 4) (by decide +kernel) rfl) ?_
        refine r_p (pc' := 78) (p_iload_n 4 (k := 3) (by decide +kernel) rfl) ?_
        refine r_callVU mvX11_221 (ctX11_needSwap a0 v13 a3) (rcX11_needSwap a0 v13 a3) ⟨_, _, rfl⟩ (as := [vi v13, vi a3]) (st := []) rfl rfl (by decide +kernel) rfl (Nat.le_of_ble_eq_true rfl) (Nat.le_of_ble_eq_true rfl) fun s => ?_
        refine r_p (pc' := 82) (p_aload_n 1 (k := 0) (by decide +kernel) rfl) ?_
        refine r_gR flX11_40_10 (by decide +kernel) fun v14 => ?_
        refine r_p (pc' := 86) (p_aload_n 1 (k := 0) (by decide +kernel) rfl) ?_
        refine r_gR flX11_54_10 (by decide +kernel) fun v15 => ?_
        refine r_callVU mvX11_200 (ctX6_keepAct v14 v15) (rcX6_keepAct v14 v15) ⟨_, _, rfl⟩ (as := [vr v15]) (st := []) rfl rfl (by decide +kernel) rfl (Nat.le_of_ble_eq_true rfl) (Nat.le_of_ble_eq_true rfl) fun s => ?_
        refine r_p (pc' := 94) (p_iload 0 (i := 4) (by decide +kernel) rfl) ?_
        refine r_p (pc' := 95) (p_iconst (n := -1) (v := -1) (by decide +kernel) rfl) ?_
        refine r_join 120 (fun (x17 : Int32) => [(0, vr a0), (1, vi a1), (2, vi a2), (3, vi a3), (4, vi v13)]) (fun (x17 : Int32) => [vi x17]) (fun x17 s => ?_) (fun K18 hj19 => ?_)
        · refine r_p (pc' := 122) (p_istore (i := 5) (lv' := [(5, vi x17), (0, vr a0), (1, vi a1), (2, vi a2), (3, vi a3), (4, vi v13)]) (by decide +kernel) (Nat.le_of_ble_eq_true rfl) rfl) ?_
          refine r_p (pc' := 123) (p_aload_n 1 (k := 0) (by decide +kernel) rfl) ?_
          refine r_gR flX11_54_10 (by decide +kernel) fun v24 => ?_
          refine r_p (pc' := 128) (p_iload 5 (i := 4) (by decide +kernel) rfl) ?_
          refine r_callVU mvX11_228 (ctX1_take v24 v13) (rcX1_take v24 v13) ⟨_, _, rfl⟩ (as := [vi v13]) (st := []) rfl rfl (by decide +kernel) rfl (Nat.le_of_ble_eq_true rfl) (Nat.le_of_ble_eq_true rfl) fun s => ?_
          refine r_p (pc' := 132) (p_aload_n 1 (k := 0) (by decide +kernel) rfl) ?_
          refine r_gR flX11_54_10 (by decide +kernel) fun v25 => ?_
          refine r_p (pc' := 136) (p_iload_n 2 (k := 1) (by decide +kernel) rfl) ?_
          refine r_p (pc' := 137) (p_iload_n 3 (k := 2) (by decide +kernel) rfl) ?_
          refine r_p (pc' := 138) (p_iload_n 4 (k := 3) (by decide +kernel) rfl) ?_
          refine r_callVU mvX11_231 (ctX1_place v25 a1 a2 a3) (rcX1_place v25 a1 a2 a3) ⟨_, _, rfl⟩ (as := [vi a1, vi a2, vi a3]) (st := []) rfl rfl (by decide +kernel) rfl (Nat.le_of_ble_eq_true rfl) (Nat.le_of_ble_eq_true rfl) fun s => ?_
          refine r_p (pc' := 142) (p_aload_n 1 (k := 0) (by decide +kernel) rfl) ?_
          refine r_gR flX11_54_10 (by decide +kernel) fun v26 => ?_
          refine r_p (pc' := 147) (p_iload 5 (i := 4) (by decide +kernel) rfl) ?_
          refine r_p (pc' := 148) (p_iload_n 4 (k := 3) (by decide +kernel) rfl) ?_
          refine r_p (pc' := 150) (p_iload 0 (i := 5) (by decide +kernel) rfl) ?_
          refine r_callVU mvX11_235 (ctX1_passOn v26 v13 a3 x17) (rcX1_passOn v26 v13 a3 x17) ⟨_, _, rfl⟩ (as := [vi v13, vi a3, vi x17]) (st := []) rfl rfl (by decide +kernel) rfl (Nat.le_of_ble_eq_true rfl) (Nat.le_of_ble_eq_true rfl) fun s => ?_
          refine r_p (pc' := 155) (p_iload 0 (i := 5) (by decide +kernel) rfl) ?_
          exact r_iret rfl rfl _ rfl rfl (by decide +kernel)
        · refine r_icmpeq (off := 8) (tgt := 103) (by decide +kernel) (by decide) (fun h16 => ?_) (fun h16 => ?_)
          · refine r_p (pc' := 104) (p_iconst (n := 0) (v := 0) (by decide +kernel) rfl) ?_
            refine r_p (pc' := 120) (p_goto (off := 16) (tgt := 120) (by decide +kernel) (by decide)) ?_
            refine r_sub (lv' := [(0, vr a0), (1, vi a1), (2, vi a2), (3, vi a3), (4, vi v13)]) [1, 2, 3, 4, 0] rfl ?_
            exact hj19 0 _
          · refine r_p (pc' := 99) (p_iload_n 4 (k := 3) (by decide +kernel) rfl) ?_
            refine r_p (pc' := 100) (p_iconst (n := -1) (v := -1) (by decide +kernel) rfl) ?_
            refine r_icmpne (off := 7) (tgt := 107) (by decide +kernel) (by decide) (fun h20 => ?_) (fun h20 => ?_)
            · refine r_p (pc' := 104) (p_iconst (n := 0) (v := 0) (by decide +kernel) rfl) ?_
              refine r_p (pc' := 120) (p_goto (off := 16) (tgt := 120) (by decide +kernel) (by decide)) ?_
              refine r_sub (lv' := [(0, vr a0), (1, vi a1), (2, vi a2), (3, vi a3), (4, vi v13)]) [1, 2, 3, 4, 0] rfl ?_
              exact hj19 0 _
            · refine r_p (pc' := 108) (p_aload_n 1 (k := 0) (by decide +kernel) rfl) ?_
              refine r_gR flX11_19_10 (by decide +kernel) fun v21 => ?_
              refine r_p (pc' := 112) (p_aload_n 1 (k := 0) (by decide +kernel) rfl) ?_
              refine r_gR flX11_54_10 (by decide +kernel) fun v22 => ?_
              refine r_p (pc' := 117) (p_iload 0 (i := 4) (by decide +kernel) rfl) ?_
              refine r_callVI mvX11_224 (ctX2_inherited v21 v22 v13) (rcX2_inherited v21 v22 v13) ⟨_, _, rfl⟩ (as := [vr v22, vi v13]) (st := []) rfl rfl (by decide +kernel) rfl (Nat.le_of_ble_eq_true rfl) (Nat.le_of_ble_eq_true rfl) fun v23 s => ?_
              refine r_sub (lv' := [(0, vr a0), (1, vi a1), (2, vi a2), (3, vi a3), (4, vi v13)]) [1, 2, 3, 4, 0] rfl ?_
              exact hj19 v23 _
      · refine r_icmpeq (off := 34) (tgt := 60) (by decide +kernel) (by decide) (fun h3 => ?_) (fun h3 => ?_)
        · exact hj6 () _
        · refine r_p (pc' := 30) (p_aload_n 0 (k := 0) (by decide +kernel) rfl) ?_
          refine r_p (pc' := 31) (p_iload_n 3 (k := 3) (by decide +kernel) rfl) ?_
          refine r_callVU mvX11_136 (ctX11_needPart a0 a3) (rcX11_needPart a0 a3) ⟨_, _, rfl⟩ (as := [vi a3]) (st := []) rfl rfl (by decide +kernel) rfl (Nat.le_of_ble_eq_true rfl) (Nat.le_of_ble_eq_true rfl) fun s => ?_
          refine r_p (pc' := 35) (p_aload_n 0 (k := 0) (by decide +kernel) rfl) ?_
          refine r_gR flX11_54_10 (by decide +kernel) fun v7 => ?_
          refine r_gR flX11_147_1 (by decide +kernel) fun v8 => ?_
          refine r_p (pc' := 42) (p_iload_n 3 (k := 3) (by decide +kernel) rfl) ?_
          refine r_p (pc' := 43) (p_iconst (n := 0) (v := 0) (by decide +kernel) rfl) ?_
          refine r_callVI mvX11_151 (ctX8_get v8 a3 0) (rcX8_get v8 a3 0) ⟨_, _, rfl⟩ (as := [vi a3, vi 0]) (st := []) rfl rfl (by decide +kernel) rfl (Nat.le_of_ble_eq_true rfl) (Nat.le_of_ble_eq_true rfl) fun v9 s => ?_
          refine r_p (pc' := 47) (p_iload_n 2 (k := 2) (by decide +kernel) rfl) ?_
          refine r_icmpeq (off := 13) (tgt := 60) (by decide +kernel) (by decide) (fun h10 => ?_) (fun h10 => ?_)
          · exact hj6 () _
          · exact r_thr thX11_219_105 rfl (Nat.le_of_ble_eq_true rfl) (Nat.le_of_ble_eq_true rfl) (by decide +kernel) (by decide +kernel) (by decide +kernel) (by decide +kernel) (by decide +kernel)
    · exact r_thr thX11_216_218 rfl (Nat.le_of_ble_eq_true rfl) (Nat.le_of_ble_eq_true rfl) (by decide +kernel) (by decide +kernel) (by decide +kernel) (by decide +kernel) (by decide +kernel)
def aX11_serve : StA := (RX11, cX11_serve, 3, some .int, yX11_serve, 12, [])
theorem thX11_238_105 : TH RX11 101 238 105 0 "the days are none" 16 := ⟨by decide +kernel, tblG_of 1052 (by decide +kernel) (by decide +kernel), tblG_of 166 (by decide +kernel) (by decide +kernel), by decide +kernel, by decide +kernel, by decide +kernel⟩
theorem mvX11_240 : MV RX11 240 aX1_workOff 2 := ⟨tblG_of 1372 (by decide +kernel) (by decide +kernel), tblG_of 1373 (by decide +kernel) (by decide +kernel), tblG_of 1374 (by decide +kernel) (by decide +kernel), tblG_of 151 (by decide +kernel) (by decide +kernel), tblG_of 1375 (by decide +kernel) (by decide +kernel), rfl, ⟨by decide, by decide⟩, by decide +kernel, by decide⟩
noncomputable def mX11_serve (a0 : Nat) (a1 : Int32) (a2 : Int32) : MM Int32 := onC 10 a0 (
  mbnd (mX11_needTool a0 a1) fun _ =>
  if a2 < 1 then (
    mthr 0
  ) else (
    if a2 ≤ 99 then (
      mbnd (gR 10 6 a0) fun (v3 : Nat) =>
      mbnd (gR 10 7 a0) fun (v4 : Nat) =>
      mbnd (mX6_keepAct v3 v4) fun _ =>
      mbnd (gR 10 7 a0) fun (v5 : Nat) =>
      mbnd (mX1_workOff v5 a1 (a2 * 10)) fun (v6 : Int32) =>
      mret v6
    ) else (
      mthr 0
    )
  )
  )
theorem rcX11_serve (a0 : Nat) (a1 : Int32) (a2 : Int32) : Rcv 10 a0 (mX11_serve a0 a1 a2) := fun s r h => ⟨(onC_some h).1, (onC_some h).2.1⟩
set_option maxHeartbeats 4000000 in
set_option maxRecDepth 100000 in
theorem ctX11_serve (a0 : Nat) (a1 : Int32) (a2 : Int32) : Ct aX11_serve [vr a0, vi a1, vi a2] (mX11_serve a0 a1 a2) rI := by
  unfold mX11_serve
  refine ct_onC (ct_intro (by decide +kernel) rfl (Nat.le_of_ble_eq_true rfl) fun Y s => ?_)
  refine r_sub (lv' := [(0, vr a0), (1, vi a1), (2, vi a2)]) [0, 1, 2] rfl ?_
  refine r_p (pc' := 1) (p_aload_n 0 (k := 0) (by decide +kernel) rfl) ?_
  refine r_p (pc' := 2) (p_iload_n 1 (k := 1) (by decide +kernel) rfl) ?_
  refine r_callVU mvX11_157 (ctX11_needTool a0 a1) (rcX11_needTool a0 a1) ⟨_, _, rfl⟩ (as := [vi a1]) (st := []) rfl rfl (by decide +kernel) rfl (Nat.le_of_ble_eq_true rfl) (Nat.le_of_ble_eq_true rfl) fun s => ?_
  refine r_p (pc' := 6) (p_iload_n 2 (k := 2) (by decide +kernel) rfl) ?_
  refine r_p (pc' := 7) (p_iconst (n := 1) (v := 1) (by decide +kernel) rfl) ?_
  refine r_icmplt (off := 9) (tgt := 16) (by decide +kernel) (by decide) (fun h1 => ?_) (fun h1 => ?_)
  · exact r_thr thX11_238_105 rfl (Nat.le_of_ble_eq_true rfl) (Nat.le_of_ble_eq_true rfl) (by decide +kernel) (by decide +kernel) (by decide +kernel) (by decide +kernel) (by decide +kernel)
  · refine r_p (pc' := 11) (p_iload_n 2 (k := 2) (by decide +kernel) rfl) ?_
    refine r_p (pc' := 13) (p_bipush (n := 99) (v := 99) (by decide +kernel) (by decide +kernel)) ?_
    refine r_icmple (off := 13) (tgt := 26) (by decide +kernel) (by decide) (fun h2 => ?_) (fun h2 => ?_)
    · refine r_p (pc' := 27) (p_aload_n 0 (k := 0) (by decide +kernel) rfl) ?_
      refine r_gR flX11_40_10 (by decide +kernel) fun v3 => ?_
      refine r_p (pc' := 31) (p_aload_n 0 (k := 0) (by decide +kernel) rfl) ?_
      refine r_gR flX11_54_10 (by decide +kernel) fun v4 => ?_
      refine r_callVU mvX11_200 (ctX6_keepAct v3 v4) (rcX6_keepAct v3 v4) ⟨_, _, rfl⟩ (as := [vr v4]) (st := []) rfl rfl (by decide +kernel) rfl (Nat.le_of_ble_eq_true rfl) (Nat.le_of_ble_eq_true rfl) fun s => ?_
      refine r_p (pc' := 38) (p_aload_n 0 (k := 0) (by decide +kernel) rfl) ?_
      refine r_gR flX11_54_10 (by decide +kernel) fun v5 => ?_
      refine r_p (pc' := 42) (p_iload_n 1 (k := 1) (by decide +kernel) rfl) ?_
      refine r_p (pc' := 43) (p_iload_n 2 (k := 2) (by decide +kernel) rfl) ?_
      refine r_p (pc' := 45) (p_bipush (n := 10) (v := 10) (by decide +kernel) (by decide +kernel)) ?_
      refine r_p (pc' := 46) (p_imul (by decide +kernel)) ?_
      refine r_callVI mvX11_240 (ctX1_workOff v5 a1 (a2 * 10)) (rcX1_workOff v5 a1 (a2 * 10)) ⟨_, _, rfl⟩ (as := [vi a1, vi (a2 * 10)]) (st := []) rfl rfl (by decide +kernel) rfl (Nat.le_of_ble_eq_true rfl) (Nat.le_of_ble_eq_true rfl) fun v6 s => ?_
      exact r_iret rfl rfl _ rfl rfl (by decide +kernel)
    · exact r_thr thX11_238_105 rfl (Nat.le_of_ble_eq_true rfl) (Nat.le_of_ble_eq_true rfl) (by decide +kernel) (by decide +kernel) (by decide +kernel) (by decide +kernel) (by decide +kernel)
def aX11_needHeadPart : StA := (RX11, cX11_needHeadPart, 2, none, yX11_needHeadPart, 9, [])
theorem thX11_424_105 : TH RX11 101 424 105 0 "the PART is no head" 17 := ⟨by decide +kernel, tblG_of 1052 (by decide +kernel) (by decide +kernel), tblG_of 166 (by decide +kernel) (by decide +kernel), by decide +kernel, by decide +kernel, by decide +kernel⟩
noncomputable def mX11_needHeadPart (a0 : Nat) (a1 : Int32) : MM Unit := onC 10 a0 (
  mbnd (gR 10 7 a0) fun (v1 : Nat) =>
  mbnd (gR 1 0 v1) fun (v2 : Nat) =>
  mbnd (mX8_get v2 a1 0) fun (v3 : Int32) =>
  if v3 = 1 then (
    mret ()
  ) else (
    mthr 0
  )
  )
theorem rcX11_needHeadPart (a0 : Nat) (a1 : Int32) : Rcv 10 a0 (mX11_needHeadPart a0 a1) := fun s r h => ⟨(onC_some h).1, (onC_some h).2.1⟩
set_option maxHeartbeats 4000000 in
set_option maxRecDepth 100000 in
theorem ctX11_needHeadPart (a0 : Nat) (a1 : Int32) : Ct aX11_needHeadPart [vr a0, vi a1] (mX11_needHeadPart a0 a1) rU := by
  unfold mX11_needHeadPart
  refine ct_onC (ct_intro (by decide +kernel) rfl (Nat.le_of_ble_eq_true rfl) fun Y s => ?_)
  refine r_sub (lv' := [(0, vr a0), (1, vi a1)]) [0, 1] rfl ?_
  refine r_p (pc' := 1) (p_aload_n 0 (k := 0) (by decide +kernel) rfl) ?_
  refine r_gR flX11_54_10 (by decide +kernel) fun v1 => ?_
  refine r_gR flX11_147_1 (by decide +kernel) fun v2 => ?_
  refine r_p (pc' := 8) (p_iload_n 1 (k := 1) (by decide +kernel) rfl) ?_
  refine r_p (pc' := 9) (p_iconst (n := 0) (v := 0) (by decide +kernel) rfl) ?_
  refine r_callVI mvX11_151 (ctX8_get v2 a1 0) (rcX8_get v2 a1 0) ⟨_, _, rfl⟩ (as := [vi a1, vi 0]) (st := []) rfl rfl (by decide +kernel) rfl (Nat.le_of_ble_eq_true rfl) (Nat.le_of_ble_eq_true rfl) fun v3 s => ?_
  refine r_p (pc' := 13) (p_iconst (n := 1) (v := 1) (by decide +kernel) rfl) ?_
  refine r_icmpeq (off := 14) (tgt := 27) (by decide +kernel) (by decide) (fun h4 => ?_) (fun h4 => ?_)
  · exact r_vret (y9 := ()) rfl rfl rfl (by decide +kernel)
  · exact r_thrw thX11_424_105 rfl (Nat.le_of_ble_eq_true rfl) (Nat.le_of_ble_eq_true rfl) (by decide +kernel) (by decide +kernel) (by decide +kernel) (by decide +kernel) (by decide +kernel)
def aX11_grind : StA := (RX11, cX11_grind, 3, some .int, yX11_grind, 12, [])
theorem mvX11_243 : MV RX11 243 aX11_needHeadPart 1 := ⟨tblG_of 1383 (by decide +kernel) (by decide +kernel), tblG_of 1385 (by decide +kernel) (by decide +kernel), tblG_of 39 (by decide +kernel) (by decide +kernel), tblG_of 144 (by decide +kernel) (by decide +kernel), tblG_of 1386 (by decide +kernel) (by decide +kernel), rfl, ⟨by decide, by decide⟩, by decide +kernel, by decide⟩
theorem thX11_248_250 : TH RX11 246 248 250 4 "it was GROUND" 18 := ⟨by decide +kernel, tblG_of 1273 (by decide +kernel) (by decide +kernel), tblG_of 171 (by decide +kernel) (by decide +kernel), by decide +kernel, by decide +kernel, by decide +kernel⟩
noncomputable def mX11_grind (a0 : Nat) (a1 : Int32) : MM Int32 := onC 10 a0 (
  mbnd (mX11_needPart a0 a1) fun _ =>
  mbnd (mX11_needHeadPart a0 a1) fun _ =>
  mbnd (gR 10 7 a0) fun (v1 : Nat) =>
  mbnd (gR 1 0 v1) fun (v2 : Nat) =>
  mbnd (mX8_get v2 a1 5) fun (v3 : Int32) =>
  if v3 = 0 then (
    mbnd (gR 10 6 a0) fun (v5 : Nat) =>
    mbnd (gR 10 7 a0) fun (v6 : Nat) =>
    mbnd (mX6_keepAct v5 v6) fun _ =>
    mbnd (gR 10 7 a0) fun (v7 : Nat) =>
    mbnd (gR 1 0 v7) fun (v8 : Nat) =>
    mbnd (mX8_get v8 a1 2) fun (v9 : Int32) =>
    mbnd (mret (imax 0 (v9 - 30))) fun (v10 : Int32) =>
    mbnd (gR 10 7 a0) fun (v11 : Nat) =>
    mbnd (gR 1 0 v11) fun (v12 : Nat) =>
    mbnd (mX8_put v12 a1 2 v10) fun _ =>
    mbnd (gR 10 7 a0) fun (v13 : Nat) =>
    mbnd (gR 1 0 v13) fun (v14 : Nat) =>
    mbnd (mX8_put v14 a1 5 1) fun _ =>
    mret v10
  ) else (
    mthr 4
  )
  )
theorem rcX11_grind (a0 : Nat) (a1 : Int32) : Rcv 10 a0 (mX11_grind a0 a1) := fun s r h => ⟨(onC_some h).1, (onC_some h).2.1⟩
set_option maxHeartbeats 4000000 in
set_option maxRecDepth 100000 in
theorem ctX11_grind (a0 : Nat) (a1 : Int32) : Ct aX11_grind [vr a0, vi a1] (mX11_grind a0 a1) rI := by
  unfold mX11_grind
  refine ct_onC (ct_intro (by decide +kernel) rfl (Nat.le_of_ble_eq_true rfl) fun Y s => ?_)
  refine r_sub (lv' := [(0, vr a0), (1, vi a1)]) [0, 1] rfl ?_
  refine r_p (pc' := 1) (p_aload_n 0 (k := 0) (by decide +kernel) rfl) ?_
  refine r_p (pc' := 2) (p_iload_n 1 (k := 1) (by decide +kernel) rfl) ?_
  refine r_callVU mvX11_136 (ctX11_needPart a0 a1) (rcX11_needPart a0 a1) ⟨_, _, rfl⟩ (as := [vi a1]) (st := []) rfl rfl (by decide +kernel) rfl (Nat.le_of_ble_eq_true rfl) (Nat.le_of_ble_eq_true rfl) fun s => ?_
  refine r_p (pc' := 6) (p_aload_n 0 (k := 0) (by decide +kernel) rfl) ?_
  refine r_p (pc' := 7) (p_iload_n 1 (k := 1) (by decide +kernel) rfl) ?_
  refine r_callVU mvX11_243 (ctX11_needHeadPart a0 a1) (rcX11_needHeadPart a0 a1) ⟨_, _, rfl⟩ (as := [vi a1]) (st := []) rfl rfl (by decide +kernel) rfl (Nat.le_of_ble_eq_true rfl) (Nat.le_of_ble_eq_true rfl) fun s => ?_
  refine r_p (pc' := 11) (p_aload_n 0 (k := 0) (by decide +kernel) rfl) ?_
  refine r_gR flX11_54_10 (by decide +kernel) fun v1 => ?_
  refine r_gR flX11_147_1 (by decide +kernel) fun v2 => ?_
  refine r_p (pc' := 18) (p_iload_n 1 (k := 1) (by decide +kernel) rfl) ?_
  refine r_p (pc' := 19) (p_iconst (n := 5) (v := 5) (by decide +kernel) rfl) ?_
  refine r_callVI mvX11_151 (ctX8_get v2 a1 5) (rcX8_get v2 a1 5) ⟨_, _, rfl⟩ (as := [vi a1, vi 5]) (st := []) rfl rfl (by decide +kernel) rfl (Nat.le_of_ble_eq_true rfl) (Nat.le_of_ble_eq_true rfl) fun v3 s => ?_
  refine r_ifeq (off := 13) (tgt := 35) (by decide +kernel) (by decide) (fun h4 => ?_) (fun h4 => ?_)
  · refine r_p (pc' := 36) (p_aload_n 0 (k := 0) (by decide +kernel) rfl) ?_
    refine r_gR flX11_40_10 (by decide +kernel) fun v5 => ?_
    refine r_p (pc' := 40) (p_aload_n 0 (k := 0) (by decide +kernel) rfl) ?_
    refine r_gR flX11_54_10 (by decide +kernel) fun v6 => ?_
    refine r_callVU mvX11_200 (ctX6_keepAct v5 v6) (rcX6_keepAct v5 v6) ⟨_, _, rfl⟩ (as := [vr v6]) (st := []) rfl rfl (by decide +kernel) rfl (Nat.le_of_ble_eq_true rfl) (Nat.le_of_ble_eq_true rfl) fun s => ?_
    refine r_p (pc' := 47) (p_iconst (n := 0) (v := 0) (by decide +kernel) rfl) ?_
    refine r_p (pc' := 48) (p_aload_n 0 (k := 0) (by decide +kernel) rfl) ?_
    refine r_gR flX11_54_10 (by decide +kernel) fun v7 => ?_
    refine r_gR flX11_147_1 (by decide +kernel) fun v8 => ?_
    refine r_p (pc' := 55) (p_iload_n 1 (k := 1) (by decide +kernel) rfl) ?_
    refine r_p (pc' := 56) (p_iconst (n := 2) (v := 2) (by decide +kernel) rfl) ?_
    refine r_callVI mvX11_151 (ctX8_get v8 a1 2) (rcX8_get v8 a1 2) ⟨_, _, rfl⟩ (as := [vi a1, vi 2]) (st := [vi 0]) rfl rfl (by decide +kernel) rfl (Nat.le_of_ble_eq_true rfl) (Nat.le_of_ble_eq_true rfl) fun v9 s => ?_
    refine r_p (pc' := 61) (p_bipush (n := 30) (v := 30) (by decide +kernel) (by decide +kernel)) ?_
    refine r_p (pc' := 62) (p_isub (by decide +kernel)) ?_
    refine r_p (pc' := 65) (p_max (idx := 251) (tblG_of 605 (by decide +kernel) (by decide +kernel)) (Nat.le_of_ble_eq_true rfl) (Nat.le_of_ble_eq_true rfl) (by decide +kernel)) ?_
    refine r_letI fun v10 => ?_
    refine r_p (pc' := 66) (p_istore_n (k := 2) (lv' := [(2, vi v10), (0, vr a0), (1, vi a1)]) (by decide +kernel) (Nat.le_of_ble_eq_true rfl) rfl) ?_
    refine r_p (pc' := 67) (p_aload_n 1 (k := 0) (by decide +kernel) rfl) ?_
    refine r_gR flX11_54_10 (by decide +kernel) fun v11 => ?_
    refine r_gR flX11_147_1 (by decide +kernel) fun v12 => ?_
    refine r_p (pc' := 74) (p_iload_n 2 (k := 1) (by decide +kernel) rfl) ?_
    refine r_p (pc' := 75) (p_iconst (n := 2) (v := 2) (by decide +kernel) rfl) ?_
    refine r_p (pc' := 76) (p_iload_n 0 (k := 2) (by decide +kernel) rfl) ?_
    refine r_callVU mvX11_256 (ctX8_put v12 a1 2 v10) (rcX8_put v12 a1 2 v10) ⟨_, _, rfl⟩ (as := [vi a1, vi 2, vi v10]) (st := []) rfl rfl (by decide +kernel) rfl (Nat.le_of_ble_eq_true rfl) (Nat.le_of_ble_eq_true rfl) fun s => ?_
    refine r_p (pc' := 80) (p_aload_n 1 (k := 0) (by decide +kernel) rfl) ?_
    refine r_gR flX11_54_10 (by decide +kernel) fun v13 => ?_
    refine r_gR flX11_147_1 (by decide +kernel) fun v14 => ?_
    refine r_p (pc' := 87) (p_iload_n 2 (k := 1) (by decide +kernel) rfl) ?_
    refine r_p (pc' := 88) (p_iconst (n := 5) (v := 5) (by decide +kernel) rfl) ?_
    refine r_p (pc' := 89) (p_iconst (n := 1) (v := 1) (by decide +kernel) rfl) ?_
    refine r_callVU mvX11_256 (ctX8_put v14 a1 5 1) (rcX8_put v14 a1 5 1) ⟨_, _, rfl⟩ (as := [vi a1, vi 5, vi 1]) (st := []) rfl rfl (by decide +kernel) rfl (Nat.le_of_ble_eq_true rfl) (Nat.le_of_ble_eq_true rfl) fun s => ?_
    refine r_p (pc' := 93) (p_iload_n 0 (k := 2) (by decide +kernel) rfl) ?_
    exact r_iret rfl rfl _ rfl rfl (by decide +kernel)
  · exact r_thr thX11_248_250 rfl (Nat.le_of_ble_eq_true rfl) (Nat.le_of_ble_eq_true rfl) (by decide +kernel) (by decide +kernel) (by decide +kernel) (by decide +kernel) (by decide +kernel)
def aX11_nail : StA := (RX11, cX11_nail, 4, some .boolean, yX11_nail, 12, [])
theorem thX11_262_250 : TH RX11 246 262 250 4 "the PART is SPARE" 19 := ⟨by decide +kernel, tblG_of 1273 (by decide +kernel) (by decide +kernel), tblG_of 171 (by decide +kernel) (by decide +kernel), by decide +kernel, by decide +kernel, by decide +kernel⟩
noncomputable def mX11_nail (a0 : Nat) (a1 : Int32) (a2 : Int32) : MM Int32 := onC 10 a0 (
  mbnd (mX11_needPart a0 a1) fun _ =>
  mbnd (gR 10 7 a0) fun (v1 : Nat) =>
  mbnd (mX1_isSpare v1 a1) fun (v2 : Int32) =>
  if v2 = 0 then (
    mbnd (gR 10 6 a0) fun (v4 : Nat) =>
    mbnd (gR 10 7 a0) fun (v5 : Nat) =>
    mbnd (mX6_keepAct v4 v5) fun _ =>
    mbnd (gR 10 7 a0) fun (v6 : Nat) =>
    mbnd (mX1_isNailed v6 a1) fun (v7 : Int32) =>
    mbnd (α := Int32) (
      if v7 = a2 then (
        mret 0
      ) else (
        mret 1
      )
    ) fun (x9 : Int32) =>
    mbnd (gR 10 7 a0) fun (v12 : Nat) =>
    mbnd (gR 1 0 v12) fun (v13 : Nat) =>
    mbnd (α := Int32) (
      if a2 = 0 then (
        mret 0
      ) else (
        mret 1
      )
    ) fun (x15 : Int32) =>
    mbnd (mX8_put v13 a1 4 x15) fun _ =>
    mbool x9
  ) else (
    mthr 4
  )
  )
theorem rcX11_nail (a0 : Nat) (a1 : Int32) (a2 : Int32) : Rcv 10 a0 (mX11_nail a0 a1 a2) := fun s r h => ⟨(onC_some h).1, (onC_some h).2.1⟩
set_option maxHeartbeats 4000000 in
set_option maxRecDepth 100000 in
theorem ctX11_nail (a0 : Nat) (a1 : Int32) (a2 : Int32) : Ct aX11_nail [vr a0, vi a1, vi a2] (mX11_nail a0 a1 a2) rI := by
  unfold mX11_nail
  refine ct_onC (ct_intro (by decide +kernel) rfl (Nat.le_of_ble_eq_true rfl) fun Y s => ?_)
  refine r_sub (lv' := [(0, vr a0), (1, vi a1), (2, vi a2)]) [0, 1, 2] rfl ?_
  refine r_p (pc' := 1) (p_aload_n 0 (k := 0) (by decide +kernel) rfl) ?_
  refine r_p (pc' := 2) (p_iload_n 1 (k := 1) (by decide +kernel) rfl) ?_
  refine r_callVU mvX11_136 (ctX11_needPart a0 a1) (rcX11_needPart a0 a1) ⟨_, _, rfl⟩ (as := [vi a1]) (st := []) rfl rfl (by decide +kernel) rfl (Nat.le_of_ble_eq_true rfl) (Nat.le_of_ble_eq_true rfl) fun s => ?_
  refine r_p (pc' := 6) (p_aload_n 0 (k := 0) (by decide +kernel) rfl) ?_
  refine r_gR flX11_54_10 (by decide +kernel) fun v1 => ?_
  refine r_p (pc' := 10) (p_iload_n 1 (k := 1) (by decide +kernel) rfl) ?_
  refine r_callVI mvX11_259 (ctX1_isSpare v1 a1) (rcX1_isSpare v1 a1) ⟨_, _, rfl⟩ (as := [vi a1]) (st := []) rfl rfl (by decide +kernel) rfl (Nat.le_of_ble_eq_true rfl) (Nat.le_of_ble_eq_true rfl) fun v2 s => ?_
  refine r_ifeq (off := 14) (tgt := 27) (by decide +kernel) (by decide) (fun h3 => ?_) (fun h3 => ?_)
  · refine r_p (pc' := 28) (p_aload_n 0 (k := 0) (by decide +kernel) rfl) ?_
    refine r_gR flX11_40_10 (by decide +kernel) fun v4 => ?_
    refine r_p (pc' := 32) (p_aload_n 0 (k := 0) (by decide +kernel) rfl) ?_
    refine r_gR flX11_54_10 (by decide +kernel) fun v5 => ?_
    refine r_callVU mvX11_200 (ctX6_keepAct v4 v5) (rcX6_keepAct v4 v5) ⟨_, _, rfl⟩ (as := [vr v5]) (st := []) rfl rfl (by decide +kernel) rfl (Nat.le_of_ble_eq_true rfl) (Nat.le_of_ble_eq_true rfl) fun s => ?_
    refine r_p (pc' := 39) (p_aload_n 0 (k := 0) (by decide +kernel) rfl) ?_
    refine r_gR flX11_54_10 (by decide +kernel) fun v6 => ?_
    refine r_p (pc' := 43) (p_iload_n 1 (k := 1) (by decide +kernel) rfl) ?_
    refine r_callVI mvX11_264 (ctX1_isNailed v6 a1) (rcX1_isNailed v6 a1) ⟨_, _, rfl⟩ (as := [vi a1]) (st := []) rfl rfl (by decide +kernel) rfl (Nat.le_of_ble_eq_true rfl) (Nat.le_of_ble_eq_true rfl) fun v7 s => ?_
    refine r_p (pc' := 47) (p_iload_n 2 (k := 2) (by decide +kernel) rfl) ?_
    refine r_join 55 (fun (x9 : Int32) => [(0, vr a0), (1, vi a1), (2, vi a2)]) (fun (x9 : Int32) => [vi x9]) (fun x9 s => ?_) (fun K10 hj11 => ?_)
    · refine r_p (pc' := 56) (p_istore_n (k := 3) (lv' := [(3, vi x9), (0, vr a0), (1, vi a1), (2, vi a2)]) (by decide +kernel) (Nat.le_of_ble_eq_true rfl) rfl) ?_
      refine r_p (pc' := 57) (p_aload_n 1 (k := 0) (by decide +kernel) rfl) ?_
      refine r_gR flX11_54_10 (by decide +kernel) fun v12 => ?_
      refine r_gR flX11_147_1 (by decide +kernel) fun v13 => ?_
      refine r_p (pc' := 64) (p_iload_n 2 (k := 1) (by decide +kernel) rfl) ?_
      refine r_p (pc' := 65) (p_iconst (n := 4) (v := 4) (by decide +kernel) rfl) ?_
      refine r_p (pc' := 66) (p_iload_n 3 (k := 2) (by decide +kernel) rfl) ?_
      refine r_join 74 (fun (x15 : Int32) => [(3, vi x9)]) (fun (x15 : Int32) => [vi x15, vi 4, vi a1, vr v13]) (fun x15 s => ?_) (fun K16 hj17 => ?_)
      · refine r_callVU mvX11_256 (ctX8_put v13 a1 4 x15) (rcX8_put v13 a1 4 x15) ⟨_, _, rfl⟩ (as := [vi a1, vi 4, vi x15]) (st := []) rfl rfl (by decide +kernel) rfl (Nat.le_of_ble_eq_true rfl) (Nat.le_of_ble_eq_true rfl) fun s => ?_
        refine r_p (pc' := 78) (p_iload_n 0 (k := 3) (by decide +kernel) rfl) ?_
        exact r_bret (y9 := fun v => v) (fun _ => rfl) (fun _ => rfl) rfl (by decide +kernel)
      · refine r_ifeq (off := 7) (tgt := 73) (by decide +kernel) (by decide) (fun h14 => ?_) (fun h14 => ?_)
        · refine r_p (pc' := 74) (p_iconst (n := 0) (v := 0) (by decide +kernel) rfl) ?_
          refine r_sub (lv' := [(3, vi x9)]) [0] rfl ?_
          exact hj17 0 _
        · refine r_p (pc' := 70) (p_iconst (n := 1) (v := 1) (by decide +kernel) rfl) ?_
          refine r_p (pc' := 74) (p_goto (off := 4) (tgt := 74) (by decide +kernel) (by decide)) ?_
          refine r_sub (lv' := [(3, vi x9)]) [0] rfl ?_
          exact hj17 1 _
    · refine r_icmpeq (off := 7) (tgt := 54) (by decide +kernel) (by decide) (fun h8 => ?_) (fun h8 => ?_)
      · refine r_p (pc' := 55) (p_iconst (n := 0) (v := 0) (by decide +kernel) rfl) ?_
        exact hj11 0 _
      · refine r_p (pc' := 51) (p_iconst (n := 1) (v := 1) (by decide +kernel) rfl) ?_
        refine r_p (pc' := 55) (p_goto (off := 4) (tgt := 55) (by decide +kernel) (by decide)) ?_
        exact hj11 1 _
  · exact r_thrw thX11_262_250 rfl (Nat.le_of_ble_eq_true rfl) (Nat.le_of_ble_eq_true rfl) (by decide +kernel) (by decide +kernel) (by decide +kernel) (by decide +kernel) (by decide +kernel)
def aX11_days : StA := (RX11, cX11_days, 4, some .int, yX11_days, 12, [])
theorem thX11_267_105 : TH RX11 101 267 105 0 "the DAYS are none" 20 := ⟨by decide +kernel, tblG_of 1052 (by decide +kernel) (by decide +kernel), tblG_of 166 (by decide +kernel) (by decide +kernel), by decide +kernel, by decide +kernel, by decide +kernel⟩
theorem mvX11_269 : MV RX11 269 aX1_passDay 0 := ⟨tblG_of 1405 (by decide +kernel) (by decide +kernel), tblG_of 1406 (by decide +kernel) (by decide +kernel), tblG_of 1407 (by decide +kernel) (by decide +kernel), tblG_of 151 (by decide +kernel) (by decide +kernel), tblG_of 1408 (by decide +kernel) (by decide +kernel), rfl, ⟨by decide, by decide⟩, by decide +kernel, by decide⟩
noncomputable def mX11_days_L37 (a0 : Nat) (a1 : Int32) (x5 : Int32 × Int32) : MM ((Int32 × Int32) ⊕ (Int32)) :=
  if a1 ≤ x5.2 then (
    mret (.inr x5.1)
  ) else (
    mbnd (gR 10 7 a0) fun (v10 : Nat) =>
    mbnd (mX1_passDay v10) fun (v11 : Int32) =>
    mbnd (mret (x5.1 + v11)) fun (v12 : Int32) =>
    mret (.inl (v12, x5.2 + 1))
  )
noncomputable def mX11_days (a0 : Nat) (a1 : Int32) : MM Int32 := onC 10 a0 (
  if a1 < 1 then (
    mthr 0
  ) else (
    if a1 ≤ 60 then (
      mbnd (gR 10 6 a0) fun (v3 : Nat) =>
      mbnd (gR 10 7 a0) fun (v4 : Nat) =>
      mbnd (mX6_keepAct v3 v4) fun _ =>
      mbnd (loopM (mX11_days_L37 a0 a1) (0, 0)) fun (e13 : Int32) =>
      mret e13
    ) else (
      mthr 0
    )
  )
  )
theorem rcX11_days (a0 : Nat) (a1 : Int32) : Rcv 10 a0 (mX11_days a0 a1) := fun s r h => ⟨(onC_some h).1, (onC_some h).2.1⟩
set_option maxHeartbeats 4000000 in
set_option maxRecDepth 100000 in
theorem ctX11_days (a0 : Nat) (a1 : Int32) : Ct aX11_days [vr a0, vi a1] (mX11_days a0 a1) rI := by
  unfold mX11_days
  refine ct_onC (ct_intro (by decide +kernel) rfl (Nat.le_of_ble_eq_true rfl) fun Y s => ?_)
  refine r_sub (lv' := [(0, vr a0), (1, vi a1)]) [0, 1] rfl ?_
  refine r_p (pc' := 1) (p_iload_n 1 (k := 1) (by decide +kernel) rfl) ?_
  refine r_p (pc' := 2) (p_iconst (n := 1) (v := 1) (by decide +kernel) rfl) ?_
  refine r_icmplt (off := 9) (tgt := 11) (by decide +kernel) (by decide) (fun h1 => ?_) (fun h1 => ?_)
  · exact r_thrw thX11_267_105 rfl (Nat.le_of_ble_eq_true rfl) (Nat.le_of_ble_eq_true rfl) (by decide +kernel) (by decide +kernel) (by decide +kernel) (by decide +kernel) (by decide +kernel)
  · refine r_p (pc' := 6) (p_iload_n 1 (k := 1) (by decide +kernel) rfl) ?_
    refine r_p (pc' := 8) (p_bipush (n := 60) (v := 60) (by decide +kernel) (by decide +kernel)) ?_
    refine r_icmple (off := 14) (tgt := 22) (by decide +kernel) (by decide) (fun h2 => ?_) (fun h2 => ?_)
    · refine r_p (pc' := 23) (p_aload_n 0 (k := 0) (by decide +kernel) rfl) ?_
      refine r_gR flX11_40_10 (by decide +kernel) fun v3 => ?_
      refine r_p (pc' := 27) (p_aload_n 0 (k := 0) (by decide +kernel) rfl) ?_
      refine r_gR flX11_54_10 (by decide +kernel) fun v4 => ?_
      refine r_callVU mvX11_200 (ctX6_keepAct v3 v4) (rcX6_keepAct v3 v4) ⟨_, _, rfl⟩ (as := [vr v4]) (st := []) rfl rfl (by decide +kernel) rfl (Nat.le_of_ble_eq_true rfl) (Nat.le_of_ble_eq_true rfl) fun s => ?_
      refine r_p (pc' := 34) (p_iconst (n := 0) (v := 0) (by decide +kernel) rfl) ?_
      refine r_p (pc' := 35) (p_istore_n (k := 2) (lv' := [(2, vi 0), (0, vr a0), (1, vi a1)]) (by decide +kernel) (Nat.le_of_ble_eq_true rfl) rfl) ?_
      refine r_p (pc' := 36) (p_iconst (n := 0) (v := 0) (by decide +kernel) rfl) ?_
      refine r_p (pc' := 37) (p_istore_n (k := 3) (lv' := [(3, vi 0), (2, vi 0), (0, vr a0), (1, vi a1)]) (by decide +kernel) (Nat.le_of_ble_eq_true rfl) rfl) ?_
      refine r_sub (lv' := [(0, vr a0), (1, vi a1), (2, vi 0), (3, vi 0)]) [2, 3, 1, 0] rfl ?_
      refine r_loop2 (fun _ => 58) (fun (e13 : Int32) => [(2, vi e13)]) (fun (x5 : Int32 × Int32) => [(0, vr a0), (1, vi a1), (2, vi x5.1), (3, vi x5.2)]) (fun e13 s => ?_) (fun K6 hb7 he8 x5 s => ?_) (0, 0) _
      · refine r_p (pc' := 59) (p_iload_n 0 (k := 2) (by decide +kernel) rfl) ?_
        exact r_iret rfl rfl _ rfl rfl (by decide +kernel)
      · unfold mX11_days_L37
        refine r_p (pc' := 38) (p_iload_n 3 (k := 3) (by decide +kernel) rfl) ?_
        refine r_p (pc' := 39) (p_iload_n 1 (k := 1) (by decide +kernel) rfl) ?_
        refine r_icmpge (off := 19) (tgt := 58) (by decide +kernel) (by decide) (fun h9 => ?_) (fun h9 => ?_)
        · refine r_sub (lv' := [(2, vi x5.1)]) [2] rfl ?_
          exact he8 x5.1 _
        · refine r_p (pc' := 43) (p_iload_n 2 (k := 2) (by decide +kernel) rfl) ?_
          refine r_p (pc' := 44) (p_aload_n 0 (k := 0) (by decide +kernel) rfl) ?_
          refine r_gR flX11_54_10 (by decide +kernel) fun v10 => ?_
          refine r_callVI mvX11_269 (ctX1_passDay v10) (rcX1_passDay v10) ⟨_, _, rfl⟩ (as := []) (st := [vi x5.1]) rfl rfl (by decide +kernel) rfl (Nat.le_of_ble_eq_true rfl) (Nat.le_of_ble_eq_true rfl) fun v11 s => ?_
          refine r_p (pc' := 51) (p_iadd (by decide +kernel)) ?_
          refine r_letI fun v12 => ?_
          refine r_p (pc' := 52) (p_istore_n (k := 2) (lv' := [(2, vi v12), (0, vr a0), (1, vi a1), (3, vi x5.2)]) (by decide +kernel) (Nat.le_of_ble_eq_true rfl) rfl) ?_
          refine r_p (pc' := 55) (p_iinc 3 (i := 3) (n := 1) (x := x5.2) (v := x5.2 + 1) (lv' := [(3, vi (x5.2 + 1)), (2, vi v12), (0, vr a0), (1, vi a1)]) (by decide +kernel) rfl rfl (Nat.le_of_ble_eq_true rfl) rfl) ?_
          refine r_p (pc' := 37) (p_goto (off := -18) (tgt := 37) (by decide +kernel) (by decide)) ?_
          refine r_sub (lv' := [(0, vr a0), (1, vi a1), (2, vi v12), (3, vi (x5.2 + 1))]) [2, 3, 1, 0] rfl ?_
          exact hb7 (v12, x5.2 + 1) _
    · exact r_thrw thX11_267_105 rfl (Nat.le_of_ble_eq_true rfl) (Nat.le_of_ble_eq_true rfl) (by decide +kernel) (by decide +kernel) (by decide +kernel) (by decide +kernel) (by decide +kernel)
def aX11_guilty : StA := (RX11, cX11_guilty, 1, some .int, yX11_guilty, 12, [])
theorem mvX11_273 : MV RX11 273 aX1_guiltySet 0 := ⟨tblG_of 573 (by decide +kernel) (by decide +kernel), tblG_of 574 (by decide +kernel) (by decide +kernel), tblG_of 575 (by decide +kernel) (by decide +kernel), tblG_of 151 (by decide +kernel) (by decide +kernel), tblG_of 576 (by decide +kernel) (by decide +kernel), rfl, ⟨by decide, by decide⟩, by decide +kernel, by decide⟩
noncomputable def mX11_guilty (a0 : Nat) : MM Int32 := onC 10 a0 (
  mbnd (gR 10 7 a0) fun (v1 : Nat) =>
  mbnd (mX1_guiltySet v1) fun (v2 : Int32) =>
  mret v2
  )
theorem rcX11_guilty (a0 : Nat) : Rcv 10 a0 (mX11_guilty a0) := fun s r h => ⟨(onC_some h).1, (onC_some h).2.1⟩
set_option maxHeartbeats 4000000 in
set_option maxRecDepth 100000 in
theorem ctX11_guilty (a0 : Nat) : Ct aX11_guilty [vr a0] (mX11_guilty a0) rI := by
  unfold mX11_guilty
  refine ct_onC (ct_intro (by decide +kernel) rfl (Nat.le_of_ble_eq_true rfl) fun Y s => ?_)
  refine r_sub (lv' := [(0, vr a0)]) [0] rfl ?_
  refine r_p (pc' := 1) (p_aload_n 0 (k := 0) (by decide +kernel) rfl) ?_
  refine r_gR flX11_54_10 (by decide +kernel) fun v1 => ?_
  refine r_callVI mvX11_273 (ctX1_guiltySet v1) (rcX1_guiltySet v1) ⟨_, _, rfl⟩ (as := []) (st := []) rfl rfl (by decide +kernel) rfl (Nat.le_of_ble_eq_true rfl) (Nat.le_of_ble_eq_true rfl) fun v2 s => ?_
  exact r_iret rfl rfl _ rfl rfl (by decide +kernel)
def aX11_needEdge : StA := (RX11, cX11_needEdge, 1, none, yX11_needEdge, 8, [])
theorem thX11_438_105 : TH RX11 101 438 105 0 "the EDGE is none" 21 := ⟨by decide +kernel, tblG_of 1052 (by decide +kernel) (by decide +kernel), tblG_of 166 (by decide +kernel) (by decide +kernel), by decide +kernel, by decide +kernel, by decide +kernel⟩
noncomputable def mX11_needEdge (a0 : Int32) : MM Unit :=
  if a0 < 0 then (
    mthr 0
  ) else (
    if a0 ≤ 9 then (
      mret ()
    ) else (
      mthr 0
    )
  )
set_option maxHeartbeats 4000000 in
set_option maxRecDepth 100000 in
theorem ctX11_needEdge (a0 : Int32) : Ct aX11_needEdge [vi a0] (mX11_needEdge a0) rU := by
  unfold mX11_needEdge
  refine ct_intro (by decide +kernel) rfl (Nat.le_of_ble_eq_true rfl) fun Y s => ?_
  refine r_sub (lv' := [(0, vi a0)]) [0] rfl ?_
  refine r_p (pc' := 1) (p_iload_n 0 (k := 0) (by decide +kernel) rfl) ?_
  refine r_iflt (off := 9) (tgt := 10) (by decide +kernel) (by decide) (fun h1 => ?_) (fun h1 => ?_)
  · exact r_thrw thX11_438_105 rfl (Nat.le_of_ble_eq_true rfl) (Nat.le_of_ble_eq_true rfl) (by decide +kernel) (by decide +kernel) (by decide +kernel) (by decide +kernel) (by decide +kernel)
  · refine r_p (pc' := 5) (p_iload_n 0 (k := 0) (by decide +kernel) rfl) ?_
    refine r_p (pc' := 7) (p_bipush (n := 9) (v := 9) (by decide +kernel) (by decide +kernel)) ?_
    refine r_icmple (off := 14) (tgt := 21) (by decide +kernel) (by decide) (fun h2 => ?_) (fun h2 => ?_)
    · exact r_vret (y9 := ()) rfl rfl rfl (by decide +kernel)
    · exact r_thrw thX11_438_105 rfl (Nat.le_of_ble_eq_true rfl) (Nat.le_of_ble_eq_true rfl) (by decide +kernel) (by decide +kernel) (by decide +kernel) (by decide +kernel) (by decide +kernel)
def aX11_needGrade : StA := (RX11, cX11_needGrade, 1, none, yX11_needGrade, 8, [])
theorem thX11_440_105 : TH RX11 101 440 105 0 "the GRADE is none" 22 := ⟨by decide +kernel, tblG_of 1052 (by decide +kernel) (by decide +kernel), tblG_of 166 (by decide +kernel) (by decide +kernel), by decide +kernel, by decide +kernel, by decide +kernel⟩
noncomputable def mX11_needGrade (a0 : Int32) : MM Unit :=
  if a0 < 0 then (
    mthr 0
  ) else (
    if a0 ≤ 9 then (
      mret ()
    ) else (
      mthr 0
    )
  )
set_option maxHeartbeats 4000000 in
set_option maxRecDepth 100000 in
theorem ctX11_needGrade (a0 : Int32) : Ct aX11_needGrade [vi a0] (mX11_needGrade a0) rU := by
  unfold mX11_needGrade
  refine ct_intro (by decide +kernel) rfl (Nat.le_of_ble_eq_true rfl) fun Y s => ?_
  refine r_sub (lv' := [(0, vi a0)]) [0] rfl ?_
  refine r_p (pc' := 1) (p_iload_n 0 (k := 0) (by decide +kernel) rfl) ?_
  refine r_iflt (off := 9) (tgt := 10) (by decide +kernel) (by decide) (fun h1 => ?_) (fun h1 => ?_)
  · exact r_thrw thX11_440_105 rfl (Nat.le_of_ble_eq_true rfl) (Nat.le_of_ble_eq_true rfl) (by decide +kernel) (by decide +kernel) (by decide +kernel) (by decide +kernel) (by decide +kernel)
  · refine r_p (pc' := 5) (p_iload_n 0 (k := 0) (by decide +kernel) rfl) ?_
    refine r_p (pc' := 7) (p_bipush (n := 9) (v := 9) (by decide +kernel) (by decide +kernel)) ?_
    refine r_icmple (off := 14) (tgt := 21) (by decide +kernel) (by decide) (fun h2 => ?_) (fun h2 => ?_)
    · exact r_vret (y9 := ()) rfl rfl rfl (by decide +kernel)
    · exact r_thrw thX11_440_105 rfl (Nat.le_of_ble_eq_true rfl) (Nat.le_of_ble_eq_true rfl) (by decide +kernel) (by decide +kernel) (by decide +kernel) (by decide +kernel) (by decide +kernel)
def aX11_marksNow : StA := (RX11, cX11_marksNow, 4, some .int, yX11_marksNow, 10, [])
noncomputable def mX11_marksNow_L4 (a0 : Nat) (a1 : Int32) (x1 : Int32 × Int32) : MM ((Int32 × Int32) ⊕ (Int32)) :=
  mbnd (gR 10 7 a0) fun (v5 : Nat) =>
  mbnd (gR 1 1 v5) fun (v6 : Nat) =>
  mbnd (gI 8 3 v6) fun (v7 : Int32) =>
  if v7 ≤ x1.2 then (
    mret (.inr x1.1)
  ) else (
    mbnd (gR 10 7 a0) fun (v9 : Nat) =>
    mbnd (mX1_markOf v9 x1.2) fun (v10 : Int32) =>
    mbnd (α := Int32) (
      if v10 = a1 then (
        mret (1 <<< (x1.2 &&& (31 : Int32)))
      ) else (
        mret 0
      )
    ) fun (x12 : Int32) =>
    mbnd (mret (x1.1 ||| x12)) fun (v15 : Int32) =>
    mret (.inl (v15, x1.2 + 1))
  )
noncomputable def mX11_marksNow (a0 : Nat) (a1 : Int32) : MM Int32 := onC 10 a0 (
  mbnd (loopM (mX11_marksNow_L4 a0 a1) (0, 0)) fun (e16 : Int32) =>
  mret e16
  )
theorem rcX11_marksNow (a0 : Nat) (a1 : Int32) : Rcv 10 a0 (mX11_marksNow a0 a1) := fun s r h => ⟨(onC_some h).1, (onC_some h).2.1⟩
set_option maxHeartbeats 4000000 in
set_option maxRecDepth 100000 in
theorem ctX11_marksNow (a0 : Nat) (a1 : Int32) : Ct aX11_marksNow [vr a0, vi a1] (mX11_marksNow a0 a1) rI := by
  unfold mX11_marksNow
  refine ct_onC (ct_intro (by decide +kernel) rfl (Nat.le_of_ble_eq_true rfl) fun Y s => ?_)
  refine r_sub (lv' := [(0, vr a0), (1, vi a1)]) [0, 1] rfl ?_
  refine r_p (pc' := 1) (p_iconst (n := 0) (v := 0) (by decide +kernel) rfl) ?_
  refine r_p (pc' := 2) (p_istore_n (k := 2) (lv' := [(2, vi 0), (0, vr a0), (1, vi a1)]) (by decide +kernel) (Nat.le_of_ble_eq_true rfl) rfl) ?_
  refine r_p (pc' := 3) (p_iconst (n := 0) (v := 0) (by decide +kernel) rfl) ?_
  refine r_p (pc' := 4) (p_istore_n (k := 3) (lv' := [(3, vi 0), (2, vi 0), (0, vr a0), (1, vi a1)]) (by decide +kernel) (Nat.le_of_ble_eq_true rfl) rfl) ?_
  refine r_sub (lv' := [(0, vr a0), (1, vi a1), (2, vi 0), (3, vi 0)]) [2, 3, 1, 0] rfl ?_
  refine r_loop2 (fun _ => 46) (fun (e16 : Int32) => [(2, vi e16)]) (fun (x1 : Int32 × Int32) => [(0, vr a0), (1, vi a1), (2, vi x1.1), (3, vi x1.2)]) (fun e16 s => ?_) (fun K2 hb3 he4 x1 s => ?_) (0, 0) _
  · refine r_p (pc' := 47) (p_iload_n 0 (k := 2) (by decide +kernel) rfl) ?_
    exact r_iret rfl rfl _ rfl rfl (by decide +kernel)
  · unfold mX11_marksNow_L4
    refine r_p (pc' := 5) (p_iload_n 3 (k := 3) (by decide +kernel) rfl) ?_
    refine r_p (pc' := 6) (p_aload_n 0 (k := 0) (by decide +kernel) rfl) ?_
    refine r_gR flX11_54_10 (by decide +kernel) fun v5 => ?_
    refine r_gR flX11_160_1 (by decide +kernel) fun v6 => ?_
    refine r_gI flX11_293_8 (by decide +kernel) fun v7 => ?_
    refine r_icmpge (off := 31) (tgt := 46) (by decide +kernel) (by decide) (fun h8 => ?_) (fun h8 => ?_)
    · refine r_sub (lv' := [(2, vi x1.1)]) [2] rfl ?_
      exact he4 x1.1 _
    · refine r_p (pc' := 19) (p_iload_n 2 (k := 2) (by decide +kernel) rfl) ?_
      refine r_p (pc' := 20) (p_aload_n 0 (k := 0) (by decide +kernel) rfl) ?_
      refine r_gR flX11_54_10 (by decide +kernel) fun v9 => ?_
      refine r_p (pc' := 24) (p_iload_n 3 (k := 3) (by decide +kernel) rfl) ?_
      refine r_callVI mvX11_444 (ctX1_markOf v9 x1.2) (rcX1_markOf v9 x1.2) ⟨_, _, rfl⟩ (as := [vi x1.2]) (st := [vi x1.1]) rfl rfl (by decide +kernel) rfl (Nat.le_of_ble_eq_true rfl) (Nat.le_of_ble_eq_true rfl) fun v10 s => ?_
      refine r_p (pc' := 28) (p_iload_n 1 (k := 1) (by decide +kernel) rfl) ?_
      refine r_join 38 (fun (x12 : Int32) => [(0, vr a0), (1, vi a1), (3, vi x1.2)]) (fun (x12 : Int32) => [vi x12, vi x1.1]) (fun x12 s => ?_) (fun K13 hj14 => ?_)
      · refine r_p (pc' := 39) (p_ior (by decide +kernel)) ?_
        refine r_letI fun v15 => ?_
        refine r_p (pc' := 40) (p_istore_n (k := 2) (lv' := [(2, vi v15), (0, vr a0), (1, vi a1), (3, vi x1.2)]) (by decide +kernel) (Nat.le_of_ble_eq_true rfl) rfl) ?_
        refine r_p (pc' := 43) (p_iinc 3 (i := 3) (n := 1) (x := x1.2) (v := x1.2 + 1) (lv' := [(3, vi (x1.2 + 1)), (2, vi v15), (0, vr a0), (1, vi a1)]) (by decide +kernel) rfl rfl (Nat.le_of_ble_eq_true rfl) rfl) ?_
        refine r_p (pc' := 4) (p_goto (off := -39) (tgt := 4) (by decide +kernel) (by decide)) ?_
        refine r_sub (lv' := [(0, vr a0), (1, vi a1), (2, vi v15), (3, vi (x1.2 + 1))]) [2, 3, 1, 0] rfl ?_
        exact hb3 (v15, x1.2 + 1) _
      · refine r_icmpne (off := 9) (tgt := 37) (by decide +kernel) (by decide) (fun h11 => ?_) (fun h11 => ?_)
        · refine r_p (pc' := 32) (p_iconst (n := 1) (v := 1) (by decide +kernel) rfl) ?_
          refine r_p (pc' := 33) (p_iload_n 3 (k := 3) (by decide +kernel) rfl) ?_
          refine r_p (pc' := 34) (p_ishl (by decide +kernel)) ?_
          refine r_p (pc' := 38) (p_goto (off := 4) (tgt := 38) (by decide +kernel) (by decide)) ?_
          refine r_sub (lv' := [(0, vr a0), (1, vi a1), (3, vi x1.2)]) [0, 1, 3] rfl ?_
          exact hj14 (1 <<< (x1.2 &&& (31 : Int32))) _
        · refine r_p (pc' := 38) (p_iconst (n := 0) (v := 0) (by decide +kernel) rfl) ?_
          refine r_sub (lv' := [(0, vr a0), (1, vi a1), (3, vi x1.2)]) [0, 1, 3] rfl ?_
          exact hj14 0 _
def aX11_marksThen : StA := (RX11, cX11_marksThen, 5, some .int, yX11_marksThen, 9, [])
theorem flX11_290_1 : FL RX11 290 1 5 := ⟨_, TX1, 13, "ToolCourt$Court", rfl, by decide, Or.inr ⟨"ToolCourt", List.mem_of_getElem? (i := 359) (by decide +kernel)⟩, Or.inl rfl⟩
noncomputable def mX11_marksThen_L5 (a0 : Nat) (a1 : Int32) (a2 : Int32) (x1 : Int32 × Int32) : MM ((Int32 × Int32) ⊕ (Int32)) :=
  if 6 ≤ x1.2 then (
    mret (.inr x1.1)
  ) else (
    mbnd (gR 10 7 a0) fun (v6 : Nat) =>
    mbnd (gR 1 5 v6) fun (v7 : Nat) =>
    mbnd (mX8_get v7 a2 x1.2) fun (v8 : Int32) =>
    mbnd (α := Int32) (
      if v8 = a1 then (
        mret (1 <<< (x1.2 &&& (31 : Int32)))
      ) else (
        mret 0
      )
    ) fun (x10 : Int32) =>
    mbnd (mret (x1.1 ||| x10)) fun (v13 : Int32) =>
    mret (.inl (v13, x1.2 + 1))
  )
noncomputable def mX11_marksThen (a0 : Nat) (a1 : Int32) (a2 : Int32) : MM Int32 := onC 10 a0 (
  mbnd (loopM (mX11_marksThen_L5 a0 a1 a2) (0, 0)) fun (e14 : Int32) =>
  mret e14
  )
theorem rcX11_marksThen (a0 : Nat) (a1 : Int32) (a2 : Int32) : Rcv 10 a0 (mX11_marksThen a0 a1 a2) := fun s r h => ⟨(onC_some h).1, (onC_some h).2.1⟩
set_option maxHeartbeats 4000000 in
set_option maxRecDepth 100000 in
theorem ctX11_marksThen (a0 : Nat) (a1 : Int32) (a2 : Int32) : Ct aX11_marksThen [vr a0, vi a1, vi a2] (mX11_marksThen a0 a1 a2) rI := by
  unfold mX11_marksThen
  refine ct_onC (ct_intro (by decide +kernel) rfl (Nat.le_of_ble_eq_true rfl) fun Y s => ?_)
  refine r_sub (lv' := [(0, vr a0), (1, vi a1), (2, vi a2)]) [0, 1, 2] rfl ?_
  refine r_p (pc' := 1) (p_iconst (n := 0) (v := 0) (by decide +kernel) rfl) ?_
  refine r_p (pc' := 2) (p_istore_n (k := 3) (lv' := [(3, vi 0), (0, vr a0), (1, vi a1), (2, vi a2)]) (by decide +kernel) (Nat.le_of_ble_eq_true rfl) rfl) ?_
  refine r_p (pc' := 3) (p_iconst (n := 0) (v := 0) (by decide +kernel) rfl) ?_
  refine r_p (pc' := 5) (p_istore (i := 4) (lv' := [(4, vi 0), (3, vi 0), (0, vr a0), (1, vi a1), (2, vi a2)]) (by decide +kernel) (Nat.le_of_ble_eq_true rfl) rfl) ?_
  refine r_sub (lv' := [(0, vr a0), (1, vi a1), (2, vi a2), (3, vi 0), (4, vi 0)]) [2, 3, 4, 1, 0] rfl ?_
  refine r_loop2 (fun _ => 46) (fun (e14 : Int32) => [(3, vi e14)]) (fun (x1 : Int32 × Int32) => [(0, vr a0), (1, vi a1), (2, vi a2), (3, vi x1.1), (4, vi x1.2)]) (fun e14 s => ?_) (fun K2 hb3 he4 x1 s => ?_) (0, 0) _
  · refine r_p (pc' := 47) (p_iload_n 0 (k := 3) (by decide +kernel) rfl) ?_
    exact r_iret rfl rfl _ rfl rfl (by decide +kernel)
  · unfold mX11_marksThen_L5
    refine r_p (pc' := 7) (p_iload 4 (i := 4) (by decide +kernel) rfl) ?_
    refine r_p (pc' := 9) (p_bipush (n := 6) (v := 6) (by decide +kernel) (by decide +kernel)) ?_
    refine r_icmpge (off := 37) (tgt := 46) (by decide +kernel) (by decide) (fun h5 => ?_) (fun h5 => ?_)
    · refine r_sub (lv' := [(3, vi x1.1)]) [3] rfl ?_
      exact he4 x1.1 _
    · refine r_p (pc' := 13) (p_iload_n 3 (k := 3) (by decide +kernel) rfl) ?_
      refine r_p (pc' := 14) (p_aload_n 0 (k := 0) (by decide +kernel) rfl) ?_
      refine r_gR flX11_54_10 (by decide +kernel) fun v6 => ?_
      refine r_gR flX11_290_1 (by decide +kernel) fun v7 => ?_
      refine r_p (pc' := 21) (p_iload_n 2 (k := 2) (by decide +kernel) rfl) ?_
      refine r_p (pc' := 23) (p_iload 4 (i := 4) (by decide +kernel) rfl) ?_
      refine r_callVI mvX11_151 (ctX8_get v7 a2 x1.2) (rcX8_get v7 a2 x1.2) ⟨_, _, rfl⟩ (as := [vi a2, vi x1.2]) (st := [vi x1.1]) rfl rfl (by decide +kernel) rfl (Nat.le_of_ble_eq_true rfl) (Nat.le_of_ble_eq_true rfl) fun v8 s => ?_
      refine r_p (pc' := 27) (p_iload_n 1 (k := 1) (by decide +kernel) rfl) ?_
      refine r_join 38 (fun (x10 : Int32) => [(0, vr a0), (1, vi a1), (2, vi a2), (4, vi x1.2)]) (fun (x10 : Int32) => [vi x10, vi x1.1]) (fun x10 s => ?_) (fun K11 hj12 => ?_)
      · refine r_p (pc' := 39) (p_ior (by decide +kernel)) ?_
        refine r_letI fun v13 => ?_
        refine r_p (pc' := 40) (p_istore_n (k := 3) (lv' := [(3, vi v13), (0, vr a0), (1, vi a1), (2, vi a2), (4, vi x1.2)]) (by decide +kernel) (Nat.le_of_ble_eq_true rfl) rfl) ?_
        refine r_p (pc' := 43) (p_iinc 4 (i := 4) (n := 1) (x := x1.2) (v := x1.2 + 1) (lv' := [(4, vi (x1.2 + 1)), (3, vi v13), (0, vr a0), (1, vi a1), (2, vi a2)]) (by decide +kernel) rfl rfl (Nat.le_of_ble_eq_true rfl) rfl) ?_
        refine r_p (pc' := 5) (p_goto (off := -38) (tgt := 5) (by decide +kernel) (by decide)) ?_
        refine r_sub (lv' := [(0, vr a0), (1, vi a1), (2, vi a2), (3, vi v13), (4, vi (x1.2 + 1))]) [2, 3, 4, 1, 0] rfl ?_
        exact hb3 (v13, x1.2 + 1) _
      · refine r_icmpne (off := 10) (tgt := 37) (by decide +kernel) (by decide) (fun h9 => ?_) (fun h9 => ?_)
        · refine r_p (pc' := 31) (p_iconst (n := 1) (v := 1) (by decide +kernel) rfl) ?_
          refine r_p (pc' := 33) (p_iload 4 (i := 4) (by decide +kernel) rfl) ?_
          refine r_p (pc' := 34) (p_ishl (by decide +kernel)) ?_
          refine r_p (pc' := 38) (p_goto (off := 4) (tgt := 38) (by decide +kernel) (by decide)) ?_
          refine r_sub (lv' := [(0, vr a0), (1, vi a1), (2, vi a2), (4, vi x1.2)]) [0, 1, 2, 4] rfl ?_
          exact hj12 (1 <<< (x1.2 &&& (31 : Int32))) _
        · refine r_p (pc' := 38) (p_iconst (n := 0) (v := 0) (by decide +kernel) rfl) ?_
          refine r_sub (lv' := [(0, vr a0), (1, vi a1), (2, vi a2), (4, vi x1.2)]) [0, 1, 2, 4] rfl ?_
          exact hj12 0 _
