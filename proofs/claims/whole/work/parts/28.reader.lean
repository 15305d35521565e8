/-! PRINTED BY wip/whole/gen.py -/
def aX10_inits : StA := (RX10, cX10_init, 2, none, yX10_init, 8, [])
theorem fpX10_9_7 : FP RX10 9 7 1 (.array .int) true := ⟨_, TX7, 14, "ToolCourt$TextReader", tyX7, rfl, by decide, Or.inl (tblG_of 419 (by decide +kernel) (by decide +kernel)), Or.inl rfl, tyX7_ok, nmX7, rfl, by decide, by decide +kernel⟩
theorem fpX10_15_7 : FP RX10 15 7 2 (.array .int) true := ⟨_, TX7, 14, "ToolCourt$TextReader", tyX7, rfl, by decide, Or.inl (tblG_of 420 (by decide +kernel) (by decide +kernel)), Or.inl rfl, tyX7_ok, nmX7, rfl, by decide, by decide +kernel⟩
theorem fpX10_18_7 : FP RX10 18 7 3 (.array .int) true := ⟨_, TX7, 14, "ToolCourt$TextReader", tyX7, rfl, by decide, Or.inl (tblG_of 421 (by decide +kernel) (by decide +kernel)), Or.inl rfl, tyX7_ok, nmX7, rfl, by decide, by decide +kernel⟩
theorem fpX10_21_7 : FP RX10 21 7 4 (.array .int) true := ⟨_, TX7, 14, "ToolCourt$TextReader", tyX7, rfl, by decide, Or.inl (tblG_of 422 (by decide +kernel) (by decide +kernel)), Or.inl rfl, tyX7_ok, nmX7, rfl, by decide, by decide +kernel⟩
theorem fpX10_24_7 : FP RX10 24 7 11 .int false := ⟨_, TX7, 14, "ToolCourt$TextReader", tyX7, rfl, by decide, Or.inl (tblG_of 443 (by decide +kernel) (by decide +kernel)), Or.inl rfl, tyX7_ok, nmX7, rfl, by decide, by decide +kernel⟩
theorem fpX10_28_7 : FP RX10 28 7 0 (.object "ToolCourt$Tape") true := ⟨_, TX7, 14, "ToolCourt$TextReader", tyX7, rfl, by decide, Or.inl (tblG_of 418 (by decide +kernel) (by decide +kernel)), Or.inl rfl, tyX7_ok, nmX7, rfl, by decide, by decide +kernel⟩
noncomputable def mX10_inits (a0 : Nat) (a1 : Nat) : MM Unit := onC 7 a0 (
  mbnd (nwI 0 400) fun (v1 : Nat) =>
  mbnd (pR 7 1 a0 v1) fun _ =>
  mbnd (nwI 0 400) fun (v2 : Nat) =>
  mbnd (pR 7 2 a0 v2) fun _ =>
  mbnd (nwI 0 400) fun (v3 : Nat) =>
  mbnd (pR 7 3 a0 v3) fun _ =>
  mbnd (nwI 0 400) fun (v4 : Nat) =>
  mbnd (pR 7 4 a0 v4) fun _ =>
  mbnd (pI 7 11 a0 (-1)) fun _ =>
  mbnd (pR 7 0 a0 a1) fun _ =>
  mret ()
  )
theorem rcX10_inits (a0 : Nat) (a1 : Nat) : Rcv 7 a0 (mX10_inits a0 a1) := fun s r h => ⟨(onC_some h).1, (onC_some h).2.1⟩
set_option maxHeartbeats 4000000 in
set_option maxRecDepth 100000 in
theorem ctX10_inits (a0 : Nat) (a1 : Nat) : Ct aX10_inits [vr a0, vr a1] (mX10_inits a0 a1) rU := by
  unfold mX10_inits
  refine ct_onC (ct_intro (by decide +kernel) rfl (Nat.le_of_ble_eq_true rfl) fun Y s => ?_)
  refine r_sub (lv' := [(0, vr a0), (1, vr a1)]) [0, 1] rfl ?_
  refine r_p (pc' := 1) (p_aload_n 0 (k := 0) (by decide +kernel) rfl) ?_
  refine r_p (pc' := 4) (p_obj (idx := 3) (tblG_of 415 (by decide +kernel) (by decide +kernel)) (Nat.le_of_ble_eq_true rfl) (Nat.le_of_ble_eq_true rfl) (by decide +kernel)) ?_
  refine r_p (pc' := 5) (p_aload_n 0 (k := 0) (by decide +kernel) rfl) ?_
  refine r_p (pc' := 8) (p_sipush (n := 400) (v := 400) (by decide +kernel) (by decide +kernel)) ?_
  refine r_nwI (at9 := .int) (ty := .int) rfl (by decide) (by decide +kernel) fun v1 s => ?_
  refine r_pR fpX10_9_7 (fun _ => rfl) (Or.inr ⟨_, rfl⟩) (by decide +kernel) fun s => ?_
  refine r_p (pc' := 14) (p_aload_n 0 (k := 0) (by decide +kernel) rfl) ?_
  refine r_p (pc' := 17) (p_sipush (n := 400) (v := 400) (by decide +kernel) (by decide +kernel)) ?_
  refine r_nwI (at9 := .int) (ty := .int) rfl (by decide) (by decide +kernel) fun v2 s => ?_
  refine r_pR fpX10_15_7 (fun _ => rfl) (Or.inr ⟨_, rfl⟩) (by decide +kernel) fun s => ?_
  refine r_p (pc' := 23) (p_aload_n 0 (k := 0) (by decide +kernel) rfl) ?_
  refine r_p (pc' := 26) (p_sipush (n := 400) (v := 400) (by decide +kernel) (by decide +kernel)) ?_
  refine r_nwI (at9 := .int) (ty := .int) rfl (by decide) (by decide +kernel) fun v3 s => ?_
  refine r_pR fpX10_18_7 (fun _ => rfl) (Or.inr ⟨_, rfl⟩) (by decide +kernel) fun s => ?_
  refine r_p (pc' := 32) (p_aload_n 0 (k := 0) (by decide +kernel) rfl) ?_
  refine r_p (pc' := 35) (p_sipush (n := 400) (v := 400) (by decide +kernel) (by decide +kernel)) ?_
  refine r_nwI (at9 := .int) (ty := .int) rfl (by decide) (by decide +kernel) fun v4 s => ?_
  refine r_pR fpX10_21_7 (fun _ => rfl) (Or.inr ⟨_, rfl⟩) (by decide +kernel) fun s => ?_
  refine r_p (pc' := 41) (p_aload_n 0 (k := 0) (by decide +kernel) rfl) ?_
  refine r_p (pc' := 42) (p_iconst (n := -1) (v := -1) (by decide +kernel) rfl) ?_
  refine r_pI fpX10_24_7 (fun h => by cases h) (by decide +kernel) fun s => ?_
  refine r_p (pc' := 46) (p_aload_n 0 (k := 0) (by decide +kernel) rfl) ?_
  refine r_p (pc' := 47) (p_aload_n 1 (k := 1) (by decide +kernel) rfl) ?_
  refine r_pR fpX10_28_7 (fun _ => rfl) (Or.inl ⟨_, rfl⟩) (by decide +kernel) fun s => ?_
  exact r_vret (y9 := ()) rfl rfl rfl (by decide +kernel)
def aX7_init : StA := (RX7, cX7_init, 4, none, yX7_init, 9, [])
theorem miX7_3s : MI RX7 3 aX10_inits 1 := ⟨tblG_of 412 (by decide +kernel) (by decide +kernel), tblG_of 413 (by decide +kernel) (by decide +kernel), tblG_of 154 (by decide +kernel) (by decide +kernel), tblG_of 414 (by decide +kernel) (by decide +kernel), rfl, ⟨by decide, by decide⟩, by decide +kernel, by decide, rfl, rfl⟩
theorem fpX7_9_7 : FP RX7 9 7 12 (.object "ToolCourt$Court") true := ⟨_, TX7, 14, "ToolCourt$ShopReader", tyX7, rfl, by decide, Or.inl (tblG_of 416 (by decide +kernel) (by decide +kernel)), Or.inl rfl, tyX7_ok, nmX7, rfl, by decide, by decide +kernel⟩
theorem fpX7_15_7 : FP RX7 15 7 13 (.object "ToolCourt$Court") true := ⟨_, TX7, 14, "ToolCourt$ShopReader", tyX7, rfl, by decide, Or.inl (tblG_of 417 (by decide +kernel) (by decide +kernel)), Or.inl rfl, tyX7_ok, nmX7, rfl, by decide, by decide +kernel⟩
noncomputable def mX7_init (a0 : Nat) (a1 : Nat) (a2 : Nat) (a3 : Nat) : MM Unit := onC 7 a0 (
  mbnd (nox (mX10_inits a0 a1)) fun _ =>
  mbnd (pR 7 12 a0 a2) fun _ =>
  mbnd (pR 7 13 a0 a3) fun _ =>
  mret ()
  )
theorem rcX7_init (a0 : Nat) (a1 : Nat) (a2 : Nat) (a3 : Nat) : Rcv 7 a0 (mX7_init a0 a1 a2 a3) := fun s r h => ⟨(onC_some h).1, (onC_some h).2.1⟩
set_option maxHeartbeats 4000000 in
set_option maxRecDepth 100000 in
theorem ctX7_init (a0 : Nat) (a1 : Nat) (a2 : Nat) (a3 : Nat) : Ct aX7_init [vr a0, vr a1, vr a2, vr a3] (mX7_init a0 a1 a2 a3) rU := by
  unfold mX7_init
  refine ct_onC (ct_intro (by decide +kernel) rfl (Nat.le_of_ble_eq_true rfl) fun Y s => ?_)
  refine r_sub (lv' := [(0, vr a0), (1, vr a1), (2, vr a2), (3, vr a3)]) [0, 1, 2, 3] rfl ?_
  refine r_p (pc' := 1) (p_aload_n 0 (k := 0) (by decide +kernel) rfl) ?_
  refine r_p (pc' := 2) (p_aload_n 1 (k := 1) (by decide +kernel) rfl) ?_
  refine r_callIU miX7_3s (ctX10_inits a0 a1) (as := [vr a1]) (st := []) rfl rfl (by decide +kernel) rfl (Nat.le_of_ble_eq_true rfl) (Nat.le_of_ble_eq_true rfl) fun s => ?_
  refine r_p (pc' := 6) (p_aload_n 0 (k := 0) (by decide +kernel) rfl) ?_
  refine r_p (pc' := 7) (p_aload_n 2 (k := 2) (by decide +kernel) rfl) ?_
  refine r_pR fpX7_9_7 (fun _ => rfl) (Or.inl ⟨_, rfl⟩) (by decide +kernel) fun s => ?_
  refine r_p (pc' := 11) (p_aload_n 0 (k := 0) (by decide +kernel) rfl) ?_
  refine r_p (pc' := 12) (p_aload_n 3 (k := 3) (by decide +kernel) rfl) ?_
  refine r_pR fpX7_15_7 (fun _ => rfl) (Or.inl ⟨_, rfl⟩) (by decide +kernel) fun s => ?_
  exact r_vret (y9 := ()) rfl rfl rfl (by decide +kernel)
def aX10_initl : StA := (RX10, cX10_init, 2, none, yX10_init, 8, [])
theorem fpX10_9_5 : FP RX10 9 5 1 (.array .int) true := ⟨_, TX5, 18, "ToolCourt$TextReader", tyX5, rfl, by decide, Or.inl (tblG_of 419 (by decide +kernel) (by decide +kernel)), Or.inl rfl, tyX5_ok, nmX5, rfl, by decide, by decide +kernel⟩
theorem fpX10_15_5 : FP RX10 15 5 2 (.array .int) true := ⟨_, TX5, 18, "ToolCourt$TextReader", tyX5, rfl, by decide, Or.inl (tblG_of 420 (by decide +kernel) (by decide +kernel)), Or.inl rfl, tyX5_ok, nmX5, rfl, by decide, by decide +kernel⟩
theorem fpX10_18_5 : FP RX10 18 5 3 (.array .int) true := ⟨_, TX5, 18, "ToolCourt$TextReader", tyX5, rfl, by decide, Or.inl (tblG_of 421 (by decide +kernel) (by decide +kernel)), Or.inl rfl, tyX5_ok, nmX5, rfl, by decide, by decide +kernel⟩
theorem fpX10_21_5 : FP RX10 21 5 4 (.array .int) true := ⟨_, TX5, 18, "ToolCourt$TextReader", tyX5, rfl, by decide, Or.inl (tblG_of 422 (by decide +kernel) (by decide +kernel)), Or.inl rfl, tyX5_ok, nmX5, rfl, by decide, by decide +kernel⟩
theorem fpX10_24_5 : FP RX10 24 5 11 .int false := ⟨_, TX5, 18, "ToolCourt$TextReader", tyX5, rfl, by decide, Or.inl (tblG_of 443 (by decide +kernel) (by decide +kernel)), Or.inl rfl, tyX5_ok, nmX5, rfl, by decide, by decide +kernel⟩
theorem fpX10_28_5 : FP RX10 28 5 0 (.object "ToolCourt$Tape") true := ⟨_, TX5, 18, "ToolCourt$TextReader", tyX5, rfl, by decide, Or.inl (tblG_of 418 (by decide +kernel) (by decide +kernel)), Or.inl rfl, tyX5_ok, nmX5, rfl, by decide, by decide +kernel⟩
noncomputable def mX10_initl (a0 : Nat) (a1 : Nat) : MM Unit := onC 5 a0 (
  mbnd (nwI 0 400) fun (v1 : Nat) =>
  mbnd (pR 5 1 a0 v1) fun _ =>
  mbnd (nwI 0 400) fun (v2 : Nat) =>
  mbnd (pR 5 2 a0 v2) fun _ =>
  mbnd (nwI 0 400) fun (v3 : Nat) =>
  mbnd (pR 5 3 a0 v3) fun _ =>
  mbnd (nwI 0 400) fun (v4 : Nat) =>
  mbnd (pR 5 4 a0 v4) fun _ =>
  mbnd (pI 5 11 a0 (-1)) fun _ =>
  mbnd (pR 5 0 a0 a1) fun _ =>
  mret ()
  )
theorem rcX10_initl (a0 : Nat) (a1 : Nat) : Rcv 5 a0 (mX10_initl a0 a1) := fun s r h => ⟨(onC_some h).1, (onC_some h).2.1⟩
set_option maxHeartbeats 4000000 in
set_option maxRecDepth 100000 in
theorem ctX10_initl (a0 : Nat) (a1 : Nat) : Ct aX10_initl [vr a0, vr a1] (mX10_initl a0 a1) rU := by
  unfold mX10_initl
  refine ct_onC (ct_intro (by decide +kernel) rfl (Nat.le_of_ble_eq_true rfl) fun Y s => ?_)
  refine r_sub (lv' := [(0, vr a0), (1, vr a1)]) [0, 1] rfl ?_
  refine r_p (pc' := 1) (p_aload_n 0 (k := 0) (by decide +kernel) rfl) ?_
  refine r_p (pc' := 4) (p_obj (idx := 3) (tblG_of 415 (by decide +kernel) (by decide +kernel)) (Nat.le_of_ble_eq_true rfl) (Nat.le_of_ble_eq_true rfl) (by decide +kernel)) ?_
  refine r_p (pc' := 5) (p_aload_n 0 (k := 0) (by decide +kernel) rfl) ?_
  refine r_p (pc' := 8) (p_sipush (n := 400) (v := 400) (by decide +kernel) (by decide +kernel)) ?_
  refine r_nwI (at9 := .int) (ty := .int) rfl (by decide) (by decide +kernel) fun v1 s => ?_
  refine r_pR fpX10_9_5 (fun _ => rfl) (Or.inr ⟨_, rfl⟩) (by decide +kernel) fun s => ?_
  refine r_p (pc' := 14) (p_aload_n 0 (k := 0) (by decide +kernel) rfl) ?_
  refine r_p (pc' := 17) (p_sipush (n := 400) (v := 400) (by decide +kernel) (by decide +kernel)) ?_
  refine r_nwI (at9 := .int) (ty := .int) rfl (by decide) (by decide +kernel) fun v2 s => ?_
  refine r_pR fpX10_15_5 (fun _ => rfl) (Or.inr ⟨_, rfl⟩) (by decide +kernel) fun s => ?_
  refine r_p (pc' := 23) (p_aload_n 0 (k := 0) (by decide +kernel) rfl) ?_
  refine r_p (pc' := 26) (p_sipush (n := 400) (v := 400) (by decide +kernel) (by decide +kernel)) ?_
  refine r_nwI (at9 := .int) (ty := .int) rfl (by decide) (by decide +kernel) fun v3 s => ?_
  refine r_pR fpX10_18_5 (fun _ => rfl) (Or.inr ⟨_, rfl⟩) (by decide +kernel) fun s => ?_
  refine r_p (pc' := 32) (p_aload_n 0 (k := 0) (by decide +kernel) rfl) ?_
  refine r_p (pc' := 35) (p_sipush (n := 400) (v := 400) (by decide +kernel) (by decide +kernel)) ?_
  refine r_nwI (at9 := .int) (ty := .int) rfl (by decide) (by decide +kernel) fun v4 s => ?_
  refine r_pR fpX10_21_5 (fun _ => rfl) (Or.inr ⟨_, rfl⟩) (by decide +kernel) fun s => ?_
  refine r_p (pc' := 41) (p_aload_n 0 (k := 0) (by decide +kernel) rfl) ?_
  refine r_p (pc' := 42) (p_iconst (n := -1) (v := -1) (by decide +kernel) rfl) ?_
  refine r_pI fpX10_24_5 (fun h => by cases h) (by decide +kernel) fun s => ?_
  refine r_p (pc' := 46) (p_aload_n 0 (k := 0) (by decide +kernel) rfl) ?_
  refine r_p (pc' := 47) (p_aload_n 1 (k := 1) (by decide +kernel) rfl) ?_
  refine r_pR fpX10_28_5 (fun _ => rfl) (Or.inl ⟨_, rfl⟩) (by decide +kernel) fun s => ?_
  exact r_vret (y9 := ()) rfl rfl rfl (by decide +kernel)
def aX5_init : StA := (RX5, cX5_init, 2, none, yX5_init, 9, [])
theorem miX5_3l : MI RX5 3 aX10_initl 1 := ⟨tblG_of 482 (by decide +kernel) (by decide +kernel), tblG_of 413 (by decide +kernel) (by decide +kernel), tblG_of 154 (by decide +kernel) (by decide +kernel), tblG_of 414 (by decide +kernel) (by decide +kernel), rfl, ⟨by decide, by decide⟩, by decide +kernel, by decide, rfl, rfl⟩
theorem fpX5_9_5 : FP RX5 9 5 12 (.array .int) true := ⟨_, TX5, 18, "ToolCourt$LawReader", tyX5, rfl, by decide, Or.inl (tblG_of 483 (by decide +kernel) (by decide +kernel)), Or.inl rfl, tyX5_ok, nmX5, rfl, by decide, by decide +kernel⟩
theorem fpX5_15_5 : FP RX5 15 5 13 (.array .int) true := ⟨_, TX5, 18, "ToolCourt$LawReader", tyX5, rfl, by decide, Or.inl (tblG_of 484 (by decide +kernel) (by decide +kernel)), Or.inl rfl, tyX5_ok, nmX5, rfl, by decide, by decide +kernel⟩
noncomputable def mX5_init (a0 : Nat) (a1 : Nat) : MM Unit := onC 5 a0 (
  mbnd (nox (mX10_initl a0 a1)) fun _ =>
  mbnd (nwI 0 400) fun (v1 : Nat) =>
  mbnd (pR 5 12 a0 v1) fun _ =>
  mbnd (nwI 0 40) fun (v2 : Nat) =>
  mbnd (pR 5 13 a0 v2) fun _ =>
  mret ()
  )
theorem rcX5_init (a0 : Nat) (a1 : Nat) : Rcv 5 a0 (mX5_init a0 a1) := fun s r h => ⟨(onC_some h).1, (onC_some h).2.1⟩
set_option maxHeartbeats 4000000 in
set_option maxRecDepth 100000 in
theorem ctX5_init (a0 : Nat) (a1 : Nat) : Ct aX5_init [vr a0, vr a1] (mX5_init a0 a1) rU := by
  unfold mX5_init
  refine ct_onC (ct_intro (by decide +kernel) rfl (Nat.le_of_ble_eq_true rfl) fun Y s => ?_)
  refine r_sub (lv' := [(0, vr a0), (1, vr a1)]) [0, 1] rfl ?_
  refine r_p (pc' := 1) (p_aload_n 0 (k := 0) (by decide +kernel) rfl) ?_
  refine r_p (pc' := 2) (p_aload_n 1 (k := 1) (by decide +kernel) rfl) ?_
  refine r_callIU miX5_3l (ctX10_initl a0 a1) (as := [vr a1]) (st := []) rfl rfl (by decide +kernel) rfl (Nat.le_of_ble_eq_true rfl) (Nat.le_of_ble_eq_true rfl) fun s => ?_
  refine r_p (pc' := 6) (p_aload_n 0 (k := 0) (by decide +kernel) rfl) ?_
  refine r_p (pc' := 9) (p_sipush (n := 400) (v := 400) (by decide +kernel) (by decide +kernel)) ?_
  refine r_nwI (at9 := .int) (ty := .int) rfl (by decide) (by decide +kernel) fun v1 s => ?_
  refine r_pR fpX5_9_5 (fun _ => rfl) (Or.inr ⟨_, rfl⟩) (by decide +kernel) fun s => ?_
  refine r_p (pc' := 15) (p_aload_n 0 (k := 0) (by decide +kernel) rfl) ?_
  refine r_p (pc' := 17) (p_bipush (n := 40) (v := 40) (by decide +kernel) (by decide +kernel)) ?_
  refine r_nwI (at9 := .int) (ty := .int) rfl (by decide) (by decide +kernel) fun v2 s => ?_
  refine r_pR fpX5_15_5 (fun _ => rfl) (Or.inr ⟨_, rfl⟩) (by decide +kernel) fun s => ?_
  exact r_vret (y9 := ()) rfl rfl rfl (by decide +kernel)
def aX7_start : StA := (RX7, cX7_start, 1, none, yX7_start, 10, [])
theorem flX7_15_7 : FL RX7 15 7 13 := ⟨_, TX7, 14, "ToolCourt$ShopReader", rfl, by decide, Or.inl (tblG_of 417 (by decide +kernel) (by decide +kernel)), Or.inl rfl⟩
theorem flX7_9_7 : FL RX7 9 7 12 := ⟨_, TX7, 14, "ToolCourt$ShopReader", rfl, by decide, Or.inl (tblG_of 416 (by decide +kernel) (by decide +kernel)), Or.inl rfl⟩
theorem mvX7_18 : MV RX7 18 aX1_copyFrom 1 := ⟨tblG_of 819 (by decide +kernel) (by decide +kernel), tblG_of 749 (by decide +kernel) (by decide +kernel), tblG_of 750 (by decide +kernel) (by decide +kernel), tblG_of 151 (by decide +kernel) (by decide +kernel), tblG_of 751 (by decide +kernel) (by decide +kernel), rfl, ⟨by decide, by decide⟩, by decide +kernel, by decide⟩
noncomputable def mX7_start (a0 : Nat) : MM Unit := onC 7 a0 (
  mbnd (gR 7 13 a0) fun (v1 : Nat) =>
  mbnd (gR 7 12 a0) fun (v2 : Nat) =>
  mbnd (mX1_copyFrom v1 v2) fun _ =>
  mret ()
  )
theorem rcX7_start (a0 : Nat) : Rcv 7 a0 (mX7_start a0) := fun s r h => ⟨(onC_some h).1, (onC_some h).2.1⟩
set_option maxHeartbeats 4000000 in
set_option maxRecDepth 100000 in
theorem ctX7_start (a0 : Nat) : Ct aX7_start [vr a0] (mX7_start a0) rU := by
  unfold mX7_start
  refine ct_onC (ct_intro (by decide +kernel) rfl (Nat.le_of_ble_eq_true rfl) fun Y s => ?_)
  refine r_sub (lv' := [(0, vr a0)]) [0] rfl ?_
  refine r_p (pc' := 1) (p_aload_n 0 (k := 0) (by decide +kernel) rfl) ?_
  refine r_gR flX7_15_7 (by decide +kernel) fun v1 => ?_
  refine r_p (pc' := 5) (p_aload_n 0 (k := 0) (by decide +kernel) rfl) ?_
  refine r_gR flX7_9_7 (by decide +kernel) fun v2 => ?_
  refine r_callVU mvX7_18 (ctX1_copyFrom v1 v2) (rcX1_copyFrom v1 v2) ⟨_, _, rfl⟩ (as := [vr v2]) (st := []) rfl rfl (by decide +kernel) rfl (Nat.le_of_ble_eq_true rfl) (Nat.le_of_ble_eq_true rfl) fun s => ?_
  exact r_vret (y9 := ()) rfl rfl rfl (by decide +kernel)
def aX10_isLetter : StA := (RX10, cX10_isLetter, 1, some .boolean, yX10_isLetter, 8, [])
noncomputable def mX10_isLetter (a0 : Int32) : MM Int32 :=
  if a0 < 97 then (
    mret 0
  ) else (
    if 122 < a0 then (
      mret 0
    ) else (
      mret 1
    )
  )
set_option maxHeartbeats 4000000 in
set_option maxRecDepth 100000 in
theorem ctX10_isLetter (a0 : Int32) : Ct aX10_isLetter [vi a0] (mX10_isLetter a0) rI := by
  unfold mX10_isLetter
  refine ct_intro (by decide +kernel) rfl (Nat.le_of_ble_eq_true rfl) fun Y s => ?_
  refine r_sub (lv' := [(0, vi a0)]) [0] rfl ?_
  refine r_p (pc' := 1) (p_iload_n 0 (k := 0) (by decide +kernel) rfl) ?_
  refine r_p (pc' := 3) (p_bipush (n := 97) (v := 97) (by decide +kernel) (by decide +kernel)) ?_
  refine r_icmplt (off := 13) (tgt := 16) (by decide +kernel) (by decide) (fun h1 => ?_) (fun h1 => ?_)
  · refine r_p (pc' := 17) (p_iconst (n := 0) (v := 0) (by decide +kernel) rfl) ?_
    exact r_iret rfl rfl _ rfl rfl (by decide +kernel)
  · refine r_p (pc' := 7) (p_iload_n 0 (k := 0) (by decide +kernel) rfl) ?_
    refine r_p (pc' := 9) (p_bipush (n := 122) (v := 122) (by decide +kernel) (by decide +kernel)) ?_
    refine r_icmpgt (off := 7) (tgt := 16) (by decide +kernel) (by decide) (fun h2 => ?_) (fun h2 => ?_)
    · refine r_p (pc' := 17) (p_iconst (n := 0) (v := 0) (by decide +kernel) rfl) ?_
      exact r_iret rfl rfl _ rfl rfl (by decide +kernel)
    · refine r_p (pc' := 13) (p_iconst (n := 1) (v := 1) (by decide +kernel) rfl) ?_
      refine r_p (pc' := 17) (p_goto (off := 4) (tgt := 17) (by decide +kernel) (by decide)) ?_
      exact r_iret rfl rfl _ rfl rfl (by decide +kernel)
def aX10_isDigit : StA := (RX10, cX10_isDigit, 1, some .boolean, yX10_isDigit, 8, [])
noncomputable def mX10_isDigit (a0 : Int32) : MM Int32 :=
  if a0 < 48 then (
    mret 0
  ) else (
    if 57 < a0 then (
      mret 0
    ) else (
      mret 1
    )
  )
set_option maxHeartbeats 4000000 in
set_option maxRecDepth 100000 in
theorem ctX10_isDigit (a0 : Int32) : Ct aX10_isDigit [vi a0] (mX10_isDigit a0) rI := by
  unfold mX10_isDigit
  refine ct_intro (by decide +kernel) rfl (Nat.le_of_ble_eq_true rfl) fun Y s => ?_
  refine r_sub (lv' := [(0, vi a0)]) [0] rfl ?_
  refine r_p (pc' := 1) (p_iload_n 0 (k := 0) (by decide +kernel) rfl) ?_
  refine r_p (pc' := 3) (p_bipush (n := 48) (v := 48) (by decide +kernel) (by decide +kernel)) ?_
  refine r_icmplt (off := 13) (tgt := 16) (by decide +kernel) (by decide) (fun h1 => ?_) (fun h1 => ?_)
  · refine r_p (pc' := 17) (p_iconst (n := 0) (v := 0) (by decide +kernel) rfl) ?_
    exact r_iret rfl rfl _ rfl rfl (by decide +kernel)
  · refine r_p (pc' := 7) (p_iload_n 0 (k := 0) (by decide +kernel) rfl) ?_
    refine r_p (pc' := 9) (p_bipush (n := 57) (v := 57) (by decide +kernel) (by decide +kernel)) ?_
    refine r_icmpgt (off := 7) (tgt := 16) (by decide +kernel) (by decide) (fun h2 => ?_) (fun h2 => ?_)
    · refine r_p (pc' := 17) (p_iconst (n := 0) (v := 0) (by decide +kernel) rfl) ?_
      exact r_iret rfl rfl _ rfl rfl (by decide +kernel)
    · refine r_p (pc' := 13) (p_iconst (n := 1) (v := 1) (by decide +kernel) rfl) ?_
      refine r_p (pc' := 17) (p_goto (off := 4) (tgt := 17) (by decide +kernel) (by decide)) ?_
      exact r_iret rfl rfl _ rfl rfl (by decide +kernel)
def aX10_notes : StA := (RX10, cX10_note, 5, none, yX10_note, 8, [])
theorem fpX10_61_7 : FP RX10 61 7 5 .int false := ⟨_, TX7, 14, "ToolCourt$TextReader", tyX7, rfl, by decide, Or.inl (tblG_of 423 (by decide +kernel) (by decide +kernel)), Or.inl rfl, tyX7_ok, nmX7, rfl, by decide, by decide +kernel⟩
theorem flX10_61_7 : FL RX10 61 7 5 := ⟨_, TX7, 14, "ToolCourt$TextReader", rfl, by decide, Or.inl (tblG_of 423 (by decide +kernel) (by decide +kernel)), Or.inl rfl⟩
theorem flX10_9_7 : FL RX10 9 7 1 := ⟨_, TX7, 14, "ToolCourt$TextReader", rfl, by decide, Or.inl (tblG_of 419 (by decide +kernel) (by decide +kernel)), Or.inl rfl⟩
theorem flX10_15_7 : FL RX10 15 7 2 := ⟨_, TX7, 14, "ToolCourt$TextReader", rfl, by decide, Or.inl (tblG_of 420 (by decide +kernel) (by decide +kernel)), Or.inl rfl⟩
theorem flX10_18_7 : FL RX10 18 7 3 := ⟨_, TX7, 14, "ToolCourt$TextReader", rfl, by decide, Or.inl (tblG_of 421 (by decide +kernel) (by decide +kernel)), Or.inl rfl⟩
theorem flX10_21_7 : FL RX10 21 7 4 := ⟨_, TX7, 14, "ToolCourt$TextReader", rfl, by decide, Or.inl (tblG_of 422 (by decide +kernel) (by decide +kernel)), Or.inl rfl⟩
noncomputable def mX10_notes (a0 : Nat) (a1 : Int32) (a2 : Int32) (a3 : Int32) (a4 : Int32) : MM Unit := onC 7 a0 (
  mbnd (gI 7 5 a0) fun (v1 : Int32) =>
  if v1 < 0 then (
    mret ()
  ) else (
    mbnd (gI 7 5 a0) fun (v3 : Int32) =>
    if 400 ≤ v3 then (
      mret ()
    ) else (
      mbnd (gR 7 1 a0) fun (v5 : Nat) =>
      mbnd (gI 7 5 a0) fun (v6 : Int32) =>
      mbnd (stI 0 v5 v6 a1) fun _ =>
      mbnd (gR 7 2 a0) fun (v7 : Nat) =>
      mbnd (gI 7 5 a0) fun (v8 : Int32) =>
      mbnd (stI 0 v7 v8 a2) fun _ =>
      mbnd (gR 7 3 a0) fun (v9 : Nat) =>
      mbnd (gI 7 5 a0) fun (v10 : Int32) =>
      mbnd (stI 0 v9 v10 a3) fun _ =>
      mbnd (gR 7 4 a0) fun (v11 : Nat) =>
      mbnd (gI 7 5 a0) fun (v12 : Int32) =>
      mbnd (stI 0 v11 v12 a4) fun _ =>
      mbnd (gI 7 5 a0) fun (v13 : Int32) =>
      mbnd (pI 7 5 a0 (v13 + 1)) fun _ =>
      mret ()
    )
  )
  )
theorem rcX10_notes (a0 : Nat) (a1 : Int32) (a2 : Int32) (a3 : Int32) (a4 : Int32) : Rcv 7 a0 (mX10_notes a0 a1 a2 a3 a4) := fun s r h => ⟨(onC_some h).1, (onC_some h).2.1⟩
set_option maxHeartbeats 4000000 in
set_option maxRecDepth 100000 in
theorem ctX10_notes (a0 : Nat) (a1 : Int32) (a2 : Int32) (a3 : Int32) (a4 : Int32) : Ct aX10_notes [vr a0, vi a1, vi a2, vi a3, vi a4] (mX10_notes a0 a1 a2 a3 a4) rU := by
  unfold mX10_notes
  refine ct_onC (ct_intro (by decide +kernel) rfl (Nat.le_of_ble_eq_true rfl) fun Y s => ?_)
  refine r_sub (lv' := [(0, vr a0), (1, vi a1), (2, vi a2), (3, vi a3), (4, vi a4)]) [0, 1, 2, 3, 4] rfl ?_
  refine r_p (pc' := 1) (p_aload_n 0 (k := 0) (by decide +kernel) rfl) ?_
  refine r_gI flX10_61_7 (by decide +kernel) fun v1 => ?_
  refine r_iflt (off := 64) (tgt := 68) (by decide +kernel) (by decide) (fun h2 => ?_) (fun h2 => ?_)
  · exact r_vret (y9 := ()) rfl rfl rfl (by decide +kernel)
  · refine r_p (pc' := 8) (p_aload_n 0 (k := 0) (by decide +kernel) rfl) ?_
    refine r_gI flX10_61_7 (by decide +kernel) fun v3 => ?_
    refine r_p (pc' := 14) (p_sipush (n := 400) (v := 400) (by decide +kernel) (by decide +kernel)) ?_
    refine r_icmpge (off := 54) (tgt := 68) (by decide +kernel) (by decide) (fun h4 => ?_) (fun h4 => ?_)
    · exact r_vret (y9 := ()) rfl rfl rfl (by decide +kernel)
    · refine r_p (pc' := 18) (p_aload_n 0 (k := 0) (by decide +kernel) rfl) ?_
      refine r_gR flX10_9_7 (by decide +kernel) fun v5 => ?_
      refine r_p (pc' := 22) (p_aload_n 0 (k := 0) (by decide +kernel) rfl) ?_
      refine r_gI flX10_61_7 (by decide +kernel) fun v6 => ?_
      refine r_p (pc' := 26) (p_iload_n 1 (k := 1) (by decide +kernel) rfl) ?_
      refine r_stI0 (by decide +kernel) fun s => ?_
      refine r_p (pc' := 28) (p_aload_n 0 (k := 0) (by decide +kernel) rfl) ?_
      refine r_gR flX10_15_7 (by decide +kernel) fun v7 => ?_
      refine r_p (pc' := 32) (p_aload_n 0 (k := 0) (by decide +kernel) rfl) ?_
      refine r_gI flX10_61_7 (by decide +kernel) fun v8 => ?_
      refine r_p (pc' := 36) (p_iload_n 2 (k := 2) (by decide +kernel) rfl) ?_
      refine r_stI0 (by decide +kernel) fun s => ?_
      refine r_p (pc' := 38) (p_aload_n 0 (k := 0) (by decide +kernel) rfl) ?_
      refine r_gR flX10_18_7 (by decide +kernel) fun v9 => ?_
      refine r_p (pc' := 42) (p_aload_n 0 (k := 0) (by decide +kernel) rfl) ?_
      refine r_gI flX10_61_7 (by decide +kernel) fun v10 => ?_
      refine r_p (pc' := 46) (p_iload_n 3 (k := 3) (by decide +kernel) rfl) ?_
      refine r_stI0 (by decide +kernel) fun s => ?_
      refine r_p (pc' := 48) (p_aload_n 0 (k := 0) (by decide +kernel) rfl) ?_
      refine r_gR flX10_21_7 (by decide +kernel) fun v11 => ?_
      refine r_p (pc' := 52) (p_aload_n 0 (k := 0) (by decide +kernel) rfl) ?_
      refine r_gI flX10_61_7 (by decide +kernel) fun v12 => ?_
      refine r_p (pc' := 57) (p_iload 4 (i := 4) (by decide +kernel) rfl) ?_
      refine r_stI0 (by decide +kernel) fun s => ?_
      refine r_p (pc' := 59) (p_aload_n 0 (k := 0) (by decide +kernel) rfl) ?_
      refine r_p (pc' := 60) (p_dup rfl (by decide +kernel)) ?_
      refine r_gI flX10_61_7 (by decide +kernel) fun v13 => ?_
      refine r_p (pc' := 64) (p_iconst (n := 1) (v := 1) (by decide +kernel) rfl) ?_
      refine r_p (pc' := 65) (p_iadd (by decide +kernel)) ?_
      refine r_pI fpX10_61_7 (fun h => by cases h) (by decide +kernel) fun s => ?_
      exact r_vret (y9 := ()) rfl rfl rfl (by decide +kernel)
def aX10_numberEnds : StA := (RX10, cX10_numberEnd, 3, some .int, yX10_numberEnd, 9, [])
theorem flX10_28_7 : FL RX10 28 7 0 := ⟨_, TX7, 14, "ToolCourt$TextReader", rfl, by decide, Or.inl (tblG_of 418 (by decide +kernel) (by decide +kernel)), Or.inl rfl⟩
theorem flX10_64_9 : FL RX10 64 9 1 := ⟨_, TX9, 2, "ToolCourt$Tape", rfl, by decide, Or.inr ⟨"ToolCourt", List.mem_of_getElem? (i := 190) (by decide +kernel)⟩, Or.inl rfl⟩
theorem mvX10_75 : MV RX10 75 aX9_byteAt 1 := ⟨tblG_of 824 (by decide +kernel) (by decide +kernel), tblG_of 825 (by decide +kernel) (by decide +kernel), tblG_of 826 (by decide +kernel) (by decide +kernel), tblG_of 145 (by decide +kernel) (by decide +kernel), tblG_of 827 (by decide +kernel) (by decide +kernel), rfl, ⟨by decide, by decide⟩, by decide +kernel, by decide⟩
theorem msX10_93 : MS RX10 93 aX10_isDigit 1 := ⟨tblG_of 892 (by decide +kernel) (by decide +kernel), tblG_of 893 (by decide +kernel) (by decide +kernel), tblG_of 154 (by decide +kernel) (by decide +kernel), tblG_of 894 (by decide +kernel) (by decide +kernel), rfl, ⟨by decide, by decide⟩, by decide +kernel, by decide⟩
noncomputable def mX10_numberEnds_L2 (a0 : Nat) (x1 : Int32) : MM ((Int32) ⊕ (Int32)) :=
  mbnd (gR 7 0 a0) fun (v5 : Nat) =>
  mbnd (gI 9 1 v5) fun (v6 : Int32) =>
  if v6 ≤ x1 then (
    mret (.inr x1)
  ) else (
    mbnd (gR 7 0 a0) fun (v8 : Nat) =>
    mbnd (mX9_byteAt v8 x1) fun (v9 : Int32) =>
    mbnd (mX10_isDigit v9) fun (v10 : Int32) =>
    if v10 = 0 then (
      mret (.inr x1)
    ) else (
      mret (.inl (x1 + 1))
    )
  )
noncomputable def mX10_numberEnds (a0 : Nat) (a1 : Int32) : MM Int32 := onC 7 a0 (
  mbnd (loopM (mX10_numberEnds_L2 a0) a1) fun (e12 : Int32) =>
  mret e12
  )
theorem rcX10_numberEnds (a0 : Nat) (a1 : Int32) : Rcv 7 a0 (mX10_numberEnds a0 a1) := fun s r h => ⟨(onC_some h).1, (onC_some h).2.1⟩
set_option maxHeartbeats 4000000 in
set_option maxRecDepth 100000 in
theorem ctX10_numberEnds (a0 : Nat) (a1 : Int32) : Ct aX10_numberEnds [vr a0, vi a1] (mX10_numberEnds a0 a1) rI := by
  unfold mX10_numberEnds
  refine ct_onC (ct_intro (by decide +kernel) rfl (Nat.le_of_ble_eq_true rfl) fun Y s => ?_)
  refine r_sub (lv' := [(0, vr a0), (1, vi a1)]) [0, 1] rfl ?_
  refine r_p (pc' := 1) (p_iload_n 1 (k := 1) (by decide +kernel) rfl) ?_
  refine r_p (pc' := 2) (p_istore_n (k := 2) (lv' := [(2, vi a1), (0, vr a0), (1, vi a1)]) (by decide +kernel) (Nat.le_of_ble_eq_true rfl) rfl) ?_
  refine r_sub (lv' := [(0, vr a0), (2, vi a1)]) [1, 0] rfl ?_
  refine r_loop2 (fun _ => 33) (fun (e12 : Int32) => [(2, vi e12)]) (fun (x1 : Int32) => [(0, vr a0), (2, vi x1)]) (fun e12 s => ?_) (fun K2 hb3 he4 x1 s => ?_) a1 _
  · refine r_p (pc' := 34) (p_iload_n 0 (k := 2) (by decide +kernel) rfl) ?_
    exact r_iret rfl rfl _ rfl rfl (by decide +kernel)
  · unfold mX10_numberEnds_L2
    refine r_p (pc' := 3) (p_iload_n 1 (k := 2) (by decide +kernel) rfl) ?_
    refine r_p (pc' := 4) (p_aload_n 0 (k := 0) (by decide +kernel) rfl) ?_
    refine r_gR flX10_28_7 (by decide +kernel) fun v5 => ?_
    refine r_gI flX10_64_9 (by decide +kernel) fun v6 => ?_
    refine r_icmpge (off := 23) (tgt := 33) (by decide +kernel) (by decide) (fun h7 => ?_) (fun h7 => ?_)
    · refine r_sub (lv' := [(2, vi x1)]) [1] rfl ?_
      exact he4 x1 _
    · refine r_p (pc' := 14) (p_aload_n 0 (k := 0) (by decide +kernel) rfl) ?_
      refine r_gR flX10_28_7 (by decide +kernel) fun v8 => ?_
      refine r_p (pc' := 18) (p_iload_n 1 (k := 2) (by decide +kernel) rfl) ?_
      refine r_callVI mvX10_75 (ctX9_byteAt v8 x1) (rcX9_byteAt v8 x1) ⟨_, _, rfl⟩ (as := [vi x1]) (st := []) rfl rfl (by decide +kernel) rfl (Nat.le_of_ble_eq_true rfl) (Nat.le_of_ble_eq_true rfl) fun v9 s => ?_
      refine r_callSI msX10_93 (ctX10_isDigit v9) (as := [vi v9]) (st := []) rfl rfl (by decide +kernel) rfl (Nat.le_of_ble_eq_true rfl) (Nat.le_of_ble_eq_true rfl) fun v10 s => ?_
      refine r_ifeq (off := 9) (tgt := 33) (by decide +kernel) (by decide) (fun h11 => ?_) (fun h11 => ?_)
      · refine r_sub (lv' := [(2, vi x1)]) [1] rfl ?_
        exact he4 x1 _
      · refine r_p (pc' := 30) (p_iinc 1 (i := 2) (n := 1) (x := x1) (v := x1 + 1) (lv' := [(2, vi (x1 + 1)), (0, vr a0)]) (by decide +kernel) rfl rfl (Nat.le_of_ble_eq_true rfl) rfl) ?_
        refine r_p (pc' := 2) (p_goto (off := -28) (tgt := 2) (by decide +kernel) (by decide)) ?_
        refine r_sub (lv' := [(0, vr a0), (2, vi (x1 + 1))]) [1, 0] rfl ?_
        exact hb3 (x1 + 1) _
def aX10_numberOfs : StA := (RX10, cX10_numberOf, 5, some .int, yX10_numberOf, 9, [])
noncomputable def mX10_numberOfs_L5 (a0 : Nat) (a1 : Int32) (a2 : Int32) (x1 : Int32 × Int32) : MM ((Int32 × Int32) ⊕ (Int32)) :=
  if a2 ≤ x1.2 then (
    mret (.inr x1.1)
  ) else (
    if (a1 + 5) ≤ x1.2 then (
      mret (.inr x1.1)
    ) else (
      mbnd (gR 7 0 a0) fun (v7 : Nat) =>
      mbnd (mX9_byteAt v7 x1.2) fun (v8 : Int32) =>
      mbnd (mret (((x1.1 * 10) + v8) - 48)) fun (v9 : Int32) =>
      mret (.inl (v9, x1.2 + 1))
    )
  )
noncomputable def mX10_numberOfs (a0 : Nat) (a1 : Int32) (a2 : Int32) : MM Int32 := onC 7 a0 (
  mbnd (loopM (mX10_numberOfs_L5 a0 a1 a2) (0, a1)) fun (e10 : Int32) =>
  mret e10
  )
theorem rcX10_numberOfs (a0 : Nat) (a1 : Int32) (a2 : Int32) : Rcv 7 a0 (mX10_numberOfs a0 a1 a2) := fun s r h => ⟨(onC_some h).1, (onC_some h).2.1⟩
set_option maxHeartbeats 4000000 in
set_option maxRecDepth 100000 in
theorem ctX10_numberOfs (a0 : Nat) (a1 : Int32) (a2 : Int32) : Ct aX10_numberOfs [vr a0, vi a1, vi a2] (mX10_numberOfs a0 a1 a2) rI := by
  unfold mX10_numberOfs
  refine ct_onC (ct_intro (by decide +kernel) rfl (Nat.le_of_ble_eq_true rfl) fun Y s => ?_)
  refine r_sub (lv' := [(0, vr a0), (1, vi a1), (2, vi a2)]) [0, 1, 2] rfl ?_
  refine r_p (pc' := 1) (p_iconst (n := 0) (v := 0) (by decide +kernel) rfl) ?_
  refine r_p (pc' := 2) (p_istore_n (k := 3) (lv' := [(3, vi 0), (0, vr a0), (1, vi a1), (2, vi a2)]) (by decide +kernel) (Nat.le_of_ble_eq_true rfl) rfl) ?_
  refine r_p (pc' := 3) (p_iload_n 2 (k := 1) (by decide +kernel) rfl) ?_
  refine r_p (pc' := 5) (p_istore (i := 4) (lv' := [(4, vi a1), (3, vi 0), (0, vr a0), (1, vi a1), (2, vi a2)]) (by decide +kernel) (Nat.le_of_ble_eq_true rfl) rfl) ?_
  refine r_sub (lv' := [(0, vr a0), (1, vi a1), (2, vi a2), (3, vi 0), (4, vi a1)]) [2, 3, 4, 1, 0] rfl ?_
  refine r_loop2 (fun _ => 43) (fun (e10 : Int32) => [(3, vi e10)]) (fun (x1 : Int32 × Int32) => [(0, vr a0), (1, vi a1), (2, vi a2), (3, vi x1.1), (4, vi x1.2)]) (fun e10 s => ?_) (fun K2 hb3 he4 x1 s => ?_) (0, a1) _
  · refine r_p (pc' := 44) (p_iload_n 0 (k := 3) (by decide +kernel) rfl) ?_
    exact r_iret rfl rfl _ rfl rfl (by decide +kernel)
  · unfold mX10_numberOfs_L5
    refine r_p (pc' := 7) (p_iload 4 (i := 4) (by decide +kernel) rfl) ?_
    refine r_p (pc' := 8) (p_iload_n 2 (k := 2) (by decide +kernel) rfl) ?_
    refine r_icmpge (off := 35) (tgt := 43) (by decide +kernel) (by decide) (fun h5 => ?_) (fun h5 => ?_)
    · refine r_sub (lv' := [(3, vi x1.1)]) [3] rfl ?_
      exact he4 x1.1 _
    · refine r_p (pc' := 13) (p_iload 4 (i := 4) (by decide +kernel) rfl) ?_
      refine r_p (pc' := 14) (p_iload_n 1 (k := 1) (by decide +kernel) rfl) ?_
      refine r_p (pc' := 15) (p_iconst (n := 5) (v := 5) (by decide +kernel) rfl) ?_
      refine r_p (pc' := 16) (p_iadd (by decide +kernel)) ?_
      refine r_icmpge (off := 27) (tgt := 43) (by decide +kernel) (by decide) (fun h6 => ?_) (fun h6 => ?_)
      · refine r_sub (lv' := [(3, vi x1.1)]) [3] rfl ?_
        exact he4 x1.1 _
      · refine r_p (pc' := 20) (p_iload_n 3 (k := 3) (by decide +kernel) rfl) ?_
        refine r_p (pc' := 22) (p_bipush (n := 10) (v := 10) (by decide +kernel) (by decide +kernel)) ?_
        refine r_p (pc' := 23) (p_imul (by decide +kernel)) ?_
        refine r_p (pc' := 24) (p_aload_n 0 (k := 0) (by decide +kernel) rfl) ?_
        refine r_gR flX10_28_7 (by decide +kernel) fun v7 => ?_
        refine r_p (pc' := 29) (p_iload 4 (i := 4) (by decide +kernel) rfl) ?_
        refine r_callVI mvX10_75 (ctX9_byteAt v7 x1.2) (rcX9_byteAt v7 x1.2) ⟨_, _, rfl⟩ (as := [vi x1.2]) (st := [vi (x1.1 * 10)]) rfl rfl (by decide +kernel) rfl (Nat.le_of_ble_eq_true rfl) (Nat.le_of_ble_eq_true rfl) fun v8 s => ?_
        refine r_p (pc' := 33) (p_iadd (by decide +kernel)) ?_
        refine r_p (pc' := 35) (p_bipush (n := 48) (v := 48) (by decide +kernel) (by decide +kernel)) ?_
        refine r_p (pc' := 36) (p_isub (by decide +kernel)) ?_
        refine r_letI fun v9 => ?_
        refine r_p (pc' := 37) (p_istore_n (k := 3) (lv' := [(3, vi v9), (0, vr a0), (1, vi a1), (2, vi a2), (4, vi x1.2)]) (by decide +kernel) (Nat.le_of_ble_eq_true rfl) rfl) ?_
        refine r_p (pc' := 40) (p_iinc 4 (i := 4) (n := 1) (x := x1.2) (v := x1.2 + 1) (lv' := [(4, vi (x1.2 + 1)), (3, vi v9), (0, vr a0), (1, vi a1), (2, vi a2)]) (by decide +kernel) rfl rfl (Nat.le_of_ble_eq_true rfl) rfl) ?_
        refine r_p (pc' := 5) (p_goto (off := -35) (tgt := 5) (by decide +kernel) (by decide)) ?_
        refine r_sub (lv' := [(0, vr a0), (1, vi a1), (2, vi a2), (3, vi v9), (4, vi (x1.2 + 1))]) [2, 3, 4, 1, 0] rfl ?_
        exact hb3 (v9, x1.2 + 1) _
def aX10_wordEnds : StA := (RX10, cX10_wordEnd, 3, some .int, yX10_wordEnd, 9, [])
theorem msX10_79 : MS RX10 79 aX10_isLetter 1 := ⟨tblG_of 828 (by decide +kernel) (by decide +kernel), tblG_of 829 (by decide +kernel) (by decide +kernel), tblG_of 154 (by decide +kernel) (by decide +kernel), tblG_of 830 (by decide +kernel) (by decide +kernel), rfl, ⟨by decide, by decide⟩, by decide +kernel, by decide⟩
noncomputable def mX10_wordEnds_L2 (a0 : Nat) (x1 : Int32) : MM ((Int32) ⊕ (Int32)) :=
  mbnd (gR 7 0 a0) fun (v5 : Nat) =>
  mbnd (gI 9 1 v5) fun (v6 : Int32) =>
  if v6 ≤ x1 then (
    mret (.inr x1)
  ) else (
    mbnd (gR 7 0 a0) fun (v8 : Nat) =>
    mbnd (mX9_byteAt v8 x1) fun (v9 : Int32) =>
    mbnd (mX10_isLetter v9) fun (v10 : Int32) =>
    if v10 = 0 then (
      mret (.inr x1)
    ) else (
      mret (.inl (x1 + 1))
    )
  )
noncomputable def mX10_wordEnds (a0 : Nat) (a1 : Int32) : MM Int32 := onC 7 a0 (
  mbnd (loopM (mX10_wordEnds_L2 a0) a1) fun (e12 : Int32) =>
  mret e12
  )
theorem rcX10_wordEnds (a0 : Nat) (a1 : Int32) : Rcv 7 a0 (mX10_wordEnds a0 a1) := fun s r h => ⟨(onC_some h).1, (onC_some h).2.1⟩
set_option maxHeartbeats 4000000 in
set_option maxRecDepth 100000 in
theorem ctX10_wordEnds (a0 : Nat) (a1 : Int32) : Ct aX10_wordEnds [vr a0, vi a1] (mX10_wordEnds a0 a1) rI := by
  unfold mX10_wordEnds
  refine ct_onC (ct_intro (by decide +kernel) rfl (Nat.le_of_ble_eq_true rfl) fun Y s => ?_)
  refine r_sub (lv' := [(0, vr a0), (1, vi a1)]) [0, 1] rfl ?_
  refine r_p (pc' := 1) (p_iload_n 1 (k := 1) (by decide +kernel) rfl) ?_
  refine r_p (pc' := 2) (p_istore_n (k := 2) (lv' := [(2, vi a1), (0, vr a0), (1, vi a1)]) (by decide +kernel) (Nat.le_of_ble_eq_true rfl) rfl) ?_
  refine r_sub (lv' := [(0, vr a0), (2, vi a1)]) [1, 0] rfl ?_
  refine r_loop2 (fun _ => 33) (fun (e12 : Int32) => [(2, vi e12)]) (fun (x1 : Int32) => [(0, vr a0), (2, vi x1)]) (fun e12 s => ?_) (fun K2 hb3 he4 x1 s => ?_) a1 _
  · refine r_p (pc' := 34) (p_iload_n 0 (k := 2) (by decide +kernel) rfl) ?_
    exact r_iret rfl rfl _ rfl rfl (by decide +kernel)
  · unfold mX10_wordEnds_L2
    refine r_p (pc' := 3) (p_iload_n 1 (k := 2) (by decide +kernel) rfl) ?_
    refine r_p (pc' := 4) (p_aload_n 0 (k := 0) (by decide +kernel) rfl) ?_
    refine r_gR flX10_28_7 (by decide +kernel) fun v5 => ?_
    refine r_gI flX10_64_9 (by decide +kernel) fun v6 => ?_
    refine r_icmpge (off := 23) (tgt := 33) (by decide +kernel) (by decide) (fun h7 => ?_) (fun h7 => ?_)
    · refine r_sub (lv' := [(2, vi x1)]) [1] rfl ?_
      exact he4 x1 _
    · refine r_p (pc' := 14) (p_aload_n 0 (k := 0) (by decide +kernel) rfl) ?_
      refine r_gR flX10_28_7 (by decide +kernel) fun v8 => ?_
      refine r_p (pc' := 18) (p_iload_n 1 (k := 2) (by decide +kernel) rfl) ?_
      refine r_callVI mvX10_75 (ctX9_byteAt v8 x1) (rcX9_byteAt v8 x1) ⟨_, _, rfl⟩ (as := [vi x1]) (st := []) rfl rfl (by decide +kernel) rfl (Nat.le_of_ble_eq_true rfl) (Nat.le_of_ble_eq_true rfl) fun v9 s => ?_
      refine r_callSI msX10_79 (ctX10_isLetter v9) (as := [vi v9]) (st := []) rfl rfl (by decide +kernel) rfl (Nat.le_of_ble_eq_true rfl) (Nat.le_of_ble_eq_true rfl) fun v10 s => ?_
      refine r_ifeq (off := 9) (tgt := 33) (by decide +kernel) (by decide) (fun h11 => ?_) (fun h11 => ?_)
      · refine r_sub (lv' := [(2, vi x1)]) [1] rfl ?_
        exact he4 x1 _
      · refine r_p (pc' := 30) (p_iinc 1 (i := 2) (n := 1) (x := x1) (v := x1 + 1) (lv' := [(2, vi (x1 + 1)), (0, vr a0)]) (by decide +kernel) rfl rfl (Nat.le_of_ble_eq_true rfl) rfl) ?_
        refine r_p (pc' := 2) (p_goto (off := -28) (tgt := 2) (by decide +kernel) (by decide)) ?_
        refine r_sub (lv' := [(0, vr a0), (2, vi (x1 + 1))]) [1, 0] rfl ?_
        exact hb3 (x1 + 1) _
def aX10_wordOfs : StA := (RX10, cX10_wordOf, 8, some .int, yX10_wordOf, 9, [])
noncomputable def mX10_wordOfs_L13 (a0 : Nat) (a1 : Int32) (a2 : Int32) (x1 : Int32 × Int32 × Int32 × Int32) : MM ((Int32 × Int32 × Int32 × Int32) ⊕ (Int32 ⊕ Unit)) :=
  if (slen 0) ≤ x1.2.2.2 then (
    mret (.inr ((.inr ())))
  ) else (
    mbnd (schar 0 x1.2.2.2) fun (v6 : Int32) =>
    if v6 = 32 then (
      if x1.2.2.1 = 0 then (
        mret (.inl (x1.1 + 1, a1, 1, x1.2.2.2 + 1))
      ) else (
        if x1.2.1 = a2 then (
          mret (.inr (.inl x1.1))
        ) else (
          mret (.inl (x1.1 + 1, a1, 1, x1.2.2.2 + 1))
        )
      )
    ) else (
      mbnd (α := Int32) (
        if x1.2.2.1 = 0 then (
          mret 0
        ) else (
          if a2 ≤ x1.2.1 then (
            mret 0
          ) else (
            mbnd (gR 7 0 a0) fun (v15 : Nat) =>
            mbnd (mX9_byteAt v15 x1.2.1) fun (v16 : Int32) =>
            if v16 = v6 then (
              mret 1
            ) else (
              mret 0
            )
          )
        )
      ) fun (x11 : Int32) =>
      mret (.inl (x1.1, x1.2.1 + 1, x11, x1.2.2.2 + 1))
    )
  )
noncomputable def mX10_wordOfs (a0 : Nat) (a1 : Int32) (a2 : Int32) : MM Int32 := onC 7 a0 (
  mbnd (loopM (mX10_wordOfs_L13 a0 a1 a2) (300, a1, 1, 0)) fun (e18 : Int32 ⊕ Unit) => match e18 with
    | .inl e18 => (
      mret e18
      )
    | .inr e18 => (
      mret 257
      )
  )
theorem rcX10_wordOfs (a0 : Nat) (a1 : Int32) (a2 : Int32) : Rcv 7 a0 (mX10_wordOfs a0 a1 a2) := fun s r h => ⟨(onC_some h).1, (onC_some h).2.1⟩
set_option maxHeartbeats 4000000 in
set_option maxRecDepth 100000 in
theorem ctX10_wordOfs (a0 : Nat) (a1 : Int32) (a2 : Int32) : Ct aX10_wordOfs [vr a0, vi a1, vi a2] (mX10_wordOfs a0 a1 a2) rI := by
  unfold mX10_wordOfs
  refine ct_onC (ct_intro (by decide +kernel) rfl (Nat.le_of_ble_eq_true rfl) fun Y s => ?_)
  refine r_sub (lv' := [(0, vr a0), (1, vi a1), (2, vi a2)]) [0, 1, 2] rfl ?_
  refine r_p (pc' := 3) (p_sipush (n := 300) (v := 300) (by decide +kernel) (by decide +kernel)) ?_
  refine r_p (pc' := 4) (p_istore_n (k := 3) (lv' := [(3, vi 300), (0, vr a0), (1, vi a1), (2, vi a2)]) (by decide +kernel) (Nat.le_of_ble_eq_true rfl) rfl) ?_
  refine r_p (pc' := 5) (p_iload_n 2 (k := 1) (by decide +kernel) rfl) ?_
  refine r_p (pc' := 7) (p_istore (i := 4) (lv' := [(4, vi a1), (3, vi 300), (0, vr a0), (1, vi a1), (2, vi a2)]) (by decide +kernel) (Nat.le_of_ble_eq_true rfl) rfl) ?_
  refine r_p (pc' := 8) (p_iconst (n := 1) (v := 1) (by decide +kernel) rfl) ?_
  refine r_p (pc' := 10) (p_istore (i := 5) (lv' := [(5, vi 1), (4, vi a1), (3, vi 300), (0, vr a0), (1, vi a1), (2, vi a2)]) (by decide +kernel) (Nat.le_of_ble_eq_true rfl) rfl) ?_
  refine r_p (pc' := 11) (p_iconst (n := 0) (v := 0) (by decide +kernel) rfl) ?_
  refine r_p (pc' := 13) (p_istore (i := 6) (lv' := [(6, vi 0), (5, vi 1), (4, vi a1), (3, vi 300), (0, vr a0), (1, vi a1), (2, vi a2)]) (by decide +kernel) (Nat.le_of_ble_eq_true rfl) rfl) ?_
  refine r_sub (lv' := [(0, vr a0), (1, vi a1), (2, vi a2), (3, vi 300), (4, vi a1), (5, vi 1), (6, vi 0)]) [4, 5, 6, 3, 2, 1, 0] rfl ?_
  refine r_loop2 (fun (e18 : Int32 ⊕ Unit) => match e18 with | .inl _ => 88 | .inr _ => 105) (fun (e18 : Int32 ⊕ Unit) => match e18 with | .inl e18 => [(3, vi e18)] | .inr e18 => []) (fun (x1 : Int32 × Int32 × Int32 × Int32) => [(0, vr a0), (1, vi a1), (2, vi a2), (3, vi x1.1), (4, vi x1.2.1), (5, vi x1.2.2.1), (6, vi x1.2.2.2)]) (fun e18 s => ?_) (fun K2 hb3 he4 x1 s => ?_) (300, a1, 1, 0) _
  · rcases e18 with e18 | e18
    · show Rr _ _ 88 [(3, vi e18)] [] _ _ _ _
      refine r_p (pc' := 89) (p_iload_n 0 (k := 3) (by decide +kernel) rfl) ?_
      exact r_iret rfl rfl _ rfl rfl (by decide +kernel)
    · show Rr _ _ 105 [] [] _ _ _ _
      refine r_p (pc' := 108) (p_sipush (n := 257) (v := 257) (by decide +kernel) (by decide +kernel)) ?_
      exact r_iret rfl rfl _ rfl rfl (by decide +kernel)
  · unfold mX10_wordOfs_L13
    refine r_p (pc' := 15) (p_iload 6 (i := 6) (by decide +kernel) rfl) ?_
    refine r_p (pc' := 17) (p_ldcS (i := 107) (j := 0) (text := "handle head joint nailed edge wear guilt harm hard master day tool answer plead heir blunt if and or not part nail damp need limit ") (by decide +kernel) (by decide +kernel)) ?_
    refine r_slen2 (idx := 109) (tblG_of 840 (by decide +kernel) (by decide +kernel)) (Nat.le_of_ble_eq_true rfl) (Nat.le_of_ble_eq_true rfl) (by decide +kernel) fun s => ?_
    refine r_icmpge (off := 85) (tgt := 105) (by decide +kernel) (by decide) (fun h5 => ?_) (fun h5 => ?_)
    · refine r_sub (lv' := []) [] rfl ?_
      exact he4 ((.inr ())) _
    · refine r_p (pc' := 25) (p_ldcS (i := 107) (j := 0) (text := "handle head joint nailed edge wear guilt harm hard master day tool answer plead heir blunt if and or not part nail damp need limit ") (by decide +kernel) (by decide +kernel)) ?_
      refine r_p (pc' := 27) (p_iload 6 (i := 6) (by decide +kernel) rfl) ?_
      refine r_schar (idx := 114) (tblG_of 850 (by decide +kernel) (by decide +kernel)) (Nat.le_of_ble_eq_true rfl) (Nat.le_of_ble_eq_true rfl) (by decide +kernel) fun v6 s => ?_
      refine r_p (pc' := 32) (p_istore (i := 7) (lv' := [(7, vi v6), (0, vr a0), (1, vi a1), (2, vi a2), (3, vi x1.1), (4, vi x1.2.1), (5, vi x1.2.2.1), (6, vi x1.2.2.2)]) (by decide +kernel) (Nat.le_of_ble_eq_true rfl) rfl) ?_
      refine r_p (pc' := 34) (p_iload 0 (i := 7) (by decide +kernel) rfl) ?_
      refine r_p (pc' := 36) (p_bipush (n := 32) (v := 32) (by decide +kernel) (by decide +kernel)) ?_
      refine r_icmpeq (off := 41) (tgt := 77) (by decide +kernel) (by decide) (fun h7 => ?_) (fun h7 => ?_)
      · refine r_p (pc' := 79) (p_iload 6 (i := 5) (by decide +kernel) rfl) ?_
        refine r_ifeq (off := 11) (tgt := 90) (by decide +kernel) (by decide) (fun h8 => ?_) (fun h8 => ?_)
        · refine r_p (pc' := 93) (p_iinc 4 (i := 3) (n := 1) (x := x1.1) (v := x1.1 + 1) (lv' := [(3, vi (x1.1 + 1)), (7, vi v6), (0, vr a0), (1, vi a1), (2, vi a2), (4, vi x1.2.1), (5, vi x1.2.2.1), (6, vi x1.2.2.2)]) (by decide +kernel) rfl rfl (Nat.le_of_ble_eq_true rfl) rfl) ?_
          refine r_p (pc' := 94) (p_iload_n 3 (k := 1) (by decide +kernel) rfl) ?_
          refine r_p (pc' := 96) (p_istore (i := 4) (lv' := [(4, vi a1), (3, vi (x1.1 + 1)), (7, vi v6), (0, vr a0), (1, vi a1), (2, vi a2), (5, vi x1.2.2.1), (6, vi x1.2.2.2)]) (by decide +kernel) (Nat.le_of_ble_eq_true rfl) rfl) ?_
          refine r_p (pc' := 97) (p_iconst (n := 1) (v := 1) (by decide +kernel) rfl) ?_
          refine r_p (pc' := 99) (p_istore (i := 5) (lv' := [(5, vi 1), (4, vi a1), (3, vi (x1.1 + 1)), (7, vi v6), (0, vr a0), (1, vi a1), (2, vi a2), (6, vi x1.2.2.2)]) (by decide +kernel) (Nat.le_of_ble_eq_true rfl) rfl) ?_
          refine r_p (pc' := 102) (p_iinc 7 (i := 6) (n := 1) (x := x1.2.2.2) (v := x1.2.2.2 + 1) (lv' := [(6, vi (x1.2.2.2 + 1)), (5, vi 1), (4, vi a1), (3, vi (x1.1 + 1)), (7, vi v6), (0, vr a0), (1, vi a1), (2, vi a2)]) (by decide +kernel) rfl rfl (Nat.le_of_ble_eq_true rfl) rfl) ?_
          refine r_p (pc' := 13) (p_goto (off := -89) (tgt := 13) (by decide +kernel) (by decide)) ?_
          refine r_sub (lv' := [(0, vr a0), (1, vi a1), (2, vi a2), (3, vi (x1.1 + 1)), (4, vi a1), (5, vi 1), (6, vi (x1.2.2.2 + 1))]) [5, 6, 7, 3, 2, 1, 0] rfl ?_
          exact hb3 (x1.1 + 1, a1, 1, x1.2.2.2 + 1) _
        · refine r_p (pc' := 84) (p_iload 5 (i := 4) (by decide +kernel) rfl) ?_
          refine r_p (pc' := 85) (p_iload_n 3 (k := 2) (by decide +kernel) rfl) ?_
          refine r_icmpne (off := 5) (tgt := 90) (by decide +kernel) (by decide) (fun h9 => ?_) (fun h9 => ?_)
          · refine r_sub (lv' := [(3, vi x1.1)]) [4] rfl ?_
            exact he4 (.inl x1.1) _
          · refine r_p (pc' := 93) (p_iinc 4 (i := 3) (n := 1) (x := x1.1) (v := x1.1 + 1) (lv' := [(3, vi (x1.1 + 1)), (7, vi v6), (0, vr a0), (1, vi a1), (2, vi a2), (4, vi x1.2.1), (5, vi x1.2.2.1), (6, vi x1.2.2.2)]) (by decide +kernel) rfl rfl (Nat.le_of_ble_eq_true rfl) rfl) ?_
            refine r_p (pc' := 94) (p_iload_n 3 (k := 1) (by decide +kernel) rfl) ?_
            refine r_p (pc' := 96) (p_istore (i := 4) (lv' := [(4, vi a1), (3, vi (x1.1 + 1)), (7, vi v6), (0, vr a0), (1, vi a1), (2, vi a2), (5, vi x1.2.2.1), (6, vi x1.2.2.2)]) (by decide +kernel) (Nat.le_of_ble_eq_true rfl) rfl) ?_
            refine r_p (pc' := 97) (p_iconst (n := 1) (v := 1) (by decide +kernel) rfl) ?_
            refine r_p (pc' := 99) (p_istore (i := 5) (lv' := [(5, vi 1), (4, vi a1), (3, vi (x1.1 + 1)), (7, vi v6), (0, vr a0), (1, vi a1), (2, vi a2), (6, vi x1.2.2.2)]) (by decide +kernel) (Nat.le_of_ble_eq_true rfl) rfl) ?_
            refine r_p (pc' := 102) (p_iinc 7 (i := 6) (n := 1) (x := x1.2.2.2) (v := x1.2.2.2 + 1) (lv' := [(6, vi (x1.2.2.2 + 1)), (5, vi 1), (4, vi a1), (3, vi (x1.1 + 1)), (7, vi v6), (0, vr a0), (1, vi a1), (2, vi a2)]) (by decide +kernel) rfl rfl (Nat.le_of_ble_eq_true rfl) rfl) ?_
            refine r_p (pc' := 13) (p_goto (off := -89) (tgt := 13) (by decide +kernel) (by decide)) ?_
            refine r_sub (lv' := [(0, vr a0), (1, vi a1), (2, vi a2), (3, vi (x1.1 + 1)), (4, vi a1), (5, vi 1), (6, vi (x1.2.2.2 + 1))]) [5, 6, 7, 3, 2, 1, 0] rfl ?_
            exact hb3 (x1.1 + 1, a1, 1, x1.2.2.2 + 1) _
      · refine r_p (pc' := 41) (p_iload 6 (i := 5) (by decide +kernel) rfl) ?_
        refine r_join 69 (fun (x11 : Int32) => [(0, vr a0), (1, vi a1), (2, vi a2), (3, vi x1.1), (4, vi x1.2.1), (6, vi x1.2.2.2)]) (fun (x11 : Int32) => [vi x11]) (fun x11 s => ?_) (fun K12 hj13 => ?_)
        · refine r_p (pc' := 71) (p_istore (i := 5) (lv' := [(5, vi x11), (0, vr a0), (1, vi a1), (2, vi a2), (3, vi x1.1), (4, vi x1.2.1), (6, vi x1.2.2.2)]) (by decide +kernel) (Nat.le_of_ble_eq_true rfl) rfl) ?_
          refine r_p (pc' := 74) (p_iinc 5 (i := 4) (n := 1) (x := x1.2.1) (v := x1.2.1 + 1) (lv' := [(4, vi (x1.2.1 + 1)), (5, vi x11), (0, vr a0), (1, vi a1), (2, vi a2), (3, vi x1.1), (6, vi x1.2.2.2)]) (by decide +kernel) rfl rfl (Nat.le_of_ble_eq_true rfl) rfl) ?_
          refine r_p (pc' := 99) (p_goto (off := 25) (tgt := 99) (by decide +kernel) (by decide)) ?_
          refine r_p (pc' := 102) (p_iinc 6 (i := 6) (n := 1) (x := x1.2.2.2) (v := x1.2.2.2 + 1) (lv' := [(6, vi (x1.2.2.2 + 1)), (4, vi (x1.2.1 + 1)), (5, vi x11), (0, vr a0), (1, vi a1), (2, vi a2), (3, vi x1.1)]) (by decide +kernel) rfl rfl (Nat.le_of_ble_eq_true rfl) rfl) ?_
          refine r_p (pc' := 13) (p_goto (off := -89) (tgt := 13) (by decide +kernel) (by decide)) ?_
          refine r_sub (lv' := [(0, vr a0), (1, vi a1), (2, vi a2), (3, vi x1.1), (4, vi (x1.2.1 + 1)), (5, vi x11), (6, vi (x1.2.2.2 + 1))]) [3, 4, 5, 6, 1, 2, 0] rfl ?_
          exact hb3 (x1.1, x1.2.1 + 1, x11, x1.2.2.2 + 1) _
        · refine r_ifeq (off := 27) (tgt := 68) (by decide +kernel) (by decide) (fun h10 => ?_) (fun h10 => ?_)
          · refine r_p (pc' := 69) (p_iconst (n := 0) (v := 0) (by decide +kernel) rfl) ?_
            refine r_sub (lv' := [(0, vr a0), (1, vi a1), (2, vi a2), (3, vi x1.1), (4, vi x1.2.1), (6, vi x1.2.2.2)]) [1, 2, 3, 4, 5, 7] rfl ?_
            exact hj13 0 _
          · refine r_p (pc' := 46) (p_iload 5 (i := 4) (by decide +kernel) rfl) ?_
            refine r_p (pc' := 47) (p_iload_n 3 (k := 2) (by decide +kernel) rfl) ?_
            refine r_icmpge (off := 21) (tgt := 68) (by decide +kernel) (by decide) (fun h14 => ?_) (fun h14 => ?_)
            · refine r_p (pc' := 69) (p_iconst (n := 0) (v := 0) (by decide +kernel) rfl) ?_
              refine r_sub (lv' := [(0, vr a0), (1, vi a1), (2, vi a2), (3, vi x1.1), (4, vi x1.2.1), (6, vi x1.2.2.2)]) [1, 2, 3, 4, 5, 7] rfl ?_
              exact hj13 0 _
            · refine r_p (pc' := 51) (p_aload_n 1 (k := 0) (by decide +kernel) rfl) ?_
              refine r_gR flX10_28_7 (by decide +kernel) fun v15 => ?_
              refine r_p (pc' := 56) (p_iload 5 (i := 4) (by decide +kernel) rfl) ?_
              refine r_callVI mvX10_75 (ctX9_byteAt v15 x1.2.1) (rcX9_byteAt v15 x1.2.1) ⟨_, _, rfl⟩ (as := [vi x1.2.1]) (st := []) rfl rfl (by decide +kernel) rfl (Nat.le_of_ble_eq_true rfl) (Nat.le_of_ble_eq_true rfl) fun v16 s => ?_
              refine r_p (pc' := 61) (p_iload 0 (i := 7) (by decide +kernel) rfl) ?_
              refine r_icmpne (off := 7) (tgt := 68) (by decide +kernel) (by decide) (fun h17 => ?_) (fun h17 => ?_)
              · refine r_p (pc' := 65) (p_iconst (n := 1) (v := 1) (by decide +kernel) rfl) ?_
                refine r_p (pc' := 69) (p_goto (off := 4) (tgt := 69) (by decide +kernel) (by decide)) ?_
                refine r_sub (lv' := [(0, vr a0), (1, vi a1), (2, vi a2), (3, vi x1.1), (4, vi x1.2.1), (6, vi x1.2.2.2)]) [1, 2, 3, 4, 5, 7] rfl ?_
                exact hj13 1 _
              · refine r_p (pc' := 69) (p_iconst (n := 0) (v := 0) (by decide +kernel) rfl) ?_
                refine r_sub (lv' := [(0, vr a0), (1, vi a1), (2, vi a2), (3, vi x1.1), (4, vi x1.2.1), (6, vi x1.2.2.2)]) [1, 2, 3, 4, 5, 7] rfl ?_
                exact hj13 0 _
def aX10_goOns : StA := (RX10, cX10_goOn, 2, none, yX10_goOn, 8, [])
theorem fpX10_58_7 : FP RX10 58 7 6 .int false := ⟨_, TX7, 14, "ToolCourt$TextReader", tyX7, rfl, by decide, Or.inl (tblG_of 424 (by decide +kernel) (by decide +kernel)), Or.inl rfl, tyX7_ok, nmX7, rfl, by decide, by decide +kernel⟩
theorem flX10_58_7 : FL RX10 58 7 6 := ⟨_, TX7, 14, "ToolCourt$TextReader", rfl, by decide, Or.inl (tblG_of 424 (by decide +kernel) (by decide +kernel)), Or.inl rfl⟩
theorem fpX10_41_7 : FP RX10 41 7 7 .int false := ⟨_, TX7, 14, "ToolCourt$TextReader", tyX7, rfl, by decide, Or.inl (tblG_of 429 (by decide +kernel) (by decide +kernel)), Or.inl rfl, tyX7_ok, nmX7, rfl, by decide, by decide +kernel⟩
theorem fpX10_52_7 : FP RX10 52 7 8 .int false := ⟨_, TX7, 14, "ToolCourt$TextReader", tyX7, rfl, by decide, Or.inl (tblG_of 434 (by decide +kernel) (by decide +kernel)), Or.inl rfl, tyX7_ok, nmX7, rfl, by decide, by decide +kernel⟩
noncomputable def mX10_goOns (a0 : Nat) : MM Unit := onC 7 a0 (
  mbnd (gI 7 6 a0) fun (v1 : Int32) =>
  mbnd (pI 7 6 a0 (v1 + 1)) fun _ =>
  mbnd (gI 7 6 a0) fun (v2 : Int32) =>
  mbnd (α := Int32) (
    if v2 < 0 then (
      mret 0
    ) else (
      mbnd (gI 7 6 a0) fun (v7 : Int32) =>
      mbnd (gI 7 5 a0) fun (v8 : Int32) =>
      if v8 ≤ v7 then (
        mret 0
      ) else (
        mbnd (gI 7 6 a0) fun (v10 : Int32) =>
        if 400 ≤ v10 then (
          mret 0
        ) else (
          mret 1
        )
      )
    )
  ) fun (x4 : Int32) =>
  mbnd (α := Int32) (
    if x4 = 0 then (
      mret (-1)
    ) else (
      mbnd (gR 7 1 a0) fun (v16 : Nat) =>
      mbnd (gI 7 6 a0) fun (v17 : Int32) =>
      mbnd (ldI 0 v16 v17) fun (v18 : Int32) =>
      mret v18
    )
  ) fun (x13 : Int32) =>
  mbnd (pI 7 7 a0 x13) fun _ =>
  if x4 = 0 then (
    mbnd (gR 7 0 a0) fun (v20 : Nat) =>
    mbnd (gI 9 1 v20) fun (v21 : Int32) =>
    mbnd (pI 7 8 a0 v21) fun _ =>
    mret ()
  ) else (
    mbnd (gR 7 2 a0) fun (v22 : Nat) =>
    mbnd (gI 7 6 a0) fun (v23 : Int32) =>
    mbnd (ldI 0 v22 v23) fun (v24 : Int32) =>
    mbnd (pI 7 8 a0 v24) fun _ =>
    mret ()
  )
  )
theorem rcX10_goOns (a0 : Nat) : Rcv 7 a0 (mX10_goOns a0) := fun s r h => ⟨(onC_some h).1, (onC_some h).2.1⟩
set_option maxHeartbeats 4000000 in
set_option maxRecDepth 100000 in
theorem ctX10_goOns (a0 : Nat) : Ct aX10_goOns [vr a0] (mX10_goOns a0) rU := by
  unfold mX10_goOns
  refine ct_onC (ct_intro (by decide +kernel) rfl (Nat.le_of_ble_eq_true rfl) fun Y s => ?_)
  refine r_sub (lv' := [(0, vr a0)]) [0] rfl ?_
  refine r_p (pc' := 1) (p_aload_n 0 (k := 0) (by decide +kernel) rfl) ?_
  refine r_p (pc' := 2) (p_dup rfl (by decide +kernel)) ?_
  refine r_gI flX10_58_7 (by decide +kernel) fun v1 => ?_
  refine r_p (pc' := 6) (p_iconst (n := 1) (v := 1) (by decide +kernel) rfl) ?_
  refine r_p (pc' := 7) (p_iadd (by decide +kernel)) ?_
  refine r_pI fpX10_58_7 (fun h => by cases h) (by decide +kernel) fun s => ?_
  refine r_p (pc' := 11) (p_aload_n 0 (k := 0) (by decide +kernel) rfl) ?_
  refine r_gI flX10_58_7 (by decide +kernel) fun v2 => ?_
  refine r_join 43 (fun (x4 : Int32) => [(0, vr a0)]) (fun (x4 : Int32) => [vi x4]) (fun x4 s => ?_) (fun K5 hj6 => ?_)
  · refine r_p (pc' := 44) (p_istore_n (k := 1) (lv' := [(1, vi x4), (0, vr a0)]) (by decide +kernel) (Nat.le_of_ble_eq_true rfl) rfl) ?_
    refine r_p (pc' := 45) (p_aload_n 1 (k := 0) (by decide +kernel) rfl) ?_
    refine r_p (pc' := 46) (p_iload_n 0 (k := 1) (by decide +kernel) rfl) ?_
    refine r_join 62 (fun (x13 : Int32) => [(0, vr a0), (1, vi x4)]) (fun (x13 : Int32) => [vi x13, vr a0]) (fun x13 s => ?_) (fun K14 hj15 => ?_)
    · refine r_pI fpX10_41_7 (fun h => by cases h) (by decide +kernel) fun s => ?_
      refine r_p (pc' := 66) (p_aload_n 0 (k := 0) (by decide +kernel) rfl) ?_
      refine r_p (pc' := 67) (p_iload_n 1 (k := 1) (by decide +kernel) rfl) ?_
      refine r_ifeq (off := 15) (tgt := 82) (by decide +kernel) (by decide) (fun h19 => ?_) (fun h19 => ?_)
      · refine r_p (pc' := 83) (p_aload_n 0 (k := 0) (by decide +kernel) rfl) ?_
        refine r_gR flX10_28_7 (by decide +kernel) fun v20 => ?_
        refine r_gI flX10_64_9 (by decide +kernel) fun v21 => ?_
        refine r_pI fpX10_52_7 (fun h => by cases h) (by decide +kernel) fun s => ?_
        exact r_vret (y9 := ()) rfl rfl rfl (by decide +kernel)
      · refine r_p (pc' := 71) (p_aload_n 0 (k := 0) (by decide +kernel) rfl) ?_
        refine r_gR flX10_15_7 (by decide +kernel) fun v22 => ?_
        refine r_p (pc' := 75) (p_aload_n 0 (k := 0) (by decide +kernel) rfl) ?_
        refine r_gI flX10_58_7 (by decide +kernel) fun v23 => ?_
        refine r_ldI0 (by decide +kernel) fun v24 => ?_
        refine r_p (pc' := 89) (p_goto (off := 10) (tgt := 89) (by decide +kernel) (by decide)) ?_
        refine r_pI fpX10_52_7 (fun h => by cases h) (by decide +kernel) fun s => ?_
        exact r_vret (y9 := ()) rfl rfl rfl (by decide +kernel)
    · refine r_ifeq (off := 15) (tgt := 61) (by decide +kernel) (by decide) (fun h12 => ?_) (fun h12 => ?_)
      · refine r_p (pc' := 62) (p_iconst (n := -1) (v := -1) (by decide +kernel) rfl) ?_
        refine r_sub (lv' := [(0, vr a0), (1, vi x4)]) [1, 0] rfl ?_
        exact hj15 (-1) _
      · refine r_p (pc' := 50) (p_aload_n 1 (k := 0) (by decide +kernel) rfl) ?_
        refine r_gR flX10_9_7 (by decide +kernel) fun v16 => ?_
        refine r_p (pc' := 54) (p_aload_n 1 (k := 0) (by decide +kernel) rfl) ?_
        refine r_gI flX10_58_7 (by decide +kernel) fun v17 => ?_
        refine r_ldI0 (by decide +kernel) fun v18 => ?_
        refine r_p (pc' := 62) (p_goto (off := 4) (tgt := 62) (by decide +kernel) (by decide)) ?_
        refine r_sub (lv' := [(0, vr a0), (1, vi x4)]) [1, 0] rfl ?_
        exact hj15 v18 _
  · refine r_iflt (off := 28) (tgt := 42) (by decide +kernel) (by decide) (fun h3 => ?_) (fun h3 => ?_)
    · refine r_p (pc' := 43) (p_iconst (n := 0) (v := 0) (by decide +kernel) rfl) ?_
      exact hj6 0 _
    · refine r_p (pc' := 18) (p_aload_n 0 (k := 0) (by decide +kernel) rfl) ?_
      refine r_gI flX10_58_7 (by decide +kernel) fun v7 => ?_
      refine r_p (pc' := 22) (p_aload_n 0 (k := 0) (by decide +kernel) rfl) ?_
      refine r_gI flX10_61_7 (by decide +kernel) fun v8 => ?_
      refine r_icmpge (off := 17) (tgt := 42) (by decide +kernel) (by decide) (fun h9 => ?_) (fun h9 => ?_)
      · refine r_p (pc' := 43) (p_iconst (n := 0) (v := 0) (by decide +kernel) rfl) ?_
        exact hj6 0 _
      · refine r_p (pc' := 29) (p_aload_n 0 (k := 0) (by decide +kernel) rfl) ?_
        refine r_gI flX10_58_7 (by decide +kernel) fun v10 => ?_
        refine r_p (pc' := 35) (p_sipush (n := 400) (v := 400) (by decide +kernel) (by decide +kernel)) ?_
        refine r_icmpge (off := 7) (tgt := 42) (by decide +kernel) (by decide) (fun h11 => ?_) (fun h11 => ?_)
        · refine r_p (pc' := 43) (p_iconst (n := 0) (v := 0) (by decide +kernel) rfl) ?_
          exact hj6 0 _
        · refine r_p (pc' := 39) (p_iconst (n := 1) (v := 1) (by decide +kernel) rfl) ?_
          refine r_p (pc' := 43) (p_goto (off := 4) (tgt := 43) (by decide +kernel) (by decide)) ?_
          exact hj6 1 _
def aX10_splits : StA := (RX10, cX10_split, 4, none, yX10_split, 10, [])
theorem muX10_89s : MU RX10 89 "ToolCourt$ShopReader" "ToolCourt$TextReader" ⟨"ToolCourt$TextReader", "note", "(IIII)V"⟩ aX10_notes 4 := ⟨tblG_of 888 (by decide +kernel) (by decide +kernel), tblG_of 890 (by decide +kernel) (by decide +kernel), tblG_of 2396 (by decide +kernel) (by decide +kernel), tblG_of 2358 (by decide +kernel) (by decide +kernel), tblG_of 154 (by decide +kernel) (by decide +kernel), tblG_of 891 (by decide +kernel) (by decide +kernel), rfl, ⟨by decide, by decide⟩, by decide +kernel, by decide, Or.inl rfl⟩
theorem muX10_96s : MU RX10 96 "ToolCourt$ShopReader" "ToolCourt$TextReader" ⟨"ToolCourt$TextReader", "numberEnd", "(I)I"⟩ aX10_numberEnds 1 := ⟨tblG_of 895 (by decide +kernel) (by decide +kernel), tblG_of 897 (by decide +kernel) (by decide +kernel), tblG_of 2398 (by decide +kernel) (by decide +kernel), tblG_of 2359 (by decide +kernel) (by decide +kernel), tblG_of 154 (by decide +kernel) (by decide +kernel), tblG_of 898 (by decide +kernel) (by decide +kernel), rfl, ⟨by decide, by decide⟩, by decide +kernel, by decide, Or.inl rfl⟩
theorem muX10_99s : MU RX10 99 "ToolCourt$ShopReader" "ToolCourt$TextReader" ⟨"ToolCourt$TextReader", "numberOf", "(II)I"⟩ aX10_numberOfs 2 := ⟨tblG_of 899 (by decide +kernel) (by decide +kernel), tblG_of 901 (by decide +kernel) (by decide +kernel), tblG_of 2399 (by decide +kernel) (by decide +kernel), tblG_of 2360 (by decide +kernel) (by decide +kernel), tblG_of 154 (by decide +kernel) (by decide +kernel), tblG_of 902 (by decide +kernel) (by decide +kernel), rfl, ⟨by decide, by decide⟩, by decide +kernel, by decide, Or.inl rfl⟩
theorem muX10_82s : MU RX10 82 "ToolCourt$ShopReader" "ToolCourt$TextReader" ⟨"ToolCourt$TextReader", "wordEnd", "(I)I"⟩ aX10_wordEnds 1 := ⟨tblG_of 831 (by decide +kernel) (by decide +kernel), tblG_of 833 (by decide +kernel) (by decide +kernel), tblG_of 2397 (by decide +kernel) (by decide +kernel), tblG_of 2356 (by decide +kernel) (by decide +kernel), tblG_of 154 (by decide +kernel) (by decide +kernel), tblG_of 834 (by decide +kernel) (by decide +kernel), rfl, ⟨by decide, by decide⟩, by decide +kernel, by decide, Or.inl rfl⟩
theorem muX10_85s : MU RX10 85 "ToolCourt$ShopReader" "ToolCourt$TextReader" ⟨"ToolCourt$TextReader", "wordOf", "(II)I"⟩ aX10_wordOfs 2 := ⟨tblG_of 835 (by decide +kernel) (by decide +kernel), tblG_of 837 (by decide +kernel) (by decide +kernel), tblG_of 2400 (by decide +kernel) (by decide +kernel), tblG_of 2357 (by decide +kernel) (by decide +kernel), tblG_of 154 (by decide +kernel) (by decide +kernel), tblG_of 838 (by decide +kernel) (by decide +kernel), rfl, ⟨by decide, by decide⟩, by decide +kernel, by decide, Or.inl rfl⟩
theorem muX10_69s : MU RX10 69 "ToolCourt$ShopReader" "ToolCourt$TextReader" ⟨"ToolCourt$TextReader", "goOn", "()V"⟩ aX10_goOns 0 := ⟨tblG_of 904 (by decide +kernel) (by decide +kernel), tblG_of 905 (by decide +kernel) (by decide +kernel), tblG_of 908 (by decide +kernel) (by decide +kernel), tblG_of 906 (by decide +kernel) (by decide +kernel), tblG_of 154 (by decide +kernel) (by decide +kernel), tblG_of 909 (by decide +kernel) (by decide +kernel), rfl, ⟨by decide, by decide⟩, by decide +kernel, by decide, Or.inl rfl⟩
noncomputable def mX10_splits_L7 (a0 : Nat) (x1 : Int32) : MM ((Int32) ⊕ (Unit)) :=
  mbnd (gR 7 0 a0) fun (v5 : Nat) =>
  mbnd (gI 9 1 v5) fun (v6 : Int32) =>
  if v6 ≤ x1 then (
    mret (.inr ())
  ) else (
    mbnd (mret (x1 + 1)) fun (v8 : Int32) =>
    mbnd (gR 7 0 a0) fun (v9 : Nat) =>
    mbnd (mX9_byteAt v9 x1) fun (v10 : Int32) =>
    mbnd (mX10_isLetter v10) fun (v11 : Int32) =>
    mbnd (α := Int32) (
      if v11 = 0 then (
        mbnd (mX10_isDigit v10) fun (v16 : Int32) =>
        if v16 = 0 then (
          if v10 = 32 then (
            mret v8
          ) else (
            mbnd (nox (mX10_notes a0 v10 x1 0 0)) fun _ =>
            mret v8
          )
        ) else (
          mbnd (nox (mX10_numberEnds a0 x1)) fun (v19 : Int32) =>
          mbnd (nox (mX10_numberOfs a0 x1 v19)) fun (v20 : Int32) =>
          mbnd (nox (mX10_notes a0 256 x1 (v19 - x1) v20)) fun _ =>
          mret v19
        )
      ) else (
        mbnd (nox (mX10_wordEnds a0 x1)) fun (v21 : Int32) =>
        mbnd (nox (mX10_wordOfs a0 x1 v21)) fun (v22 : Int32) =>
        mbnd (nox (mX10_notes a0 v22 x1 0 0)) fun _ =>
        mret v21
      )
    ) fun (x13 : Int32) =>
    mbnd (mret (imax x13 (x1 + 1))) fun (v23 : Int32) =>
    mret (.inl v23)
  )
noncomputable def mX10_splits (a0 : Nat) : MM Unit := onC 7 a0 (
  mbnd (pI 7 5 a0 0) fun _ =>
  mbnd (loopM (mX10_splits_L7 a0) 0) fun (e24 : Unit) =>
  mbnd (pI 7 6 a0 (-1)) fun _ =>
  mbnd (nox (mX10_goOns a0)) fun _ =>
  mret ()
  )
theorem rcX10_splits (a0 : Nat) : Rcv 7 a0 (mX10_splits a0) := fun s r h => ⟨(onC_some h).1, (onC_some h).2.1⟩
set_option maxHeartbeats 4000000 in
set_option maxRecDepth 100000 in
theorem ctX10_splits (a0 : Nat) : Ct aX10_splits [vr a0] (mX10_splits a0) rU := by
  unfold mX10_splits
  refine ct_onC (ct_intro (by decide +kernel) rfl (Nat.le_of_ble_eq_true rfl) fun Y s => ?_)
  refine r_sub (lv' := [(0, vr a0)]) [0] rfl ?_
  refine r_p (pc' := 1) (p_aload_n 0 (k := 0) (by decide +kernel) rfl) ?_
  refine r_p (pc' := 2) (p_iconst (n := 0) (v := 0) (by decide +kernel) rfl) ?_
  refine r_pI fpX10_61_7 (fun h => by cases h) (by decide +kernel) fun s => ?_
  refine r_p (pc' := 6) (p_iconst (n := 0) (v := 0) (by decide +kernel) rfl) ?_
  refine r_p (pc' := 7) (p_istore_n (k := 1) (lv' := [(1, vi 0), (0, vr a0)]) (by decide +kernel) (Nat.le_of_ble_eq_true rfl) rfl) ?_
  refine r_sub (lv' := [(0, vr a0), (1, vi 0)]) [1, 0] rfl ?_
  refine r_loop2 (fun _ => 118) (fun (e24 : Unit) => [(0, vr a0)]) (fun (x1 : Int32) => [(0, vr a0), (1, vi x1)]) (fun e24 s => ?_) (fun K2 hb3 he4 x1 s => ?_) 0 _
  · refine r_p (pc' := 119) (p_aload_n 0 (k := 0) (by decide +kernel) rfl) ?_
    refine r_p (pc' := 120) (p_iconst (n := -1) (v := -1) (by decide +kernel) rfl) ?_
    refine r_pI fpX10_58_7 (fun h => by cases h) (by decide +kernel) fun s => ?_
    refine r_p (pc' := 124) (p_aload_n 0 (k := 0) (by decide +kernel) rfl) ?_
    refine r_callUU muX10_69s (ctX10_goOns a0) (rcX10_goOns a0) ⟨_, _, rfl⟩ (as := []) (st := []) rfl rfl (by decide +kernel) rfl (Nat.le_of_ble_eq_true rfl) (Nat.le_of_ble_eq_true rfl) fun s => ?_
    exact r_vret (y9 := ()) rfl rfl rfl (by decide +kernel)
  · unfold mX10_splits_L7
    refine r_p (pc' := 8) (p_iload_n 1 (k := 1) (by decide +kernel) rfl) ?_
    refine r_p (pc' := 9) (p_aload_n 0 (k := 0) (by decide +kernel) rfl) ?_
    refine r_gR flX10_28_7 (by decide +kernel) fun v5 => ?_
    refine r_gI flX10_64_9 (by decide +kernel) fun v6 => ?_
    refine r_icmpge (off := 103) (tgt := 118) (by decide +kernel) (by decide) (fun h7 => ?_) (fun h7 => ?_)
    · refine r_sub (lv' := [(0, vr a0)]) [0] rfl ?_
      exact he4 () _
    · refine r_p (pc' := 19) (p_iload_n 1 (k := 1) (by decide +kernel) rfl) ?_
      refine r_p (pc' := 20) (p_iconst (n := 1) (v := 1) (by decide +kernel) rfl) ?_
      refine r_p (pc' := 21) (p_iadd (by decide +kernel)) ?_
      refine r_letI fun v8 => ?_
      refine r_p (pc' := 22) (p_istore_n (k := 2) (lv' := [(2, vi v8), (0, vr a0), (1, vi x1)]) (by decide +kernel) (Nat.le_of_ble_eq_true rfl) rfl) ?_
      refine r_p (pc' := 23) (p_aload_n 1 (k := 0) (by decide +kernel) rfl) ?_
      refine r_gR flX10_28_7 (by decide +kernel) fun v9 => ?_
      refine r_p (pc' := 27) (p_iload_n 2 (k := 1) (by decide +kernel) rfl) ?_
      refine r_callVI mvX10_75 (ctX9_byteAt v9 x1) (rcX9_byteAt v9 x1) ⟨_, _, rfl⟩ (as := [vi x1]) (st := []) rfl rfl (by decide +kernel) rfl (Nat.le_of_ble_eq_true rfl) (Nat.le_of_ble_eq_true rfl) fun v10 s => ?_
      refine r_p (pc' := 31) (p_istore_n (k := 3) (lv' := [(3, vi v10), (2, vi v8), (0, vr a0), (1, vi x1)]) (by decide +kernel) (Nat.le_of_ble_eq_true rfl) rfl) ?_
      refine r_p (pc' := 32) (p_iload_n 0 (k := 3) (by decide +kernel) rfl) ?_
      refine r_callSI msX10_79 (ctX10_isLetter v10) (as := [vi v10]) (st := []) rfl rfl (by decide +kernel) rfl (Nat.le_of_ble_eq_true rfl) (Nat.le_of_ble_eq_true rfl) fun v11 s => ?_
      refine r_join 107 (fun (x13 : Int32) => [(0, vr a0), (1, vi x1), (2, vi x13)]) (fun (x13 : Int32) => []) (fun x13 s => ?_) (fun K14 hj15 => ?_)
      · refine r_p (pc' := 108) (p_iload_n 2 (k := 2) (by decide +kernel) rfl) ?_
        refine r_p (pc' := 109) (p_iload_n 1 (k := 1) (by decide +kernel) rfl) ?_
        refine r_p (pc' := 110) (p_iconst (n := 1) (v := 1) (by decide +kernel) rfl) ?_
        refine r_p (pc' := 111) (p_iadd (by decide +kernel)) ?_
        refine r_p (pc' := 114) (p_max (idx := 102) (tblG_of 903 (by decide +kernel) (by decide +kernel)) (Nat.le_of_ble_eq_true rfl) (Nat.le_of_ble_eq_true rfl) (by decide +kernel)) ?_
        refine r_letI fun v23 => ?_
        refine r_p (pc' := 115) (p_istore_n (k := 1) (lv' := [(1, vi v23), (0, vr a0), (2, vi x13)]) (by decide +kernel) (Nat.le_of_ble_eq_true rfl) rfl) ?_
        refine r_p (pc' := 7) (p_goto (off := -108) (tgt := 7) (by decide +kernel) (by decide)) ?_
        refine r_sub (lv' := [(0, vr a0), (1, vi v23)]) [1, 0] rfl ?_
        exact hb3 v23 _
      · refine r_ifeq (off := 25) (tgt := 60) (by decide +kernel) (by decide) (fun h12 => ?_) (fun h12 => ?_)
        · refine r_p (pc' := 61) (p_iload_n 0 (k := 3) (by decide +kernel) rfl) ?_
          refine r_callSI msX10_93 (ctX10_isDigit v10) (as := [vi v10]) (st := []) rfl rfl (by decide +kernel) rfl (Nat.le_of_ble_eq_true rfl) (Nat.le_of_ble_eq_true rfl) fun v16 s => ?_
          refine r_ifeq (off := 29) (tgt := 93) (by decide +kernel) (by decide) (fun h17 => ?_) (fun h17 => ?_)
          · refine r_p (pc' := 94) (p_iload_n 0 (k := 3) (by decide +kernel) rfl) ?_
            refine r_p (pc' := 96) (p_bipush (n := 32) (v := 32) (by decide +kernel) (by decide +kernel)) ?_
            refine r_icmpeq (off := 11) (tgt := 107) (by decide +kernel) (by decide) (fun h18 => ?_) (fun h18 => ?_)
            · refine r_sub (lv' := [(0, vr a0), (1, vi x1), (2, vi v8)]) [2, 3, 1] rfl ?_
              exact hj15 v8 _
            · refine r_p (pc' := 100) (p_aload_n 2 (k := 0) (by decide +kernel) rfl) ?_
              refine r_p (pc' := 101) (p_iload_n 0 (k := 3) (by decide +kernel) rfl) ?_
              refine r_p (pc' := 102) (p_iload_n 3 (k := 1) (by decide +kernel) rfl) ?_
              refine r_p (pc' := 103) (p_iconst (n := 0) (v := 0) (by decide +kernel) rfl) ?_
              refine r_p (pc' := 104) (p_iconst (n := 0) (v := 0) (by decide +kernel) rfl) ?_
              refine r_callUU muX10_89s (ctX10_notes a0 v10 x1 0 0) (rcX10_notes a0 v10 x1 0 0) ⟨_, _, rfl⟩ (as := [vi v10, vi x1, vi 0, vi 0]) (st := []) rfl rfl (by decide +kernel) rfl (Nat.le_of_ble_eq_true rfl) (Nat.le_of_ble_eq_true rfl) fun s => ?_
              refine r_sub (lv' := [(0, vr a0), (1, vi x1), (2, vi v8)]) [2, 3, 1] rfl ?_
              exact hj15 v8 _
          · refine r_p (pc' := 68) (p_aload_n 2 (k := 0) (by decide +kernel) rfl) ?_
            refine r_p (pc' := 69) (p_iload_n 3 (k := 1) (by decide +kernel) rfl) ?_
            refine r_callUI muX10_96s (ctX10_numberEnds a0 x1) (rcX10_numberEnds a0 x1) ⟨_, _, rfl⟩ (as := [vi x1]) (st := []) rfl rfl (by decide +kernel) rfl (Nat.le_of_ble_eq_true rfl) (Nat.le_of_ble_eq_true rfl) fun v19 s => ?_
            refine r_p (pc' := 73) (p_istore_n (k := 2) (lv' := [(2, vi v19), (3, vi v10), (0, vr a0), (1, vi x1)]) (by decide +kernel) (Nat.le_of_ble_eq_true rfl) rfl) ?_
            refine r_p (pc' := 74) (p_aload_n 2 (k := 0) (by decide +kernel) rfl) ?_
            refine r_p (pc' := 77) (p_sipush (n := 256) (v := 256) (by decide +kernel) (by decide +kernel)) ?_
            refine r_p (pc' := 78) (p_iload_n 3 (k := 1) (by decide +kernel) rfl) ?_
            refine r_p (pc' := 79) (p_iload_n 0 (k := 2) (by decide +kernel) rfl) ?_
            refine r_p (pc' := 80) (p_iload_n 3 (k := 1) (by decide +kernel) rfl) ?_
            refine r_p (pc' := 81) (p_isub (by decide +kernel)) ?_
            refine r_p (pc' := 82) (p_aload_n 2 (k := 0) (by decide +kernel) rfl) ?_
            refine r_p (pc' := 83) (p_iload_n 3 (k := 1) (by decide +kernel) rfl) ?_
            refine r_p (pc' := 84) (p_iload_n 0 (k := 2) (by decide +kernel) rfl) ?_
            refine r_callUI muX10_99s (ctX10_numberOfs a0 x1 v19) (rcX10_numberOfs a0 x1 v19) ⟨_, _, rfl⟩ (as := [vi x1, vi v19]) (st := [vi (v19 - x1), vi x1, vi 256, vr a0]) rfl rfl (by decide +kernel) rfl (Nat.le_of_ble_eq_true rfl) (Nat.le_of_ble_eq_true rfl) fun v20 s => ?_
            refine r_callUU muX10_89s (ctX10_notes a0 256 x1 (v19 - x1) v20) (rcX10_notes a0 256 x1 (v19 - x1) v20) ⟨_, _, rfl⟩ (as := [vi 256, vi x1, vi (v19 - x1), vi v20]) (st := []) rfl rfl (by decide +kernel) rfl (Nat.le_of_ble_eq_true rfl) (Nat.le_of_ble_eq_true rfl) fun s => ?_
            refine r_p (pc' := 107) (p_goto (off := 17) (tgt := 107) (by decide +kernel) (by decide)) ?_
            refine r_sub (lv' := [(0, vr a0), (1, vi x1), (2, vi v19)]) [2, 3, 0] rfl ?_
            exact hj15 v19 _
        · refine r_p (pc' := 39) (p_aload_n 2 (k := 0) (by decide +kernel) rfl) ?_
          refine r_p (pc' := 40) (p_iload_n 3 (k := 1) (by decide +kernel) rfl) ?_
          refine r_callUI muX10_82s (ctX10_wordEnds a0 x1) (rcX10_wordEnds a0 x1) ⟨_, _, rfl⟩ (as := [vi x1]) (st := []) rfl rfl (by decide +kernel) rfl (Nat.le_of_ble_eq_true rfl) (Nat.le_of_ble_eq_true rfl) fun v21 s => ?_
          refine r_p (pc' := 44) (p_istore_n (k := 2) (lv' := [(2, vi v21), (3, vi v10), (0, vr a0), (1, vi x1)]) (by decide +kernel) (Nat.le_of_ble_eq_true rfl) rfl) ?_
          refine r_p (pc' := 45) (p_aload_n 2 (k := 0) (by decide +kernel) rfl) ?_
          refine r_p (pc' := 46) (p_aload_n 2 (k := 0) (by decide +kernel) rfl) ?_
          refine r_p (pc' := 47) (p_iload_n 3 (k := 1) (by decide +kernel) rfl) ?_
          refine r_p (pc' := 48) (p_iload_n 0 (k := 2) (by decide +kernel) rfl) ?_
          refine r_callUI muX10_85s (ctX10_wordOfs a0 x1 v21) (rcX10_wordOfs a0 x1 v21) ⟨_, _, rfl⟩ (as := [vi x1, vi v21]) (st := [vr a0]) rfl rfl (by decide +kernel) rfl (Nat.le_of_ble_eq_true rfl) (Nat.le_of_ble_eq_true rfl) fun v22 s => ?_
          refine r_p (pc' := 52) (p_iload_n 3 (k := 1) (by decide +kernel) rfl) ?_
          refine r_p (pc' := 53) (p_iconst (n := 0) (v := 0) (by decide +kernel) rfl) ?_
          refine r_p (pc' := 54) (p_iconst (n := 0) (v := 0) (by decide +kernel) rfl) ?_
          refine r_callUU muX10_89s (ctX10_notes a0 v22 x1 0 0) (rcX10_notes a0 v22 x1 0 0) ⟨_, _, rfl⟩ (as := [vi v22, vi x1, vi 0, vi 0]) (st := []) rfl rfl (by decide +kernel) rfl (Nat.le_of_ble_eq_true rfl) (Nat.le_of_ble_eq_true rfl) fun s => ?_
          refine r_p (pc' := 107) (p_goto (off := 50) (tgt := 107) (by decide +kernel) (by decide)) ?_
          refine r_sub (lv' := [(0, vr a0), (1, vi x1), (2, vi v21)]) [2, 3, 0] rfl ?_
          exact hj15 v21 _
def aX10_wrongs : StA := (RX10, cX10_wrong, 2, some .boolean, yX10_wrong, 8, [])
noncomputable def mX10_wrongs (a0 : Nat) (a1 : Int32) : MM Int32 := onC 7 a0 (
  mbnd (pI 7 11 a0 a1) fun _ =>
  mret 0
  )
theorem rcX10_wrongs (a0 : Nat) (a1 : Int32) : Rcv 7 a0 (mX10_wrongs a0 a1) := fun s r h => ⟨(onC_some h).1, (onC_some h).2.1⟩
set_option maxHeartbeats 4000000 in
set_option maxRecDepth 100000 in
theorem ctX10_wrongs (a0 : Nat) (a1 : Int32) : Ct aX10_wrongs [vr a0, vi a1] (mX10_wrongs a0 a1) rI := by
  unfold mX10_wrongs
  refine ct_onC (ct_intro (by decide +kernel) rfl (Nat.le_of_ble_eq_true rfl) fun Y s => ?_)
  refine r_sub (lv' := [(0, vr a0), (1, vi a1)]) [0, 1] rfl ?_
  refine r_p (pc' := 1) (p_aload_n 0 (k := 0) (by decide +kernel) rfl) ?_
  refine r_p (pc' := 2) (p_iload_n 1 (k := 1) (by decide +kernel) rfl) ?_
  refine r_pI fpX10_24_7 (fun h => by cases h) (by decide +kernel) fun s => ?_
  refine r_p (pc' := 6) (p_iconst (n := 0) (v := 0) (by decide +kernel) rfl) ?_
  exact r_iret rfl rfl _ rfl rfl (by decide +kernel)
def aX10_takeNumbers : StA := (RX10, cX10_takeNumber, 3, some .boolean, yX10_takeNumber, 9, [])
theorem flX10_41_7 : FL RX10 41 7 7 := ⟨_, TX7, 14, "ToolCourt$TextReader", rfl, by decide, Or.inl (tblG_of 429 (by decide +kernel) (by decide +kernel)), Or.inl rfl⟩
theorem flX10_52_7 : FL RX10 52 7 8 := ⟨_, TX7, 14, "ToolCourt$TextReader", rfl, by decide, Or.inl (tblG_of 434 (by decide +kernel) (by decide +kernel)), Or.inl rfl⟩
theorem muX10_55s : MU RX10 55 "ToolCourt$ShopReader" "ToolCourt$TextReader" ⟨"ToolCourt$TextReader", "wrong", "(I)Z"⟩ aX10_wrongs 1 := ⟨tblG_of 932 (by decide +kernel) (by decide +kernel), tblG_of 920 (by decide +kernel) (by decide +kernel), tblG_of 2363 (by decide +kernel) (by decide +kernel), tblG_of 2361 (by decide +kernel) (by decide +kernel), tblG_of 154 (by decide +kernel) (by decide +kernel), tblG_of 921 (by decide +kernel) (by decide +kernel), rfl, ⟨by decide, by decide⟩, by decide +kernel, by decide, Or.inl rfl⟩
theorem fpX10_72_7 : FP RX10 72 7 9 .int false := ⟨_, TX7, 14, "ToolCourt$TextReader", tyX7, rfl, by decide, Or.inl (tblG_of 439 (by decide +kernel) (by decide +kernel)), Or.inl rfl, tyX7_ok, nmX7, rfl, by decide, by decide +kernel⟩
noncomputable def mX10_takeNumbers (a0 : Nat) (a1 : Int32) (a2 : Int32) : MM Int32 := onC 7 a0 (
  mbnd (gI 7 7 a0) fun (v1 : Int32) =>
  if v1 = 256 then (
    mbnd (gI 7 6 a0) fun (v3 : Int32) =>
    if v3 < 0 then (
      mbnd (gI 7 8 a0) fun (v5 : Int32) =>
      mbnd (nox (mX10_wrongs a0 v5)) fun (v6 : Int32) =>
      mbool v6
    ) else (
      mbnd (gI 7 6 a0) fun (v7 : Int32) =>
      if v7 < 400 then (
        mbnd (gR 7 3 a0) fun (v9 : Nat) =>
        mbnd (gI 7 6 a0) fun (v10 : Int32) =>
        mbnd (ldI 0 v9 v10) fun (v11 : Int32) =>
        if a1 < v11 then (
          mbnd (gI 7 8 a0) fun (v13 : Int32) =>
          mbnd (nox (mX10_wrongs a0 v13)) fun (v14 : Int32) =>
          mbool v14
        ) else (
          mbnd (gR 7 4 a0) fun (v15 : Nat) =>
          mbnd (gI 7 6 a0) fun (v16 : Int32) =>
          mbnd (ldI 0 v15 v16) fun (v17 : Int32) =>
          if v17 ≤ a2 then (
            mbnd (gR 7 4 a0) fun (v19 : Nat) =>
            mbnd (gI 7 6 a0) fun (v20 : Int32) =>
            mbnd (ldI 0 v19 v20) fun (v21 : Int32) =>
            mbnd (pI 7 9 a0 v21) fun _ =>
            mbnd (nox (mX10_goOns a0)) fun _ =>
            mret 1
          ) else (
            mbnd (gI 7 8 a0) fun (v22 : Int32) =>
            mbnd (nox (mX10_wrongs a0 v22)) fun (v23 : Int32) =>
            mbool v23
          )
        )
      ) else (
        mbnd (gI 7 8 a0) fun (v24 : Int32) =>
        mbnd (nox (mX10_wrongs a0 v24)) fun (v25 : Int32) =>
        mbool v25
      )
    )
  ) else (
    mbnd (gI 7 8 a0) fun (v26 : Int32) =>
    mbnd (nox (mX10_wrongs a0 v26)) fun (v27 : Int32) =>
    mbool v27
  )
  )
theorem rcX10_takeNumbers (a0 : Nat) (a1 : Int32) (a2 : Int32) : Rcv 7 a0 (mX10_takeNumbers a0 a1 a2) := fun s r h => ⟨(onC_some h).1, (onC_some h).2.1⟩
set_option maxHeartbeats 4000000 in
set_option maxRecDepth 100000 in
theorem ctX10_takeNumbers (a0 : Nat) (a1 : Int32) (a2 : Int32) : Ct aX10_takeNumbers [vr a0, vi a1, vi a2] (mX10_takeNumbers a0 a1 a2) rI := by
  unfold mX10_takeNumbers
  refine ct_onC (ct_intro (by decide +kernel) rfl (Nat.le_of_ble_eq_true rfl) fun Y s => ?_)
  refine r_sub (lv' := [(0, vr a0), (1, vi a1), (2, vi a2)]) [0, 1, 2] rfl ?_
  refine r_p (pc' := 1) (p_aload_n 0 (k := 0) (by decide +kernel) rfl) ?_
  refine r_gI flX10_41_7 (by decide +kernel) fun v1 => ?_
  refine r_p (pc' := 7) (p_sipush (n := 256) (v := 256) (by decide +kernel) (by decide +kernel)) ?_
  refine r_icmpne (off := 20) (tgt := 27) (by decide +kernel) (by decide) (fun h2 => ?_) (fun h2 => ?_)
  · refine r_p (pc' := 11) (p_aload_n 0 (k := 0) (by decide +kernel) rfl) ?_
    refine r_gI flX10_58_7 (by decide +kernel) fun v3 => ?_
    refine r_iflt (off := 13) (tgt := 27) (by decide +kernel) (by decide) (fun h4 => ?_) (fun h4 => ?_)
    · refine r_p (pc' := 28) (p_aload_n 0 (k := 0) (by decide +kernel) rfl) ?_
      refine r_p (pc' := 29) (p_aload_n 0 (k := 0) (by decide +kernel) rfl) ?_
      refine r_gI flX10_52_7 (by decide +kernel) fun v5 => ?_
      refine r_callUI muX10_55s (ctX10_wrongs a0 v5) (rcX10_wrongs a0 v5) ⟨_, _, rfl⟩ (as := [vi v5]) (st := []) rfl rfl (by decide +kernel) rfl (Nat.le_of_ble_eq_true rfl) (Nat.le_of_ble_eq_true rfl) fun v6 s => ?_
      exact r_bret (y9 := fun v => v) (fun _ => rfl) (fun _ => rfl) rfl (by decide +kernel)
    · refine r_p (pc' := 18) (p_aload_n 0 (k := 0) (by decide +kernel) rfl) ?_
      refine r_gI flX10_58_7 (by decide +kernel) fun v7 => ?_
      refine r_p (pc' := 24) (p_sipush (n := 400) (v := 400) (by decide +kernel) (by decide +kernel)) ?_
      refine r_icmplt (off := 12) (tgt := 36) (by decide +kernel) (by decide) (fun h8 => ?_) (fun h8 => ?_)
      · refine r_p (pc' := 37) (p_aload_n 0 (k := 0) (by decide +kernel) rfl) ?_
        refine r_gR flX10_18_7 (by decide +kernel) fun v9 => ?_
        refine r_p (pc' := 41) (p_aload_n 0 (k := 0) (by decide +kernel) rfl) ?_
        refine r_gI flX10_58_7 (by decide +kernel) fun v10 => ?_
        refine r_ldI0 (by decide +kernel) fun v11 => ?_
        refine r_p (pc' := 46) (p_iload_n 1 (k := 1) (by decide +kernel) rfl) ?_
        refine r_icmpgt (off := 16) (tgt := 62) (by decide +kernel) (by decide) (fun h12 => ?_) (fun h12 => ?_)
        · refine r_p (pc' := 63) (p_aload_n 0 (k := 0) (by decide +kernel) rfl) ?_
          refine r_p (pc' := 64) (p_aload_n 0 (k := 0) (by decide +kernel) rfl) ?_
          refine r_gI flX10_52_7 (by decide +kernel) fun v13 => ?_
          refine r_callUI muX10_55s (ctX10_wrongs a0 v13) (rcX10_wrongs a0 v13) ⟨_, _, rfl⟩ (as := [vi v13]) (st := []) rfl rfl (by decide +kernel) rfl (Nat.le_of_ble_eq_true rfl) (Nat.le_of_ble_eq_true rfl) fun v14 s => ?_
          exact r_bret (y9 := fun v => v) (fun _ => rfl) (fun _ => rfl) rfl (by decide +kernel)
        · refine r_p (pc' := 50) (p_aload_n 0 (k := 0) (by decide +kernel) rfl) ?_
          refine r_gR flX10_21_7 (by decide +kernel) fun v15 => ?_
          refine r_p (pc' := 54) (p_aload_n 0 (k := 0) (by decide +kernel) rfl) ?_
          refine r_gI flX10_58_7 (by decide +kernel) fun v16 => ?_
          refine r_ldI0 (by decide +kernel) fun v17 => ?_
          refine r_p (pc' := 59) (p_iload_n 2 (k := 2) (by decide +kernel) rfl) ?_
          refine r_icmple (off := 12) (tgt := 71) (by decide +kernel) (by decide) (fun h18 => ?_) (fun h18 => ?_)
          · refine r_p (pc' := 72) (p_aload_n 0 (k := 0) (by decide +kernel) rfl) ?_
            refine r_p (pc' := 73) (p_aload_n 0 (k := 0) (by decide +kernel) rfl) ?_
            refine r_gR flX10_21_7 (by decide +kernel) fun v19 => ?_
            refine r_p (pc' := 77) (p_aload_n 0 (k := 0) (by decide +kernel) rfl) ?_
            refine r_gI flX10_58_7 (by decide +kernel) fun v20 => ?_
            refine r_ldI0 (by decide +kernel) fun v21 => ?_
            refine r_pI fpX10_72_7 (fun h => by cases h) (by decide +kernel) fun s => ?_
            refine r_p (pc' := 85) (p_aload_n 0 (k := 0) (by decide +kernel) rfl) ?_
            refine r_callUU muX10_69s (ctX10_goOns a0) (rcX10_goOns a0) ⟨_, _, rfl⟩ (as := []) (st := []) rfl rfl (by decide +kernel) rfl (Nat.le_of_ble_eq_true rfl) (Nat.le_of_ble_eq_true rfl) fun s => ?_
            refine r_p (pc' := 89) (p_iconst (n := 1) (v := 1) (by decide +kernel) rfl) ?_
            exact r_iret rfl rfl _ rfl rfl (by decide +kernel)
          · refine r_p (pc' := 63) (p_aload_n 0 (k := 0) (by decide +kernel) rfl) ?_
            refine r_p (pc' := 64) (p_aload_n 0 (k := 0) (by decide +kernel) rfl) ?_
            refine r_gI flX10_52_7 (by decide +kernel) fun v22 => ?_
            refine r_callUI muX10_55s (ctX10_wrongs a0 v22) (rcX10_wrongs a0 v22) ⟨_, _, rfl⟩ (as := [vi v22]) (st := []) rfl rfl (by decide +kernel) rfl (Nat.le_of_ble_eq_true rfl) (Nat.le_of_ble_eq_true rfl) fun v23 s => ?_
            exact r_bret (y9 := fun v => v) (fun _ => rfl) (fun _ => rfl) rfl (by decide +kernel)
      · refine r_p (pc' := 28) (p_aload_n 0 (k := 0) (by decide +kernel) rfl) ?_
        refine r_p (pc' := 29) (p_aload_n 0 (k := 0) (by decide +kernel) rfl) ?_
        refine r_gI flX10_52_7 (by decide +kernel) fun v24 => ?_
        refine r_callUI muX10_55s (ctX10_wrongs a0 v24) (rcX10_wrongs a0 v24) ⟨_, _, rfl⟩ (as := [vi v24]) (st := []) rfl rfl (by decide +kernel) rfl (Nat.le_of_ble_eq_true rfl) (Nat.le_of_ble_eq_true rfl) fun v25 s => ?_
        exact r_bret (y9 := fun v => v) (fun _ => rfl) (fun _ => rfl) rfl (by decide +kernel)
  · refine r_p (pc' := 28) (p_aload_n 0 (k := 0) (by decide +kernel) rfl) ?_
    refine r_p (pc' := 29) (p_aload_n 0 (k := 0) (by decide +kernel) rfl) ?_
    refine r_gI flX10_52_7 (by decide +kernel) fun v26 => ?_
    refine r_callUI muX10_55s (ctX10_wrongs a0 v26) (rcX10_wrongs a0 v26) ⟨_, _, rfl⟩ (as := [vi v26]) (st := []) rfl rfl (by decide +kernel) rfl (Nat.le_of_ble_eq_true rfl) (Nat.le_of_ble_eq_true rfl) fun v27 s => ?_
    exact r_bret (y9 := fun v => v) (fun _ => rfl) (fun _ => rfl) rfl (by decide +kernel)
def aX7_readMaster : StA := (RX7, cX7_readMaster, 1, some .boolean, yX7_readMaster, 10, [])
theorem flX7_58_1 : FL RX7 58 1 2 := ⟨_, TX1, 13, "ToolCourt$Court", rfl, by decide, Or.inr ⟨"ToolCourt", List.mem_of_getElem? (i := 352) (by decide +kernel)⟩, Or.inl rfl⟩
theorem muX7_79s : MU RX7 79 "ToolCourt$ShopReader" "ToolCourt$TextReader" ⟨"ToolCourt$ShopReader", "takeNumber", "(II)Z"⟩ aX10_takeNumbers 2 := ⟨tblG_of 1000 (by decide +kernel) (by decide +kernel), tblG_of 930 (by decide +kernel) (by decide +kernel), tblG_of 1002 (by decide +kernel) (by decide +kernel), tblG_of 1001 (by decide +kernel) (by decide +kernel), tblG_of 154 (by decide +kernel) (by decide +kernel), tblG_of 931 (by decide +kernel) (by decide +kernel), rfl, ⟨by decide, by decide⟩, by decide +kernel, by decide, Or.inl rfl⟩
theorem flX7_83_7 : FL RX7 83 7 9 := ⟨_, TX7, 14, "ToolCourt$ShopReader", rfl, by decide, Or.inl (tblG_of 435 (by decide +kernel) (by decide +kernel)), Or.inr (tblG_of 436 (by decide +kernel) (by decide +kernel))⟩
theorem mvX7_86 : MV RX7 86 aX8_open 1 := ⟨tblG_of 1003 (by decide +kernel) (by decide +kernel), tblG_of 1004 (by decide +kernel) (by decide +kernel), tblG_of 1005 (by decide +kernel) (by decide +kernel), tblG_of 152 (by decide +kernel) (by decide +kernel), tblG_of 1006 (by decide +kernel) (by decide +kernel), rfl, ⟨by decide, by decide⟩, by decide +kernel, by decide⟩
noncomputable def mX7_readMaster (a0 : Nat) : MM Int32 := onC 7 a0 (
  mbnd (nox (mX10_takeNumbers a0 4 9)) fun (v1 : Int32) =>
  if v1 = 0 then (
    mret 0
  ) else (
    mbnd (gR 7 13 a0) fun (v3 : Nat) =>
    mbnd (gR 1 2 v3) fun (v4 : Nat) =>
    mbnd (gI 7 9 a0) fun (v5 : Int32) =>
    mbnd (mX8_open v4 v5) fun (v6 : Int32) =>
    mret 1
  )
  )
theorem rcX7_readMaster (a0 : Nat) : Rcv 7 a0 (mX7_readMaster a0) := fun s r h => ⟨(onC_some h).1, (onC_some h).2.1⟩
set_option maxHeartbeats 4000000 in
set_option maxRecDepth 100000 in
theorem ctX7_readMaster (a0 : Nat) : Ct aX7_readMaster [vr a0] (mX7_readMaster a0) rI := by
  unfold mX7_readMaster
  refine ct_onC (ct_intro (by decide +kernel) rfl (Nat.le_of_ble_eq_true rfl) fun Y s => ?_)
  refine r_sub (lv' := [(0, vr a0)]) [0] rfl ?_
  refine r_p (pc' := 1) (p_aload_n 0 (k := 0) (by decide +kernel) rfl) ?_
  refine r_p (pc' := 2) (p_iconst (n := 4) (v := 4) (by decide +kernel) rfl) ?_
  refine r_p (pc' := 4) (p_bipush (n := 9) (v := 9) (by decide +kernel) (by decide +kernel)) ?_
  refine r_callUI muX7_79s (ctX10_takeNumbers a0 4 9) (rcX10_takeNumbers a0 4 9) ⟨_, _, rfl⟩ (as := [vi 4, vi 9]) (st := []) rfl rfl (by decide +kernel) rfl (Nat.le_of_ble_eq_true rfl) (Nat.le_of_ble_eq_true rfl) fun v1 s => ?_
  refine r_ifne (off := 5) (tgt := 12) (by decide +kernel) (by decide) (fun h2 => ?_) (fun h2 => ?_)
  · refine r_p (pc' := 11) (p_iconst (n := 0) (v := 0) (by decide +kernel) rfl) ?_
    exact r_iret rfl rfl _ rfl rfl (by decide +kernel)
  · refine r_p (pc' := 13) (p_aload_n 0 (k := 0) (by decide +kernel) rfl) ?_
    refine r_gR flX7_15_7 (by decide +kernel) fun v3 => ?_
    refine r_gR flX7_58_1 (by decide +kernel) fun v4 => ?_
    refine r_p (pc' := 20) (p_aload_n 0 (k := 0) (by decide +kernel) rfl) ?_
    refine r_gI flX7_83_7 (by decide +kernel) fun v5 => ?_
    refine r_callVI mvX7_86 (ctX8_open v4 v5) (rcX8_open v4 v5) ⟨_, _, rfl⟩ (as := [vi v5]) (st := []) rfl rfl (by decide +kernel) rfl (Nat.le_of_ble_eq_true rfl) (Nat.le_of_ble_eq_true rfl) fun v6 s => ?_
    refine r_p (pc' := 27) (p_pop rfl (by decide +kernel)) ?_
    refine r_p (pc' := 28) (p_iconst (n := 1) (v := 1) (by decide +kernel) rfl) ?_
    exact r_iret rfl rfl _ rfl rfl (by decide +kernel)
def aX7_readPartOf : StA := (RX7, cX7_readPartOf, 4, some .boolean, yX7_readPartOf, 10, [])
theorem flX7_24_7 : FL RX7 24 7 8 := ⟨_, TX7, 14, "ToolCourt$ShopReader", rfl, by decide, Or.inl (tblG_of 430 (by decide +kernel) (by decide +kernel)), Or.inr (tblG_of 431 (by decide +kernel) (by decide +kernel))⟩
theorem muX7_45s : MU RX7 45 "ToolCourt$ShopReader" "ToolCourt$TextReader" ⟨"ToolCourt$ShopReader", "wrong", "(I)Z"⟩ aX10_wrongs 1 := ⟨tblG_of 987 (by decide +kernel) (by decide +kernel), tblG_of 920 (by decide +kernel) (by decide +kernel), tblG_of 989 (by decide +kernel) (by decide +kernel), tblG_of 988 (by decide +kernel) (by decide +kernel), tblG_of 154 (by decide +kernel) (by decide +kernel), tblG_of 921 (by decide +kernel) (by decide +kernel), rfl, ⟨by decide, by decide⟩, by decide +kernel, by decide, Or.inl rfl⟩
theorem flX7_52_1 : FL RX7 52 1 1 := ⟨_, TX1, 13, "ToolCourt$Court", rfl, by decide, Or.inr ⟨"ToolCourt", List.mem_of_getElem? (i := 347) (by decide +kernel)⟩, Or.inl rfl⟩
theorem flX7_35_1 : FL RX7 35 1 0 := ⟨_, TX1, 13, "ToolCourt$Court", rfl, by decide, Or.inr ⟨"ToolCourt", List.mem_of_getElem? (i := 342) (by decide +kernel)⟩, Or.inl rfl⟩
theorem flX7_97_8 : FL RX7 97 8 3 := ⟨_, TX8, 4, "ToolCourt$Table", rfl, by decide, Or.inr ⟨"ToolCourt", List.mem_of_getElem? (i := 329) (by decide +kernel)⟩, Or.inl rfl⟩
theorem mvX7_100 : MV RX7 100 aX8_get 2 := ⟨tblG_of 1020 (by decide +kernel) (by decide +kernel), tblG_of 582 (by decide +kernel) (by decide +kernel), tblG_of 583 (by decide +kernel) (by decide +kernel), tblG_of 152 (by decide +kernel) (by decide +kernel), tblG_of 584 (by decide +kernel) (by decide +kernel), rfl, ⟨by decide, by decide⟩, by decide +kernel, by decide⟩
theorem mvX7_104 : MV RX7 104 aX1_isSpare 1 := ⟨tblG_of 1021 (by decide +kernel) (by decide +kernel), tblG_of 670 (by decide +kernel) (by decide +kernel), tblG_of 671 (by decide +kernel) (by decide +kernel), tblG_of 151 (by decide +kernel) (by decide +kernel), tblG_of 672 (by decide +kernel) (by decide +kernel), rfl, ⟨by decide, by decide⟩, by decide +kernel, by decide⟩
theorem mvX7_107 : MV RX7 107 aX1_place 3 := ⟨tblG_of 1022 (by decide +kernel) (by decide +kernel), tblG_of 1023 (by decide +kernel) (by decide +kernel), tblG_of 1024 (by decide +kernel) (by decide +kernel), tblG_of 151 (by decide +kernel) (by decide +kernel), tblG_of 1025 (by decide +kernel) (by decide +kernel), rfl, ⟨by decide, by decide⟩, by decide +kernel, by decide⟩
noncomputable def mX7_readPartOf (a0 : Nat) (a1 : Int32) : MM Int32 := onC 7 a0 (
  mbnd (gI 7 8 a0) fun (v1 : Int32) =>
  mbnd (gR 7 13 a0) fun (v2 : Nat) =>
  mbnd (gR 1 0 v2) fun (v3 : Nat) =>
  mbnd (gI 8 3 v3) fun (v4 : Int32) =>
  mbnd (nox (mX10_takeNumbers a0 4 (v4 - 1))) fun (v5 : Int32) =>
  if v5 = 0 then (
    mret 0
  ) else (
    mbnd (gR 7 13 a0) fun (v7 : Nat) =>
    mbnd (gR 1 0 v7) fun (v8 : Nat) =>
    mbnd (gI 7 9 a0) fun (v9 : Int32) =>
    mbnd (mX8_get v8 v9 0) fun (v10 : Int32) =>
    mbnd (gR 7 13 a0) fun (v11 : Nat) =>
    mbnd (gI 7 9 a0) fun (v12 : Int32) =>
    mbnd (mX1_isSpare v11 v12) fun (v13 : Int32) =>
    if v13 = 0 then (
      mbnd (nox (mX10_wrongs a0 v1)) fun (v15 : Int32) =>
      mbool v15
    ) else (
      mbnd (gR 7 13 a0) fun (v16 : Nat) =>
      mbnd (gR 1 1 v16) fun (v17 : Nat) =>
      mbnd (mX8_get v17 a1 v10) fun (v18 : Int32) =>
      if v18 = (-1) then (
        mbnd (gR 7 13 a0) fun (v20 : Nat) =>
        mbnd (gI 7 9 a0) fun (v21 : Int32) =>
        mbnd (mX1_place v20 a1 v10 v21) fun _ =>
        mret 1
      ) else (
        mbnd (nox (mX10_wrongs a0 v1)) fun (v22 : Int32) =>
        mbool v22
      )
    )
  )
  )
theorem rcX7_readPartOf (a0 : Nat) (a1 : Int32) : Rcv 7 a0 (mX7_readPartOf a0 a1) := fun s r h => ⟨(onC_some h).1, (onC_some h).2.1⟩
set_option maxHeartbeats 4000000 in
set_option maxRecDepth 100000 in
theorem ctX7_readPartOf (a0 : Nat) (a1 : Int32) : Ct aX7_readPartOf [vr a0, vi a1] (mX7_readPartOf a0 a1) rI := by
  unfold mX7_readPartOf
  refine ct_onC (ct_intro (by decide +kernel) rfl (Nat.le_of_ble_eq_true rfl) fun Y s => ?_)
  refine r_sub (lv' := [(0, vr a0), (1, vi a1)]) [0, 1] rfl ?_
  refine r_p (pc' := 1) (p_aload_n 0 (k := 0) (by decide +kernel) rfl) ?_
  refine r_gI flX7_24_7 (by decide +kernel) fun v1 => ?_
  refine r_p (pc' := 5) (p_istore_n (k := 2) (lv' := [(2, vi v1), (0, vr a0), (1, vi a1)]) (by decide +kernel) (Nat.le_of_ble_eq_true rfl) rfl) ?_
  refine r_p (pc' := 6) (p_aload_n 1 (k := 0) (by decide +kernel) rfl) ?_
  refine r_p (pc' := 7) (p_iconst (n := 4) (v := 4) (by decide +kernel) rfl) ?_
  refine r_p (pc' := 8) (p_aload_n 1 (k := 0) (by decide +kernel) rfl) ?_
  refine r_gR flX7_15_7 (by decide +kernel) fun v2 => ?_
  refine r_gR flX7_35_1 (by decide +kernel) fun v3 => ?_
  refine r_gI flX7_97_8 (by decide +kernel) fun v4 => ?_
  refine r_p (pc' := 18) (p_iconst (n := 1) (v := 1) (by decide +kernel) rfl) ?_
  refine r_p (pc' := 19) (p_isub (by decide +kernel)) ?_
  refine r_callUI muX7_79s (ctX10_takeNumbers a0 4 (v4 - 1)) (rcX10_takeNumbers a0 4 (v4 - 1)) ⟨_, _, rfl⟩ (as := [vi 4, vi (v4 - 1)]) (st := []) rfl rfl (by decide +kernel) rfl (Nat.le_of_ble_eq_true rfl) (Nat.le_of_ble_eq_true rfl) fun v5 s => ?_
  refine r_ifne (off := 5) (tgt := 27) (by decide +kernel) (by decide) (fun h6 => ?_) (fun h6 => ?_)
  · refine r_p (pc' := 26) (p_iconst (n := 0) (v := 0) (by decide +kernel) rfl) ?_
    exact r_iret rfl rfl _ rfl rfl (by decide +kernel)
  · refine r_p (pc' := 28) (p_aload_n 1 (k := 0) (by decide +kernel) rfl) ?_
    refine r_gR flX7_15_7 (by decide +kernel) fun v7 => ?_
    refine r_gR flX7_35_1 (by decide +kernel) fun v8 => ?_
    refine r_p (pc' := 35) (p_aload_n 1 (k := 0) (by decide +kernel) rfl) ?_
    refine r_gI flX7_83_7 (by decide +kernel) fun v9 => ?_
    refine r_p (pc' := 39) (p_iconst (n := 0) (v := 0) (by decide +kernel) rfl) ?_
    refine r_callVI mvX7_100 (ctX8_get v8 v9 0) (rcX8_get v8 v9 0) ⟨_, _, rfl⟩ (as := [vi v9, vi 0]) (st := []) rfl rfl (by decide +kernel) rfl (Nat.le_of_ble_eq_true rfl) (Nat.le_of_ble_eq_true rfl) fun v10 s => ?_
    refine r_p (pc' := 43) (p_istore_n (k := 3) (lv' := [(3, vi v10), (2, vi v1), (0, vr a0), (1, vi a1)]) (by decide +kernel) (Nat.le_of_ble_eq_true rfl) rfl) ?_
    refine r_p (pc' := 44) (p_aload_n 2 (k := 0) (by decide +kernel) rfl) ?_
    refine r_gR flX7_15_7 (by decide +kernel) fun v11 => ?_
    refine r_p (pc' := 48) (p_aload_n 2 (k := 0) (by decide +kernel) rfl) ?_
    refine r_gI flX7_83_7 (by decide +kernel) fun v12 => ?_
    refine r_callVI mvX7_104 (ctX1_isSpare v11 v12) (rcX1_isSpare v11 v12) ⟨_, _, rfl⟩ (as := [vi v12]) (st := []) rfl rfl (by decide +kernel) rfl (Nat.le_of_ble_eq_true rfl) (Nat.le_of_ble_eq_true rfl) fun v13 s => ?_
    refine r_ifeq (off := 19) (tgt := 73) (by decide +kernel) (by decide) (fun h14 => ?_) (fun h14 => ?_)
    · refine r_p (pc' := 74) (p_aload_n 2 (k := 0) (by decide +kernel) rfl) ?_
      refine r_p (pc' := 75) (p_iload_n 1 (k := 2) (by decide +kernel) rfl) ?_
      refine r_callUI muX7_45s (ctX10_wrongs a0 v1) (rcX10_wrongs a0 v1) ⟨_, _, rfl⟩ (as := [vi v1]) (st := []) rfl rfl (by decide +kernel) rfl (Nat.le_of_ble_eq_true rfl) (Nat.le_of_ble_eq_true rfl) fun v15 s => ?_
      exact r_bret (y9 := fun v => v) (fun _ => rfl) (fun _ => rfl) rfl (by decide +kernel)
    · refine r_p (pc' := 58) (p_aload_n 2 (k := 0) (by decide +kernel) rfl) ?_
      refine r_gR flX7_15_7 (by decide +kernel) fun v16 => ?_
      refine r_gR flX7_52_1 (by decide +kernel) fun v17 => ?_
      refine r_p (pc' := 65) (p_iload_n 3 (k := 1) (by decide +kernel) rfl) ?_
      refine r_p (pc' := 66) (p_iload_n 0 (k := 3) (by decide +kernel) rfl) ?_
      refine r_callVI mvX7_100 (ctX8_get v17 a1 v10) (rcX8_get v17 a1 v10) ⟨_, _, rfl⟩ (as := [vi a1, vi v10]) (st := []) rfl rfl (by decide +kernel) rfl (Nat.le_of_ble_eq_true rfl) (Nat.le_of_ble_eq_true rfl) fun v18 s => ?_
      refine r_p (pc' := 70) (p_iconst (n := -1) (v := -1) (by decide +kernel) rfl) ?_
      refine r_icmpeq (off := 9) (tgt := 79) (by decide +kernel) (by decide) (fun h19 => ?_) (fun h19 => ?_)
      · refine r_p (pc' := 80) (p_aload_n 2 (k := 0) (by decide +kernel) rfl) ?_
        refine r_gR flX7_15_7 (by decide +kernel) fun v20 => ?_
        refine r_p (pc' := 84) (p_iload_n 3 (k := 1) (by decide +kernel) rfl) ?_
        refine r_p (pc' := 85) (p_iload_n 0 (k := 3) (by decide +kernel) rfl) ?_
        refine r_p (pc' := 86) (p_aload_n 2 (k := 0) (by decide +kernel) rfl) ?_
        refine r_gI flX7_83_7 (by decide +kernel) fun v21 => ?_
        refine r_callVU mvX7_107 (ctX1_place v20 a1 v10 v21) (rcX1_place v20 a1 v10 v21) ⟨_, _, rfl⟩ (as := [vi a1, vi v10, vi v21]) (st := []) rfl rfl (by decide +kernel) rfl (Nat.le_of_ble_eq_true rfl) (Nat.le_of_ble_eq_true rfl) fun s => ?_
        refine r_p (pc' := 93) (p_iconst (n := 1) (v := 1) (by decide +kernel) rfl) ?_
        exact r_iret rfl rfl _ rfl rfl (by decide +kernel)
      · refine r_p (pc' := 74) (p_aload_n 2 (k := 0) (by decide +kernel) rfl) ?_
        refine r_p (pc' := 75) (p_iload_n 1 (k := 2) (by decide +kernel) rfl) ?_
        refine r_callUI muX7_45s (ctX10_wrongs a0 v1) (rcX10_wrongs a0 v1) ⟨_, _, rfl⟩ (as := [vi v1]) (st := []) rfl rfl (by decide +kernel) rfl (Nat.le_of_ble_eq_true rfl) (Nat.le_of_ble_eq_true rfl) fun v22 s => ?_
        exact r_bret (y9 := fun v => v) (fun _ => rfl) (fun _ => rfl) rfl (by decide +kernel)
def aX7_readTool : StA := (RX7, cX7_readTool, 3, some .boolean, yX7_readTool, 11, [])
theorem flX7_28_7 : FL RX7 28 7 7 := ⟨_, TX7, 14, "ToolCourt$ShopReader", rfl, by decide, Or.inl (tblG_of 425 (by decide +kernel) (by decide +kernel)), Or.inr (tblG_of 426 (by decide +kernel) (by decide +kernel))⟩
theorem mvX7_90 : MV RX7 90 aX8_put 3 := ⟨tblG_of 1011 (by decide +kernel) (by decide +kernel), tblG_of 1008 (by decide +kernel) (by decide +kernel), tblG_of 1009 (by decide +kernel) (by decide +kernel), tblG_of 152 (by decide +kernel) (by decide +kernel), tblG_of 1010 (by decide +kernel) (by decide +kernel), rfl, ⟨by decide, by decide⟩, by decide +kernel, by decide⟩
theorem mvX7_94 : MV RX7 94 aX7_readPartOf 1 := ⟨tblG_of 1016 (by decide +kernel) (by decide +kernel), tblG_of 1018 (by decide +kernel) (by decide +kernel), tblG_of 25 (by decide +kernel) (by decide +kernel), tblG_of 155 (by decide +kernel) (by decide +kernel), tblG_of 1019 (by decide +kernel) (by decide +kernel), rfl, ⟨by decide, by decide⟩, by decide +kernel, by decide⟩
noncomputable def mX7_readTool_L37 (a0 : Nat) (v3 : Int32) (x8 : Int32) : MM ((Int32) ⊕ (Unit ⊕ Unit)) :=
  if 3 ≤ x8 then (
    mret (.inr ((.inr ())))
  ) else (
    mbnd (gI 7 7 a0) fun (v13 : Int32) =>
    if v13 = 256 then (
      mbnd (mX7_readPartOf a0 v3) fun (v15 : Int32) =>
      if v15 = 0 then (
        mret (.inr ((.inl ())))
      ) else (
        mret (.inl (x8 + 1))
      )
    ) else (
      mret (.inr ((.inr ())))
    )
  )
noncomputable def mX7_readTool (a0 : Nat) : MM Int32 := onC 7 a0 (
  mbnd (gR 7 13 a0) fun (v1 : Nat) =>
  mbnd (gR 1 1 v1) fun (v2 : Nat) =>
  mbnd (mX8_open v2 (-1)) fun (v3 : Int32) =>
  mbnd (gR 7 13 a0) fun (v4 : Nat) =>
  mbnd (gR 1 1 v4) fun (v5 : Nat) =>
  mbnd (mX8_put v5 v3 3 0) fun _ =>
  mbnd (mX7_readPartOf a0 v3) fun (v6 : Int32) =>
  if v6 = 0 then (
    mret 0
  ) else (
    mbnd (loopM (mX7_readTool_L37 a0 v3) 0) fun (e17 : Unit ⊕ Unit) => match e17 with
      | .inl e17 => (
        mret 0
        )
      | .inr e17 => (
        mret 1
        )
  )
  )
theorem rcX7_readTool (a0 : Nat) : Rcv 7 a0 (mX7_readTool a0) := fun s r h => ⟨(onC_some h).1, (onC_some h).2.1⟩
set_option maxHeartbeats 4000000 in
set_option maxRecDepth 100000 in
theorem ctX7_readTool (a0 : Nat) : Ct aX7_readTool [vr a0] (mX7_readTool a0) rI := by
  unfold mX7_readTool
  refine ct_onC (ct_intro (by decide +kernel) rfl (Nat.le_of_ble_eq_true rfl) fun Y s => ?_)
  refine r_sub (lv' := [(0, vr a0)]) [0] rfl ?_
  refine r_p (pc' := 1) (p_aload_n 0 (k := 0) (by decide +kernel) rfl) ?_
  refine r_gR flX7_15_7 (by decide +kernel) fun v1 => ?_
  refine r_gR flX7_52_1 (by decide +kernel) fun v2 => ?_
  refine r_p (pc' := 8) (p_iconst (n := -1) (v := -1) (by decide +kernel) rfl) ?_
  refine r_callVI mvX7_86 (ctX8_open v2 (-1)) (rcX8_open v2 (-1)) ⟨_, _, rfl⟩ (as := [vi (-1)]) (st := []) rfl rfl (by decide +kernel) rfl (Nat.le_of_ble_eq_true rfl) (Nat.le_of_ble_eq_true rfl) fun v3 s => ?_
  refine r_p (pc' := 12) (p_istore_n (k := 1) (lv' := [(1, vi v3), (0, vr a0)]) (by decide +kernel) (Nat.le_of_ble_eq_true rfl) rfl) ?_
  refine r_p (pc' := 13) (p_aload_n 1 (k := 0) (by decide +kernel) rfl) ?_
  refine r_gR flX7_15_7 (by decide +kernel) fun v4 => ?_
  refine r_gR flX7_52_1 (by decide +kernel) fun v5 => ?_
  refine r_p (pc' := 20) (p_iload_n 0 (k := 1) (by decide +kernel) rfl) ?_
  refine r_p (pc' := 21) (p_iconst (n := 3) (v := 3) (by decide +kernel) rfl) ?_
  refine r_p (pc' := 22) (p_iconst (n := 0) (v := 0) (by decide +kernel) rfl) ?_
  refine r_callVU mvX7_90 (ctX8_put v5 v3 3 0) (rcX8_put v5 v3 3 0) ⟨_, _, rfl⟩ (as := [vi v3, vi 3, vi 0]) (st := []) rfl rfl (by decide +kernel) rfl (Nat.le_of_ble_eq_true rfl) (Nat.le_of_ble_eq_true rfl) fun s => ?_
  refine r_p (pc' := 26) (p_aload_n 1 (k := 0) (by decide +kernel) rfl) ?_
  refine r_p (pc' := 27) (p_iload_n 0 (k := 1) (by decide +kernel) rfl) ?_
  refine r_callVI mvX7_94 (ctX7_readPartOf a0 v3) (rcX7_readPartOf a0 v3) ⟨_, _, rfl⟩ (as := [vi v3]) (st := []) rfl rfl (by decide +kernel) rfl (Nat.le_of_ble_eq_true rfl) (Nat.le_of_ble_eq_true rfl) fun v6 s => ?_
  refine r_ifne (off := 5) (tgt := 35) (by decide +kernel) (by decide) (fun h7 => ?_) (fun h7 => ?_)
  · refine r_p (pc' := 34) (p_iconst (n := 0) (v := 0) (by decide +kernel) rfl) ?_
    exact r_iret rfl rfl _ rfl rfl (by decide +kernel)
  · refine r_p (pc' := 36) (p_iconst (n := 0) (v := 0) (by decide +kernel) rfl) ?_
    refine r_p (pc' := 37) (p_istore_n (k := 2) (lv' := [(2, vi 0), (1, vi v3), (0, vr a0)]) (by decide +kernel) (Nat.le_of_ble_eq_true rfl) rfl) ?_
    refine r_sub (lv' := [(0, vr a0), (1, vi v3), (2, vi 0)]) [2, 1, 0] rfl ?_
    refine r_loop2 (fun (e17 : Unit ⊕ Unit) => match e17 with | .inl _ => 60 | .inr _ => 68) (fun (e17 : Unit ⊕ Unit) => match e17 with | .inl e17 => [] | .inr e17 => []) (fun (x8 : Int32) => [(0, vr a0), (1, vi v3), (2, vi x8)]) (fun e17 s => ?_) (fun K9 hb10 he11 x8 s => ?_) 0 _
    · rcases e17 with e17 | e17
      · show Rr _ _ 60 [] [] _ _ _ _
        refine r_p (pc' := 61) (p_iconst (n := 0) (v := 0) (by decide +kernel) rfl) ?_
        exact r_iret rfl rfl _ rfl rfl (by decide +kernel)
      · show Rr _ _ 68 [] [] _ _ _ _
        refine r_p (pc' := 69) (p_iconst (n := 1) (v := 1) (by decide +kernel) rfl) ?_
        exact r_iret rfl rfl _ rfl rfl (by decide +kernel)
    · unfold mX7_readTool_L37
      refine r_p (pc' := 38) (p_iload_n 2 (k := 2) (by decide +kernel) rfl) ?_
      refine r_p (pc' := 39) (p_iconst (n := 3) (v := 3) (by decide +kernel) rfl) ?_
      refine r_icmpge (off := 29) (tgt := 68) (by decide +kernel) (by decide) (fun h12 => ?_) (fun h12 => ?_)
      · refine r_sub (lv' := []) [] rfl ?_
        exact he11 ((.inr ())) _
      · refine r_p (pc' := 43) (p_aload_n 0 (k := 0) (by decide +kernel) rfl) ?_
        refine r_gI flX7_28_7 (by decide +kernel) fun v13 => ?_
        refine r_p (pc' := 49) (p_sipush (n := 256) (v := 256) (by decide +kernel) (by decide +kernel)) ?_
        refine r_icmpne (off := 19) (tgt := 68) (by decide +kernel) (by decide) (fun h14 => ?_) (fun h14 => ?_)
        · refine r_p (pc' := 53) (p_aload_n 0 (k := 0) (by decide +kernel) rfl) ?_
          refine r_p (pc' := 54) (p_iload_n 1 (k := 1) (by decide +kernel) rfl) ?_
          refine r_callVI mvX7_94 (ctX7_readPartOf a0 v3) (rcX7_readPartOf a0 v3) ⟨_, _, rfl⟩ (as := [vi v3]) (st := []) rfl rfl (by decide +kernel) rfl (Nat.le_of_ble_eq_true rfl) (Nat.le_of_ble_eq_true rfl) fun v15 s => ?_
          refine r_ifne (off := 5) (tgt := 62) (by decide +kernel) (by decide) (fun h16 => ?_) (fun h16 => ?_)
          · refine r_sub (lv' := []) [] rfl ?_
            exact he11 ((.inl ())) _
          · refine r_p (pc' := 65) (p_iinc 2 (i := 2) (n := 1) (x := x8) (v := x8 + 1) (lv' := [(2, vi (x8 + 1)), (0, vr a0), (1, vi v3)]) (by decide +kernel) rfl rfl (Nat.le_of_ble_eq_true rfl) rfl) ?_
            refine r_p (pc' := 37) (p_goto (off := -28) (tgt := 37) (by decide +kernel) (by decide)) ?_
            refine r_sub (lv' := [(0, vr a0), (1, vi v3), (2, vi (x8 + 1))]) [1, 2, 0] rfl ?_
            exact hb10 (x8 + 1) _
        · refine r_sub (lv' := []) [] rfl ?_
          exact he11 ((.inr ())) _
def aX10_takeThings : StA := (RX10, cX10_takeThing, 2, some .boolean, yX10_takeThing, 9, [])
noncomputable def mX10_takeThings (a0 : Nat) (a1 : Int32) : MM Int32 := onC 7 a0 (
  mbnd (gI 7 7 a0) fun (v1 : Int32) =>
  if v1 = a1 then (
    mbnd (nox (mX10_goOns a0)) fun _ =>
    mret 1
  ) else (
    mbnd (gI 7 8 a0) fun (v3 : Int32) =>
    mbnd (nox (mX10_wrongs a0 v3)) fun (v4 : Int32) =>
    mbool v4
  )
  )
theorem rcX10_takeThings (a0 : Nat) (a1 : Int32) : Rcv 7 a0 (mX10_takeThings a0 a1) := fun s r h => ⟨(onC_some h).1, (onC_some h).2.1⟩
set_option maxHeartbeats 4000000 in
set_option maxRecDepth 100000 in
theorem ctX10_takeThings (a0 : Nat) (a1 : Int32) : Ct aX10_takeThings [vr a0, vi a1] (mX10_takeThings a0 a1) rI := by
  unfold mX10_takeThings
  refine ct_onC (ct_intro (by decide +kernel) rfl (Nat.le_of_ble_eq_true rfl) fun Y s => ?_)
  refine r_sub (lv' := [(0, vr a0), (1, vi a1)]) [0, 1] rfl ?_
  refine r_p (pc' := 1) (p_aload_n 0 (k := 0) (by decide +kernel) rfl) ?_
  refine r_gI flX10_41_7 (by decide +kernel) fun v1 => ?_
  refine r_p (pc' := 5) (p_iload_n 1 (k := 1) (by decide +kernel) rfl) ?_
  refine r_icmpeq (off := 12) (tgt := 17) (by decide +kernel) (by decide) (fun h2 => ?_) (fun h2 => ?_)
  · refine r_p (pc' := 18) (p_aload_n 0 (k := 0) (by decide +kernel) rfl) ?_
    refine r_callUU muX10_69s (ctX10_goOns a0) (rcX10_goOns a0) ⟨_, _, rfl⟩ (as := []) (st := []) rfl rfl (by decide +kernel) rfl (Nat.le_of_ble_eq_true rfl) (Nat.le_of_ble_eq_true rfl) fun s => ?_
    refine r_p (pc' := 22) (p_iconst (n := 1) (v := 1) (by decide +kernel) rfl) ?_
    exact r_iret rfl rfl _ rfl rfl (by decide +kernel)
  · refine r_p (pc' := 9) (p_aload_n 0 (k := 0) (by decide +kernel) rfl) ?_
    refine r_p (pc' := 10) (p_aload_n 0 (k := 0) (by decide +kernel) rfl) ?_
    refine r_gI flX10_52_7 (by decide +kernel) fun v3 => ?_
    refine r_callUI muX10_55s (ctX10_wrongs a0 v3) (rcX10_wrongs a0 v3) ⟨_, _, rfl⟩ (as := [vi v3]) (st := []) rfl rfl (by decide +kernel) rfl (Nat.le_of_ble_eq_true rfl) (Nat.le_of_ble_eq_true rfl) fun v4 s => ?_
    exact r_bret (y9 := fun v => v) (fun _ => rfl) (fun _ => rfl) rfl (by decide +kernel)
def aX7_readPart : StA := (RX7, cX7_readPart, 4, some .boolean, yX7_readPart, 10, [])
theorem muX7_31s : MU RX7 31 "ToolCourt$ShopReader" "ToolCourt$TextReader" ⟨"ToolCourt$ShopReader", "goOn", "()V"⟩ aX10_goOns 0 := ⟨tblG_of 980 (by decide +kernel) (by decide +kernel), tblG_of 905 (by decide +kernel) (by decide +kernel), tblG_of 982 (by decide +kernel) (by decide +kernel), tblG_of 981 (by decide +kernel) (by decide +kernel), tblG_of 154 (by decide +kernel) (by decide +kernel), tblG_of 909 (by decide +kernel) (by decide +kernel), rfl, ⟨by decide, by decide⟩, by decide +kernel, by decide, Or.inl rfl⟩
theorem muX7_76s : MU RX7 76 "ToolCourt$ShopReader" "ToolCourt$TextReader" ⟨"ToolCourt$ShopReader", "takeThing", "(I)Z"⟩ aX10_takeThings 1 := ⟨tblG_of 994 (by decide +kernel) (by decide +kernel), tblG_of 998 (by decide +kernel) (by decide +kernel), tblG_of 997 (by decide +kernel) (by decide +kernel), tblG_of 995 (by decide +kernel) (by decide +kernel), tblG_of 154 (by decide +kernel) (by decide +kernel), tblG_of 999 (by decide +kernel) (by decide +kernel), rfl, ⟨by decide, by decide⟩, by decide +kernel, by decide, Or.inl rfl⟩
noncomputable def mX7_readPart (a0 : Nat) : MM Int32 := onC 7 a0 (
  mbnd (gI 7 7 a0) fun (v1 : Int32) =>
  mbnd (mret (v1 - 300)) fun (v2 : Int32) =>
  if v2 < 0 then (
    mbnd (gI 7 8 a0) fun (v4 : Int32) =>
    mbnd (nox (mX10_wrongs a0 v4)) fun (v5 : Int32) =>
    mbool v5
  ) else (
    if v2 < 3 then (
      mbnd (nox (mX10_goOns a0)) fun _ =>
      mbnd (nox (mX10_takeThings a0 304)) fun (v7 : Int32) =>
      if v7 = 0 then (
        mret 0
      ) else (
        mbnd (nox (mX10_takeNumbers a0 4 9)) fun (v9 : Int32) =>
        if v9 = 0 then (
          mret 0
        ) else (
          mbnd (gI 7 9 a0) fun (v11 : Int32) =>
          mbnd (nox (mX10_takeThings a0 305)) fun (v12 : Int32) =>
          if v12 = 0 then (
            mret 0
          ) else (
            mbnd (nox (mX10_takeNumbers a0 4 99)) fun (v14 : Int32) =>
            if v14 = 0 then (
              mret 0
            ) else (
              mbnd (gR 7 13 a0) fun (v16 : Nat) =>
              mbnd (gR 1 0 v16) fun (v17 : Nat) =>
              mbnd (mX8_open v17 0) fun (v18 : Int32) =>
              mbnd (gR 7 13 a0) fun (v19 : Nat) =>
              mbnd (gR 1 0 v19) fun (v20 : Nat) =>
              mbnd (mX8_put v20 v18 0 v2) fun _ =>
              mbnd (gR 7 13 a0) fun (v21 : Nat) =>
              mbnd (gR 1 0 v21) fun (v22 : Nat) =>
              mbnd (mX8_put v22 v18 1 v11) fun _ =>
              mbnd (gR 7 13 a0) fun (v23 : Nat) =>
              mbnd (gR 1 0 v23) fun (v24 : Nat) =>
              mbnd (gI 7 9 a0) fun (v25 : Int32) =>
              mbnd (mX8_put v24 v18 2 v25) fun _ =>
              mbnd (gR 7 13 a0) fun (v26 : Nat) =>
              mbnd (gR 1 0 v26) fun (v27 : Nat) =>
              mbnd (mX8_put v27 v18 6 (-1)) fun _ =>
              mret 1
            )
          )
        )
      )
    ) else (
      mbnd (gI 7 8 a0) fun (v28 : Int32) =>
      mbnd (nox (mX10_wrongs a0 v28)) fun (v29 : Int32) =>
      mbool v29
    )
  )
  )
theorem rcX7_readPart (a0 : Nat) : Rcv 7 a0 (mX7_readPart a0) := fun s r h => ⟨(onC_some h).1, (onC_some h).2.1⟩
set_option maxHeartbeats 4000000 in
set_option maxRecDepth 100000 in
theorem ctX7_readPart (a0 : Nat) : Ct aX7_readPart [vr a0] (mX7_readPart a0) rI := by
  unfold mX7_readPart
  refine ct_onC (ct_intro (by decide +kernel) rfl (Nat.le_of_ble_eq_true rfl) fun Y s => ?_)
  refine r_sub (lv' := [(0, vr a0)]) [0] rfl ?_
  refine r_p (pc' := 1) (p_aload_n 0 (k := 0) (by decide +kernel) rfl) ?_
  refine r_gI flX7_28_7 (by decide +kernel) fun v1 => ?_
  refine r_p (pc' := 7) (p_sipush (n := 300) (v := 300) (by decide +kernel) (by decide +kernel)) ?_
  refine r_p (pc' := 8) (p_isub (by decide +kernel)) ?_
  refine r_letI fun v2 => ?_
  refine r_p (pc' := 9) (p_istore_n (k := 1) (lv' := [(1, vi v2), (0, vr a0)]) (by decide +kernel) (Nat.le_of_ble_eq_true rfl) rfl) ?_
  refine r_p (pc' := 10) (p_iload_n 0 (k := 1) (by decide +kernel) rfl) ?_
  refine r_iflt (off := 8) (tgt := 18) (by decide +kernel) (by decide) (fun h3 => ?_) (fun h3 => ?_)
  · refine r_p (pc' := 19) (p_aload_n 1 (k := 0) (by decide +kernel) rfl) ?_
    refine r_p (pc' := 20) (p_aload_n 1 (k := 0) (by decide +kernel) rfl) ?_
    refine r_gI flX7_24_7 (by decide +kernel) fun v4 => ?_
    refine r_callUI muX7_45s (ctX10_wrongs a0 v4) (rcX10_wrongs a0 v4) ⟨_, _, rfl⟩ (as := [vi v4]) (st := []) rfl rfl (by decide +kernel) rfl (Nat.le_of_ble_eq_true rfl) (Nat.le_of_ble_eq_true rfl) fun v5 s => ?_
    exact r_bret (y9 := fun v => v) (fun _ => rfl) (fun _ => rfl) rfl (by decide +kernel)
  · refine r_p (pc' := 14) (p_iload_n 0 (k := 1) (by decide +kernel) rfl) ?_
    refine r_p (pc' := 15) (p_iconst (n := 3) (v := 3) (by decide +kernel) rfl) ?_
    refine r_icmplt (off := 12) (tgt := 27) (by decide +kernel) (by decide) (fun h6 => ?_) (fun h6 => ?_)
    · refine r_p (pc' := 28) (p_aload_n 1 (k := 0) (by decide +kernel) rfl) ?_
      refine r_callUU muX7_31s (ctX10_goOns a0) (rcX10_goOns a0) ⟨_, _, rfl⟩ (as := []) (st := []) rfl rfl (by decide +kernel) rfl (Nat.le_of_ble_eq_true rfl) (Nat.le_of_ble_eq_true rfl) fun s => ?_
      refine r_p (pc' := 32) (p_aload_n 1 (k := 0) (by decide +kernel) rfl) ?_
      refine r_p (pc' := 35) (p_sipush (n := 304) (v := 304) (by decide +kernel) (by decide +kernel)) ?_
      refine r_callUI muX7_76s (ctX10_takeThings a0 304) (rcX10_takeThings a0 304) ⟨_, _, rfl⟩ (as := [vi 304]) (st := []) rfl rfl (by decide +kernel) rfl (Nat.le_of_ble_eq_true rfl) (Nat.le_of_ble_eq_true rfl) fun v7 s => ?_
      refine r_ifeq (off := 13) (tgt := 51) (by decide +kernel) (by decide) (fun h8 => ?_) (fun h8 => ?_)
      · refine r_p (pc' := 52) (p_iconst (n := 0) (v := 0) (by decide +kernel) rfl) ?_
        exact r_iret rfl rfl _ rfl rfl (by decide +kernel)
      · refine r_p (pc' := 42) (p_aload_n 1 (k := 0) (by decide +kernel) rfl) ?_
        refine r_p (pc' := 43) (p_iconst (n := 4) (v := 4) (by decide +kernel) rfl) ?_
        refine r_p (pc' := 45) (p_bipush (n := 9) (v := 9) (by decide +kernel) (by decide +kernel)) ?_
        refine r_callUI muX7_79s (ctX10_takeNumbers a0 4 9) (rcX10_takeNumbers a0 4 9) ⟨_, _, rfl⟩ (as := [vi 4, vi 9]) (st := []) rfl rfl (by decide +kernel) rfl (Nat.le_of_ble_eq_true rfl) (Nat.le_of_ble_eq_true rfl) fun v9 s => ?_
        refine r_ifne (off := 5) (tgt := 53) (by decide +kernel) (by decide) (fun h10 => ?_) (fun h10 => ?_)
        · refine r_p (pc' := 52) (p_iconst (n := 0) (v := 0) (by decide +kernel) rfl) ?_
          exact r_iret rfl rfl _ rfl rfl (by decide +kernel)
        · refine r_p (pc' := 54) (p_aload_n 1 (k := 0) (by decide +kernel) rfl) ?_
          refine r_gI flX7_83_7 (by decide +kernel) fun v11 => ?_
          refine r_p (pc' := 58) (p_istore_n (k := 2) (lv' := [(2, vi v11), (1, vi v2), (0, vr a0)]) (by decide +kernel) (Nat.le_of_ble_eq_true rfl) rfl) ?_
          refine r_p (pc' := 59) (p_aload_n 2 (k := 0) (by decide +kernel) rfl) ?_
          refine r_p (pc' := 62) (p_sipush (n := 305) (v := 305) (by decide +kernel) (by decide +kernel)) ?_
          refine r_callUI muX7_76s (ctX10_takeThings a0 305) (rcX10_takeThings a0 305) ⟨_, _, rfl⟩ (as := [vi 305]) (st := []) rfl rfl (by decide +kernel) rfl (Nat.le_of_ble_eq_true rfl) (Nat.le_of_ble_eq_true rfl) fun v12 s => ?_
          refine r_ifeq (off := 13) (tgt := 78) (by decide +kernel) (by decide) (fun h13 => ?_) (fun h13 => ?_)
          · refine r_p (pc' := 79) (p_iconst (n := 0) (v := 0) (by decide +kernel) rfl) ?_
            exact r_iret rfl rfl _ rfl rfl (by decide +kernel)
          · refine r_p (pc' := 69) (p_aload_n 2 (k := 0) (by decide +kernel) rfl) ?_
            refine r_p (pc' := 70) (p_iconst (n := 4) (v := 4) (by decide +kernel) rfl) ?_
            refine r_p (pc' := 72) (p_bipush (n := 99) (v := 99) (by decide +kernel) (by decide +kernel)) ?_
            refine r_callUI muX7_79s (ctX10_takeNumbers a0 4 99) (rcX10_takeNumbers a0 4 99) ⟨_, _, rfl⟩ (as := [vi 4, vi 99]) (st := []) rfl rfl (by decide +kernel) rfl (Nat.le_of_ble_eq_true rfl) (Nat.le_of_ble_eq_true rfl) fun v14 s => ?_
            refine r_ifne (off := 5) (tgt := 80) (by decide +kernel) (by decide) (fun h15 => ?_) (fun h15 => ?_)
            · refine r_p (pc' := 79) (p_iconst (n := 0) (v := 0) (by decide +kernel) rfl) ?_
              exact r_iret rfl rfl _ rfl rfl (by decide +kernel)
            · refine r_p (pc' := 81) (p_aload_n 2 (k := 0) (by decide +kernel) rfl) ?_
              refine r_gR flX7_15_7 (by decide +kernel) fun v16 => ?_
              refine r_gR flX7_35_1 (by decide +kernel) fun v17 => ?_
              refine r_p (pc' := 88) (p_iconst (n := 0) (v := 0) (by decide +kernel) rfl) ?_
              refine r_callVI mvX7_86 (ctX8_open v17 0) (rcX8_open v17 0) ⟨_, _, rfl⟩ (as := [vi 0]) (st := []) rfl rfl (by decide +kernel) rfl (Nat.le_of_ble_eq_true rfl) (Nat.le_of_ble_eq_true rfl) fun v18 s => ?_
              refine r_p (pc' := 92) (p_istore_n (k := 3) (lv' := [(3, vi v18), (2, vi v11), (1, vi v2), (0, vr a0)]) (by decide +kernel) (Nat.le_of_ble_eq_true rfl) rfl) ?_
              refine r_p (pc' := 93) (p_aload_n 3 (k := 0) (by decide +kernel) rfl) ?_
              refine r_gR flX7_15_7 (by decide +kernel) fun v19 => ?_
              refine r_gR flX7_35_1 (by decide +kernel) fun v20 => ?_
              refine r_p (pc' := 100) (p_iload_n 0 (k := 3) (by decide +kernel) rfl) ?_
              refine r_p (pc' := 101) (p_iconst (n := 0) (v := 0) (by decide +kernel) rfl) ?_
              refine r_p (pc' := 102) (p_iload_n 2 (k := 1) (by decide +kernel) rfl) ?_
              refine r_callVU mvX7_90 (ctX8_put v20 v18 0 v2) (rcX8_put v20 v18 0 v2) ⟨_, _, rfl⟩ (as := [vi v18, vi 0, vi v2]) (st := []) rfl rfl (by decide +kernel) rfl (Nat.le_of_ble_eq_true rfl) (Nat.le_of_ble_eq_true rfl) fun s => ?_
              refine r_p (pc' := 106) (p_aload_n 3 (k := 0) (by decide +kernel) rfl) ?_
              refine r_gR flX7_15_7 (by decide +kernel) fun v21 => ?_
              refine r_gR flX7_35_1 (by decide +kernel) fun v22 => ?_
              refine r_p (pc' := 113) (p_iload_n 0 (k := 3) (by decide +kernel) rfl) ?_
              refine r_p (pc' := 114) (p_iconst (n := 1) (v := 1) (by decide +kernel) rfl) ?_
              refine r_p (pc' := 115) (p_iload_n 1 (k := 2) (by decide +kernel) rfl) ?_
              refine r_callVU mvX7_90 (ctX8_put v22 v18 1 v11) (rcX8_put v22 v18 1 v11) ⟨_, _, rfl⟩ (as := [vi v18, vi 1, vi v11]) (st := []) rfl rfl (by decide +kernel) rfl (Nat.le_of_ble_eq_true rfl) (Nat.le_of_ble_eq_true rfl) fun s => ?_
              refine r_p (pc' := 119) (p_aload_n 3 (k := 0) (by decide +kernel) rfl) ?_
              refine r_gR flX7_15_7 (by decide +kernel) fun v23 => ?_
              refine r_gR flX7_35_1 (by decide +kernel) fun v24 => ?_
              refine r_p (pc' := 126) (p_iload_n 0 (k := 3) (by decide +kernel) rfl) ?_
              refine r_p (pc' := 127) (p_iconst (n := 2) (v := 2) (by decide +kernel) rfl) ?_
              refine r_p (pc' := 128) (p_aload_n 3 (k := 0) (by decide +kernel) rfl) ?_
              refine r_gI flX7_83_7 (by decide +kernel) fun v25 => ?_
              refine r_callVU mvX7_90 (ctX8_put v24 v18 2 v25) (rcX8_put v24 v18 2 v25) ⟨_, _, rfl⟩ (as := [vi v18, vi 2, vi v25]) (st := []) rfl rfl (by decide +kernel) rfl (Nat.le_of_ble_eq_true rfl) (Nat.le_of_ble_eq_true rfl) fun s => ?_
              refine r_p (pc' := 135) (p_aload_n 3 (k := 0) (by decide +kernel) rfl) ?_
              refine r_gR flX7_15_7 (by decide +kernel) fun v26 => ?_
              refine r_gR flX7_35_1 (by decide +kernel) fun v27 => ?_
              refine r_p (pc' := 142) (p_iload_n 0 (k := 3) (by decide +kernel) rfl) ?_
              refine r_p (pc' := 144) (p_bipush (n := 6) (v := 6) (by decide +kernel) (by decide +kernel)) ?_
              refine r_p (pc' := 145) (p_iconst (n := -1) (v := -1) (by decide +kernel) rfl) ?_
              refine r_callVU mvX7_90 (ctX8_put v27 v18 6 (-1)) (rcX8_put v27 v18 6 (-1)) ⟨_, _, rfl⟩ (as := [vi v18, vi 6, vi (-1)]) (st := []) rfl rfl (by decide +kernel) rfl (Nat.le_of_ble_eq_true rfl) (Nat.le_of_ble_eq_true rfl) fun s => ?_
              refine r_p (pc' := 149) (p_iconst (n := 1) (v := 1) (by decide +kernel) rfl) ?_
              exact r_iret rfl rfl _ rfl rfl (by decide +kernel)
    · refine r_p (pc' := 19) (p_aload_n 1 (k := 0) (by decide +kernel) rfl) ?_
      refine r_p (pc' := 20) (p_aload_n 1 (k := 0) (by decide +kernel) rfl) ?_
      refine r_gI flX7_24_7 (by decide +kernel) fun v28 => ?_
      refine r_callUI muX7_45s (ctX10_wrongs a0 v28) (rcX10_wrongs a0 v28) ⟨_, _, rfl⟩ (as := [vi v28]) (st := []) rfl rfl (by decide +kernel) rfl (Nat.le_of_ble_eq_true rfl) (Nat.le_of_ble_eq_true rfl) fun v29 s => ?_
      exact r_bret (y9 := fun v => v) (fun _ => rfl) (fun _ => rfl) rfl (by decide +kernel)
def aX7_readNail : StA := (RX7, cX7_readNail, 2, some .boolean, yX7_readNail, 10, [])
noncomputable def mX7_readNail (a0 : Nat) : MM Int32 := onC 7 a0 (
  mbnd (gI 7 8 a0) fun (v1 : Int32) =>
  mbnd (gR 7 13 a0) fun (v2 : Nat) =>
  mbnd (gR 1 0 v2) fun (v3 : Nat) =>
  mbnd (gI 8 3 v3) fun (v4 : Int32) =>
  mbnd (nox (mX10_takeNumbers a0 4 (v4 - 1))) fun (v5 : Int32) =>
  if v5 = 0 then (
    mret 0
  ) else (
    mbnd (gR 7 13 a0) fun (v7 : Nat) =>
    mbnd (gI 7 9 a0) fun (v8 : Int32) =>
    mbnd (mX1_isSpare v7 v8) fun (v9 : Int32) =>
    if v9 = 0 then (
      mbnd (gR 7 13 a0) fun (v11 : Nat) =>
      mbnd (gR 1 0 v11) fun (v12 : Nat) =>
      mbnd (gI 7 9 a0) fun (v13 : Int32) =>
      mbnd (mX8_put v12 v13 4 1) fun _ =>
      mret 1
    ) else (
      mbnd (nox (mX10_wrongs a0 v1)) fun (v14 : Int32) =>
      mbool v14
    )
  )
  )
theorem rcX7_readNail (a0 : Nat) : Rcv 7 a0 (mX7_readNail a0) := fun s r h => ⟨(onC_some h).1, (onC_some h).2.1⟩
set_option maxHeartbeats 4000000 in
set_option maxRecDepth 100000 in
theorem ctX7_readNail (a0 : Nat) : Ct aX7_readNail [vr a0] (mX7_readNail a0) rI := by
  unfold mX7_readNail
  refine ct_onC (ct_intro (by decide +kernel) rfl (Nat.le_of_ble_eq_true rfl) fun Y s => ?_)
  refine r_sub (lv' := [(0, vr a0)]) [0] rfl ?_
  refine r_p (pc' := 1) (p_aload_n 0 (k := 0) (by decide +kernel) rfl) ?_
  refine r_gI flX7_24_7 (by decide +kernel) fun v1 => ?_
  refine r_p (pc' := 5) (p_istore_n (k := 1) (lv' := [(1, vi v1), (0, vr a0)]) (by decide +kernel) (Nat.le_of_ble_eq_true rfl) rfl) ?_
  refine r_p (pc' := 6) (p_aload_n 1 (k := 0) (by decide +kernel) rfl) ?_
  refine r_p (pc' := 7) (p_iconst (n := 4) (v := 4) (by decide +kernel) rfl) ?_
  refine r_p (pc' := 8) (p_aload_n 1 (k := 0) (by decide +kernel) rfl) ?_
  refine r_gR flX7_15_7 (by decide +kernel) fun v2 => ?_
  refine r_gR flX7_35_1 (by decide +kernel) fun v3 => ?_
  refine r_gI flX7_97_8 (by decide +kernel) fun v4 => ?_
  refine r_p (pc' := 18) (p_iconst (n := 1) (v := 1) (by decide +kernel) rfl) ?_
  refine r_p (pc' := 19) (p_isub (by decide +kernel)) ?_
  refine r_callUI muX7_79s (ctX10_takeNumbers a0 4 (v4 - 1)) (rcX10_takeNumbers a0 4 (v4 - 1)) ⟨_, _, rfl⟩ (as := [vi 4, vi (v4 - 1)]) (st := []) rfl rfl (by decide +kernel) rfl (Nat.le_of_ble_eq_true rfl) (Nat.le_of_ble_eq_true rfl) fun v5 s => ?_
  refine r_ifne (off := 5) (tgt := 27) (by decide +kernel) (by decide) (fun h6 => ?_) (fun h6 => ?_)
  · refine r_p (pc' := 26) (p_iconst (n := 0) (v := 0) (by decide +kernel) rfl) ?_
    exact r_iret rfl rfl _ rfl rfl (by decide +kernel)
  · refine r_p (pc' := 28) (p_aload_n 1 (k := 0) (by decide +kernel) rfl) ?_
    refine r_gR flX7_15_7 (by decide +kernel) fun v7 => ?_
    refine r_p (pc' := 32) (p_aload_n 1 (k := 0) (by decide +kernel) rfl) ?_
    refine r_gI flX7_83_7 (by decide +kernel) fun v8 => ?_
    refine r_callVI mvX7_104 (ctX1_isSpare v7 v8) (rcX1_isSpare v7 v8) ⟨_, _, rfl⟩ (as := [vi v8]) (st := []) rfl rfl (by decide +kernel) rfl (Nat.le_of_ble_eq_true rfl) (Nat.le_of_ble_eq_true rfl) fun v9 s => ?_
    refine r_ifeq (off := 9) (tgt := 47) (by decide +kernel) (by decide) (fun h10 => ?_) (fun h10 => ?_)
    · refine r_p (pc' := 48) (p_aload_n 1 (k := 0) (by decide +kernel) rfl) ?_
      refine r_gR flX7_15_7 (by decide +kernel) fun v11 => ?_
      refine r_gR flX7_35_1 (by decide +kernel) fun v12 => ?_
      refine r_p (pc' := 55) (p_aload_n 1 (k := 0) (by decide +kernel) rfl) ?_
      refine r_gI flX7_83_7 (by decide +kernel) fun v13 => ?_
      refine r_p (pc' := 59) (p_iconst (n := 4) (v := 4) (by decide +kernel) rfl) ?_
      refine r_p (pc' := 60) (p_iconst (n := 1) (v := 1) (by decide +kernel) rfl) ?_
      refine r_callVU mvX7_90 (ctX8_put v12 v13 4 1) (rcX8_put v12 v13 4 1) ⟨_, _, rfl⟩ (as := [vi v13, vi 4, vi 1]) (st := []) rfl rfl (by decide +kernel) rfl (Nat.le_of_ble_eq_true rfl) (Nat.le_of_ble_eq_true rfl) fun s => ?_
      refine r_p (pc' := 64) (p_iconst (n := 1) (v := 1) (by decide +kernel) rfl) ?_
      exact r_iret rfl rfl _ rfl rfl (by decide +kernel)
    · refine r_p (pc' := 42) (p_aload_n 1 (k := 0) (by decide +kernel) rfl) ?_
      refine r_p (pc' := 43) (p_iload_n 0 (k := 1) (by decide +kernel) rfl) ?_
      refine r_callUI muX7_45s (ctX10_wrongs a0 v1) (rcX10_wrongs a0 v1) ⟨_, _, rfl⟩ (as := [vi v1]) (st := []) rfl rfl (by decide +kernel) rfl (Nat.le_of_ble_eq_true rfl) (Nat.le_of_ble_eq_true rfl) fun v14 s => ?_
      exact r_bret (y9 := fun v => v) (fun _ => rfl) (fun _ => rfl) rfl (by decide +kernel)
def aX7_readDamp : StA := (RX7, cX7_readDamp, 1, some .boolean, yX7_readDamp, 10, [])
theorem fpX7_110_1 : FP RX7 110 1 9 .int false := ⟨_, TX1, 13, "ToolCourt$Court", tyX1, rfl, by decide, Or.inr ⟨rfl, "ToolCourt", List.mem_of_getElem? (i := 370) (by decide +kernel)⟩, Or.inl rfl, tyX1_ok, nmX1, rfl, by decide, by decide +kernel⟩
noncomputable def mX7_readDamp (a0 : Nat) : MM Int32 := onC 7 a0 (
  mbnd (nox (mX10_takeNumbers a0 4 100)) fun (v1 : Int32) =>
  if v1 = 0 then (
    mret 0
  ) else (
    mbnd (gR 7 13 a0) fun (v3 : Nat) =>
    mbnd (gI 7 9 a0) fun (v4 : Int32) =>
    mbnd (pI 1 9 v3 v4) fun _ =>
    mret 1
  )
  )
theorem rcX7_readDamp (a0 : Nat) : Rcv 7 a0 (mX7_readDamp a0) := fun s r h => ⟨(onC_some h).1, (onC_some h).2.1⟩
set_option maxHeartbeats 4000000 in
set_option maxRecDepth 100000 in
theorem ctX7_readDamp (a0 : Nat) : Ct aX7_readDamp [vr a0] (mX7_readDamp a0) rI := by
  unfold mX7_readDamp
  refine ct_onC (ct_intro (by decide +kernel) rfl (Nat.le_of_ble_eq_true rfl) fun Y s => ?_)
  refine r_sub (lv' := [(0, vr a0)]) [0] rfl ?_
  refine r_p (pc' := 1) (p_aload_n 0 (k := 0) (by decide +kernel) rfl) ?_
  refine r_p (pc' := 2) (p_iconst (n := 4) (v := 4) (by decide +kernel) rfl) ?_
  refine r_p (pc' := 4) (p_bipush (n := 100) (v := 100) (by decide +kernel) (by decide +kernel)) ?_
  refine r_callUI muX7_79s (ctX10_takeNumbers a0 4 100) (rcX10_takeNumbers a0 4 100) ⟨_, _, rfl⟩ (as := [vi 4, vi 100]) (st := []) rfl rfl (by decide +kernel) rfl (Nat.le_of_ble_eq_true rfl) (Nat.le_of_ble_eq_true rfl) fun v1 s => ?_
  refine r_ifne (off := 5) (tgt := 12) (by decide +kernel) (by decide) (fun h2 => ?_) (fun h2 => ?_)
  · refine r_p (pc' := 11) (p_iconst (n := 0) (v := 0) (by decide +kernel) rfl) ?_
    exact r_iret rfl rfl _ rfl rfl (by decide +kernel)
  · refine r_p (pc' := 13) (p_aload_n 0 (k := 0) (by decide +kernel) rfl) ?_
    refine r_gR flX7_15_7 (by decide +kernel) fun v3 => ?_
    refine r_p (pc' := 17) (p_aload_n 0 (k := 0) (by decide +kernel) rfl) ?_
    refine r_gI flX7_83_7 (by decide +kernel) fun v4 => ?_
    refine r_pI fpX7_110_1 (fun h => by cases h) (by decide +kernel) fun s => ?_
    refine r_p (pc' := 24) (p_iconst (n := 1) (v := 1) (by decide +kernel) rfl) ?_
    exact r_iret rfl rfl _ rfl rfl (by decide +kernel)
def aX7_readNeed : StA := (RX7, cX7_readNeed, 2, some .boolean, yX7_readNeed, 10, [])
theorem mvX7_113 : MV RX7 113 aX1_need 2 := ⟨tblG_of 1043 (by decide +kernel) (by decide +kernel), tblG_of 1044 (by decide +kernel) (by decide +kernel), tblG_of 1045 (by decide +kernel) (by decide +kernel), tblG_of 151 (by decide +kernel) (by decide +kernel), tblG_of 1046 (by decide +kernel) (by decide +kernel), rfl, ⟨by decide, by decide⟩, by decide +kernel, by decide⟩
noncomputable def mX7_readNeed (a0 : Nat) : MM Int32 := onC 7 a0 (
  mbnd (nox (mX10_takeNumbers a0 4 31)) fun (v1 : Int32) =>
  if v1 = 0 then (
    mret 0
  ) else (
    mbnd (gI 7 9 a0) fun (v3 : Int32) =>
    mbnd (gR 7 13 a0) fun (v4 : Nat) =>
    mbnd (gR 1 1 v4) fun (v5 : Nat) =>
    mbnd (gI 8 3 v5) fun (v6 : Int32) =>
    mbnd (nox (mX10_takeNumbers a0 4 (v6 - 1))) fun (v7 : Int32) =>
    if v7 = 0 then (
      mret 0
    ) else (
      mbnd (gR 7 13 a0) fun (v9 : Nat) =>
      mbnd (gI 7 9 a0) fun (v10 : Int32) =>
      mbnd (mX1_need v9 v10 v3) fun _ =>
      mret 1
    )
  )
  )
theorem rcX7_readNeed (a0 : Nat) : Rcv 7 a0 (mX7_readNeed a0) := fun s r h => ⟨(onC_some h).1, (onC_some h).2.1⟩
set_option maxHeartbeats 4000000 in
set_option maxRecDepth 100000 in
theorem ctX7_readNeed (a0 : Nat) : Ct aX7_readNeed [vr a0] (mX7_readNeed a0) rI := by
  unfold mX7_readNeed
  refine ct_onC (ct_intro (by decide +kernel) rfl (Nat.le_of_ble_eq_true rfl) fun Y s => ?_)
  refine r_sub (lv' := [(0, vr a0)]) [0] rfl ?_
  refine r_p (pc' := 1) (p_aload_n 0 (k := 0) (by decide +kernel) rfl) ?_
  refine r_p (pc' := 2) (p_iconst (n := 4) (v := 4) (by decide +kernel) rfl) ?_
  refine r_p (pc' := 4) (p_bipush (n := 31) (v := 31) (by decide +kernel) (by decide +kernel)) ?_
  refine r_callUI muX7_79s (ctX10_takeNumbers a0 4 31) (rcX10_takeNumbers a0 4 31) ⟨_, _, rfl⟩ (as := [vi 4, vi 31]) (st := []) rfl rfl (by decide +kernel) rfl (Nat.le_of_ble_eq_true rfl) (Nat.le_of_ble_eq_true rfl) fun v1 s => ?_
  refine r_ifne (off := 5) (tgt := 12) (by decide +kernel) (by decide) (fun h2 => ?_) (fun h2 => ?_)
  · refine r_p (pc' := 11) (p_iconst (n := 0) (v := 0) (by decide +kernel) rfl) ?_
    exact r_iret rfl rfl _ rfl rfl (by decide +kernel)
  · refine r_p (pc' := 13) (p_aload_n 0 (k := 0) (by decide +kernel) rfl) ?_
    refine r_gI flX7_83_7 (by decide +kernel) fun v3 => ?_
    refine r_p (pc' := 17) (p_istore_n (k := 1) (lv' := [(1, vi v3), (0, vr a0)]) (by decide +kernel) (Nat.le_of_ble_eq_true rfl) rfl) ?_
    refine r_p (pc' := 18) (p_aload_n 1 (k := 0) (by decide +kernel) rfl) ?_
    refine r_p (pc' := 19) (p_iconst (n := 4) (v := 4) (by decide +kernel) rfl) ?_
    refine r_p (pc' := 20) (p_aload_n 1 (k := 0) (by decide +kernel) rfl) ?_
    refine r_gR flX7_15_7 (by decide +kernel) fun v4 => ?_
    refine r_gR flX7_52_1 (by decide +kernel) fun v5 => ?_
    refine r_gI flX7_97_8 (by decide +kernel) fun v6 => ?_
    refine r_p (pc' := 30) (p_iconst (n := 1) (v := 1) (by decide +kernel) rfl) ?_
    refine r_p (pc' := 31) (p_isub (by decide +kernel)) ?_
    refine r_callUI muX7_79s (ctX10_takeNumbers a0 4 (v6 - 1)) (rcX10_takeNumbers a0 4 (v6 - 1)) ⟨_, _, rfl⟩ (as := [vi 4, vi (v6 - 1)]) (st := []) rfl rfl (by decide +kernel) rfl (Nat.le_of_ble_eq_true rfl) (Nat.le_of_ble_eq_true rfl) fun v7 s => ?_
    refine r_ifne (off := 5) (tgt := 39) (by decide +kernel) (by decide) (fun h8 => ?_) (fun h8 => ?_)
    · refine r_p (pc' := 38) (p_iconst (n := 0) (v := 0) (by decide +kernel) rfl) ?_
      exact r_iret rfl rfl _ rfl rfl (by decide +kernel)
    · refine r_p (pc' := 40) (p_aload_n 1 (k := 0) (by decide +kernel) rfl) ?_
      refine r_gR flX7_15_7 (by decide +kernel) fun v9 => ?_
      refine r_p (pc' := 44) (p_aload_n 1 (k := 0) (by decide +kernel) rfl) ?_
      refine r_gI flX7_83_7 (by decide +kernel) fun v10 => ?_
      refine r_p (pc' := 48) (p_iload_n 0 (k := 1) (by decide +kernel) rfl) ?_
      refine r_callVU mvX7_113 (ctX1_need v9 v10 v3) (rcX1_need v9 v10 v3) ⟨_, _, rfl⟩ (as := [vi v10, vi v3]) (st := []) rfl rfl (by decide +kernel) rfl (Nat.le_of_ble_eq_true rfl) (Nat.le_of_ble_eq_true rfl) fun s => ?_
      refine r_p (pc' := 52) (p_iconst (n := 1) (v := 1) (by decide +kernel) rfl) ?_
      exact r_iret rfl rfl _ rfl rfl (by decide +kernel)
def aX7_readLimit : StA := (RX7, cX7_readLimit, 1, some .boolean, yX7_readLimit, 10, [])
theorem fpX7_117_1 : FP RX7 117 1 10 .int false := ⟨_, TX1, 13, "ToolCourt$Court", tyX1, rfl, by decide, Or.inr ⟨rfl, "ToolCourt", List.mem_of_getElem? (i := 374) (by decide +kernel)⟩, Or.inl rfl, tyX1_ok, nmX1, rfl, by decide, by decide +kernel⟩
noncomputable def mX7_readLimit (a0 : Nat) : MM Int32 := onC 7 a0 (
  mbnd (nox (mX10_takeNumbers a0 4 9999)) fun (v1 : Int32) =>
  if v1 = 0 then (
    mret 0
  ) else (
    mbnd (gR 7 13 a0) fun (v3 : Nat) =>
    mbnd (gI 7 9 a0) fun (v4 : Int32) =>
    mbnd (pI 1 10 v3 v4) fun _ =>
    mret 1
  )
  )
theorem rcX7_readLimit (a0 : Nat) : Rcv 7 a0 (mX7_readLimit a0) := fun s r h => ⟨(onC_some h).1, (onC_some h).2.1⟩
set_option maxHeartbeats 4000000 in
set_option maxRecDepth 100000 in
theorem ctX7_readLimit (a0 : Nat) : Ct aX7_readLimit [vr a0] (mX7_readLimit a0) rI := by
  unfold mX7_readLimit
  refine ct_onC (ct_intro (by decide +kernel) rfl (Nat.le_of_ble_eq_true rfl) fun Y s => ?_)
  refine r_sub (lv' := [(0, vr a0)]) [0] rfl ?_
  refine r_p (pc' := 1) (p_aload_n 0 (k := 0) (by decide +kernel) rfl) ?_
  refine r_p (pc' := 2) (p_iconst (n := 4) (v := 4) (by decide +kernel) rfl) ?_
  refine r_p (pc' := 5) (p_sipush (n := 9999) (v := 9999) (by decide +kernel) (by decide +kernel)) ?_
  refine r_callUI muX7_79s (ctX10_takeNumbers a0 4 9999) (rcX10_takeNumbers a0 4 9999) ⟨_, _, rfl⟩ (as := [vi 4, vi 9999]) (st := []) rfl rfl (by decide +kernel) rfl (Nat.le_of_ble_eq_true rfl) (Nat.le_of_ble_eq_true rfl) fun v1 s => ?_
  refine r_ifne (off := 5) (tgt := 13) (by decide +kernel) (by decide) (fun h2 => ?_) (fun h2 => ?_)
  · refine r_p (pc' := 12) (p_iconst (n := 0) (v := 0) (by decide +kernel) rfl) ?_
    exact r_iret rfl rfl _ rfl rfl (by decide +kernel)
  · refine r_p (pc' := 14) (p_aload_n 0 (k := 0) (by decide +kernel) rfl) ?_
    refine r_gR flX7_15_7 (by decide +kernel) fun v3 => ?_
    refine r_p (pc' := 18) (p_aload_n 0 (k := 0) (by decide +kernel) rfl) ?_
    refine r_gI flX7_83_7 (by decide +kernel) fun v4 => ?_
    refine r_pI fpX7_117_1 (fun h => by cases h) (by decide +kernel) fun s => ?_
    refine r_p (pc' := 25) (p_iconst (n := 1) (v := 1) (by decide +kernel) rfl) ?_
    exact r_iret rfl rfl _ rfl rfl (by decide +kernel)
def aX7_readLine : StA := (RX7, cX7_readLine, 3, some .boolean, yX7_readLine, 12, [])
theorem mvX7_39 : MV RX7 39 aX8_isFull 0 := ⟨tblG_of 983 (by decide +kernel) (by decide +kernel), tblG_of 984 (by decide +kernel) (by decide +kernel), tblG_of 985 (by decide +kernel) (by decide +kernel), tblG_of 152 (by decide +kernel) (by decide +kernel), tblG_of 986 (by decide +kernel) (by decide +kernel), rfl, ⟨by decide, by decide⟩, by decide +kernel, by decide⟩
theorem mvX7_61 : MV RX7 61 aX7_readMaster 0 := ⟨tblG_of 1027 (by decide +kernel) (by decide +kernel), tblG_of 1029 (by decide +kernel) (by decide +kernel), tblG_of 26 (by decide +kernel) (by decide +kernel), tblG_of 155 (by decide +kernel) (by decide +kernel), tblG_of 1030 (by decide +kernel) (by decide +kernel), rfl, ⟨by decide, by decide⟩, by decide +kernel, by decide⟩
theorem mvX7_55 : MV RX7 55 aX7_readTool 0 := ⟨tblG_of 1012 (by decide +kernel) (by decide +kernel), tblG_of 1014 (by decide +kernel) (by decide +kernel), tblG_of 24 (by decide +kernel) (by decide +kernel), tblG_of 155 (by decide +kernel) (by decide +kernel), tblG_of 1015 (by decide +kernel) (by decide +kernel), rfl, ⟨by decide, by decide⟩, by decide +kernel, by decide⟩
theorem mvX7_49 : MV RX7 49 aX7_readPart 0 := ⟨tblG_of 990 (by decide +kernel) (by decide +kernel), tblG_of 992 (by decide +kernel) (by decide +kernel), tblG_of 23 (by decide +kernel) (by decide +kernel), tblG_of 155 (by decide +kernel) (by decide +kernel), tblG_of 993 (by decide +kernel) (by decide +kernel), rfl, ⟨by decide, by decide⟩, by decide +kernel, by decide⟩
theorem mvX7_64 : MV RX7 64 aX7_readNail 0 := ⟨tblG_of 1031 (by decide +kernel) (by decide +kernel), tblG_of 1033 (by decide +kernel) (by decide +kernel), tblG_of 27 (by decide +kernel) (by decide +kernel), tblG_of 155 (by decide +kernel) (by decide +kernel), tblG_of 1034 (by decide +kernel) (by decide +kernel), rfl, ⟨by decide, by decide⟩, by decide +kernel, by decide⟩
theorem mvX7_67 : MV RX7 67 aX7_readDamp 0 := ⟨tblG_of 1035 (by decide +kernel) (by decide +kernel), tblG_of 1037 (by decide +kernel) (by decide +kernel), tblG_of 28 (by decide +kernel) (by decide +kernel), tblG_of 155 (by decide +kernel) (by decide +kernel), tblG_of 1038 (by decide +kernel) (by decide +kernel), rfl, ⟨by decide, by decide⟩, by decide +kernel, by decide⟩
theorem mvX7_70 : MV RX7 70 aX7_readNeed 0 := ⟨tblG_of 1039 (by decide +kernel) (by decide +kernel), tblG_of 1041 (by decide +kernel) (by decide +kernel), tblG_of 29 (by decide +kernel) (by decide +kernel), tblG_of 155 (by decide +kernel) (by decide +kernel), tblG_of 1042 (by decide +kernel) (by decide +kernel), rfl, ⟨by decide, by decide⟩, by decide +kernel, by decide⟩
theorem mvX7_73 : MV RX7 73 aX7_readLimit 0 := ⟨tblG_of 1047 (by decide +kernel) (by decide +kernel), tblG_of 1049 (by decide +kernel) (by decide +kernel), tblG_of 30 (by decide +kernel) (by decide +kernel), tblG_of 155 (by decide +kernel) (by decide +kernel), tblG_of 1050 (by decide +kernel) (by decide +kernel), rfl, ⟨by decide, by decide⟩, by decide +kernel, by decide⟩
noncomputable def mX7_readLine (a0 : Nat) : MM Int32 := onC 7 a0 (
  mbnd (gI 7 8 a0) fun (v1 : Int32) =>
  mbnd (gI 7 7 a0) fun (v2 : Int32) =>
  mbnd (nox (mX10_goOns a0)) fun _ =>
  if v2 = 309 then (
    mbnd (gR 7 13 a0) fun (v4 : Nat) =>
    mbnd (gR 1 2 v4) fun (v5 : Nat) =>
    mbnd (mX8_isFull v5) fun (v6 : Int32) =>
    if v6 = 0 then (
      mbnd (mX7_readMaster a0) fun (v8 : Int32) =>
      mbool v8
    ) else (
      mbnd (nox (mX10_wrongs a0 v1)) fun (v9 : Int32) =>
      mbool v9
    )
  ) else (
    if v2 = 310 then (
      mbnd (nox (mX10_wrongs a0 v1)) fun (v11 : Int32) =>
      mbool v11
    ) else (
      if v2 = 311 then (
        mbnd (gR 7 13 a0) fun (v13 : Nat) =>
        mbnd (gR 1 1 v13) fun (v14 : Nat) =>
        mbnd (mX8_isFull v14) fun (v15 : Int32) =>
        if v15 = 0 then (
          mbnd (mX7_readTool a0) fun (v17 : Int32) =>
          mbool v17
        ) else (
          mbnd (nox (mX10_wrongs a0 v1)) fun (v18 : Int32) =>
          mbool v18
        )
      ) else (
        if v2 = 312 then (
          mbnd (nox (mX10_wrongs a0 v1)) fun (v20 : Int32) =>
          mbool v20
        ) else (
          if v2 = 313 then (
            mbnd (nox (mX10_wrongs a0 v1)) fun (v22 : Int32) =>
            mbool v22
          ) else (
            if v2 = 314 then (
              mbnd (nox (mX10_wrongs a0 v1)) fun (v24 : Int32) =>
              mbool v24
            ) else (
              if v2 = 315 then (
                mbnd (nox (mX10_wrongs a0 v1)) fun (v26 : Int32) =>
                mbool v26
              ) else (
                if v2 = 316 then (
                  mbnd (nox (mX10_wrongs a0 v1)) fun (v28 : Int32) =>
                  mbool v28
                ) else (
                  if v2 = 317 then (
                    mbnd (nox (mX10_wrongs a0 v1)) fun (v30 : Int32) =>
                    mbool v30
                  ) else (
                    if v2 = 318 then (
                      mbnd (nox (mX10_wrongs a0 v1)) fun (v32 : Int32) =>
                      mbool v32
                    ) else (
                      if v2 = 319 then (
                        mbnd (nox (mX10_wrongs a0 v1)) fun (v34 : Int32) =>
                        mbool v34
                      ) else (
                        if v2 = 320 then (
                          mbnd (gR 7 13 a0) fun (v36 : Nat) =>
                          mbnd (gR 1 0 v36) fun (v37 : Nat) =>
                          mbnd (mX8_isFull v37) fun (v38 : Int32) =>
                          if v38 = 0 then (
                            mbnd (mX7_readPart a0) fun (v40 : Int32) =>
                            mbool v40
                          ) else (
                            mbnd (nox (mX10_wrongs a0 v1)) fun (v41 : Int32) =>
                            mbool v41
                          )
                        ) else (
                          if v2 = 321 then (
                            mbnd (mX7_readNail a0) fun (v43 : Int32) =>
                            mbool v43
                          ) else (
                            if v2 = 322 then (
                              mbnd (mX7_readDamp a0) fun (v45 : Int32) =>
                              mbool v45
                            ) else (
                              if v2 = 323 then (
                                mbnd (mX7_readNeed a0) fun (v47 : Int32) =>
                                mbool v47
                              ) else (
                                if v2 = 324 then (
                                  mbnd (mX7_readLimit a0) fun (v49 : Int32) =>
                                  mbool v49
                                ) else (
                                  mbnd (nox (mX10_wrongs a0 v1)) fun (v50 : Int32) =>
                                  mbool v50
                                )
                              )
                            )
                          )
                        )
                      )
                    )
                  )
                )
              )
            )
          )
        )
      )
    )
  )
  )
theorem rcX7_readLine (a0 : Nat) : Rcv 7 a0 (mX7_readLine a0) := fun s r h => ⟨(onC_some h).1, (onC_some h).2.1⟩
set_option maxHeartbeats 4000000 in
set_option maxRecDepth 100000 in
theorem ctX7_readLine (a0 : Nat) : Ct aX7_readLine [vr a0] (mX7_readLine a0) rI := by
  unfold mX7_readLine
  refine ct_onC (ct_intro (by decide +kernel) rfl (Nat.le_of_ble_eq_true rfl) fun Y s => ?_)
  refine r_sub (lv' := [(0, vr a0)]) [0] rfl ?_
  refine r_p (pc' := 1) (p_aload_n 0 (k := 0) (by decide +kernel) rfl) ?_
  refine r_gI flX7_24_7 (by decide +kernel) fun v1 => ?_
  refine r_p (pc' := 5) (p_istore_n (k := 1) (lv' := [(1, vi v1), (0, vr a0)]) (by decide +kernel) (Nat.le_of_ble_eq_true rfl) rfl) ?_
  refine r_p (pc' := 6) (p_aload_n 1 (k := 0) (by decide +kernel) rfl) ?_
  refine r_gI flX7_28_7 (by decide +kernel) fun v2 => ?_
  refine r_p (pc' := 10) (p_istore_n (k := 2) (lv' := [(2, vi v2), (1, vi v1), (0, vr a0)]) (by decide +kernel) (Nat.le_of_ble_eq_true rfl) rfl) ?_
  refine r_p (pc' := 11) (p_aload_n 2 (k := 0) (by decide +kernel) rfl) ?_
  refine r_callUU muX7_31s (ctX10_goOns a0) (rcX10_goOns a0) ⟨_, _, rfl⟩ (as := []) (st := []) rfl rfl (by decide +kernel) rfl (Nat.le_of_ble_eq_true rfl) (Nat.le_of_ble_eq_true rfl) fun s => ?_
  refine r_p (pc' := 15) (p_iload_n 0 (k := 2) (by decide +kernel) rfl) ?_
  refine r_tcase (fun h3 => ?_) (fun h3 => ?_)
  · refine r_tsin (tgt := 144) (lo := 309) (hi := 324) (dflt := 175) (offs := #[129, 175, 103, 175, 175, 175, 175, 175, 175, 175, 175, 77, 155, 160, 165, 170]) (len := 77) (off := 129) (by decide +kernel) (by rw [h3]; decide) (by rw [h3]; decide) (by rw [h3]; rfl) (by decide) ?_
    refine r_p (pc' := 145) (p_aload_n 2 (k := 0) (by decide +kernel) rfl) ?_
    refine r_gR flX7_15_7 (by decide +kernel) fun v4 => ?_
    refine r_gR flX7_58_1 (by decide +kernel) fun v5 => ?_
    refine r_callVI mvX7_39 (ctX8_isFull v5) (rcX8_isFull v5) ⟨_, _, rfl⟩ (as := []) (st := []) rfl rfl (by decide +kernel) rfl (Nat.le_of_ble_eq_true rfl) (Nat.le_of_ble_eq_true rfl) fun v6 s => ?_
    refine r_ifeq (off := 11) (tgt := 165) (by decide +kernel) (by decide) (fun h7 => ?_) (fun h7 => ?_)
    · refine r_p (pc' := 166) (p_aload_n 2 (k := 0) (by decide +kernel) rfl) ?_
      refine r_callVI mvX7_61 (ctX7_readMaster a0) (rcX7_readMaster a0) ⟨_, _, rfl⟩ (as := []) (st := []) rfl rfl (by decide +kernel) rfl (Nat.le_of_ble_eq_true rfl) (Nat.le_of_ble_eq_true rfl) fun v8 s => ?_
      exact r_bret (y9 := fun v => v) (fun _ => rfl) (fun _ => rfl) rfl (by decide +kernel)
    · refine r_p (pc' := 158) (p_aload_n 2 (k := 0) (by decide +kernel) rfl) ?_
      refine r_p (pc' := 159) (p_iload_n 1 (k := 1) (by decide +kernel) rfl) ?_
      refine r_callUI muX7_45s (ctX10_wrongs a0 v1) (rcX10_wrongs a0 v1) ⟨_, _, rfl⟩ (as := [vi v1]) (st := []) rfl rfl (by decide +kernel) rfl (Nat.le_of_ble_eq_true rfl) (Nat.le_of_ble_eq_true rfl) fun v9 s => ?_
      refine r_p (pc' := 169) (p_goto (off := 7) (tgt := 169) (by decide +kernel) (by decide)) ?_
      exact r_bret (y9 := fun v => v) (fun _ => rfl) (fun _ => rfl) rfl (by decide +kernel)
  · refine r_tcase (fun h10 => ?_) (fun h10 => ?_)
    · refine r_tsin (tgt := 190) (lo := 309) (hi := 324) (dflt := 175) (offs := #[129, 175, 103, 175, 175, 175, 175, 175, 175, 175, 175, 77, 155, 160, 165, 170]) (len := 77) (off := 175) (by decide +kernel) (by rw [h10]; decide) (by rw [h10]; decide) (by rw [h10]; rfl) (by decide) ?_
      refine r_p (pc' := 191) (p_aload_n 2 (k := 0) (by decide +kernel) rfl) ?_
      refine r_p (pc' := 192) (p_iload_n 1 (k := 1) (by decide +kernel) rfl) ?_
      refine r_callUI muX7_45s (ctX10_wrongs a0 v1) (rcX10_wrongs a0 v1) ⟨_, _, rfl⟩ (as := [vi v1]) (st := []) rfl rfl (by decide +kernel) rfl (Nat.le_of_ble_eq_true rfl) (Nat.le_of_ble_eq_true rfl) fun v11 s => ?_
      exact r_bret (y9 := fun v => v) (fun _ => rfl) (fun _ => rfl) rfl (by decide +kernel)
    · refine r_tcase (fun h12 => ?_) (fun h12 => ?_)
      · refine r_tsin (tgt := 118) (lo := 309) (hi := 324) (dflt := 175) (offs := #[129, 175, 103, 175, 175, 175, 175, 175, 175, 175, 175, 77, 155, 160, 165, 170]) (len := 77) (off := 103) (by decide +kernel) (by rw [h12]; decide) (by rw [h12]; decide) (by rw [h12]; rfl) (by decide) ?_
        refine r_p (pc' := 119) (p_aload_n 2 (k := 0) (by decide +kernel) rfl) ?_
        refine r_gR flX7_15_7 (by decide +kernel) fun v13 => ?_
        refine r_gR flX7_52_1 (by decide +kernel) fun v14 => ?_
        refine r_callVI mvX7_39 (ctX8_isFull v14) (rcX8_isFull v14) ⟨_, _, rfl⟩ (as := []) (st := []) rfl rfl (by decide +kernel) rfl (Nat.le_of_ble_eq_true rfl) (Nat.le_of_ble_eq_true rfl) fun v15 s => ?_
        refine r_ifeq (off := 11) (tgt := 139) (by decide +kernel) (by decide) (fun h16 => ?_) (fun h16 => ?_)
        · refine r_p (pc' := 140) (p_aload_n 2 (k := 0) (by decide +kernel) rfl) ?_
          refine r_callVI mvX7_55 (ctX7_readTool a0) (rcX7_readTool a0) ⟨_, _, rfl⟩ (as := []) (st := []) rfl rfl (by decide +kernel) rfl (Nat.le_of_ble_eq_true rfl) (Nat.le_of_ble_eq_true rfl) fun v17 s => ?_
          exact r_bret (y9 := fun v => v) (fun _ => rfl) (fun _ => rfl) rfl (by decide +kernel)
        · refine r_p (pc' := 132) (p_aload_n 2 (k := 0) (by decide +kernel) rfl) ?_
          refine r_p (pc' := 133) (p_iload_n 1 (k := 1) (by decide +kernel) rfl) ?_
          refine r_callUI muX7_45s (ctX10_wrongs a0 v1) (rcX10_wrongs a0 v1) ⟨_, _, rfl⟩ (as := [vi v1]) (st := []) rfl rfl (by decide +kernel) rfl (Nat.le_of_ble_eq_true rfl) (Nat.le_of_ble_eq_true rfl) fun v18 s => ?_
          refine r_p (pc' := 143) (p_goto (off := 7) (tgt := 143) (by decide +kernel) (by decide)) ?_
          exact r_bret (y9 := fun v => v) (fun _ => rfl) (fun _ => rfl) rfl (by decide +kernel)
      · refine r_tcase (fun h19 => ?_) (fun h19 => ?_)
        · refine r_tsin (tgt := 190) (lo := 309) (hi := 324) (dflt := 175) (offs := #[129, 175, 103, 175, 175, 175, 175, 175, 175, 175, 175, 77, 155, 160, 165, 170]) (len := 77) (off := 175) (by decide +kernel) (by rw [h19]; decide) (by rw [h19]; decide) (by rw [h19]; rfl) (by decide) ?_
          refine r_p (pc' := 191) (p_aload_n 2 (k := 0) (by decide +kernel) rfl) ?_
          refine r_p (pc' := 192) (p_iload_n 1 (k := 1) (by decide +kernel) rfl) ?_
          refine r_callUI muX7_45s (ctX10_wrongs a0 v1) (rcX10_wrongs a0 v1) ⟨_, _, rfl⟩ (as := [vi v1]) (st := []) rfl rfl (by decide +kernel) rfl (Nat.le_of_ble_eq_true rfl) (Nat.le_of_ble_eq_true rfl) fun v20 s => ?_
          exact r_bret (y9 := fun v => v) (fun _ => rfl) (fun _ => rfl) rfl (by decide +kernel)
        · refine r_tcase (fun h21 => ?_) (fun h21 => ?_)
          · refine r_tsin (tgt := 190) (lo := 309) (hi := 324) (dflt := 175) (offs := #[129, 175, 103, 175, 175, 175, 175, 175, 175, 175, 175, 77, 155, 160, 165, 170]) (len := 77) (off := 175) (by decide +kernel) (by rw [h21]; decide) (by rw [h21]; decide) (by rw [h21]; rfl) (by decide) ?_
            refine r_p (pc' := 191) (p_aload_n 2 (k := 0) (by decide +kernel) rfl) ?_
            refine r_p (pc' := 192) (p_iload_n 1 (k := 1) (by decide +kernel) rfl) ?_
            refine r_callUI muX7_45s (ctX10_wrongs a0 v1) (rcX10_wrongs a0 v1) ⟨_, _, rfl⟩ (as := [vi v1]) (st := []) rfl rfl (by decide +kernel) rfl (Nat.le_of_ble_eq_true rfl) (Nat.le_of_ble_eq_true rfl) fun v22 s => ?_
            exact r_bret (y9 := fun v => v) (fun _ => rfl) (fun _ => rfl) rfl (by decide +kernel)
          · refine r_tcase (fun h23 => ?_) (fun h23 => ?_)
            · refine r_tsin (tgt := 190) (lo := 309) (hi := 324) (dflt := 175) (offs := #[129, 175, 103, 175, 175, 175, 175, 175, 175, 175, 175, 77, 155, 160, 165, 170]) (len := 77) (off := 175) (by decide +kernel) (by rw [h23]; decide) (by rw [h23]; decide) (by rw [h23]; rfl) (by decide) ?_
              refine r_p (pc' := 191) (p_aload_n 2 (k := 0) (by decide +kernel) rfl) ?_
              refine r_p (pc' := 192) (p_iload_n 1 (k := 1) (by decide +kernel) rfl) ?_
              refine r_callUI muX7_45s (ctX10_wrongs a0 v1) (rcX10_wrongs a0 v1) ⟨_, _, rfl⟩ (as := [vi v1]) (st := []) rfl rfl (by decide +kernel) rfl (Nat.le_of_ble_eq_true rfl) (Nat.le_of_ble_eq_true rfl) fun v24 s => ?_
              exact r_bret (y9 := fun v => v) (fun _ => rfl) (fun _ => rfl) rfl (by decide +kernel)
            · refine r_tcase (fun h25 => ?_) (fun h25 => ?_)
              · refine r_tsin (tgt := 190) (lo := 309) (hi := 324) (dflt := 175) (offs := #[129, 175, 103, 175, 175, 175, 175, 175, 175, 175, 175, 77, 155, 160, 165, 170]) (len := 77) (off := 175) (by decide +kernel) (by rw [h25]; decide) (by rw [h25]; decide) (by rw [h25]; rfl) (by decide) ?_
                refine r_p (pc' := 191) (p_aload_n 2 (k := 0) (by decide +kernel) rfl) ?_
                refine r_p (pc' := 192) (p_iload_n 1 (k := 1) (by decide +kernel) rfl) ?_
                refine r_callUI muX7_45s (ctX10_wrongs a0 v1) (rcX10_wrongs a0 v1) ⟨_, _, rfl⟩ (as := [vi v1]) (st := []) rfl rfl (by decide +kernel) rfl (Nat.le_of_ble_eq_true rfl) (Nat.le_of_ble_eq_true rfl) fun v26 s => ?_
                exact r_bret (y9 := fun v => v) (fun _ => rfl) (fun _ => rfl) rfl (by decide +kernel)
              · refine r_tcase (fun h27 => ?_) (fun h27 => ?_)
                · refine r_tsin (tgt := 190) (lo := 309) (hi := 324) (dflt := 175) (offs := #[129, 175, 103, 175, 175, 175, 175, 175, 175, 175, 175, 77, 155, 160, 165, 170]) (len := 77) (off := 175) (by decide +kernel) (by rw [h27]; decide) (by rw [h27]; decide) (by rw [h27]; rfl) (by decide) ?_
                  refine r_p (pc' := 191) (p_aload_n 2 (k := 0) (by decide +kernel) rfl) ?_
                  refine r_p (pc' := 192) (p_iload_n 1 (k := 1) (by decide +kernel) rfl) ?_
                  refine r_callUI muX7_45s (ctX10_wrongs a0 v1) (rcX10_wrongs a0 v1) ⟨_, _, rfl⟩ (as := [vi v1]) (st := []) rfl rfl (by decide +kernel) rfl (Nat.le_of_ble_eq_true rfl) (Nat.le_of_ble_eq_true rfl) fun v28 s => ?_
                  exact r_bret (y9 := fun v => v) (fun _ => rfl) (fun _ => rfl) rfl (by decide +kernel)
                · refine r_tcase (fun h29 => ?_) (fun h29 => ?_)
                  · refine r_tsin (tgt := 190) (lo := 309) (hi := 324) (dflt := 175) (offs := #[129, 175, 103, 175, 175, 175, 175, 175, 175, 175, 175, 77, 155, 160, 165, 170]) (len := 77) (off := 175) (by decide +kernel) (by rw [h29]; decide) (by rw [h29]; decide) (by rw [h29]; rfl) (by decide) ?_
                    refine r_p (pc' := 191) (p_aload_n 2 (k := 0) (by decide +kernel) rfl) ?_
                    refine r_p (pc' := 192) (p_iload_n 1 (k := 1) (by decide +kernel) rfl) ?_
                    refine r_callUI muX7_45s (ctX10_wrongs a0 v1) (rcX10_wrongs a0 v1) ⟨_, _, rfl⟩ (as := [vi v1]) (st := []) rfl rfl (by decide +kernel) rfl (Nat.le_of_ble_eq_true rfl) (Nat.le_of_ble_eq_true rfl) fun v30 s => ?_
                    exact r_bret (y9 := fun v => v) (fun _ => rfl) (fun _ => rfl) rfl (by decide +kernel)
                  · refine r_tcase (fun h31 => ?_) (fun h31 => ?_)
                    · refine r_tsin (tgt := 190) (lo := 309) (hi := 324) (dflt := 175) (offs := #[129, 175, 103, 175, 175, 175, 175, 175, 175, 175, 175, 77, 155, 160, 165, 170]) (len := 77) (off := 175) (by decide +kernel) (by rw [h31]; decide) (by rw [h31]; decide) (by rw [h31]; rfl) (by decide) ?_
                      refine r_p (pc' := 191) (p_aload_n 2 (k := 0) (by decide +kernel) rfl) ?_
                      refine r_p (pc' := 192) (p_iload_n 1 (k := 1) (by decide +kernel) rfl) ?_
                      refine r_callUI muX7_45s (ctX10_wrongs a0 v1) (rcX10_wrongs a0 v1) ⟨_, _, rfl⟩ (as := [vi v1]) (st := []) rfl rfl (by decide +kernel) rfl (Nat.le_of_ble_eq_true rfl) (Nat.le_of_ble_eq_true rfl) fun v32 s => ?_
                      exact r_bret (y9 := fun v => v) (fun _ => rfl) (fun _ => rfl) rfl (by decide +kernel)
                    · refine r_tcase (fun h33 => ?_) (fun h33 => ?_)
                      · refine r_tsin (tgt := 190) (lo := 309) (hi := 324) (dflt := 175) (offs := #[129, 175, 103, 175, 175, 175, 175, 175, 175, 175, 175, 77, 155, 160, 165, 170]) (len := 77) (off := 175) (by decide +kernel) (by rw [h33]; decide) (by rw [h33]; decide) (by rw [h33]; rfl) (by decide) ?_
                        refine r_p (pc' := 191) (p_aload_n 2 (k := 0) (by decide +kernel) rfl) ?_
                        refine r_p (pc' := 192) (p_iload_n 1 (k := 1) (by decide +kernel) rfl) ?_
                        refine r_callUI muX7_45s (ctX10_wrongs a0 v1) (rcX10_wrongs a0 v1) ⟨_, _, rfl⟩ (as := [vi v1]) (st := []) rfl rfl (by decide +kernel) rfl (Nat.le_of_ble_eq_true rfl) (Nat.le_of_ble_eq_true rfl) fun v34 s => ?_
                        exact r_bret (y9 := fun v => v) (fun _ => rfl) (fun _ => rfl) rfl (by decide +kernel)
                      · refine r_tcase (fun h35 => ?_) (fun h35 => ?_)
                        · refine r_tsin (tgt := 92) (lo := 309) (hi := 324) (dflt := 175) (offs := #[129, 175, 103, 175, 175, 175, 175, 175, 175, 175, 175, 77, 155, 160, 165, 170]) (len := 77) (off := 77) (by decide +kernel) (by rw [h35]; decide) (by rw [h35]; decide) (by rw [h35]; rfl) (by decide) ?_
                          refine r_p (pc' := 93) (p_aload_n 2 (k := 0) (by decide +kernel) rfl) ?_
                          refine r_gR flX7_15_7 (by decide +kernel) fun v36 => ?_
                          refine r_gR flX7_35_1 (by decide +kernel) fun v37 => ?_
                          refine r_callVI mvX7_39 (ctX8_isFull v37) (rcX8_isFull v37) ⟨_, _, rfl⟩ (as := []) (st := []) rfl rfl (by decide +kernel) rfl (Nat.le_of_ble_eq_true rfl) (Nat.le_of_ble_eq_true rfl) fun v38 s => ?_
                          refine r_ifeq (off := 11) (tgt := 113) (by decide +kernel) (by decide) (fun h39 => ?_) (fun h39 => ?_)
                          · refine r_p (pc' := 114) (p_aload_n 2 (k := 0) (by decide +kernel) rfl) ?_
                            refine r_callVI mvX7_49 (ctX7_readPart a0) (rcX7_readPart a0) ⟨_, _, rfl⟩ (as := []) (st := []) rfl rfl (by decide +kernel) rfl (Nat.le_of_ble_eq_true rfl) (Nat.le_of_ble_eq_true rfl) fun v40 s => ?_
                            exact r_bret (y9 := fun v => v) (fun _ => rfl) (fun _ => rfl) rfl (by decide +kernel)
                          · refine r_p (pc' := 106) (p_aload_n 2 (k := 0) (by decide +kernel) rfl) ?_
                            refine r_p (pc' := 107) (p_iload_n 1 (k := 1) (by decide +kernel) rfl) ?_
                            refine r_callUI muX7_45s (ctX10_wrongs a0 v1) (rcX10_wrongs a0 v1) ⟨_, _, rfl⟩ (as := [vi v1]) (st := []) rfl rfl (by decide +kernel) rfl (Nat.le_of_ble_eq_true rfl) (Nat.le_of_ble_eq_true rfl) fun v41 s => ?_
                            refine r_p (pc' := 117) (p_goto (off := 7) (tgt := 117) (by decide +kernel) (by decide)) ?_
                            exact r_bret (y9 := fun v => v) (fun _ => rfl) (fun _ => rfl) rfl (by decide +kernel)
                        · refine r_tcase (fun h42 => ?_) (fun h42 => ?_)
                          · refine r_tsin (tgt := 170) (lo := 309) (hi := 324) (dflt := 175) (offs := #[129, 175, 103, 175, 175, 175, 175, 175, 175, 175, 175, 77, 155, 160, 165, 170]) (len := 77) (off := 155) (by decide +kernel) (by rw [h42]; decide) (by rw [h42]; decide) (by rw [h42]; rfl) (by decide) ?_
                            refine r_p (pc' := 171) (p_aload_n 2 (k := 0) (by decide +kernel) rfl) ?_
                            refine r_callVI mvX7_64 (ctX7_readNail a0) (rcX7_readNail a0) ⟨_, _, rfl⟩ (as := []) (st := []) rfl rfl (by decide +kernel) rfl (Nat.le_of_ble_eq_true rfl) (Nat.le_of_ble_eq_true rfl) fun v43 s => ?_
                            exact r_bret (y9 := fun v => v) (fun _ => rfl) (fun _ => rfl) rfl (by decide +kernel)
                          · refine r_tcase (fun h44 => ?_) (fun h44 => ?_)
                            · refine r_tsin (tgt := 175) (lo := 309) (hi := 324) (dflt := 175) (offs := #[129, 175, 103, 175, 175, 175, 175, 175, 175, 175, 175, 77, 155, 160, 165, 170]) (len := 77) (off := 160) (by decide +kernel) (by rw [h44]; decide) (by rw [h44]; decide) (by rw [h44]; rfl) (by decide) ?_
                              refine r_p (pc' := 176) (p_aload_n 2 (k := 0) (by decide +kernel) rfl) ?_
                              refine r_callVI mvX7_67 (ctX7_readDamp a0) (rcX7_readDamp a0) ⟨_, _, rfl⟩ (as := []) (st := []) rfl rfl (by decide +kernel) rfl (Nat.le_of_ble_eq_true rfl) (Nat.le_of_ble_eq_true rfl) fun v45 s => ?_
                              exact r_bret (y9 := fun v => v) (fun _ => rfl) (fun _ => rfl) rfl (by decide +kernel)
                            · refine r_tcase (fun h46 => ?_) (fun h46 => ?_)
                              · refine r_tsin (tgt := 180) (lo := 309) (hi := 324) (dflt := 175) (offs := #[129, 175, 103, 175, 175, 175, 175, 175, 175, 175, 175, 77, 155, 160, 165, 170]) (len := 77) (off := 165) (by decide +kernel) (by rw [h46]; decide) (by rw [h46]; decide) (by rw [h46]; rfl) (by decide) ?_
                                refine r_p (pc' := 181) (p_aload_n 2 (k := 0) (by decide +kernel) rfl) ?_
                                refine r_callVI mvX7_70 (ctX7_readNeed a0) (rcX7_readNeed a0) ⟨_, _, rfl⟩ (as := []) (st := []) rfl rfl (by decide +kernel) rfl (Nat.le_of_ble_eq_true rfl) (Nat.le_of_ble_eq_true rfl) fun v47 s => ?_
                                exact r_bret (y9 := fun v => v) (fun _ => rfl) (fun _ => rfl) rfl (by decide +kernel)
                              · refine r_tcase (fun h48 => ?_) (fun h48 => ?_)
                                · refine r_tsin (tgt := 185) (lo := 309) (hi := 324) (dflt := 175) (offs := #[129, 175, 103, 175, 175, 175, 175, 175, 175, 175, 175, 77, 155, 160, 165, 170]) (len := 77) (off := 170) (by decide +kernel) (by rw [h48]; decide) (by rw [h48]; decide) (by rw [h48]; rfl) (by decide) ?_
                                  refine r_p (pc' := 186) (p_aload_n 2 (k := 0) (by decide +kernel) rfl) ?_
                                  refine r_callVI mvX7_73 (ctX7_readLimit a0) (rcX7_readLimit a0) ⟨_, _, rfl⟩ (as := []) (st := []) rfl rfl (by decide +kernel) rfl (Nat.le_of_ble_eq_true rfl) (Nat.le_of_ble_eq_true rfl) fun v49 s => ?_
                                  exact r_bret (y9 := fun v => v) (fun _ => rfl) (fun _ => rfl) rfl (by decide +kernel)
                                · have h3i := lv_neT (a := 309) h3 rfl
                                  have h10i := lv_neT (a := 310) h10 rfl
                                  have h12i := lv_neT (a := 311) h12 rfl
                                  have h19i := lv_neT (a := 312) h19 rfl
                                  have h21i := lv_neT (a := 313) h21 rfl
                                  have h23i := lv_neT (a := 314) h23 rfl
                                  have h25i := lv_neT (a := 315) h25 rfl
                                  have h27i := lv_neT (a := 316) h27 rfl
                                  have h29i := lv_neT (a := 317) h29 rfl
                                  have h31i := lv_neT (a := 318) h31 rfl
                                  have h33i := lv_neT (a := 319) h33 rfl
                                  have h35i := lv_neT (a := 320) h35 rfl
                                  have h42i := lv_neT (a := 321) h42 rfl
                                  have h44i := lv_neT (a := 322) h44 rfl
                                  have h46i := lv_neT (a := 323) h46 rfl
                                  have h48i := lv_neT (a := 324) h48 rfl
                                  refine r_tsout (tgt := 190) (lo := 309) (hi := 324) (dflt := 175) (offs := #[129, 175, 103, 175, 175, 175, 175, 175, 175, 175, 175, 77, 155, 160, 165, 170]) (len := 77) (by decide +kernel) (by omega) (by decide) ?_
                                  refine r_p (pc' := 191) (p_aload_n 2 (k := 0) (by decide +kernel) rfl) ?_
                                  refine r_p (pc' := 192) (p_iload_n 1 (k := 1) (by decide +kernel) rfl) ?_
                                  refine r_callUI muX7_45s (ctX10_wrongs a0 v1) (rcX10_wrongs a0 v1) ⟨_, _, rfl⟩ (as := [vi v1]) (st := []) rfl rfl (by decide +kernel) rfl (Nat.le_of_ble_eq_true rfl) (Nat.le_of_ble_eq_true rfl) fun v50 s => ?_
                                  exact r_bret (y9 := fun v => v) (fun _ => rfl) (fun _ => rfl) rfl (by decide +kernel)
def aX10_readLiness : StA := (RX10, cX10_readLines, 3, some .boolean, yX10_readLines, 13, [])
theorem muX10_32s : MU RX10 32 "ToolCourt$ShopReader" "ToolCourt$TextReader" ⟨"ToolCourt$TextReader", "start", "()V"⟩ aX7_start 0 := ⟨tblG_of 810 (by decide +kernel) (by decide +kernel), tblG_of 817 (by decide +kernel) (by decide +kernel), tblG_of 816 (by decide +kernel) (by decide +kernel), tblG_of 812 (by decide +kernel) (by decide +kernel), tblG_of 155 (by decide +kernel) (by decide +kernel), tblG_of 818 (by decide +kernel) (by decide +kernel), rfl, ⟨by decide, by decide⟩, by decide +kernel, by decide, Or.inr (List.mem_of_getElem? (i := 811) (by decide +kernel))⟩
theorem muX10_35s : MU RX10 35 "ToolCourt$ShopReader" "ToolCourt$TextReader" ⟨"ToolCourt$TextReader", "split", "()V"⟩ aX10_splits 0 := ⟨tblG_of 820 (by decide +kernel) (by decide +kernel), tblG_of 822 (by decide +kernel) (by decide +kernel), tblG_of 2395 (by decide +kernel) (by decide +kernel), tblG_of 2355 (by decide +kernel) (by decide +kernel), tblG_of 154 (by decide +kernel) (by decide +kernel), tblG_of 823 (by decide +kernel) (by decide +kernel), rfl, ⟨by decide, by decide⟩, by decide +kernel, by decide, Or.inl rfl⟩
theorem fpX10_38_7 : FP RX10 38 7 10 .int false := ⟨_, TX7, 14, "ToolCourt$TextReader", tyX7, rfl, by decide, Or.inl (tblG_of 442 (by decide +kernel) (by decide +kernel)), Or.inl rfl, tyX7_ok, nmX7, rfl, by decide, by decide +kernel⟩
theorem muX10_44s : MU RX10 44 "ToolCourt$ShopReader" "ToolCourt$TextReader" ⟨"ToolCourt$TextReader", "readLine", "()Z"⟩ aX7_readLine 0 := ⟨tblG_of 910 (by decide +kernel) (by decide +kernel), tblG_of 978 (by decide +kernel) (by decide +kernel), tblG_of 977 (by decide +kernel) (by decide +kernel), tblG_of 912 (by decide +kernel) (by decide +kernel), tblG_of 155 (by decide +kernel) (by decide +kernel), tblG_of 979 (by decide +kernel) (by decide +kernel), rfl, ⟨by decide, by decide⟩, by decide +kernel, by decide, Or.inr (List.mem_of_getElem? (i := 911) (by decide +kernel))⟩
theorem flX10_38_7 : FL RX10 38 7 10 := ⟨_, TX7, 14, "ToolCourt$TextReader", rfl, by decide, Or.inl (tblG_of 442 (by decide +kernel) (by decide +kernel)), Or.inl rfl⟩
theorem muX10_48s : MU RX10 48 "ToolCourt$ShopReader" "ToolCourt$TextReader" ⟨"ToolCourt$TextReader", "takeThing", "(I)Z"⟩ aX10_takeThings 1 := ⟨tblG_of 1051 (by decide +kernel) (by decide +kernel), tblG_of 998 (by decide +kernel) (by decide +kernel), tblG_of 2366 (by decide +kernel) (by decide +kernel), tblG_of 2364 (by decide +kernel) (by decide +kernel), tblG_of 154 (by decide +kernel) (by decide +kernel), tblG_of 999 (by decide +kernel) (by decide +kernel), rfl, ⟨by decide, by decide⟩, by decide +kernel, by decide, Or.inl rfl⟩
noncomputable def mX10_readLiness_L30 (a0 : Nat) (a1 : Int32) (x3 : Int32) : MM ((Int32) ⊕ (Unit ⊕ Unit ⊕ Unit ⊕ Unit)) :=
  if a1 ≤ x3 then (
    mret (.inr ((.inr (.inr (.inr ())))))
  ) else (
    mbnd (nox (mX7_readLine a0)) fun (v8 : Int32) =>
    if v8 = 0 then (
      mret (.inr ((.inl ())))
    ) else (
      mbnd (gI 7 10 a0) fun (v10 : Int32) =>
      mbnd (pI 7 10 a0 (v10 + 1)) fun _ =>
      mbnd (gI 7 7 a0) fun (v11 : Int32) =>
      if v11 = (-1) then (
        mret (.inr ((.inr (.inl ()))))
      ) else (
        mbnd (nox (mX10_takeThings a0 59)) fun (v13 : Int32) =>
        if v13 = 0 then (
          mret (.inr ((.inr (.inr (.inl ())))))
        ) else (
          mret (.inl (x3 + 1))
        )
      )
    )
  )
noncomputable def mX10_readLiness (a0 : Nat) (a1 : Int32) : MM Int32 := onC 7 a0 (
  mbnd (nox (mX7_start a0)) fun _ =>
  mbnd (nox (mX10_splits a0)) fun _ =>
  mbnd (pI 7 10 a0 0) fun _ =>
  mbnd (pI 7 11 a0 (-1)) fun _ =>
  mbnd (gI 7 7 a0) fun (v1 : Int32) =>
  if v1 = (-1) then (
    mret 1
  ) else (
    mbnd (loopM (mX10_readLiness_L30 a0 a1) 0) fun (e15 : Unit ⊕ Unit ⊕ Unit ⊕ Unit) => match e15 with
      | .inl e15 => (
        mret 0
        )
      | .inr (.inl e15) => (
        mret 1
        )
      | .inr (.inr (.inl e15)) => (
        mret 0
        )
      | .inr (.inr (.inr e15)) => (
        mbnd (gI 7 8 a0) fun (v16 : Int32) =>
        mbnd (nox (mX10_wrongs a0 v16)) fun (v17 : Int32) =>
        mbool v17
        )
  )
  )
theorem rcX10_readLiness (a0 : Nat) (a1 : Int32) : Rcv 7 a0 (mX10_readLiness a0 a1) := fun s r h => ⟨(onC_some h).1, (onC_some h).2.1⟩
set_option maxHeartbeats 4000000 in
set_option maxRecDepth 100000 in
theorem ctX10_readLiness (a0 : Nat) (a1 : Int32) : Ct aX10_readLiness [vr a0, vi a1] (mX10_readLiness a0 a1) rI := by
  unfold mX10_readLiness
  refine ct_onC (ct_intro (by decide +kernel) rfl (Nat.le_of_ble_eq_true rfl) fun Y s => ?_)
  refine r_sub (lv' := [(0, vr a0), (1, vi a1)]) [0, 1] rfl ?_
  refine r_p (pc' := 1) (p_aload_n 0 (k := 0) (by decide +kernel) rfl) ?_
  refine r_callUU muX10_32s (ctX7_start a0) (rcX7_start a0) ⟨_, _, rfl⟩ (as := []) (st := []) rfl rfl (by decide +kernel) rfl (Nat.le_of_ble_eq_true rfl) (Nat.le_of_ble_eq_true rfl) fun s => ?_
  refine r_p (pc' := 5) (p_aload_n 0 (k := 0) (by decide +kernel) rfl) ?_
  refine r_callUU muX10_35s (ctX10_splits a0) (rcX10_splits a0) ⟨_, _, rfl⟩ (as := []) (st := []) rfl rfl (by decide +kernel) rfl (Nat.le_of_ble_eq_true rfl) (Nat.le_of_ble_eq_true rfl) fun s => ?_
  refine r_p (pc' := 9) (p_aload_n 0 (k := 0) (by decide +kernel) rfl) ?_
  refine r_p (pc' := 10) (p_iconst (n := 0) (v := 0) (by decide +kernel) rfl) ?_
  refine r_pI fpX10_38_7 (fun h => by cases h) (by decide +kernel) fun s => ?_
  refine r_p (pc' := 14) (p_aload_n 0 (k := 0) (by decide +kernel) rfl) ?_
  refine r_p (pc' := 15) (p_iconst (n := -1) (v := -1) (by decide +kernel) rfl) ?_
  refine r_pI fpX10_24_7 (fun h => by cases h) (by decide +kernel) fun s => ?_
  refine r_p (pc' := 19) (p_aload_n 0 (k := 0) (by decide +kernel) rfl) ?_
  refine r_gI flX10_41_7 (by decide +kernel) fun v1 => ?_
  refine r_p (pc' := 23) (p_iconst (n := -1) (v := -1) (by decide +kernel) rfl) ?_
  refine r_icmpne (off := 5) (tgt := 28) (by decide +kernel) (by decide) (fun h2 => ?_) (fun h2 => ?_)
  · refine r_p (pc' := 27) (p_iconst (n := 1) (v := 1) (by decide +kernel) rfl) ?_
    exact r_iret rfl rfl _ rfl rfl (by decide +kernel)
  · refine r_p (pc' := 29) (p_iconst (n := 0) (v := 0) (by decide +kernel) rfl) ?_
    refine r_p (pc' := 30) (p_istore_n (k := 2) (lv' := [(2, vi 0), (0, vr a0), (1, vi a1)]) (by decide +kernel) (Nat.le_of_ble_eq_true rfl) rfl) ?_
    refine r_sub (lv' := [(0, vr a0), (1, vi a1), (2, vi 0)]) [1, 2, 0] rfl ?_
    refine r_loop2 (fun (e15 : Unit ⊕ Unit ⊕ Unit ⊕ Unit) => match e15 with | .inl _ => 42 | .inr (.inl _) => 62 | .inr (.inr (.inl _)) => 73 | .inr (.inr (.inr _)) => 81) (fun (e15 : Unit ⊕ Unit ⊕ Unit ⊕ Unit) => match e15 with | .inl e15 => [] | .inr (.inl e15) => [] | .inr (.inr (.inl e15)) => [] | .inr (.inr (.inr e15)) => [(0, vr a0)]) (fun (x3 : Int32) => [(0, vr a0), (1, vi a1), (2, vi x3)]) (fun e15 s => ?_) (fun K4 hb5 he6 x3 s => ?_) 0 _
    · rcases e15 with e15 | e15 | e15 | e15
      · show Rr _ _ 42 [] [] _ _ _ _
        refine r_p (pc' := 43) (p_iconst (n := 0) (v := 0) (by decide +kernel) rfl) ?_
        exact r_iret rfl rfl _ rfl rfl (by decide +kernel)
      · show Rr _ _ 62 [] [] _ _ _ _
        refine r_p (pc' := 63) (p_iconst (n := 1) (v := 1) (by decide +kernel) rfl) ?_
        exact r_iret rfl rfl _ rfl rfl (by decide +kernel)
      · show Rr _ _ 73 [] [] _ _ _ _
        refine r_p (pc' := 74) (p_iconst (n := 0) (v := 0) (by decide +kernel) rfl) ?_
        exact r_iret rfl rfl _ rfl rfl (by decide +kernel)
      · show Rr _ _ 81 [(0, vr a0)] [] _ _ _ _
        refine r_p (pc' := 82) (p_aload_n 0 (k := 0) (by decide +kernel) rfl) ?_
        refine r_p (pc' := 83) (p_aload_n 0 (k := 0) (by decide +kernel) rfl) ?_
        refine r_gI flX10_52_7 (by decide +kernel) fun v16 => ?_
        refine r_callUI muX10_55s (ctX10_wrongs a0 v16) (rcX10_wrongs a0 v16) ⟨_, _, rfl⟩ (as := [vi v16]) (st := []) rfl rfl (by decide +kernel) rfl (Nat.le_of_ble_eq_true rfl) (Nat.le_of_ble_eq_true rfl) fun v17 s => ?_
        exact r_bret (y9 := fun v => v) (fun _ => rfl) (fun _ => rfl) rfl (by decide +kernel)
    · unfold mX10_readLiness_L30
      refine r_p (pc' := 31) (p_iload_n 2 (k := 2) (by decide +kernel) rfl) ?_
      refine r_p (pc' := 32) (p_iload_n 1 (k := 1) (by decide +kernel) rfl) ?_
      refine r_icmpge (off := 49) (tgt := 81) (by decide +kernel) (by decide) (fun h7 => ?_) (fun h7 => ?_)
      · refine r_sub (lv' := [(0, vr a0)]) [0] rfl ?_
        exact he6 ((.inr (.inr (.inr ())))) _
      · refine r_p (pc' := 36) (p_aload_n 0 (k := 0) (by decide +kernel) rfl) ?_
        refine r_callUI muX10_44s (ctX7_readLine a0) (rcX7_readLine a0) ⟨_, _, rfl⟩ (as := []) (st := []) rfl rfl (by decide +kernel) rfl (Nat.le_of_ble_eq_true rfl) (Nat.le_of_ble_eq_true rfl) fun v8 s => ?_
        refine r_ifne (off := 5) (tgt := 44) (by decide +kernel) (by decide) (fun h9 => ?_) (fun h9 => ?_)
        · refine r_sub (lv' := []) [] rfl ?_
          exact he6 ((.inl ())) _
        · refine r_p (pc' := 45) (p_aload_n 0 (k := 0) (by decide +kernel) rfl) ?_
          refine r_p (pc' := 46) (p_dup rfl (by decide +kernel)) ?_
          refine r_gI flX10_38_7 (by decide +kernel) fun v10 => ?_
          refine r_p (pc' := 50) (p_iconst (n := 1) (v := 1) (by decide +kernel) rfl) ?_
          refine r_p (pc' := 51) (p_iadd (by decide +kernel)) ?_
          refine r_pI fpX10_38_7 (fun h => by cases h) (by decide +kernel) fun s => ?_
          refine r_p (pc' := 55) (p_aload_n 0 (k := 0) (by decide +kernel) rfl) ?_
          refine r_gI flX10_41_7 (by decide +kernel) fun v11 => ?_
          refine r_p (pc' := 59) (p_iconst (n := -1) (v := -1) (by decide +kernel) rfl) ?_
          refine r_icmpne (off := 5) (tgt := 64) (by decide +kernel) (by decide) (fun h12 => ?_) (fun h12 => ?_)
          · refine r_sub (lv' := []) [] rfl ?_
            exact he6 ((.inr (.inl ()))) _
          · refine r_p (pc' := 65) (p_aload_n 0 (k := 0) (by decide +kernel) rfl) ?_
            refine r_p (pc' := 67) (p_bipush (n := 59) (v := 59) (by decide +kernel) (by decide +kernel)) ?_
            refine r_callUI muX10_48s (ctX10_takeThings a0 59) (rcX10_takeThings a0 59) ⟨_, _, rfl⟩ (as := [vi 59]) (st := []) rfl rfl (by decide +kernel) rfl (Nat.le_of_ble_eq_true rfl) (Nat.le_of_ble_eq_true rfl) fun v13 s => ?_
            refine r_ifne (off := 5) (tgt := 75) (by decide +kernel) (by decide) (fun h14 => ?_) (fun h14 => ?_)
            · refine r_sub (lv' := []) [] rfl ?_
              exact he6 ((.inr (.inr (.inl ())))) _
            · refine r_p (pc' := 78) (p_iinc 2 (i := 2) (n := 1) (x := x3) (v := x3 + 1) (lv' := [(2, vi (x3 + 1)), (0, vr a0), (1, vi a1)]) (by decide +kernel) rfl rfl (Nat.le_of_ble_eq_true rfl) rfl) ?_
              refine r_p (pc' := 30) (p_goto (off := -48) (tgt := 30) (by decide +kernel) (by decide)) ?_
              refine r_sub (lv' := [(0, vr a0), (1, vi a1), (2, vi (x3 + 1))]) [1, 2, 0] rfl ?_
              exact hb5 (x3 + 1) _
def aX5_start : StA := (RX5, cX5_start, 1, none, yX5_start, 8, [])
theorem fpX5_24_5 : FP RX5 24 5 14 .int false := ⟨_, TX5, 18, "ToolCourt$LawReader", tyX5, rfl, by decide, Or.inl (tblG_of 485 (by decide +kernel) (by decide +kernel)), Or.inl rfl, tyX5_ok, nmX5, rfl, by decide, by decide +kernel⟩
noncomputable def mX5_start (a0 : Nat) : MM Unit := onC 5 a0 (
  mbnd (pI 5 14 a0 0) fun _ =>
  mret ()
  )
theorem rcX5_start (a0 : Nat) : Rcv 5 a0 (mX5_start a0) := fun s r h => ⟨(onC_some h).1, (onC_some h).2.1⟩
set_option maxHeartbeats 4000000 in
set_option maxRecDepth 100000 in
theorem ctX5_start (a0 : Nat) : Ct aX5_start [vr a0] (mX5_start a0) rU := by
  unfold mX5_start
  refine ct_onC (ct_intro (by decide +kernel) rfl (Nat.le_of_ble_eq_true rfl) fun Y s => ?_)
  refine r_sub (lv' := [(0, vr a0)]) [0] rfl ?_
  refine r_p (pc' := 1) (p_aload_n 0 (k := 0) (by decide +kernel) rfl) ?_
  refine r_p (pc' := 2) (p_iconst (n := 0) (v := 0) (by decide +kernel) rfl) ?_
  refine r_pI fpX5_24_5 (fun h => by cases h) (by decide +kernel) fun s => ?_
  exact r_vret (y9 := ()) rfl rfl rfl (by decide +kernel)
def aX10_notel : StA := (RX10, cX10_note, 5, none, yX10_note, 8, [])
theorem fpX10_61_5 : FP RX10 61 5 5 .int false := ⟨_, TX5, 18, "ToolCourt$TextReader", tyX5, rfl, by decide, Or.inl (tblG_of 423 (by decide +kernel) (by decide +kernel)), Or.inl rfl, tyX5_ok, nmX5, rfl, by decide, by decide +kernel⟩
theorem flX10_61_5 : FL RX10 61 5 5 := ⟨_, TX5, 18, "ToolCourt$TextReader", rfl, by decide, Or.inl (tblG_of 423 (by decide +kernel) (by decide +kernel)), Or.inl rfl⟩
theorem flX10_9_5 : FL RX10 9 5 1 := ⟨_, TX5, 18, "ToolCourt$TextReader", rfl, by decide, Or.inl (tblG_of 419 (by decide +kernel) (by decide +kernel)), Or.inl rfl⟩
theorem flX10_15_5 : FL RX10 15 5 2 := ⟨_, TX5, 18, "ToolCourt$TextReader", rfl, by decide, Or.inl (tblG_of 420 (by decide +kernel) (by decide +kernel)), Or.inl rfl⟩
theorem flX10_18_5 : FL RX10 18 5 3 := ⟨_, TX5, 18, "ToolCourt$TextReader", rfl, by decide, Or.inl (tblG_of 421 (by decide +kernel) (by decide +kernel)), Or.inl rfl⟩
theorem flX10_21_5 : FL RX10 21 5 4 := ⟨_, TX5, 18, "ToolCourt$TextReader", rfl, by decide, Or.inl (tblG_of 422 (by decide +kernel) (by decide +kernel)), Or.inl rfl⟩
noncomputable def mX10_notel (a0 : Nat) (a1 : Int32) (a2 : Int32) (a3 : Int32) (a4 : Int32) : MM Unit := onC 5 a0 (
  mbnd (gI 5 5 a0) fun (v1 : Int32) =>
  if v1 < 0 then (
    mret ()
  ) else (
    mbnd (gI 5 5 a0) fun (v3 : Int32) =>
    if 400 ≤ v3 then (
      mret ()
    ) else (
      mbnd (gR 5 1 a0) fun (v5 : Nat) =>
      mbnd (gI 5 5 a0) fun (v6 : Int32) =>
      mbnd (stI 0 v5 v6 a1) fun _ =>
      mbnd (gR 5 2 a0) fun (v7 : Nat) =>
      mbnd (gI 5 5 a0) fun (v8 : Int32) =>
      mbnd (stI 0 v7 v8 a2) fun _ =>
      mbnd (gR 5 3 a0) fun (v9 : Nat) =>
      mbnd (gI 5 5 a0) fun (v10 : Int32) =>
      mbnd (stI 0 v9 v10 a3) fun _ =>
      mbnd (gR 5 4 a0) fun (v11 : Nat) =>
      mbnd (gI 5 5 a0) fun (v12 : Int32) =>
      mbnd (stI 0 v11 v12 a4) fun _ =>
      mbnd (gI 5 5 a0) fun (v13 : Int32) =>
      mbnd (pI 5 5 a0 (v13 + 1)) fun _ =>
      mret ()
    )
  )
  )
theorem rcX10_notel (a0 : Nat) (a1 : Int32) (a2 : Int32) (a3 : Int32) (a4 : Int32) : Rcv 5 a0 (mX10_notel a0 a1 a2 a3 a4) := fun s r h => ⟨(onC_some h).1, (onC_some h).2.1⟩
set_option maxHeartbeats 4000000 in
set_option maxRecDepth 100000 in
theorem ctX10_notel (a0 : Nat) (a1 : Int32) (a2 : Int32) (a3 : Int32) (a4 : Int32) : Ct aX10_notel [vr a0, vi a1, vi a2, vi a3, vi a4] (mX10_notel a0 a1 a2 a3 a4) rU := by
  unfold mX10_notel
  refine ct_onC (ct_intro (by decide +kernel) rfl (Nat.le_of_ble_eq_true rfl) fun Y s => ?_)
  refine r_sub (lv' := [(0, vr a0), (1, vi a1), (2, vi a2), (3, vi a3), (4, vi a4)]) [0, 1, 2, 3, 4] rfl ?_
  refine r_p (pc' := 1) (p_aload_n 0 (k := 0) (by decide +kernel) rfl) ?_
  refine r_gI flX10_61_5 (by decide +kernel) fun v1 => ?_
  refine r_iflt (off := 64) (tgt := 68) (by decide +kernel) (by decide) (fun h2 => ?_) (fun h2 => ?_)
  · exact r_vret (y9 := ()) rfl rfl rfl (by decide +kernel)
  · refine r_p (pc' := 8) (p_aload_n 0 (k := 0) (by decide +kernel) rfl) ?_
    refine r_gI flX10_61_5 (by decide +kernel) fun v3 => ?_
    refine r_p (pc' := 14) (p_sipush (n := 400) (v := 400) (by decide +kernel) (by decide +kernel)) ?_
    refine r_icmpge (off := 54) (tgt := 68) (by decide +kernel) (by decide) (fun h4 => ?_) (fun h4 => ?_)
    · exact r_vret (y9 := ()) rfl rfl rfl (by decide +kernel)
    · refine r_p (pc' := 18) (p_aload_n 0 (k := 0) (by decide +kernel) rfl) ?_
      refine r_gR flX10_9_5 (by decide +kernel) fun v5 => ?_
      refine r_p (pc' := 22) (p_aload_n 0 (k := 0) (by decide +kernel) rfl) ?_
      refine r_gI flX10_61_5 (by decide +kernel) fun v6 => ?_
      refine r_p (pc' := 26) (p_iload_n 1 (k := 1) (by decide +kernel) rfl) ?_
      refine r_stI0 (by decide +kernel) fun s => ?_
      refine r_p (pc' := 28) (p_aload_n 0 (k := 0) (by decide +kernel) rfl) ?_
      refine r_gR flX10_15_5 (by decide +kernel) fun v7 => ?_
      refine r_p (pc' := 32) (p_aload_n 0 (k := 0) (by decide +kernel) rfl) ?_
      refine r_gI flX10_61_5 (by decide +kernel) fun v8 => ?_
      refine r_p (pc' := 36) (p_iload_n 2 (k := 2) (by decide +kernel) rfl) ?_
      refine r_stI0 (by decide +kernel) fun s => ?_
      refine r_p (pc' := 38) (p_aload_n 0 (k := 0) (by decide +kernel) rfl) ?_
      refine r_gR flX10_18_5 (by decide +kernel) fun v9 => ?_
      refine r_p (pc' := 42) (p_aload_n 0 (k := 0) (by decide +kernel) rfl) ?_
      refine r_gI flX10_61_5 (by decide +kernel) fun v10 => ?_
      refine r_p (pc' := 46) (p_iload_n 3 (k := 3) (by decide +kernel) rfl) ?_
      refine r_stI0 (by decide +kernel) fun s => ?_
      refine r_p (pc' := 48) (p_aload_n 0 (k := 0) (by decide +kernel) rfl) ?_
      refine r_gR flX10_21_5 (by decide +kernel) fun v11 => ?_
      refine r_p (pc' := 52) (p_aload_n 0 (k := 0) (by decide +kernel) rfl) ?_
      refine r_gI flX10_61_5 (by decide +kernel) fun v12 => ?_
      refine r_p (pc' := 57) (p_iload 4 (i := 4) (by decide +kernel) rfl) ?_
      refine r_stI0 (by decide +kernel) fun s => ?_
      refine r_p (pc' := 59) (p_aload_n 0 (k := 0) (by decide +kernel) rfl) ?_
      refine r_p (pc' := 60) (p_dup rfl (by decide +kernel)) ?_
      refine r_gI flX10_61_5 (by decide +kernel) fun v13 => ?_
      refine r_p (pc' := 64) (p_iconst (n := 1) (v := 1) (by decide +kernel) rfl) ?_
      refine r_p (pc' := 65) (p_iadd (by decide +kernel)) ?_
      refine r_pI fpX10_61_5 (fun h => by cases h) (by decide +kernel) fun s => ?_
      exact r_vret (y9 := ()) rfl rfl rfl (by decide +kernel)
def aX10_numberEndl : StA := (RX10, cX10_numberEnd, 3, some .int, yX10_numberEnd, 9, [])
theorem flX10_28_5 : FL RX10 28 5 0 := ⟨_, TX5, 18, "ToolCourt$TextReader", rfl, by decide, Or.inl (tblG_of 418 (by decide +kernel) (by decide +kernel)), Or.inl rfl⟩
noncomputable def mX10_numberEndl_L2 (a0 : Nat) (x1 : Int32) : MM ((Int32) ⊕ (Int32)) :=
  mbnd (gR 5 0 a0) fun (v5 : Nat) =>
  mbnd (gI 9 1 v5) fun (v6 : Int32) =>
  if v6 ≤ x1 then (
    mret (.inr x1)
  ) else (
    mbnd (gR 5 0 a0) fun (v8 : Nat) =>
    mbnd (mX9_byteAt v8 x1) fun (v9 : Int32) =>
    mbnd (mX10_isDigit v9) fun (v10 : Int32) =>
    if v10 = 0 then (
      mret (.inr x1)
    ) else (
      mret (.inl (x1 + 1))
    )
  )
noncomputable def mX10_numberEndl (a0 : Nat) (a1 : Int32) : MM Int32 := onC 5 a0 (
  mbnd (loopM (mX10_numberEndl_L2 a0) a1) fun (e12 : Int32) =>
  mret e12
  )
theorem rcX10_numberEndl (a0 : Nat) (a1 : Int32) : Rcv 5 a0 (mX10_numberEndl a0 a1) := fun s r h => ⟨(onC_some h).1, (onC_some h).2.1⟩
set_option maxHeartbeats 4000000 in
set_option maxRecDepth 100000 in
theorem ctX10_numberEndl (a0 : Nat) (a1 : Int32) : Ct aX10_numberEndl [vr a0, vi a1] (mX10_numberEndl a0 a1) rI := by
  unfold mX10_numberEndl
  refine ct_onC (ct_intro (by decide +kernel) rfl (Nat.le_of_ble_eq_true rfl) fun Y s => ?_)
  refine r_sub (lv' := [(0, vr a0), (1, vi a1)]) [0, 1] rfl ?_
  refine r_p (pc' := 1) (p_iload_n 1 (k := 1) (by decide +kernel) rfl) ?_
  refine r_p (pc' := 2) (p_istore_n (k := 2) (lv' := [(2, vi a1), (0, vr a0), (1, vi a1)]) (by decide +kernel) (Nat.le_of_ble_eq_true rfl) rfl) ?_
  refine r_sub (lv' := [(0, vr a0), (2, vi a1)]) [1, 0] rfl ?_
  refine r_loop2 (fun _ => 33) (fun (e12 : Int32) => [(2, vi e12)]) (fun (x1 : Int32) => [(0, vr a0), (2, vi x1)]) (fun e12 s => ?_) (fun K2 hb3 he4 x1 s => ?_) a1 _
  · refine r_p (pc' := 34) (p_iload_n 0 (k := 2) (by decide +kernel) rfl) ?_
    exact r_iret rfl rfl _ rfl rfl (by decide +kernel)
  · unfold mX10_numberEndl_L2
    refine r_p (pc' := 3) (p_iload_n 1 (k := 2) (by decide +kernel) rfl) ?_
    refine r_p (pc' := 4) (p_aload_n 0 (k := 0) (by decide +kernel) rfl) ?_
    refine r_gR flX10_28_5 (by decide +kernel) fun v5 => ?_
    refine r_gI flX10_64_9 (by decide +kernel) fun v6 => ?_
    refine r_icmpge (off := 23) (tgt := 33) (by decide +kernel) (by decide) (fun h7 => ?_) (fun h7 => ?_)
    · refine r_sub (lv' := [(2, vi x1)]) [1] rfl ?_
      exact he4 x1 _
    · refine r_p (pc' := 14) (p_aload_n 0 (k := 0) (by decide +kernel) rfl) ?_
      refine r_gR flX10_28_5 (by decide +kernel) fun v8 => ?_
      refine r_p (pc' := 18) (p_iload_n 1 (k := 2) (by decide +kernel) rfl) ?_
      refine r_callVI mvX10_75 (ctX9_byteAt v8 x1) (rcX9_byteAt v8 x1) ⟨_, _, rfl⟩ (as := [vi x1]) (st := []) rfl rfl (by decide +kernel) rfl (Nat.le_of_ble_eq_true rfl) (Nat.le_of_ble_eq_true rfl) fun v9 s => ?_
      refine r_callSI msX10_93 (ctX10_isDigit v9) (as := [vi v9]) (st := []) rfl rfl (by decide +kernel) rfl (Nat.le_of_ble_eq_true rfl) (Nat.le_of_ble_eq_true rfl) fun v10 s => ?_
      refine r_ifeq (off := 9) (tgt := 33) (by decide +kernel) (by decide) (fun h11 => ?_) (fun h11 => ?_)
      · refine r_sub (lv' := [(2, vi x1)]) [1] rfl ?_
        exact he4 x1 _
      · refine r_p (pc' := 30) (p_iinc 1 (i := 2) (n := 1) (x := x1) (v := x1 + 1) (lv' := [(2, vi (x1 + 1)), (0, vr a0)]) (by decide +kernel) rfl rfl (Nat.le_of_ble_eq_true rfl) rfl) ?_
        refine r_p (pc' := 2) (p_goto (off := -28) (tgt := 2) (by decide +kernel) (by decide)) ?_
        refine r_sub (lv' := [(0, vr a0), (2, vi (x1 + 1))]) [1, 0] rfl ?_
        exact hb3 (x1 + 1) _
def aX10_numberOfl : StA := (RX10, cX10_numberOf, 5, some .int, yX10_numberOf, 9, [])
noncomputable def mX10_numberOfl_L5 (a0 : Nat) (a1 : Int32) (a2 : Int32) (x1 : Int32 × Int32) : MM ((Int32 × Int32) ⊕ (Int32)) :=
  if a2 ≤ x1.2 then (
    mret (.inr x1.1)
  ) else (
    if (a1 + 5) ≤ x1.2 then (
      mret (.inr x1.1)
    ) else (
      mbnd (gR 5 0 a0) fun (v7 : Nat) =>
      mbnd (mX9_byteAt v7 x1.2) fun (v8 : Int32) =>
      mbnd (mret (((x1.1 * 10) + v8) - 48)) fun (v9 : Int32) =>
      mret (.inl (v9, x1.2 + 1))
    )
  )
noncomputable def mX10_numberOfl (a0 : Nat) (a1 : Int32) (a2 : Int32) : MM Int32 := onC 5 a0 (
  mbnd (loopM (mX10_numberOfl_L5 a0 a1 a2) (0, a1)) fun (e10 : Int32) =>
  mret e10
  )
theorem rcX10_numberOfl (a0 : Nat) (a1 : Int32) (a2 : Int32) : Rcv 5 a0 (mX10_numberOfl a0 a1 a2) := fun s r h => ⟨(onC_some h).1, (onC_some h).2.1⟩
set_option maxHeartbeats 4000000 in
set_option maxRecDepth 100000 in
theorem ctX10_numberOfl (a0 : Nat) (a1 : Int32) (a2 : Int32) : Ct aX10_numberOfl [vr a0, vi a1, vi a2] (mX10_numberOfl a0 a1 a2) rI := by
  unfold mX10_numberOfl
  refine ct_onC (ct_intro (by decide +kernel) rfl (Nat.le_of_ble_eq_true rfl) fun Y s => ?_)
  refine r_sub (lv' := [(0, vr a0), (1, vi a1), (2, vi a2)]) [0, 1, 2] rfl ?_
  refine r_p (pc' := 1) (p_iconst (n := 0) (v := 0) (by decide +kernel) rfl) ?_
  refine r_p (pc' := 2) (p_istore_n (k := 3) (lv' := [(3, vi 0), (0, vr a0), (1, vi a1), (2, vi a2)]) (by decide +kernel) (Nat.le_of_ble_eq_true rfl) rfl) ?_
  refine r_p (pc' := 3) (p_iload_n 2 (k := 1) (by decide +kernel) rfl) ?_
  refine r_p (pc' := 5) (p_istore (i := 4) (lv' := [(4, vi a1), (3, vi 0), (0, vr a0), (1, vi a1), (2, vi a2)]) (by decide +kernel) (Nat.le_of_ble_eq_true rfl) rfl) ?_
  refine r_sub (lv' := [(0, vr a0), (1, vi a1), (2, vi a2), (3, vi 0), (4, vi a1)]) [2, 3, 4, 1, 0] rfl ?_
  refine r_loop2 (fun _ => 43) (fun (e10 : Int32) => [(3, vi e10)]) (fun (x1 : Int32 × Int32) => [(0, vr a0), (1, vi a1), (2, vi a2), (3, vi x1.1), (4, vi x1.2)]) (fun e10 s => ?_) (fun K2 hb3 he4 x1 s => ?_) (0, a1) _
  · refine r_p (pc' := 44) (p_iload_n 0 (k := 3) (by decide +kernel) rfl) ?_
    exact r_iret rfl rfl _ rfl rfl (by decide +kernel)
  · unfold mX10_numberOfl_L5
    refine r_p (pc' := 7) (p_iload 4 (i := 4) (by decide +kernel) rfl) ?_
    refine r_p (pc' := 8) (p_iload_n 2 (k := 2) (by decide +kernel) rfl) ?_
    refine r_icmpge (off := 35) (tgt := 43) (by decide +kernel) (by decide) (fun h5 => ?_) (fun h5 => ?_)
    · refine r_sub (lv' := [(3, vi x1.1)]) [3] rfl ?_
      exact he4 x1.1 _
    · refine r_p (pc' := 13) (p_iload 4 (i := 4) (by decide +kernel) rfl) ?_
      refine r_p (pc' := 14) (p_iload_n 1 (k := 1) (by decide +kernel) rfl) ?_
      refine r_p (pc' := 15) (p_iconst (n := 5) (v := 5) (by decide +kernel) rfl) ?_
      refine r_p (pc' := 16) (p_iadd (by decide +kernel)) ?_
      refine r_icmpge (off := 27) (tgt := 43) (by decide +kernel) (by decide) (fun h6 => ?_) (fun h6 => ?_)
      · refine r_sub (lv' := [(3, vi x1.1)]) [3] rfl ?_
        exact he4 x1.1 _
      · refine r_p (pc' := 20) (p_iload_n 3 (k := 3) (by decide +kernel) rfl) ?_
        refine r_p (pc' := 22) (p_bipush (n := 10) (v := 10) (by decide +kernel) (by decide +kernel)) ?_
        refine r_p (pc' := 23) (p_imul (by decide +kernel)) ?_
        refine r_p (pc' := 24) (p_aload_n 0 (k := 0) (by decide +kernel) rfl) ?_
        refine r_gR flX10_28_5 (by decide +kernel) fun v7 => ?_
        refine r_p (pc' := 29) (p_iload 4 (i := 4) (by decide +kernel) rfl) ?_
        refine r_callVI mvX10_75 (ctX9_byteAt v7 x1.2) (rcX9_byteAt v7 x1.2) ⟨_, _, rfl⟩ (as := [vi x1.2]) (st := [vi (x1.1 * 10)]) rfl rfl (by decide +kernel) rfl (Nat.le_of_ble_eq_true rfl) (Nat.le_of_ble_eq_true rfl) fun v8 s => ?_
        refine r_p (pc' := 33) (p_iadd (by decide +kernel)) ?_
        refine r_p (pc' := 35) (p_bipush (n := 48) (v := 48) (by decide +kernel) (by decide +kernel)) ?_
        refine r_p (pc' := 36) (p_isub (by decide +kernel)) ?_
        refine r_letI fun v9 => ?_
        refine r_p (pc' := 37) (p_istore_n (k := 3) (lv' := [(3, vi v9), (0, vr a0), (1, vi a1), (2, vi a2), (4, vi x1.2)]) (by decide +kernel) (Nat.le_of_ble_eq_true rfl) rfl) ?_
        refine r_p (pc' := 40) (p_iinc 4 (i := 4) (n := 1) (x := x1.2) (v := x1.2 + 1) (lv' := [(4, vi (x1.2 + 1)), (3, vi v9), (0, vr a0), (1, vi a1), (2, vi a2)]) (by decide +kernel) rfl rfl (Nat.le_of_ble_eq_true rfl) rfl) ?_
        refine r_p (pc' := 5) (p_goto (off := -35) (tgt := 5) (by decide +kernel) (by decide)) ?_
        refine r_sub (lv' := [(0, vr a0), (1, vi a1), (2, vi a2), (3, vi v9), (4, vi (x1.2 + 1))]) [2, 3, 4, 1, 0] rfl ?_
        exact hb3 (v9, x1.2 + 1) _
def aX10_wordEndl : StA := (RX10, cX10_wordEnd, 3, some .int, yX10_wordEnd, 9, [])
noncomputable def mX10_wordEndl_L2 (a0 : Nat) (x1 : Int32) : MM ((Int32) ⊕ (Int32)) :=
  mbnd (gR 5 0 a0) fun (v5 : Nat) =>
  mbnd (gI 9 1 v5) fun (v6 : Int32) =>
  if v6 ≤ x1 then (
    mret (.inr x1)
  ) else (
    mbnd (gR 5 0 a0) fun (v8 : Nat) =>
    mbnd (mX9_byteAt v8 x1) fun (v9 : Int32) =>
    mbnd (mX10_isLetter v9) fun (v10 : Int32) =>
    if v10 = 0 then (
      mret (.inr x1)
    ) else (
      mret (.inl (x1 + 1))
    )
  )
noncomputable def mX10_wordEndl (a0 : Nat) (a1 : Int32) : MM Int32 := onC 5 a0 (
  mbnd (loopM (mX10_wordEndl_L2 a0) a1) fun (e12 : Int32) =>
  mret e12
  )
theorem rcX10_wordEndl (a0 : Nat) (a1 : Int32) : Rcv 5 a0 (mX10_wordEndl a0 a1) := fun s r h => ⟨(onC_some h).1, (onC_some h).2.1⟩
set_option maxHeartbeats 4000000 in
set_option maxRecDepth 100000 in
theorem ctX10_wordEndl (a0 : Nat) (a1 : Int32) : Ct aX10_wordEndl [vr a0, vi a1] (mX10_wordEndl a0 a1) rI := by
  unfold mX10_wordEndl
  refine ct_onC (ct_intro (by decide +kernel) rfl (Nat.le_of_ble_eq_true rfl) fun Y s => ?_)
  refine r_sub (lv' := [(0, vr a0), (1, vi a1)]) [0, 1] rfl ?_
  refine r_p (pc' := 1) (p_iload_n 1 (k := 1) (by decide +kernel) rfl) ?_
  refine r_p (pc' := 2) (p_istore_n (k := 2) (lv' := [(2, vi a1), (0, vr a0), (1, vi a1)]) (by decide +kernel) (Nat.le_of_ble_eq_true rfl) rfl) ?_
  refine r_sub (lv' := [(0, vr a0), (2, vi a1)]) [1, 0] rfl ?_
  refine r_loop2 (fun _ => 33) (fun (e12 : Int32) => [(2, vi e12)]) (fun (x1 : Int32) => [(0, vr a0), (2, vi x1)]) (fun e12 s => ?_) (fun K2 hb3 he4 x1 s => ?_) a1 _
  · refine r_p (pc' := 34) (p_iload_n 0 (k := 2) (by decide +kernel) rfl) ?_
    exact r_iret rfl rfl _ rfl rfl (by decide +kernel)
  · unfold mX10_wordEndl_L2
    refine r_p (pc' := 3) (p_iload_n 1 (k := 2) (by decide +kernel) rfl) ?_
    refine r_p (pc' := 4) (p_aload_n 0 (k := 0) (by decide +kernel) rfl) ?_
    refine r_gR flX10_28_5 (by decide +kernel) fun v5 => ?_
    refine r_gI flX10_64_9 (by decide +kernel) fun v6 => ?_
    refine r_icmpge (off := 23) (tgt := 33) (by decide +kernel) (by decide) (fun h7 => ?_) (fun h7 => ?_)
    · refine r_sub (lv' := [(2, vi x1)]) [1] rfl ?_
      exact he4 x1 _
    · refine r_p (pc' := 14) (p_aload_n 0 (k := 0) (by decide +kernel) rfl) ?_
      refine r_gR flX10_28_5 (by decide +kernel) fun v8 => ?_
      refine r_p (pc' := 18) (p_iload_n 1 (k := 2) (by decide +kernel) rfl) ?_
      refine r_callVI mvX10_75 (ctX9_byteAt v8 x1) (rcX9_byteAt v8 x1) ⟨_, _, rfl⟩ (as := [vi x1]) (st := []) rfl rfl (by decide +kernel) rfl (Nat.le_of_ble_eq_true rfl) (Nat.le_of_ble_eq_true rfl) fun v9 s => ?_
      refine r_callSI msX10_79 (ctX10_isLetter v9) (as := [vi v9]) (st := []) rfl rfl (by decide +kernel) rfl (Nat.le_of_ble_eq_true rfl) (Nat.le_of_ble_eq_true rfl) fun v10 s => ?_
      refine r_ifeq (off := 9) (tgt := 33) (by decide +kernel) (by decide) (fun h11 => ?_) (fun h11 => ?_)
      · refine r_sub (lv' := [(2, vi x1)]) [1] rfl ?_
        exact he4 x1 _
      · refine r_p (pc' := 30) (p_iinc 1 (i := 2) (n := 1) (x := x1) (v := x1 + 1) (lv' := [(2, vi (x1 + 1)), (0, vr a0)]) (by decide +kernel) rfl rfl (Nat.le_of_ble_eq_true rfl) rfl) ?_
        refine r_p (pc' := 2) (p_goto (off := -28) (tgt := 2) (by decide +kernel) (by decide)) ?_
        refine r_sub (lv' := [(0, vr a0), (2, vi (x1 + 1))]) [1, 0] rfl ?_
        exact hb3 (x1 + 1) _
def aX10_wordOfl : StA := (RX10, cX10_wordOf, 8, some .int, yX10_wordOf, 9, [])
noncomputable def mX10_wordOfl_L13 (a0 : Nat) (a1 : Int32) (a2 : Int32) (x1 : Int32 × Int32 × Int32 × Int32) : MM ((Int32 × Int32 × Int32 × Int32) ⊕ (Int32 ⊕ Unit)) :=
  if (slen 0) ≤ x1.2.2.2 then (
    mret (.inr ((.inr ())))
  ) else (
    mbnd (schar 0 x1.2.2.2) fun (v6 : Int32) =>
    if v6 = 32 then (
      if x1.2.2.1 = 0 then (
        mret (.inl (x1.1 + 1, a1, 1, x1.2.2.2 + 1))
      ) else (
        if x1.2.1 = a2 then (
          mret (.inr (.inl x1.1))
        ) else (
          mret (.inl (x1.1 + 1, a1, 1, x1.2.2.2 + 1))
        )
      )
    ) else (
      mbnd (α := Int32) (
        if x1.2.2.1 = 0 then (
          mret 0
        ) else (
          if a2 ≤ x1.2.1 then (
            mret 0
          ) else (
            mbnd (gR 5 0 a0) fun (v15 : Nat) =>
            mbnd (mX9_byteAt v15 x1.2.1) fun (v16 : Int32) =>
            if v16 = v6 then (
              mret 1
            ) else (
              mret 0
            )
          )
        )
      ) fun (x11 : Int32) =>
      mret (.inl (x1.1, x1.2.1 + 1, x11, x1.2.2.2 + 1))
    )
  )
noncomputable def mX10_wordOfl (a0 : Nat) (a1 : Int32) (a2 : Int32) : MM Int32 := onC 5 a0 (
  mbnd (loopM (mX10_wordOfl_L13 a0 a1 a2) (300, a1, 1, 0)) fun (e18 : Int32 ⊕ Unit) => match e18 with
    | .inl e18 => (
      mret e18
      )
    | .inr e18 => (
      mret 257
      )
  )
theorem rcX10_wordOfl (a0 : Nat) (a1 : Int32) (a2 : Int32) : Rcv 5 a0 (mX10_wordOfl a0 a1 a2) := fun s r h => ⟨(onC_some h).1, (onC_some h).2.1⟩
set_option maxHeartbeats 4000000 in
set_option maxRecDepth 100000 in
theorem ctX10_wordOfl (a0 : Nat) (a1 : Int32) (a2 : Int32) : Ct aX10_wordOfl [vr a0, vi a1, vi a2] (mX10_wordOfl a0 a1 a2) rI := by
  unfold mX10_wordOfl
  refine ct_onC (ct_intro (by decide +kernel) rfl (Nat.le_of_ble_eq_true rfl) fun Y s => ?_)
  refine r_sub (lv' := [(0, vr a0), (1, vi a1), (2, vi a2)]) [0, 1, 2] rfl ?_
  refine r_p (pc' := 3) (p_sipush (n := 300) (v := 300) (by decide +kernel) (by decide +kernel)) ?_
  refine r_p (pc' := 4) (p_istore_n (k := 3) (lv' := [(3, vi 300), (0, vr a0), (1, vi a1), (2, vi a2)]) (by decide +kernel) (Nat.le_of_ble_eq_true rfl) rfl) ?_
  refine r_p (pc' := 5) (p_iload_n 2 (k := 1) (by decide +kernel) rfl) ?_
  refine r_p (pc' := 7) (p_istore (i := 4) (lv' := [(4, vi a1), (3, vi 300), (0, vr a0), (1, vi a1), (2, vi a2)]) (by decide +kernel) (Nat.le_of_ble_eq_true rfl) rfl) ?_
  refine r_p (pc' := 8) (p_iconst (n := 1) (v := 1) (by decide +kernel) rfl) ?_
  refine r_p (pc' := 10) (p_istore (i := 5) (lv' := [(5, vi 1), (4, vi a1), (3, vi 300), (0, vr a0), (1, vi a1), (2, vi a2)]) (by decide +kernel) (Nat.le_of_ble_eq_true rfl) rfl) ?_
  refine r_p (pc' := 11) (p_iconst (n := 0) (v := 0) (by decide +kernel) rfl) ?_
  refine r_p (pc' := 13) (p_istore (i := 6) (lv' := [(6, vi 0), (5, vi 1), (4, vi a1), (3, vi 300), (0, vr a0), (1, vi a1), (2, vi a2)]) (by decide +kernel) (Nat.le_of_ble_eq_true rfl) rfl) ?_
  refine r_sub (lv' := [(0, vr a0), (1, vi a1), (2, vi a2), (3, vi 300), (4, vi a1), (5, vi 1), (6, vi 0)]) [4, 5, 6, 3, 2, 1, 0] rfl ?_
  refine r_loop2 (fun (e18 : Int32 ⊕ Unit) => match e18 with | .inl _ => 88 | .inr _ => 105) (fun (e18 : Int32 ⊕ Unit) => match e18 with | .inl e18 => [(3, vi e18)] | .inr e18 => []) (fun (x1 : Int32 × Int32 × Int32 × Int32) => [(0, vr a0), (1, vi a1), (2, vi a2), (3, vi x1.1), (4, vi x1.2.1), (5, vi x1.2.2.1), (6, vi x1.2.2.2)]) (fun e18 s => ?_) (fun K2 hb3 he4 x1 s => ?_) (300, a1, 1, 0) _
  · rcases e18 with e18 | e18
    · show Rr _ _ 88 [(3, vi e18)] [] _ _ _ _
      refine r_p (pc' := 89) (p_iload_n 0 (k := 3) (by decide +kernel) rfl) ?_
      exact r_iret rfl rfl _ rfl rfl (by decide +kernel)
    · show Rr _ _ 105 [] [] _ _ _ _
      refine r_p (pc' := 108) (p_sipush (n := 257) (v := 257) (by decide +kernel) (by decide +kernel)) ?_
      exact r_iret rfl rfl _ rfl rfl (by decide +kernel)
  · unfold mX10_wordOfl_L13
    refine r_p (pc' := 15) (p_iload 6 (i := 6) (by decide +kernel) rfl) ?_
    refine r_p (pc' := 17) (p_ldcS (i := 107) (j := 0) (text := "handle head joint nailed edge wear guilt harm hard master day tool answer plead heir blunt if and or not part nail damp need limit ") (by decide +kernel) (by decide +kernel)) ?_
    refine r_slen2 (idx := 109) (tblG_of 840 (by decide +kernel) (by decide +kernel)) (Nat.le_of_ble_eq_true rfl) (Nat.le_of_ble_eq_true rfl) (by decide +kernel) fun s => ?_
    refine r_icmpge (off := 85) (tgt := 105) (by decide +kernel) (by decide) (fun h5 => ?_) (fun h5 => ?_)
    · refine r_sub (lv' := []) [] rfl ?_
      exact he4 ((.inr ())) _
    · refine r_p (pc' := 25) (p_ldcS (i := 107) (j := 0) (text := "handle head joint nailed edge wear guilt harm hard master day tool answer plead heir blunt if and or not part nail damp need limit ") (by decide +kernel) (by decide +kernel)) ?_
      refine r_p (pc' := 27) (p_iload 6 (i := 6) (by decide +kernel) rfl) ?_
      refine r_schar (idx := 114) (tblG_of 850 (by decide +kernel) (by decide +kernel)) (Nat.le_of_ble_eq_true rfl) (Nat.le_of_ble_eq_true rfl) (by decide +kernel) fun v6 s => ?_
      refine r_p (pc' := 32) (p_istore (i := 7) (lv' := [(7, vi v6), (0, vr a0), (1, vi a1), (2, vi a2), (3, vi x1.1), (4, vi x1.2.1), (5, vi x1.2.2.1), (6, vi x1.2.2.2)]) (by decide +kernel) (Nat.le_of_ble_eq_true rfl) rfl) ?_
      refine r_p (pc' := 34) (p_iload 0 (i := 7) (by decide +kernel) rfl) ?_
      refine r_p (pc' := 36) (p_bipush (n := 32) (v := 32) (by decide +kernel) (by decide +kernel)) ?_
      refine r_icmpeq (off := 41) (tgt := 77) (by decide +kernel) (by decide) (fun h7 => ?_) (fun h7 => ?_)
      · refine r_p (pc' := 79) (p_iload 6 (i := 5) (by decide +kernel) rfl) ?_
        refine r_ifeq (off := 11) (tgt := 90) (by decide +kernel) (by decide) (fun h8 => ?_) (fun h8 => ?_)
        · refine r_p (pc' := 93) (p_iinc 4 (i := 3) (n := 1) (x := x1.1) (v := x1.1 + 1) (lv' := [(3, vi (x1.1 + 1)), (7, vi v6), (0, vr a0), (1, vi a1), (2, vi a2), (4, vi x1.2.1), (5, vi x1.2.2.1), (6, vi x1.2.2.2)]) (by decide +kernel) rfl rfl (Nat.le_of_ble_eq_true rfl) rfl) ?_
          refine r_p (pc' := 94) (p_iload_n 3 (k := 1) (by decide +kernel) rfl) ?_
          refine r_p (pc' := 96) (p_istore (i := 4) (lv' := [(4, vi a1), (3, vi (x1.1 + 1)), (7, vi v6), (0, vr a0), (1, vi a1), (2, vi a2), (5, vi x1.2.2.1), (6, vi x1.2.2.2)]) (by decide +kernel) (Nat.le_of_ble_eq_true rfl) rfl) ?_
          refine r_p (pc' := 97) (p_iconst (n := 1) (v := 1) (by decide +kernel) rfl) ?_
          refine r_p (pc' := 99) (p_istore (i := 5) (lv' := [(5, vi 1), (4, vi a1), (3, vi (x1.1 + 1)), (7, vi v6), (0, vr a0), (1, vi a1), (2, vi a2), (6, vi x1.2.2.2)]) (by decide +kernel) (Nat.le_of_ble_eq_true rfl) rfl) ?_
          refine r_p (pc' := 102) (p_iinc 7 (i := 6) (n := 1) (x := x1.2.2.2) (v := x1.2.2.2 + 1) (lv' := [(6, vi (x1.2.2.2 + 1)), (5, vi 1), (4, vi a1), (3, vi (x1.1 + 1)), (7, vi v6), (0, vr a0), (1, vi a1), (2, vi a2)]) (by decide +kernel) rfl rfl (Nat.le_of_ble_eq_true rfl) rfl) ?_
          refine r_p (pc' := 13) (p_goto (off := -89) (tgt := 13) (by decide +kernel) (by decide)) ?_
          refine r_sub (lv' := [(0, vr a0), (1, vi a1), (2, vi a2), (3, vi (x1.1 + 1)), (4, vi a1), (5, vi 1), (6, vi (x1.2.2.2 + 1))]) [5, 6, 7, 3, 2, 1, 0] rfl ?_
          exact hb3 (x1.1 + 1, a1, 1, x1.2.2.2 + 1) _
        · refine r_p (pc' := 84) (p_iload 5 (i := 4) (by decide +kernel) rfl) ?_
          refine r_p (pc' := 85) (p_iload_n 3 (k := 2) (by decide +kernel) rfl) ?_
          refine r_icmpne (off := 5) (tgt := 90) (by decide +kernel) (by decide) (fun h9 => ?_) (fun h9 => ?_)
          · refine r_sub (lv' := [(3, vi x1.1)]) [4] rfl ?_
            exact he4 (.inl x1.1) _
          · refine r_p (pc' := 93) (p_iinc 4 (i := 3) (n := 1) (x := x1.1) (v := x1.1 + 1) (lv' := [(3, vi (x1.1 + 1)), (7, vi v6), (0, vr a0), (1, vi a1), (2, vi a2), (4, vi x1.2.1), (5, vi x1.2.2.1), (6, vi x1.2.2.2)]) (by decide +kernel) rfl rfl (Nat.le_of_ble_eq_true rfl) rfl) ?_
            refine r_p (pc' := 94) (p_iload_n 3 (k := 1) (by decide +kernel) rfl) ?_
            refine r_p (pc' := 96) (p_istore (i := 4) (lv' := [(4, vi a1), (3, vi (x1.1 + 1)), (7, vi v6), (0, vr a0), (1, vi a1), (2, vi a2), (5, vi x1.2.2.1), (6, vi x1.2.2.2)]) (by decide +kernel) (Nat.le_of_ble_eq_true rfl) rfl) ?_
            refine r_p (pc' := 97) (p_iconst (n := 1) (v := 1) (by decide +kernel) rfl) ?_
            refine r_p (pc' := 99) (p_istore (i := 5) (lv' := [(5, vi 1), (4, vi a1), (3, vi (x1.1 + 1)), (7, vi v6), (0, vr a0), (1, vi a1), (2, vi a2), (6, vi x1.2.2.2)]) (by decide +kernel) (Nat.le_of_ble_eq_true rfl) rfl) ?_
            refine r_p (pc' := 102) (p_iinc 7 (i := 6) (n := 1) (x := x1.2.2.2) (v := x1.2.2.2 + 1) (lv' := [(6, vi (x1.2.2.2 + 1)), (5, vi 1), (4, vi a1), (3, vi (x1.1 + 1)), (7, vi v6), (0, vr a0), (1, vi a1), (2, vi a2)]) (by decide +kernel) rfl rfl (Nat.le_of_ble_eq_true rfl) rfl) ?_
            refine r_p (pc' := 13) (p_goto (off := -89) (tgt := 13) (by decide +kernel) (by decide)) ?_
            refine r_sub (lv' := [(0, vr a0), (1, vi a1), (2, vi a2), (3, vi (x1.1 + 1)), (4, vi a1), (5, vi 1), (6, vi (x1.2.2.2 + 1))]) [5, 6, 7, 3, 2, 1, 0] rfl ?_
            exact hb3 (x1.1 + 1, a1, 1, x1.2.2.2 + 1) _
      · refine r_p (pc' := 41) (p_iload 6 (i := 5) (by decide +kernel) rfl) ?_
        refine r_join 69 (fun (x11 : Int32) => [(0, vr a0), (1, vi a1), (2, vi a2), (3, vi x1.1), (4, vi x1.2.1), (6, vi x1.2.2.2)]) (fun (x11 : Int32) => [vi x11]) (fun x11 s => ?_) (fun K12 hj13 => ?_)
        · refine r_p (pc' := 71) (p_istore (i := 5) (lv' := [(5, vi x11), (0, vr a0), (1, vi a1), (2, vi a2), (3, vi x1.1), (4, vi x1.2.1), (6, vi x1.2.2.2)]) (by decide +kernel) (Nat.le_of_ble_eq_true rfl) rfl) ?_
          refine r_p (pc' := 74) (p_iinc 5 (i := 4) (n := 1) (x := x1.2.1) (v := x1.2.1 + 1) (lv' := [(4, vi (x1.2.1 + 1)), (5, vi x11), (0, vr a0), (1, vi a1), (2, vi a2), (3, vi x1.1), (6, vi x1.2.2.2)]) (by decide +kernel) rfl rfl (Nat.le_of_ble_eq_true rfl) rfl) ?_
          refine r_p (pc' := 99) (p_goto (off := 25) (tgt := 99) (by decide +kernel) (by decide)) ?_
          refine r_p (pc' := 102) (p_iinc 6 (i := 6) (n := 1) (x := x1.2.2.2) (v := x1.2.2.2 + 1) (lv' := [(6, vi (x1.2.2.2 + 1)), (4, vi (x1.2.1 + 1)), (5, vi x11), (0, vr a0), (1, vi a1), (2, vi a2), (3, vi x1.1)]) (by decide +kernel) rfl rfl (Nat.le_of_ble_eq_true rfl) rfl) ?_
          refine r_p (pc' := 13) (p_goto (off := -89) (tgt := 13) (by decide +kernel) (by decide)) ?_
          refine r_sub (lv' := [(0, vr a0), (1, vi a1), (2, vi a2), (3, vi x1.1), (4, vi (x1.2.1 + 1)), (5, vi x11), (6, vi (x1.2.2.2 + 1))]) [3, 4, 5, 6, 1, 2, 0] rfl ?_
          exact hb3 (x1.1, x1.2.1 + 1, x11, x1.2.2.2 + 1) _
        · refine r_ifeq (off := 27) (tgt := 68) (by decide +kernel) (by decide) (fun h10 => ?_) (fun h10 => ?_)
          · refine r_p (pc' := 69) (p_iconst (n := 0) (v := 0) (by decide +kernel) rfl) ?_
            refine r_sub (lv' := [(0, vr a0), (1, vi a1), (2, vi a2), (3, vi x1.1), (4, vi x1.2.1), (6, vi x1.2.2.2)]) [1, 2, 3, 4, 5, 7] rfl ?_
            exact hj13 0 _
          · refine r_p (pc' := 46) (p_iload 5 (i := 4) (by decide +kernel) rfl) ?_
            refine r_p (pc' := 47) (p_iload_n 3 (k := 2) (by decide +kernel) rfl) ?_
            refine r_icmpge (off := 21) (tgt := 68) (by decide +kernel) (by decide) (fun h14 => ?_) (fun h14 => ?_)
            · refine r_p (pc' := 69) (p_iconst (n := 0) (v := 0) (by decide +kernel) rfl) ?_
              refine r_sub (lv' := [(0, vr a0), (1, vi a1), (2, vi a2), (3, vi x1.1), (4, vi x1.2.1), (6, vi x1.2.2.2)]) [1, 2, 3, 4, 5, 7] rfl ?_
              exact hj13 0 _
            · refine r_p (pc' := 51) (p_aload_n 1 (k := 0) (by decide +kernel) rfl) ?_
              refine r_gR flX10_28_5 (by decide +kernel) fun v15 => ?_
              refine r_p (pc' := 56) (p_iload 5 (i := 4) (by decide +kernel) rfl) ?_
              refine r_callVI mvX10_75 (ctX9_byteAt v15 x1.2.1) (rcX9_byteAt v15 x1.2.1) ⟨_, _, rfl⟩ (as := [vi x1.2.1]) (st := []) rfl rfl (by decide +kernel) rfl (Nat.le_of_ble_eq_true rfl) (Nat.le_of_ble_eq_true rfl) fun v16 s => ?_
              refine r_p (pc' := 61) (p_iload 0 (i := 7) (by decide +kernel) rfl) ?_
              refine r_icmpne (off := 7) (tgt := 68) (by decide +kernel) (by decide) (fun h17 => ?_) (fun h17 => ?_)
              · refine r_p (pc' := 65) (p_iconst (n := 1) (v := 1) (by decide +kernel) rfl) ?_
                refine r_p (pc' := 69) (p_goto (off := 4) (tgt := 69) (by decide +kernel) (by decide)) ?_
                refine r_sub (lv' := [(0, vr a0), (1, vi a1), (2, vi a2), (3, vi x1.1), (4, vi x1.2.1), (6, vi x1.2.2.2)]) [1, 2, 3, 4, 5, 7] rfl ?_
                exact hj13 1 _
              · refine r_p (pc' := 69) (p_iconst (n := 0) (v := 0) (by decide +kernel) rfl) ?_
                refine r_sub (lv' := [(0, vr a0), (1, vi a1), (2, vi a2), (3, vi x1.1), (4, vi x1.2.1), (6, vi x1.2.2.2)]) [1, 2, 3, 4, 5, 7] rfl ?_
                exact hj13 0 _
def aX10_goOnl : StA := (RX10, cX10_goOn, 2, none, yX10_goOn, 8, [])
theorem fpX10_58_5 : FP RX10 58 5 6 .int false := ⟨_, TX5, 18, "ToolCourt$TextReader", tyX5, rfl, by decide, Or.inl (tblG_of 424 (by decide +kernel) (by decide +kernel)), Or.inl rfl, tyX5_ok, nmX5, rfl, by decide, by decide +kernel⟩
theorem flX10_58_5 : FL RX10 58 5 6 := ⟨_, TX5, 18, "ToolCourt$TextReader", rfl, by decide, Or.inl (tblG_of 424 (by decide +kernel) (by decide +kernel)), Or.inl rfl⟩
theorem fpX10_41_5 : FP RX10 41 5 7 .int false := ⟨_, TX5, 18, "ToolCourt$TextReader", tyX5, rfl, by decide, Or.inl (tblG_of 429 (by decide +kernel) (by decide +kernel)), Or.inl rfl, tyX5_ok, nmX5, rfl, by decide, by decide +kernel⟩
theorem fpX10_52_5 : FP RX10 52 5 8 .int false := ⟨_, TX5, 18, "ToolCourt$TextReader", tyX5, rfl, by decide, Or.inl (tblG_of 434 (by decide +kernel) (by decide +kernel)), Or.inl rfl, tyX5_ok, nmX5, rfl, by decide, by decide +kernel⟩
noncomputable def mX10_goOnl (a0 : Nat) : MM Unit := onC 5 a0 (
  mbnd (gI 5 6 a0) fun (v1 : Int32) =>
  mbnd (pI 5 6 a0 (v1 + 1)) fun _ =>
  mbnd (gI 5 6 a0) fun (v2 : Int32) =>
  mbnd (α := Int32) (
    if v2 < 0 then (
      mret 0
    ) else (
      mbnd (gI 5 6 a0) fun (v7 : Int32) =>
      mbnd (gI 5 5 a0) fun (v8 : Int32) =>
      if v8 ≤ v7 then (
        mret 0
      ) else (
        mbnd (gI 5 6 a0) fun (v10 : Int32) =>
        if 400 ≤ v10 then (
          mret 0
        ) else (
          mret 1
        )
      )
    )
  ) fun (x4 : Int32) =>
  mbnd (α := Int32) (
    if x4 = 0 then (
      mret (-1)
    ) else (
      mbnd (gR 5 1 a0) fun (v16 : Nat) =>
      mbnd (gI 5 6 a0) fun (v17 : Int32) =>
      mbnd (ldI 0 v16 v17) fun (v18 : Int32) =>
      mret v18
    )
  ) fun (x13 : Int32) =>
  mbnd (pI 5 7 a0 x13) fun _ =>
  if x4 = 0 then (
    mbnd (gR 5 0 a0) fun (v20 : Nat) =>
    mbnd (gI 9 1 v20) fun (v21 : Int32) =>
    mbnd (pI 5 8 a0 v21) fun _ =>
    mret ()
  ) else (
    mbnd (gR 5 2 a0) fun (v22 : Nat) =>
    mbnd (gI 5 6 a0) fun (v23 : Int32) =>
    mbnd (ldI 0 v22 v23) fun (v24 : Int32) =>
    mbnd (pI 5 8 a0 v24) fun _ =>
    mret ()
  )
  )
theorem rcX10_goOnl (a0 : Nat) : Rcv 5 a0 (mX10_goOnl a0) := fun s r h => ⟨(onC_some h).1, (onC_some h).2.1⟩
set_option maxHeartbeats 4000000 in
set_option maxRecDepth 100000 in
theorem ctX10_goOnl (a0 : Nat) : Ct aX10_goOnl [vr a0] (mX10_goOnl a0) rU := by
  unfold mX10_goOnl
  refine ct_onC (ct_intro (by decide +kernel) rfl (Nat.le_of_ble_eq_true rfl) fun Y s => ?_)
  refine r_sub (lv' := [(0, vr a0)]) [0] rfl ?_
  refine r_p (pc' := 1) (p_aload_n 0 (k := 0) (by decide +kernel) rfl) ?_
  refine r_p (pc' := 2) (p_dup rfl (by decide +kernel)) ?_
  refine r_gI flX10_58_5 (by decide +kernel) fun v1 => ?_
  refine r_p (pc' := 6) (p_iconst (n := 1) (v := 1) (by decide +kernel) rfl) ?_
  refine r_p (pc' := 7) (p_iadd (by decide +kernel)) ?_
  refine r_pI fpX10_58_5 (fun h => by cases h) (by decide +kernel) fun s => ?_
  refine r_p (pc' := 11) (p_aload_n 0 (k := 0) (by decide +kernel) rfl) ?_
  refine r_gI flX10_58_5 (by decide +kernel) fun v2 => ?_
  refine r_join 43 (fun (x4 : Int32) => [(0, vr a0)]) (fun (x4 : Int32) => [vi x4]) (fun x4 s => ?_) (fun K5 hj6 => ?_)
  · refine r_p (pc' := 44) (p_istore_n (k := 1) (lv' := [(1, vi x4), (0, vr a0)]) (by decide +kernel) (Nat.le_of_ble_eq_true rfl) rfl) ?_
    refine r_p (pc' := 45) (p_aload_n 1 (k := 0) (by decide +kernel) rfl) ?_
    refine r_p (pc' := 46) (p_iload_n 0 (k := 1) (by decide +kernel) rfl) ?_
    refine r_join 62 (fun (x13 : Int32) => [(0, vr a0), (1, vi x4)]) (fun (x13 : Int32) => [vi x13, vr a0]) (fun x13 s => ?_) (fun K14 hj15 => ?_)
    · refine r_pI fpX10_41_5 (fun h => by cases h) (by decide +kernel) fun s => ?_
      refine r_p (pc' := 66) (p_aload_n 0 (k := 0) (by decide +kernel) rfl) ?_
      refine r_p (pc' := 67) (p_iload_n 1 (k := 1) (by decide +kernel) rfl) ?_
      refine r_ifeq (off := 15) (tgt := 82) (by decide +kernel) (by decide) (fun h19 => ?_) (fun h19 => ?_)
      · refine r_p (pc' := 83) (p_aload_n 0 (k := 0) (by decide +kernel) rfl) ?_
        refine r_gR flX10_28_5 (by decide +kernel) fun v20 => ?_
        refine r_gI flX10_64_9 (by decide +kernel) fun v21 => ?_
        refine r_pI fpX10_52_5 (fun h => by cases h) (by decide +kernel) fun s => ?_
        exact r_vret (y9 := ()) rfl rfl rfl (by decide +kernel)
      · refine r_p (pc' := 71) (p_aload_n 0 (k := 0) (by decide +kernel) rfl) ?_
        refine r_gR flX10_15_5 (by decide +kernel) fun v22 => ?_
        refine r_p (pc' := 75) (p_aload_n 0 (k := 0) (by decide +kernel) rfl) ?_
        refine r_gI flX10_58_5 (by decide +kernel) fun v23 => ?_
        refine r_ldI0 (by decide +kernel) fun v24 => ?_
        refine r_p (pc' := 89) (p_goto (off := 10) (tgt := 89) (by decide +kernel) (by decide)) ?_
        refine r_pI fpX10_52_5 (fun h => by cases h) (by decide +kernel) fun s => ?_
        exact r_vret (y9 := ()) rfl rfl rfl (by decide +kernel)
    · refine r_ifeq (off := 15) (tgt := 61) (by decide +kernel) (by decide) (fun h12 => ?_) (fun h12 => ?_)
      · refine r_p (pc' := 62) (p_iconst (n := -1) (v := -1) (by decide +kernel) rfl) ?_
        refine r_sub (lv' := [(0, vr a0), (1, vi x4)]) [1, 0] rfl ?_
        exact hj15 (-1) _
      · refine r_p (pc' := 50) (p_aload_n 1 (k := 0) (by decide +kernel) rfl) ?_
        refine r_gR flX10_9_5 (by decide +kernel) fun v16 => ?_
        refine r_p (pc' := 54) (p_aload_n 1 (k := 0) (by decide +kernel) rfl) ?_
        refine r_gI flX10_58_5 (by decide +kernel) fun v17 => ?_
        refine r_ldI0 (by decide +kernel) fun v18 => ?_
        refine r_p (pc' := 62) (p_goto (off := 4) (tgt := 62) (by decide +kernel) (by decide)) ?_
        refine r_sub (lv' := [(0, vr a0), (1, vi x4)]) [1, 0] rfl ?_
        exact hj15 v18 _
  · refine r_iflt (off := 28) (tgt := 42) (by decide +kernel) (by decide) (fun h3 => ?_) (fun h3 => ?_)
    · refine r_p (pc' := 43) (p_iconst (n := 0) (v := 0) (by decide +kernel) rfl) ?_
      exact hj6 0 _
    · refine r_p (pc' := 18) (p_aload_n 0 (k := 0) (by decide +kernel) rfl) ?_
      refine r_gI flX10_58_5 (by decide +kernel) fun v7 => ?_
      refine r_p (pc' := 22) (p_aload_n 0 (k := 0) (by decide +kernel) rfl) ?_
      refine r_gI flX10_61_5 (by decide +kernel) fun v8 => ?_
      refine r_icmpge (off := 17) (tgt := 42) (by decide +kernel) (by decide) (fun h9 => ?_) (fun h9 => ?_)
      · refine r_p (pc' := 43) (p_iconst (n := 0) (v := 0) (by decide +kernel) rfl) ?_
        exact hj6 0 _
      · refine r_p (pc' := 29) (p_aload_n 0 (k := 0) (by decide +kernel) rfl) ?_
        refine r_gI flX10_58_5 (by decide +kernel) fun v10 => ?_
        refine r_p (pc' := 35) (p_sipush (n := 400) (v := 400) (by decide +kernel) (by decide +kernel)) ?_
        refine r_icmpge (off := 7) (tgt := 42) (by decide +kernel) (by decide) (fun h11 => ?_) (fun h11 => ?_)
        · refine r_p (pc' := 43) (p_iconst (n := 0) (v := 0) (by decide +kernel) rfl) ?_
          exact hj6 0 _
        · refine r_p (pc' := 39) (p_iconst (n := 1) (v := 1) (by decide +kernel) rfl) ?_
          refine r_p (pc' := 43) (p_goto (off := 4) (tgt := 43) (by decide +kernel) (by decide)) ?_
          exact hj6 1 _
def aX10_splitl : StA := (RX10, cX10_split, 4, none, yX10_split, 10, [])
theorem muX10_89l : MU RX10 89 "ToolCourt$LawReader" "ToolCourt$TextReader" ⟨"ToolCourt$TextReader", "note", "(IIII)V"⟩ aX10_notel 4 := ⟨tblG_of 888 (by decide +kernel) (by decide +kernel), tblG_of 890 (by decide +kernel) (by decide +kernel), tblG_of 2390 (by decide +kernel) (by decide +kernel), tblG_of 2358 (by decide +kernel) (by decide +kernel), tblG_of 154 (by decide +kernel) (by decide +kernel), tblG_of 891 (by decide +kernel) (by decide +kernel), rfl, ⟨by decide, by decide⟩, by decide +kernel, by decide, Or.inl rfl⟩
theorem muX10_96l : MU RX10 96 "ToolCourt$LawReader" "ToolCourt$TextReader" ⟨"ToolCourt$TextReader", "numberEnd", "(I)I"⟩ aX10_numberEndl 1 := ⟨tblG_of 895 (by decide +kernel) (by decide +kernel), tblG_of 897 (by decide +kernel) (by decide +kernel), tblG_of 2392 (by decide +kernel) (by decide +kernel), tblG_of 2359 (by decide +kernel) (by decide +kernel), tblG_of 154 (by decide +kernel) (by decide +kernel), tblG_of 898 (by decide +kernel) (by decide +kernel), rfl, ⟨by decide, by decide⟩, by decide +kernel, by decide, Or.inl rfl⟩
theorem muX10_99l : MU RX10 99 "ToolCourt$LawReader" "ToolCourt$TextReader" ⟨"ToolCourt$TextReader", "numberOf", "(II)I"⟩ aX10_numberOfl 2 := ⟨tblG_of 899 (by decide +kernel) (by decide +kernel), tblG_of 901 (by decide +kernel) (by decide +kernel), tblG_of 2393 (by decide +kernel) (by decide +kernel), tblG_of 2360 (by decide +kernel) (by decide +kernel), tblG_of 154 (by decide +kernel) (by decide +kernel), tblG_of 902 (by decide +kernel) (by decide +kernel), rfl, ⟨by decide, by decide⟩, by decide +kernel, by decide, Or.inl rfl⟩
theorem muX10_82l : MU RX10 82 "ToolCourt$LawReader" "ToolCourt$TextReader" ⟨"ToolCourt$TextReader", "wordEnd", "(I)I"⟩ aX10_wordEndl 1 := ⟨tblG_of 831 (by decide +kernel) (by decide +kernel), tblG_of 833 (by decide +kernel) (by decide +kernel), tblG_of 2391 (by decide +kernel) (by decide +kernel), tblG_of 2356 (by decide +kernel) (by decide +kernel), tblG_of 154 (by decide +kernel) (by decide +kernel), tblG_of 834 (by decide +kernel) (by decide +kernel), rfl, ⟨by decide, by decide⟩, by decide +kernel, by decide, Or.inl rfl⟩
theorem muX10_85l : MU RX10 85 "ToolCourt$LawReader" "ToolCourt$TextReader" ⟨"ToolCourt$TextReader", "wordOf", "(II)I"⟩ aX10_wordOfl 2 := ⟨tblG_of 835 (by decide +kernel) (by decide +kernel), tblG_of 837 (by decide +kernel) (by decide +kernel), tblG_of 2394 (by decide +kernel) (by decide +kernel), tblG_of 2357 (by decide +kernel) (by decide +kernel), tblG_of 154 (by decide +kernel) (by decide +kernel), tblG_of 838 (by decide +kernel) (by decide +kernel), rfl, ⟨by decide, by decide⟩, by decide +kernel, by decide, Or.inl rfl⟩
theorem muX10_69l : MU RX10 69 "ToolCourt$LawReader" "ToolCourt$TextReader" ⟨"ToolCourt$TextReader", "goOn", "()V"⟩ aX10_goOnl 0 := ⟨tblG_of 904 (by decide +kernel) (by decide +kernel), tblG_of 905 (by decide +kernel) (by decide +kernel), tblG_of 907 (by decide +kernel) (by decide +kernel), tblG_of 906 (by decide +kernel) (by decide +kernel), tblG_of 154 (by decide +kernel) (by decide +kernel), tblG_of 909 (by decide +kernel) (by decide +kernel), rfl, ⟨by decide, by decide⟩, by decide +kernel, by decide, Or.inl rfl⟩
noncomputable def mX10_splitl_L7 (a0 : Nat) (x1 : Int32) : MM ((Int32) ⊕ (Unit)) :=
  mbnd (gR 5 0 a0) fun (v5 : Nat) =>
  mbnd (gI 9 1 v5) fun (v6 : Int32) =>
  if v6 ≤ x1 then (
    mret (.inr ())
  ) else (
    mbnd (mret (x1 + 1)) fun (v8 : Int32) =>
    mbnd (gR 5 0 a0) fun (v9 : Nat) =>
    mbnd (mX9_byteAt v9 x1) fun (v10 : Int32) =>
    mbnd (mX10_isLetter v10) fun (v11 : Int32) =>
    mbnd (α := Int32) (
      if v11 = 0 then (
        mbnd (mX10_isDigit v10) fun (v16 : Int32) =>
        if v16 = 0 then (
          if v10 = 32 then (
            mret v8
          ) else (
            mbnd (nox (mX10_notel a0 v10 x1 0 0)) fun _ =>
            mret v8
          )
        ) else (
          mbnd (nox (mX10_numberEndl a0 x1)) fun (v19 : Int32) =>
          mbnd (nox (mX10_numberOfl a0 x1 v19)) fun (v20 : Int32) =>
          mbnd (nox (mX10_notel a0 256 x1 (v19 - x1) v20)) fun _ =>
          mret v19
        )
      ) else (
        mbnd (nox (mX10_wordEndl a0 x1)) fun (v21 : Int32) =>
        mbnd (nox (mX10_wordOfl a0 x1 v21)) fun (v22 : Int32) =>
        mbnd (nox (mX10_notel a0 v22 x1 0 0)) fun _ =>
        mret v21
      )
    ) fun (x13 : Int32) =>
    mbnd (mret (imax x13 (x1 + 1))) fun (v23 : Int32) =>
    mret (.inl v23)
  )
noncomputable def mX10_splitl (a0 : Nat) : MM Unit := onC 5 a0 (
  mbnd (pI 5 5 a0 0) fun _ =>
  mbnd (loopM (mX10_splitl_L7 a0) 0) fun (e24 : Unit) =>
  mbnd (pI 5 6 a0 (-1)) fun _ =>
  mbnd (nox (mX10_goOnl a0)) fun _ =>
  mret ()
  )
theorem rcX10_splitl (a0 : Nat) : Rcv 5 a0 (mX10_splitl a0) := fun s r h => ⟨(onC_some h).1, (onC_some h).2.1⟩
set_option maxHeartbeats 4000000 in
set_option maxRecDepth 100000 in
theorem ctX10_splitl (a0 : Nat) : Ct aX10_splitl [vr a0] (mX10_splitl a0) rU := by
  unfold mX10_splitl
  refine ct_onC (ct_intro (by decide +kernel) rfl (Nat.le_of_ble_eq_true rfl) fun Y s => ?_)
  refine r_sub (lv' := [(0, vr a0)]) [0] rfl ?_
  refine r_p (pc' := 1) (p_aload_n 0 (k := 0) (by decide +kernel) rfl) ?_
  refine r_p (pc' := 2) (p_iconst (n := 0) (v := 0) (by decide +kernel) rfl) ?_
  refine r_pI fpX10_61_5 (fun h => by cases h) (by decide +kernel) fun s => ?_
  refine r_p (pc' := 6) (p_iconst (n := 0) (v := 0) (by decide +kernel) rfl) ?_
  refine r_p (pc' := 7) (p_istore_n (k := 1) (lv' := [(1, vi 0), (0, vr a0)]) (by decide +kernel) (Nat.le_of_ble_eq_true rfl) rfl) ?_
  refine r_sub (lv' := [(0, vr a0), (1, vi 0)]) [1, 0] rfl ?_
  refine r_loop2 (fun _ => 118) (fun (e24 : Unit) => [(0, vr a0)]) (fun (x1 : Int32) => [(0, vr a0), (1, vi x1)]) (fun e24 s => ?_) (fun K2 hb3 he4 x1 s => ?_) 0 _
  · refine r_p (pc' := 119) (p_aload_n 0 (k := 0) (by decide +kernel) rfl) ?_
    refine r_p (pc' := 120) (p_iconst (n := -1) (v := -1) (by decide +kernel) rfl) ?_
    refine r_pI fpX10_58_5 (fun h => by cases h) (by decide +kernel) fun s => ?_
    refine r_p (pc' := 124) (p_aload_n 0 (k := 0) (by decide +kernel) rfl) ?_
    refine r_callUU muX10_69l (ctX10_goOnl a0) (rcX10_goOnl a0) ⟨_, _, rfl⟩ (as := []) (st := []) rfl rfl (by decide +kernel) rfl (Nat.le_of_ble_eq_true rfl) (Nat.le_of_ble_eq_true rfl) fun s => ?_
    exact r_vret (y9 := ()) rfl rfl rfl (by decide +kernel)
  · unfold mX10_splitl_L7
    refine r_p (pc' := 8) (p_iload_n 1 (k := 1) (by decide +kernel) rfl) ?_
    refine r_p (pc' := 9) (p_aload_n 0 (k := 0) (by decide +kernel) rfl) ?_
    refine r_gR flX10_28_5 (by decide +kernel) fun v5 => ?_
    refine r_gI flX10_64_9 (by decide +kernel) fun v6 => ?_
    refine r_icmpge (off := 103) (tgt := 118) (by decide +kernel) (by decide) (fun h7 => ?_) (fun h7 => ?_)
    · refine r_sub (lv' := [(0, vr a0)]) [0] rfl ?_
      exact he4 () _
    · refine r_p (pc' := 19) (p_iload_n 1 (k := 1) (by decide +kernel) rfl) ?_
      refine r_p (pc' := 20) (p_iconst (n := 1) (v := 1) (by decide +kernel) rfl) ?_
      refine r_p (pc' := 21) (p_iadd (by decide +kernel)) ?_
      refine r_letI fun v8 => ?_
      refine r_p (pc' := 22) (p_istore_n (k := 2) (lv' := [(2, vi v8), (0, vr a0), (1, vi x1)]) (by decide +kernel) (Nat.le_of_ble_eq_true rfl) rfl) ?_
      refine r_p (pc' := 23) (p_aload_n 1 (k := 0) (by decide +kernel) rfl) ?_
      refine r_gR flX10_28_5 (by decide +kernel) fun v9 => ?_
      refine r_p (pc' := 27) (p_iload_n 2 (k := 1) (by decide +kernel) rfl) ?_
      refine r_callVI mvX10_75 (ctX9_byteAt v9 x1) (rcX9_byteAt v9 x1) ⟨_, _, rfl⟩ (as := [vi x1]) (st := []) rfl rfl (by decide +kernel) rfl (Nat.le_of_ble_eq_true rfl) (Nat.le_of_ble_eq_true rfl) fun v10 s => ?_
      refine r_p (pc' := 31) (p_istore_n (k := 3) (lv' := [(3, vi v10), (2, vi v8), (0, vr a0), (1, vi x1)]) (by decide +kernel) (Nat.le_of_ble_eq_true rfl) rfl) ?_
      refine r_p (pc' := 32) (p_iload_n 0 (k := 3) (by decide +kernel) rfl) ?_
      refine r_callSI msX10_79 (ctX10_isLetter v10) (as := [vi v10]) (st := []) rfl rfl (by decide +kernel) rfl (Nat.le_of_ble_eq_true rfl) (Nat.le_of_ble_eq_true rfl) fun v11 s => ?_
      refine r_join 107 (fun (x13 : Int32) => [(0, vr a0), (1, vi x1), (2, vi x13)]) (fun (x13 : Int32) => []) (fun x13 s => ?_) (fun K14 hj15 => ?_)
      · refine r_p (pc' := 108) (p_iload_n 2 (k := 2) (by decide +kernel) rfl) ?_
        refine r_p (pc' := 109) (p_iload_n 1 (k := 1) (by decide +kernel) rfl) ?_
        refine r_p (pc' := 110) (p_iconst (n := 1) (v := 1) (by decide +kernel) rfl) ?_
        refine r_p (pc' := 111) (p_iadd (by decide +kernel)) ?_
        refine r_p (pc' := 114) (p_max (idx := 102) (tblG_of 903 (by decide +kernel) (by decide +kernel)) (Nat.le_of_ble_eq_true rfl) (Nat.le_of_ble_eq_true rfl) (by decide +kernel)) ?_
        refine r_letI fun v23 => ?_
        refine r_p (pc' := 115) (p_istore_n (k := 1) (lv' := [(1, vi v23), (0, vr a0), (2, vi x13)]) (by decide +kernel) (Nat.le_of_ble_eq_true rfl) rfl) ?_
        refine r_p (pc' := 7) (p_goto (off := -108) (tgt := 7) (by decide +kernel) (by decide)) ?_
        refine r_sub (lv' := [(0, vr a0), (1, vi v23)]) [1, 0] rfl ?_
        exact hb3 v23 _
      · refine r_ifeq (off := 25) (tgt := 60) (by decide +kernel) (by decide) (fun h12 => ?_) (fun h12 => ?_)
        · refine r_p (pc' := 61) (p_iload_n 0 (k := 3) (by decide +kernel) rfl) ?_
          refine r_callSI msX10_93 (ctX10_isDigit v10) (as := [vi v10]) (st := []) rfl rfl (by decide +kernel) rfl (Nat.le_of_ble_eq_true rfl) (Nat.le_of_ble_eq_true rfl) fun v16 s => ?_
          refine r_ifeq (off := 29) (tgt := 93) (by decide +kernel) (by decide) (fun h17 => ?_) (fun h17 => ?_)
          · refine r_p (pc' := 94) (p_iload_n 0 (k := 3) (by decide +kernel) rfl) ?_
            refine r_p (pc' := 96) (p_bipush (n := 32) (v := 32) (by decide +kernel) (by decide +kernel)) ?_
            refine r_icmpeq (off := 11) (tgt := 107) (by decide +kernel) (by decide) (fun h18 => ?_) (fun h18 => ?_)
            · refine r_sub (lv' := [(0, vr a0), (1, vi x1), (2, vi v8)]) [2, 3, 1] rfl ?_
              exact hj15 v8 _
            · refine r_p (pc' := 100) (p_aload_n 2 (k := 0) (by decide +kernel) rfl) ?_
              refine r_p (pc' := 101) (p_iload_n 0 (k := 3) (by decide +kernel) rfl) ?_
              refine r_p (pc' := 102) (p_iload_n 3 (k := 1) (by decide +kernel) rfl) ?_
              refine r_p (pc' := 103) (p_iconst (n := 0) (v := 0) (by decide +kernel) rfl) ?_
              refine r_p (pc' := 104) (p_iconst (n := 0) (v := 0) (by decide +kernel) rfl) ?_
              refine r_callUU muX10_89l (ctX10_notel a0 v10 x1 0 0) (rcX10_notel a0 v10 x1 0 0) ⟨_, _, rfl⟩ (as := [vi v10, vi x1, vi 0, vi 0]) (st := []) rfl rfl (by decide +kernel) rfl (Nat.le_of_ble_eq_true rfl) (Nat.le_of_ble_eq_true rfl) fun s => ?_
              refine r_sub (lv' := [(0, vr a0), (1, vi x1), (2, vi v8)]) [2, 3, 1] rfl ?_
              exact hj15 v8 _
          · refine r_p (pc' := 68) (p_aload_n 2 (k := 0) (by decide +kernel) rfl) ?_
            refine r_p (pc' := 69) (p_iload_n 3 (k := 1) (by decide +kernel) rfl) ?_
            refine r_callUI muX10_96l (ctX10_numberEndl a0 x1) (rcX10_numberEndl a0 x1) ⟨_, _, rfl⟩ (as := [vi x1]) (st := []) rfl rfl (by decide +kernel) rfl (Nat.le_of_ble_eq_true rfl) (Nat.le_of_ble_eq_true rfl) fun v19 s => ?_
            refine r_p (pc' := 73) (p_istore_n (k := 2) (lv' := [(2, vi v19), (3, vi v10), (0, vr a0), (1, vi x1)]) (by decide +kernel) (Nat.le_of_ble_eq_true rfl) rfl) ?_
            refine r_p (pc' := 74) (p_aload_n 2 (k := 0) (by decide +kernel) rfl) ?_
            refine r_p (pc' := 77) (p_sipush (n := 256) (v := 256) (by decide +kernel) (by decide +kernel)) ?_
            refine r_p (pc' := 78) (p_iload_n 3 (k := 1) (by decide +kernel) rfl) ?_
            refine r_p (pc' := 79) (p_iload_n 0 (k := 2) (by decide +kernel) rfl) ?_
            refine r_p (pc' := 80) (p_iload_n 3 (k := 1) (by decide +kernel) rfl) ?_
            refine r_p (pc' := 81) (p_isub (by decide +kernel)) ?_
            refine r_p (pc' := 82) (p_aload_n 2 (k := 0) (by decide +kernel) rfl) ?_
            refine r_p (pc' := 83) (p_iload_n 3 (k := 1) (by decide +kernel) rfl) ?_
            refine r_p (pc' := 84) (p_iload_n 0 (k := 2) (by decide +kernel) rfl) ?_
            refine r_callUI muX10_99l (ctX10_numberOfl a0 x1 v19) (rcX10_numberOfl a0 x1 v19) ⟨_, _, rfl⟩ (as := [vi x1, vi v19]) (st := [vi (v19 - x1), vi x1, vi 256, vr a0]) rfl rfl (by decide +kernel) rfl (Nat.le_of_ble_eq_true rfl) (Nat.le_of_ble_eq_true rfl) fun v20 s => ?_
            refine r_callUU muX10_89l (ctX10_notel a0 256 x1 (v19 - x1) v20) (rcX10_notel a0 256 x1 (v19 - x1) v20) ⟨_, _, rfl⟩ (as := [vi 256, vi x1, vi (v19 - x1), vi v20]) (st := []) rfl rfl (by decide +kernel) rfl (Nat.le_of_ble_eq_true rfl) (Nat.le_of_ble_eq_true rfl) fun s => ?_
            refine r_p (pc' := 107) (p_goto (off := 17) (tgt := 107) (by decide +kernel) (by decide)) ?_
            refine r_sub (lv' := [(0, vr a0), (1, vi x1), (2, vi v19)]) [2, 3, 0] rfl ?_
            exact hj15 v19 _
        · refine r_p (pc' := 39) (p_aload_n 2 (k := 0) (by decide +kernel) rfl) ?_
          refine r_p (pc' := 40) (p_iload_n 3 (k := 1) (by decide +kernel) rfl) ?_
          refine r_callUI muX10_82l (ctX10_wordEndl a0 x1) (rcX10_wordEndl a0 x1) ⟨_, _, rfl⟩ (as := [vi x1]) (st := []) rfl rfl (by decide +kernel) rfl (Nat.le_of_ble_eq_true rfl) (Nat.le_of_ble_eq_true rfl) fun v21 s => ?_
          refine r_p (pc' := 44) (p_istore_n (k := 2) (lv' := [(2, vi v21), (3, vi v10), (0, vr a0), (1, vi x1)]) (by decide +kernel) (Nat.le_of_ble_eq_true rfl) rfl) ?_
          refine r_p (pc' := 45) (p_aload_n 2 (k := 0) (by decide +kernel) rfl) ?_
          refine r_p (pc' := 46) (p_aload_n 2 (k := 0) (by decide +kernel) rfl) ?_
          refine r_p (pc' := 47) (p_iload_n 3 (k := 1) (by decide +kernel) rfl) ?_
          refine r_p (pc' := 48) (p_iload_n 0 (k := 2) (by decide +kernel) rfl) ?_
          refine r_callUI muX10_85l (ctX10_wordOfl a0 x1 v21) (rcX10_wordOfl a0 x1 v21) ⟨_, _, rfl⟩ (as := [vi x1, vi v21]) (st := [vr a0]) rfl rfl (by decide +kernel) rfl (Nat.le_of_ble_eq_true rfl) (Nat.le_of_ble_eq_true rfl) fun v22 s => ?_
          refine r_p (pc' := 52) (p_iload_n 3 (k := 1) (by decide +kernel) rfl) ?_
          refine r_p (pc' := 53) (p_iconst (n := 0) (v := 0) (by decide +kernel) rfl) ?_
          refine r_p (pc' := 54) (p_iconst (n := 0) (v := 0) (by decide +kernel) rfl) ?_
          refine r_callUU muX10_89l (ctX10_notel a0 v22 x1 0 0) (rcX10_notel a0 v22 x1 0 0) ⟨_, _, rfl⟩ (as := [vi v22, vi x1, vi 0, vi 0]) (st := []) rfl rfl (by decide +kernel) rfl (Nat.le_of_ble_eq_true rfl) (Nat.le_of_ble_eq_true rfl) fun s => ?_
          refine r_p (pc' := 107) (p_goto (off := 50) (tgt := 107) (by decide +kernel) (by decide)) ?_
          refine r_sub (lv' := [(0, vr a0), (1, vi x1), (2, vi v21)]) [2, 3, 0] rfl ?_
          exact hj15 v21 _
def aX10_wrongl : StA := (RX10, cX10_wrong, 2, some .boolean, yX10_wrong, 8, [])
noncomputable def mX10_wrongl (a0 : Nat) (a1 : Int32) : MM Int32 := onC 5 a0 (
  mbnd (pI 5 11 a0 a1) fun _ =>
  mret 0
  )
theorem rcX10_wrongl (a0 : Nat) (a1 : Int32) : Rcv 5 a0 (mX10_wrongl a0 a1) := fun s r h => ⟨(onC_some h).1, (onC_some h).2.1⟩
set_option maxHeartbeats 4000000 in
set_option maxRecDepth 100000 in
theorem ctX10_wrongl (a0 : Nat) (a1 : Int32) : Ct aX10_wrongl [vr a0, vi a1] (mX10_wrongl a0 a1) rI := by
  unfold mX10_wrongl
  refine ct_onC (ct_intro (by decide +kernel) rfl (Nat.le_of_ble_eq_true rfl) fun Y s => ?_)
  refine r_sub (lv' := [(0, vr a0), (1, vi a1)]) [0, 1] rfl ?_
  refine r_p (pc' := 1) (p_aload_n 0 (k := 0) (by decide +kernel) rfl) ?_
  refine r_p (pc' := 2) (p_iload_n 1 (k := 1) (by decide +kernel) rfl) ?_
  refine r_pI fpX10_24_5 (fun h => by cases h) (by decide +kernel) fun s => ?_
  refine r_p (pc' := 6) (p_iconst (n := 0) (v := 0) (by decide +kernel) rfl) ?_
  exact r_iret rfl rfl _ rfl rfl (by decide +kernel)
def aX10_takeNumberl : StA := (RX10, cX10_takeNumber, 3, some .boolean, yX10_takeNumber, 9, [])
theorem flX10_41_5 : FL RX10 41 5 7 := ⟨_, TX5, 18, "ToolCourt$TextReader", rfl, by decide, Or.inl (tblG_of 429 (by decide +kernel) (by decide +kernel)), Or.inl rfl⟩
theorem flX10_52_5 : FL RX10 52 5 8 := ⟨_, TX5, 18, "ToolCourt$TextReader", rfl, by decide, Or.inl (tblG_of 434 (by decide +kernel) (by decide +kernel)), Or.inl rfl⟩
theorem muX10_55l : MU RX10 55 "ToolCourt$LawReader" "ToolCourt$TextReader" ⟨"ToolCourt$TextReader", "wrong", "(I)Z"⟩ aX10_wrongl 1 := ⟨tblG_of 932 (by decide +kernel) (by decide +kernel), tblG_of 920 (by decide +kernel) (by decide +kernel), tblG_of 2362 (by decide +kernel) (by decide +kernel), tblG_of 2361 (by decide +kernel) (by decide +kernel), tblG_of 154 (by decide +kernel) (by decide +kernel), tblG_of 921 (by decide +kernel) (by decide +kernel), rfl, ⟨by decide, by decide⟩, by decide +kernel, by decide, Or.inl rfl⟩
theorem fpX10_72_5 : FP RX10 72 5 9 .int false := ⟨_, TX5, 18, "ToolCourt$TextReader", tyX5, rfl, by decide, Or.inl (tblG_of 439 (by decide +kernel) (by decide +kernel)), Or.inl rfl, tyX5_ok, nmX5, rfl, by decide, by decide +kernel⟩
noncomputable def mX10_takeNumberl (a0 : Nat) (a1 : Int32) (a2 : Int32) : MM Int32 := onC 5 a0 (
  mbnd (gI 5 7 a0) fun (v1 : Int32) =>
  if v1 = 256 then (
    mbnd (gI 5 6 a0) fun (v3 : Int32) =>
    if v3 < 0 then (
      mbnd (gI 5 8 a0) fun (v5 : Int32) =>
      mbnd (nox (mX10_wrongl a0 v5)) fun (v6 : Int32) =>
      mbool v6
    ) else (
      mbnd (gI 5 6 a0) fun (v7 : Int32) =>
      if v7 < 400 then (
        mbnd (gR 5 3 a0) fun (v9 : Nat) =>
        mbnd (gI 5 6 a0) fun (v10 : Int32) =>
        mbnd (ldI 0 v9 v10) fun (v11 : Int32) =>
        if a1 < v11 then (
          mbnd (gI 5 8 a0) fun (v13 : Int32) =>
          mbnd (nox (mX10_wrongl a0 v13)) fun (v14 : Int32) =>
          mbool v14
        ) else (
          mbnd (gR 5 4 a0) fun (v15 : Nat) =>
          mbnd (gI 5 6 a0) fun (v16 : Int32) =>
          mbnd (ldI 0 v15 v16) fun (v17 : Int32) =>
          if v17 ≤ a2 then (
            mbnd (gR 5 4 a0) fun (v19 : Nat) =>
            mbnd (gI 5 6 a0) fun (v20 : Int32) =>
            mbnd (ldI 0 v19 v20) fun (v21 : Int32) =>
            mbnd (pI 5 9 a0 v21) fun _ =>
            mbnd (nox (mX10_goOnl a0)) fun _ =>
            mret 1
          ) else (
            mbnd (gI 5 8 a0) fun (v22 : Int32) =>
            mbnd (nox (mX10_wrongl a0 v22)) fun (v23 : Int32) =>
            mbool v23
          )
        )
      ) else (
        mbnd (gI 5 8 a0) fun (v24 : Int32) =>
        mbnd (nox (mX10_wrongl a0 v24)) fun (v25 : Int32) =>
        mbool v25
      )
    )
  ) else (
    mbnd (gI 5 8 a0) fun (v26 : Int32) =>
    mbnd (nox (mX10_wrongl a0 v26)) fun (v27 : Int32) =>
    mbool v27
  )
  )
theorem rcX10_takeNumberl (a0 : Nat) (a1 : Int32) (a2 : Int32) : Rcv 5 a0 (mX10_takeNumberl a0 a1 a2) := fun s r h => ⟨(onC_some h).1, (onC_some h).2.1⟩
set_option maxHeartbeats 4000000 in
set_option maxRecDepth 100000 in
theorem ctX10_takeNumberl (a0 : Nat) (a1 : Int32) (a2 : Int32) : Ct aX10_takeNumberl [vr a0, vi a1, vi a2] (mX10_takeNumberl a0 a1 a2) rI := by
  unfold mX10_takeNumberl
  refine ct_onC (ct_intro (by decide +kernel) rfl (Nat.le_of_ble_eq_true rfl) fun Y s => ?_)
  refine r_sub (lv' := [(0, vr a0), (1, vi a1), (2, vi a2)]) [0, 1, 2] rfl ?_
  refine r_p (pc' := 1) (p_aload_n 0 (k := 0) (by decide +kernel) rfl) ?_
  refine r_gI flX10_41_5 (by decide +kernel) fun v1 => ?_
  refine r_p (pc' := 7) (p_sipush (n := 256) (v := 256) (by decide +kernel) (by decide +kernel)) ?_
  refine r_icmpne (off := 20) (tgt := 27) (by decide +kernel) (by decide) (fun h2 => ?_) (fun h2 => ?_)
  · refine r_p (pc' := 11) (p_aload_n 0 (k := 0) (by decide +kernel) rfl) ?_
    refine r_gI flX10_58_5 (by decide +kernel) fun v3 => ?_
    refine r_iflt (off := 13) (tgt := 27) (by decide +kernel) (by decide) (fun h4 => ?_) (fun h4 => ?_)
    · refine r_p (pc' := 28) (p_aload_n 0 (k := 0) (by decide +kernel) rfl) ?_
      refine r_p (pc' := 29) (p_aload_n 0 (k := 0) (by decide +kernel) rfl) ?_
      refine r_gI flX10_52_5 (by decide +kernel) fun v5 => ?_
      refine r_callUI muX10_55l (ctX10_wrongl a0 v5) (rcX10_wrongl a0 v5) ⟨_, _, rfl⟩ (as := [vi v5]) (st := []) rfl rfl (by decide +kernel) rfl (Nat.le_of_ble_eq_true rfl) (Nat.le_of_ble_eq_true rfl) fun v6 s => ?_
      exact r_bret (y9 := fun v => v) (fun _ => rfl) (fun _ => rfl) rfl (by decide +kernel)
    · refine r_p (pc' := 18) (p_aload_n 0 (k := 0) (by decide +kernel) rfl) ?_
      refine r_gI flX10_58_5 (by decide +kernel) fun v7 => ?_
      refine r_p (pc' := 24) (p_sipush (n := 400) (v := 400) (by decide +kernel) (by decide +kernel)) ?_
      refine r_icmplt (off := 12) (tgt := 36) (by decide +kernel) (by decide) (fun h8 => ?_) (fun h8 => ?_)
      · refine r_p (pc' := 37) (p_aload_n 0 (k := 0) (by decide +kernel) rfl) ?_
        refine r_gR flX10_18_5 (by decide +kernel) fun v9 => ?_
        refine r_p (pc' := 41) (p_aload_n 0 (k := 0) (by decide +kernel) rfl) ?_
        refine r_gI flX10_58_5 (by decide +kernel) fun v10 => ?_
        refine r_ldI0 (by decide +kernel) fun v11 => ?_
        refine r_p (pc' := 46) (p_iload_n 1 (k := 1) (by decide +kernel) rfl) ?_
        refine r_icmpgt (off := 16) (tgt := 62) (by decide +kernel) (by decide) (fun h12 => ?_) (fun h12 => ?_)
        · refine r_p (pc' := 63) (p_aload_n 0 (k := 0) (by decide +kernel) rfl) ?_
          refine r_p (pc' := 64) (p_aload_n 0 (k := 0) (by decide +kernel) rfl) ?_
          refine r_gI flX10_52_5 (by decide +kernel) fun v13 => ?_
          refine r_callUI muX10_55l (ctX10_wrongl a0 v13) (rcX10_wrongl a0 v13) ⟨_, _, rfl⟩ (as := [vi v13]) (st := []) rfl rfl (by decide +kernel) rfl (Nat.le_of_ble_eq_true rfl) (Nat.le_of_ble_eq_true rfl) fun v14 s => ?_
          exact r_bret (y9 := fun v => v) (fun _ => rfl) (fun _ => rfl) rfl (by decide +kernel)
        · refine r_p (pc' := 50) (p_aload_n 0 (k := 0) (by decide +kernel) rfl) ?_
          refine r_gR flX10_21_5 (by decide +kernel) fun v15 => ?_
          refine r_p (pc' := 54) (p_aload_n 0 (k := 0) (by decide +kernel) rfl) ?_
          refine r_gI flX10_58_5 (by decide +kernel) fun v16 => ?_
          refine r_ldI0 (by decide +kernel) fun v17 => ?_
          refine r_p (pc' := 59) (p_iload_n 2 (k := 2) (by decide +kernel) rfl) ?_
          refine r_icmple (off := 12) (tgt := 71) (by decide +kernel) (by decide) (fun h18 => ?_) (fun h18 => ?_)
          · refine r_p (pc' := 72) (p_aload_n 0 (k := 0) (by decide +kernel) rfl) ?_
            refine r_p (pc' := 73) (p_aload_n 0 (k := 0) (by decide +kernel) rfl) ?_
            refine r_gR flX10_21_5 (by decide +kernel) fun v19 => ?_
            refine r_p (pc' := 77) (p_aload_n 0 (k := 0) (by decide +kernel) rfl) ?_
            refine r_gI flX10_58_5 (by decide +kernel) fun v20 => ?_
            refine r_ldI0 (by decide +kernel) fun v21 => ?_
            refine r_pI fpX10_72_5 (fun h => by cases h) (by decide +kernel) fun s => ?_
            refine r_p (pc' := 85) (p_aload_n 0 (k := 0) (by decide +kernel) rfl) ?_
            refine r_callUU muX10_69l (ctX10_goOnl a0) (rcX10_goOnl a0) ⟨_, _, rfl⟩ (as := []) (st := []) rfl rfl (by decide +kernel) rfl (Nat.le_of_ble_eq_true rfl) (Nat.le_of_ble_eq_true rfl) fun s => ?_
            refine r_p (pc' := 89) (p_iconst (n := 1) (v := 1) (by decide +kernel) rfl) ?_
            exact r_iret rfl rfl _ rfl rfl (by decide +kernel)
          · refine r_p (pc' := 63) (p_aload_n 0 (k := 0) (by decide +kernel) rfl) ?_
            refine r_p (pc' := 64) (p_aload_n 0 (k := 0) (by decide +kernel) rfl) ?_
            refine r_gI flX10_52_5 (by decide +kernel) fun v22 => ?_
            refine r_callUI muX10_55l (ctX10_wrongl a0 v22) (rcX10_wrongl a0 v22) ⟨_, _, rfl⟩ (as := [vi v22]) (st := []) rfl rfl (by decide +kernel) rfl (Nat.le_of_ble_eq_true rfl) (Nat.le_of_ble_eq_true rfl) fun v23 s => ?_
            exact r_bret (y9 := fun v => v) (fun _ => rfl) (fun _ => rfl) rfl (by decide +kernel)
      · refine r_p (pc' := 28) (p_aload_n 0 (k := 0) (by decide +kernel) rfl) ?_
        refine r_p (pc' := 29) (p_aload_n 0 (k := 0) (by decide +kernel) rfl) ?_
        refine r_gI flX10_52_5 (by decide +kernel) fun v24 => ?_
        refine r_callUI muX10_55l (ctX10_wrongl a0 v24) (rcX10_wrongl a0 v24) ⟨_, _, rfl⟩ (as := [vi v24]) (st := []) rfl rfl (by decide +kernel) rfl (Nat.le_of_ble_eq_true rfl) (Nat.le_of_ble_eq_true rfl) fun v25 s => ?_
        exact r_bret (y9 := fun v => v) (fun _ => rfl) (fun _ => rfl) rfl (by decide +kernel)
  · refine r_p (pc' := 28) (p_aload_n 0 (k := 0) (by decide +kernel) rfl) ?_
    refine r_p (pc' := 29) (p_aload_n 0 (k := 0) (by decide +kernel) rfl) ?_
    refine r_gI flX10_52_5 (by decide +kernel) fun v26 => ?_
    refine r_callUI muX10_55l (ctX10_wrongl a0 v26) (rcX10_wrongl a0 v26) ⟨_, _, rfl⟩ (as := [vi v26]) (st := []) rfl rfl (by decide +kernel) rfl (Nat.le_of_ble_eq_true rfl) (Nat.le_of_ble_eq_true rfl) fun v27 s => ?_
    exact r_bret (y9 := fun v => v) (fun _ => rfl) (fun _ => rfl) rfl (by decide +kernel)
def aX5_write : StA := (RX5, cX5_write, 2, some .boolean, yX5_write, 8, [])
theorem flX5_24_5 : FL RX5 24 5 14 := ⟨_, TX5, 18, "ToolCourt$LawReader", rfl, by decide, Or.inl (tblG_of 485 (by decide +kernel) (by decide +kernel)), Or.inl rfl⟩
theorem flX5_9_5 : FL RX5 9 5 12 := ⟨_, TX5, 18, "ToolCourt$LawReader", rfl, by decide, Or.inl (tblG_of 483 (by decide +kernel) (by decide +kernel)), Or.inl rfl⟩
noncomputable def mX5_write (a0 : Nat) (a1 : Int32) : MM Int32 := onC 5 a0 (
  mbnd (gI 5 14 a0) fun (v1 : Int32) =>
  if v1 < 0 then (
    mret 1
  ) else (
    mbnd (gI 5 14 a0) fun (v3 : Int32) =>
    mbnd (gR 5 12 a0) fun (v4 : Nat) =>
    mbnd (lenI 0 v4) fun (v5 : Int32) =>
    if v5 ≤ v3 then (
      mret 1
    ) else (
      mbnd (gR 5 12 a0) fun (v7 : Nat) =>
      mbnd (gI 5 14 a0) fun (v8 : Int32) =>
      mbnd (stI 0 v7 v8 a1) fun _ =>
      mbnd (gI 5 14 a0) fun (v9 : Int32) =>
      mbnd (pI 5 14 a0 (v9 + 1)) fun _ =>
      mret 1
    )
  )
  )
theorem rcX5_write (a0 : Nat) (a1 : Int32) : Rcv 5 a0 (mX5_write a0 a1) := fun s r h => ⟨(onC_some h).1, (onC_some h).2.1⟩
set_option maxHeartbeats 4000000 in
set_option maxRecDepth 100000 in
theorem ctX5_write (a0 : Nat) (a1 : Int32) : Ct aX5_write [vr a0, vi a1] (mX5_write a0 a1) rI := by
  unfold mX5_write
  refine ct_onC (ct_intro (by decide +kernel) rfl (Nat.le_of_ble_eq_true rfl) fun Y s => ?_)
  refine r_sub (lv' := [(0, vr a0), (1, vi a1)]) [0, 1] rfl ?_
  refine r_p (pc' := 1) (p_aload_n 0 (k := 0) (by decide +kernel) rfl) ?_
  refine r_gI flX5_24_5 (by decide +kernel) fun v1 => ?_
  refine r_iflt (off := 35) (tgt := 39) (by decide +kernel) (by decide) (fun h2 => ?_) (fun h2 => ?_)
  · refine r_p (pc' := 40) (p_iconst (n := 1) (v := 1) (by decide +kernel) rfl) ?_
    exact r_iret rfl rfl _ rfl rfl (by decide +kernel)
  · refine r_p (pc' := 8) (p_aload_n 0 (k := 0) (by decide +kernel) rfl) ?_
    refine r_gI flX5_24_5 (by decide +kernel) fun v3 => ?_
    refine r_p (pc' := 12) (p_aload_n 0 (k := 0) (by decide +kernel) rfl) ?_
    refine r_gR flX5_9_5 (by decide +kernel) fun v4 => ?_
    refine r_lenI (by decide) (by decide +kernel) fun v5 => ?_
    refine r_icmpge (off := 23) (tgt := 39) (by decide +kernel) (by decide) (fun h6 => ?_) (fun h6 => ?_)
    · refine r_p (pc' := 40) (p_iconst (n := 1) (v := 1) (by decide +kernel) rfl) ?_
      exact r_iret rfl rfl _ rfl rfl (by decide +kernel)
    · refine r_p (pc' := 20) (p_aload_n 0 (k := 0) (by decide +kernel) rfl) ?_
      refine r_gR flX5_9_5 (by decide +kernel) fun v7 => ?_
      refine r_p (pc' := 24) (p_aload_n 0 (k := 0) (by decide +kernel) rfl) ?_
      refine r_gI flX5_24_5 (by decide +kernel) fun v8 => ?_
      refine r_p (pc' := 28) (p_iload_n 1 (k := 1) (by decide +kernel) rfl) ?_
      refine r_stI0 (by decide +kernel) fun s => ?_
      refine r_p (pc' := 30) (p_aload_n 0 (k := 0) (by decide +kernel) rfl) ?_
      refine r_p (pc' := 31) (p_dup rfl (by decide +kernel)) ?_
      refine r_gI flX5_24_5 (by decide +kernel) fun v9 => ?_
      refine r_p (pc' := 35) (p_iconst (n := 1) (v := 1) (by decide +kernel) rfl) ?_
      refine r_p (pc' := 36) (p_iadd (by decide +kernel)) ?_
      refine r_pI fpX5_24_5 (fun h => by cases h) (by decide +kernel) fun s => ?_
      refine r_p (pc' := 40) (p_iconst (n := 1) (v := 1) (by decide +kernel) rfl) ?_
      exact r_iret rfl rfl _ rfl rfl (by decide +kernel)
def aX5_await : StA := (RX5, cX5_await, 2, none, yX5_await, 8, [])
theorem fpX5_70_5 : FP RX5 70 5 15 .int false := ⟨_, TX5, 18, "ToolCourt$LawReader", tyX5, rfl, by decide, Or.inl (tblG_of 486 (by decide +kernel) (by decide +kernel)), Or.inl rfl, tyX5_ok, nmX5, rfl, by decide, by decide +kernel⟩
theorem flX5_70_5 : FL RX5 70 5 15 := ⟨_, TX5, 18, "ToolCourt$LawReader", rfl, by decide, Or.inl (tblG_of 486 (by decide +kernel) (by decide +kernel)), Or.inl rfl⟩
theorem flX5_15_5 : FL RX5 15 5 13 := ⟨_, TX5, 18, "ToolCourt$LawReader", rfl, by decide, Or.inl (tblG_of 484 (by decide +kernel) (by decide +kernel)), Or.inl rfl⟩
noncomputable def mX5_await (a0 : Nat) (a1 : Int32) : MM Unit := onC 5 a0 (
  mbnd (gI 5 15 a0) fun (v1 : Int32) =>
  if v1 < 0 then (
    mret ()
  ) else (
    mbnd (gI 5 15 a0) fun (v3 : Int32) =>
    mbnd (gR 5 13 a0) fun (v4 : Nat) =>
    mbnd (lenI 0 v4) fun (v5 : Int32) =>
    if v5 ≤ v3 then (
      mret ()
    ) else (
      mbnd (gR 5 13 a0) fun (v7 : Nat) =>
      mbnd (gI 5 15 a0) fun (v8 : Int32) =>
      mbnd (stI 0 v7 v8 a1) fun _ =>
      mbnd (gI 5 15 a0) fun (v9 : Int32) =>
      mbnd (pI 5 15 a0 (v9 + 1)) fun _ =>
      mret ()
    )
  )
  )
theorem rcX5_await (a0 : Nat) (a1 : Int32) : Rcv 5 a0 (mX5_await a0 a1) := fun s r h => ⟨(onC_some h).1, (onC_some h).2.1⟩
set_option maxHeartbeats 4000000 in
set_option maxRecDepth 100000 in
theorem ctX5_await (a0 : Nat) (a1 : Int32) : Ct aX5_await [vr a0, vi a1] (mX5_await a0 a1) rU := by
  unfold mX5_await
  refine ct_onC (ct_intro (by decide +kernel) rfl (Nat.le_of_ble_eq_true rfl) fun Y s => ?_)
  refine r_sub (lv' := [(0, vr a0), (1, vi a1)]) [0, 1] rfl ?_
  refine r_p (pc' := 1) (p_aload_n 0 (k := 0) (by decide +kernel) rfl) ?_
  refine r_gI flX5_70_5 (by decide +kernel) fun v1 => ?_
  refine r_iflt (off := 35) (tgt := 39) (by decide +kernel) (by decide) (fun h2 => ?_) (fun h2 => ?_)
  · exact r_vret (y9 := ()) rfl rfl rfl (by decide +kernel)
  · refine r_p (pc' := 8) (p_aload_n 0 (k := 0) (by decide +kernel) rfl) ?_
    refine r_gI flX5_70_5 (by decide +kernel) fun v3 => ?_
    refine r_p (pc' := 12) (p_aload_n 0 (k := 0) (by decide +kernel) rfl) ?_
    refine r_gR flX5_15_5 (by decide +kernel) fun v4 => ?_
    refine r_lenI (by decide) (by decide +kernel) fun v5 => ?_
    refine r_icmpge (off := 23) (tgt := 39) (by decide +kernel) (by decide) (fun h6 => ?_) (fun h6 => ?_)
    · exact r_vret (y9 := ()) rfl rfl rfl (by decide +kernel)
    · refine r_p (pc' := 20) (p_aload_n 0 (k := 0) (by decide +kernel) rfl) ?_
      refine r_gR flX5_15_5 (by decide +kernel) fun v7 => ?_
      refine r_p (pc' := 24) (p_aload_n 0 (k := 0) (by decide +kernel) rfl) ?_
      refine r_gI flX5_70_5 (by decide +kernel) fun v8 => ?_
      refine r_p (pc' := 28) (p_iload_n 1 (k := 1) (by decide +kernel) rfl) ?_
      refine r_stI0 (by decide +kernel) fun s => ?_
      refine r_p (pc' := 30) (p_aload_n 0 (k := 0) (by decide +kernel) rfl) ?_
      refine r_p (pc' := 31) (p_dup rfl (by decide +kernel)) ?_
      refine r_gI flX5_70_5 (by decide +kernel) fun v9 => ?_
      refine r_p (pc' := 35) (p_iconst (n := 1) (v := 1) (by decide +kernel) rfl) ?_
      refine r_p (pc' := 36) (p_iadd (by decide +kernel)) ?_
      refine r_pI fpX5_70_5 (fun h => by cases h) (by decide +kernel) fun s => ?_
      exact r_vret (y9 := ()) rfl rfl rfl (by decide +kernel)
def aX5_readOpening : StA := (RX5, cX5_readOpening, 2, some .boolean, yX5_readOpening, 9, [])
theorem flX5_42_5 : FL RX5 42 5 7 := ⟨_, TX5, 18, "ToolCourt$LawReader", rfl, by decide, Or.inl (tblG_of 427 (by decide +kernel) (by decide +kernel)), Or.inr (tblG_of 428 (by decide +kernel) (by decide +kernel))⟩
theorem flX5_45_5 : FL RX5 45 5 8 := ⟨_, TX5, 18, "ToolCourt$LawReader", rfl, by decide, Or.inl (tblG_of 432 (by decide +kernel) (by decide +kernel)), Or.inr (tblG_of 433 (by decide +kernel) (by decide +kernel))⟩
theorem muX5_48l : MU RX5 48 "ToolCourt$LawReader" "ToolCourt$TextReader" ⟨"ToolCourt$LawReader", "wrong", "(I)Z"⟩ aX10_wrongl 1 := ⟨tblG_of 916 (by decide +kernel) (by decide +kernel), tblG_of 920 (by decide +kernel) (by decide +kernel), tblG_of 919 (by decide +kernel) (by decide +kernel), tblG_of 917 (by decide +kernel) (by decide +kernel), tblG_of 154 (by decide +kernel) (by decide +kernel), tblG_of 921 (by decide +kernel) (by decide +kernel), rfl, ⟨by decide, by decide⟩, by decide +kernel, by decide, Or.inl rfl⟩
theorem muX5_52l : MU RX5 52 "ToolCourt$LawReader" "ToolCourt$TextReader" ⟨"ToolCourt$LawReader", "goOn", "()V"⟩ aX10_goOnl 0 := ⟨tblG_of 922 (by decide +kernel) (by decide +kernel), tblG_of 905 (by decide +kernel) (by decide +kernel), tblG_of 925 (by decide +kernel) (by decide +kernel), tblG_of 923 (by decide +kernel) (by decide +kernel), tblG_of 154 (by decide +kernel) (by decide +kernel), tblG_of 909 (by decide +kernel) (by decide +kernel), rfl, ⟨by decide, by decide⟩, by decide +kernel, by decide, Or.inl rfl⟩
theorem fpX5_73_5 : FP RX5 73 5 16 .int false := ⟨_, TX5, 18, "ToolCourt$LawReader", tyX5, rfl, by decide, Or.inl (tblG_of 487 (by decide +kernel) (by decide +kernel)), Or.inl rfl, tyX5_ok, nmX5, rfl, by decide, by decide +kernel⟩
theorem fpX5_76_5 : FP RX5 76 5 17 .int false := ⟨_, TX5, 18, "ToolCourt$LawReader", tyX5, rfl, by decide, Or.inl (tblG_of 488 (by decide +kernel) (by decide +kernel)), Or.inl rfl, tyX5_ok, nmX5, rfl, by decide, by decide +kernel⟩
theorem flX5_76_5 : FL RX5 76 5 17 := ⟨_, TX5, 18, "ToolCourt$LawReader", rfl, by decide, Or.inl (tblG_of 488 (by decide +kernel) (by decide +kernel)), Or.inl rfl⟩
theorem flX5_73_5 : FL RX5 73 5 16 := ⟨_, TX5, 18, "ToolCourt$LawReader", rfl, by decide, Or.inl (tblG_of 487 (by decide +kernel) (by decide +kernel)), Or.inl rfl⟩
theorem mvX5_95 : MV RX5 95 aX5_await 1 := ⟨tblG_of 945 (by decide +kernel) (by decide +kernel), tblG_of 947 (by decide +kernel) (by decide +kernel), tblG_of 15 (by decide +kernel) (by decide +kernel), tblG_of 156 (by decide +kernel) (by decide +kernel), tblG_of 948 (by decide +kernel) (by decide +kernel), rfl, ⟨by decide, by decide⟩, by decide +kernel, by decide⟩
noncomputable def mX5_readOpening_L2 (a0 : Nat) (x1 : Int32) : MM ((Int32) ⊕ (Unit ⊕ Unit)) :=
  if 400 ≤ x1 then (
    mret (.inr ((.inr ())))
  ) else (
    mbnd (gI 5 7 a0) fun (v6 : Int32) =>
    if v6 = 40 then (
      mbnd (gI 5 17 a0) fun (v8 : Int32) =>
      if v8 < 6 then (
        mbnd (gI 5 17 a0) fun (v10 : Int32) =>
        mbnd (pI 5 17 a0 (v10 + 1)) fun _ =>
        mbnd (gI 5 16 a0) fun (v11 : Int32) =>
        mbnd (gI 5 7 a0) fun (v12 : Int32) =>
        mbnd (α := Int32) (
          if v12 = 40 then (
            mret 1
          ) else (
            mret 0
          )
        ) fun (x14 : Int32) =>
        mbnd (pI 5 16 a0 (v11 + x14)) fun _ =>
        mbnd (gI 5 7 a0) fun (v17 : Int32) =>
        mbnd (α := Int32) (
          if v17 = 40 then (
            mret 1036
          ) else (
            mret 1033
          )
        ) fun (x19 : Int32) =>
        mbnd (mX5_await a0 x19) fun _ =>
        mbnd (nox (mX10_goOnl a0)) fun _ =>
        mret (.inl (x1 + 1))
      ) else (
        mret (.inr ((.inl ())))
      )
    ) else (
      mbnd (gI 5 7 a0) fun (v22 : Int32) =>
      if v22 = 319 then (
        mbnd (gI 5 17 a0) fun (v24 : Int32) =>
        if v24 < 6 then (
          mbnd (gI 5 17 a0) fun (v26 : Int32) =>
          mbnd (pI 5 17 a0 (v26 + 1)) fun _ =>
          mbnd (gI 5 16 a0) fun (v27 : Int32) =>
          mbnd (gI 5 7 a0) fun (v28 : Int32) =>
          mbnd (α := Int32) (
            if v28 = 40 then (
              mret 1
            ) else (
              mret 0
            )
          ) fun (x30 : Int32) =>
          mbnd (pI 5 16 a0 (v27 + x30)) fun _ =>
          mbnd (gI 5 7 a0) fun (v33 : Int32) =>
          mbnd (α := Int32) (
            if v33 = 40 then (
              mret 1036
            ) else (
              mret 1033
            )
          ) fun (x35 : Int32) =>
          mbnd (mX5_await a0 x35) fun _ =>
          mbnd (nox (mX10_goOnl a0)) fun _ =>
          mret (.inl (x1 + 1))
        ) else (
          mret (.inr ((.inl ())))
        )
      ) else (
        mret (.inr ((.inr ())))
      )
    )
  )
noncomputable def mX5_readOpening (a0 : Nat) : MM Int32 := onC 5 a0 (
  mbnd (loopM (mX5_readOpening_L2 a0) 0) fun (e38 : Unit ⊕ Unit) => match e38 with
    | .inl e38 => (
      mbnd (gI 5 8 a0) fun (v39 : Int32) =>
      mbnd (nox (mX10_wrongl a0 v39)) fun (v40 : Int32) =>
      mbool v40
      )
    | .inr e38 => (
      mret 1
      )
  )
theorem rcX5_readOpening (a0 : Nat) : Rcv 5 a0 (mX5_readOpening a0) := fun s r h => ⟨(onC_some h).1, (onC_some h).2.1⟩
set_option maxHeartbeats 4000000 in
set_option maxRecDepth 100000 in
theorem ctX5_readOpening (a0 : Nat) : Ct aX5_readOpening [vr a0] (mX5_readOpening a0) rI := by
  unfold mX5_readOpening
  refine ct_onC (ct_intro (by decide +kernel) rfl (Nat.le_of_ble_eq_true rfl) fun Y s => ?_)
  refine r_sub (lv' := [(0, vr a0)]) [0] rfl ?_
  refine r_p (pc' := 1) (p_iconst (n := 0) (v := 0) (by decide +kernel) rfl) ?_
  refine r_p (pc' := 2) (p_istore_n (k := 1) (lv' := [(1, vi 0), (0, vr a0)]) (by decide +kernel) (Nat.le_of_ble_eq_true rfl) rfl) ?_
  refine r_sub (lv' := [(0, vr a0), (1, vi 0)]) [1, 0] rfl ?_
  refine r_loop2 (fun (e38 : Unit ⊕ Unit) => match e38 with | .inl _ => 37 | .inr _ => 111) (fun (e38 : Unit ⊕ Unit) => match e38 with | .inl e38 => [(0, vr a0)] | .inr e38 => []) (fun (x1 : Int32) => [(0, vr a0), (1, vi x1)]) (fun e38 s => ?_) (fun K2 hb3 he4 x1 s => ?_) 0 _
  · rcases e38 with e38 | e38
    · show Rr _ _ 37 [(0, vr a0)] [] _ _ _ _
      refine r_p (pc' := 38) (p_aload_n 0 (k := 0) (by decide +kernel) rfl) ?_
      refine r_p (pc' := 39) (p_aload_n 0 (k := 0) (by decide +kernel) rfl) ?_
      refine r_gI flX5_45_5 (by decide +kernel) fun v39 => ?_
      refine r_callUI muX5_48l (ctX10_wrongl a0 v39) (rcX10_wrongl a0 v39) ⟨_, _, rfl⟩ (as := [vi v39]) (st := []) rfl rfl (by decide +kernel) rfl (Nat.le_of_ble_eq_true rfl) (Nat.le_of_ble_eq_true rfl) fun v40 s => ?_
      exact r_bret (y9 := fun v => v) (fun _ => rfl) (fun _ => rfl) rfl (by decide +kernel)
    · show Rr _ _ 111 [] [] _ _ _ _
      refine r_p (pc' := 112) (p_iconst (n := 1) (v := 1) (by decide +kernel) rfl) ?_
      exact r_iret rfl rfl _ rfl rfl (by decide +kernel)
  · unfold mX5_readOpening_L2
    refine r_p (pc' := 3) (p_iload_n 1 (k := 1) (by decide +kernel) rfl) ?_
    refine r_p (pc' := 6) (p_sipush (n := 400) (v := 400) (by decide +kernel) (by decide +kernel)) ?_
    refine r_icmpge (off := 105) (tgt := 111) (by decide +kernel) (by decide) (fun h5 => ?_) (fun h5 => ?_)
    · refine r_sub (lv' := []) [] rfl ?_
      exact he4 ((.inr ())) _
    · refine r_p (pc' := 10) (p_aload_n 0 (k := 0) (by decide +kernel) rfl) ?_
      refine r_gI flX5_42_5 (by decide +kernel) fun v6 => ?_
      refine r_p (pc' := 15) (p_bipush (n := 40) (v := 40) (by decide +kernel) (by decide +kernel)) ?_
      refine r_icmpeq (off := 13) (tgt := 28) (by decide +kernel) (by decide) (fun h7 => ?_) (fun h7 => ?_)
      · refine r_p (pc' := 29) (p_aload_n 0 (k := 0) (by decide +kernel) rfl) ?_
        refine r_gI flX5_76_5 (by decide +kernel) fun v8 => ?_
        refine r_p (pc' := 34) (p_bipush (n := 6) (v := 6) (by decide +kernel) (by decide +kernel)) ?_
        refine r_icmplt (off := 12) (tgt := 46) (by decide +kernel) (by decide) (fun h9 => ?_) (fun h9 => ?_)
        · refine r_p (pc' := 47) (p_aload_n 0 (k := 0) (by decide +kernel) rfl) ?_
          refine r_p (pc' := 48) (p_dup rfl (by decide +kernel)) ?_
          refine r_gI flX5_76_5 (by decide +kernel) fun v10 => ?_
          refine r_p (pc' := 52) (p_iconst (n := 1) (v := 1) (by decide +kernel) rfl) ?_
          refine r_p (pc' := 53) (p_iadd (by decide +kernel)) ?_
          refine r_pI fpX5_76_5 (fun h => by cases h) (by decide +kernel) fun s => ?_
          refine r_p (pc' := 57) (p_aload_n 0 (k := 0) (by decide +kernel) rfl) ?_
          refine r_p (pc' := 58) (p_dup rfl (by decide +kernel)) ?_
          refine r_gI flX5_73_5 (by decide +kernel) fun v11 => ?_
          refine r_p (pc' := 62) (p_aload_n 0 (k := 0) (by decide +kernel) rfl) ?_
          refine r_gI flX5_42_5 (by decide +kernel) fun v12 => ?_
          refine r_p (pc' := 67) (p_bipush (n := 40) (v := 40) (by decide +kernel) (by decide +kernel)) ?_
          refine r_join 75 (fun (x14 : Int32) => [(0, vr a0), (1, vi x1)]) (fun (x14 : Int32) => [vi x14, vi v11, vr a0]) (fun x14 s => ?_) (fun K15 hj16 => ?_)
          · refine r_p (pc' := 76) (p_iadd (by decide +kernel)) ?_
            refine r_pI fpX5_73_5 (fun h => by cases h) (by decide +kernel) fun s => ?_
            refine r_p (pc' := 80) (p_aload_n 0 (k := 0) (by decide +kernel) rfl) ?_
            refine r_p (pc' := 81) (p_aload_n 0 (k := 0) (by decide +kernel) rfl) ?_
            refine r_gI flX5_42_5 (by decide +kernel) fun v17 => ?_
            refine r_p (pc' := 86) (p_bipush (n := 40) (v := 40) (by decide +kernel) (by decide +kernel)) ?_
            refine r_join 98 (fun (x19 : Int32) => [(0, vr a0), (1, vi x1)]) (fun (x19 : Int32) => [vi x19, vr a0]) (fun x19 s => ?_) (fun K20 hj21 => ?_)
            · refine r_callVU mvX5_95 (ctX5_await a0 x19) (rcX5_await a0 x19) ⟨_, _, rfl⟩ (as := [vi x19]) (st := []) rfl rfl (by decide +kernel) rfl (Nat.le_of_ble_eq_true rfl) (Nat.le_of_ble_eq_true rfl) fun s => ?_
              refine r_p (pc' := 102) (p_aload_n 0 (k := 0) (by decide +kernel) rfl) ?_
              refine r_callUU muX5_52l (ctX10_goOnl a0) (rcX10_goOnl a0) ⟨_, _, rfl⟩ (as := []) (st := []) rfl rfl (by decide +kernel) rfl (Nat.le_of_ble_eq_true rfl) (Nat.le_of_ble_eq_true rfl) fun s => ?_
              refine r_p (pc' := 108) (p_iinc 1 (i := 1) (n := 1) (x := x1) (v := x1 + 1) (lv' := [(1, vi (x1 + 1)), (0, vr a0)]) (by decide +kernel) rfl rfl (Nat.le_of_ble_eq_true rfl) rfl) ?_
              refine r_p (pc' := 2) (p_goto (off := -106) (tgt := 2) (by decide +kernel) (by decide)) ?_
              refine r_sub (lv' := [(0, vr a0), (1, vi (x1 + 1))]) [1, 0] rfl ?_
              exact hb3 (x1 + 1) _
            · refine r_icmpne (off := 9) (tgt := 95) (by decide +kernel) (by decide) (fun h18 => ?_) (fun h18 => ?_)
              · refine r_p (pc' := 92) (p_sipush (n := 1036) (v := 1036) (by decide +kernel) (by decide +kernel)) ?_
                refine r_p (pc' := 98) (p_goto (off := 6) (tgt := 98) (by decide +kernel) (by decide)) ?_
                exact hj21 1036 _
              · refine r_p (pc' := 98) (p_sipush (n := 1033) (v := 1033) (by decide +kernel) (by decide +kernel)) ?_
                exact hj21 1033 _
          · refine r_icmpne (off := 7) (tgt := 74) (by decide +kernel) (by decide) (fun h13 => ?_) (fun h13 => ?_)
            · refine r_p (pc' := 71) (p_iconst (n := 1) (v := 1) (by decide +kernel) rfl) ?_
              refine r_p (pc' := 75) (p_goto (off := 4) (tgt := 75) (by decide +kernel) (by decide)) ?_
              exact hj16 1 _
            · refine r_p (pc' := 75) (p_iconst (n := 0) (v := 0) (by decide +kernel) rfl) ?_
              exact hj16 0 _
        · refine r_sub (lv' := [(0, vr a0)]) [0] rfl ?_
          exact he4 ((.inl ())) _
      · refine r_p (pc' := 19) (p_aload_n 0 (k := 0) (by decide +kernel) rfl) ?_
        refine r_gI flX5_42_5 (by decide +kernel) fun v22 => ?_
        refine r_p (pc' := 25) (p_sipush (n := 319) (v := 319) (by decide +kernel) (by decide +kernel)) ?_
        refine r_icmpne (off := 86) (tgt := 111) (by decide +kernel) (by decide) (fun h23 => ?_) (fun h23 => ?_)
        · refine r_p (pc' := 29) (p_aload_n 0 (k := 0) (by decide +kernel) rfl) ?_
          refine r_gI flX5_76_5 (by decide +kernel) fun v24 => ?_
          refine r_p (pc' := 34) (p_bipush (n := 6) (v := 6) (by decide +kernel) (by decide +kernel)) ?_
          refine r_icmplt (off := 12) (tgt := 46) (by decide +kernel) (by decide) (fun h25 => ?_) (fun h25 => ?_)
          · refine r_p (pc' := 47) (p_aload_n 0 (k := 0) (by decide +kernel) rfl) ?_
            refine r_p (pc' := 48) (p_dup rfl (by decide +kernel)) ?_
            refine r_gI flX5_76_5 (by decide +kernel) fun v26 => ?_
            refine r_p (pc' := 52) (p_iconst (n := 1) (v := 1) (by decide +kernel) rfl) ?_
            refine r_p (pc' := 53) (p_iadd (by decide +kernel)) ?_
            refine r_pI fpX5_76_5 (fun h => by cases h) (by decide +kernel) fun s => ?_
            refine r_p (pc' := 57) (p_aload_n 0 (k := 0) (by decide +kernel) rfl) ?_
            refine r_p (pc' := 58) (p_dup rfl (by decide +kernel)) ?_
            refine r_gI flX5_73_5 (by decide +kernel) fun v27 => ?_
            refine r_p (pc' := 62) (p_aload_n 0 (k := 0) (by decide +kernel) rfl) ?_
            refine r_gI flX5_42_5 (by decide +kernel) fun v28 => ?_
            refine r_p (pc' := 67) (p_bipush (n := 40) (v := 40) (by decide +kernel) (by decide +kernel)) ?_
            refine r_join 75 (fun (x30 : Int32) => [(0, vr a0), (1, vi x1)]) (fun (x30 : Int32) => [vi x30, vi v27, vr a0]) (fun x30 s => ?_) (fun K31 hj32 => ?_)
            · refine r_p (pc' := 76) (p_iadd (by decide +kernel)) ?_
              refine r_pI fpX5_73_5 (fun h => by cases h) (by decide +kernel) fun s => ?_
              refine r_p (pc' := 80) (p_aload_n 0 (k := 0) (by decide +kernel) rfl) ?_
              refine r_p (pc' := 81) (p_aload_n 0 (k := 0) (by decide +kernel) rfl) ?_
              refine r_gI flX5_42_5 (by decide +kernel) fun v33 => ?_
              refine r_p (pc' := 86) (p_bipush (n := 40) (v := 40) (by decide +kernel) (by decide +kernel)) ?_
              refine r_join 98 (fun (x35 : Int32) => [(0, vr a0), (1, vi x1)]) (fun (x35 : Int32) => [vi x35, vr a0]) (fun x35 s => ?_) (fun K36 hj37 => ?_)
              · refine r_callVU mvX5_95 (ctX5_await a0 x35) (rcX5_await a0 x35) ⟨_, _, rfl⟩ (as := [vi x35]) (st := []) rfl rfl (by decide +kernel) rfl (Nat.le_of_ble_eq_true rfl) (Nat.le_of_ble_eq_true rfl) fun s => ?_
                refine r_p (pc' := 102) (p_aload_n 0 (k := 0) (by decide +kernel) rfl) ?_
                refine r_callUU muX5_52l (ctX10_goOnl a0) (rcX10_goOnl a0) ⟨_, _, rfl⟩ (as := []) (st := []) rfl rfl (by decide +kernel) rfl (Nat.le_of_ble_eq_true rfl) (Nat.le_of_ble_eq_true rfl) fun s => ?_
                refine r_p (pc' := 108) (p_iinc 1 (i := 1) (n := 1) (x := x1) (v := x1 + 1) (lv' := [(1, vi (x1 + 1)), (0, vr a0)]) (by decide +kernel) rfl rfl (Nat.le_of_ble_eq_true rfl) rfl) ?_
                refine r_p (pc' := 2) (p_goto (off := -106) (tgt := 2) (by decide +kernel) (by decide)) ?_
                refine r_sub (lv' := [(0, vr a0), (1, vi (x1 + 1))]) [1, 0] rfl ?_
                exact hb3 (x1 + 1) _
              · refine r_icmpne (off := 9) (tgt := 95) (by decide +kernel) (by decide) (fun h34 => ?_) (fun h34 => ?_)
                · refine r_p (pc' := 92) (p_sipush (n := 1036) (v := 1036) (by decide +kernel) (by decide +kernel)) ?_
                  refine r_p (pc' := 98) (p_goto (off := 6) (tgt := 98) (by decide +kernel) (by decide)) ?_
                  exact hj37 1036 _
                · refine r_p (pc' := 98) (p_sipush (n := 1033) (v := 1033) (by decide +kernel) (by decide +kernel)) ?_
                  exact hj37 1033 _
            · refine r_icmpne (off := 7) (tgt := 74) (by decide +kernel) (by decide) (fun h29 => ?_) (fun h29 => ?_)
              · refine r_p (pc' := 71) (p_iconst (n := 1) (v := 1) (by decide +kernel) rfl) ?_
                refine r_p (pc' := 75) (p_goto (off := 4) (tgt := 75) (by decide +kernel) (by decide)) ?_
                exact hj32 1 _
              · refine r_p (pc' := 75) (p_iconst (n := 0) (v := 0) (by decide +kernel) rfl) ?_
                exact hj32 0 _
          · refine r_sub (lv' := [(0, vr a0)]) [0] rfl ?_
            exact he4 ((.inl ())) _
        · refine r_sub (lv' := []) [] rfl ?_
          exact he4 ((.inr ())) _
def aX5_readSum : StA := (RX5, cX5_readSum, 2, some .boolean, yX5_readSum, 10, [])
theorem muX5_56l : MU RX5 56 "ToolCourt$LawReader" "ToolCourt$TextReader" ⟨"ToolCourt$LawReader", "takeNumber", "(II)Z"⟩ aX10_takeNumberl 2 := ⟨tblG_of 926 (by decide +kernel) (by decide +kernel), tblG_of 930 (by decide +kernel) (by decide +kernel), tblG_of 929 (by decide +kernel) (by decide +kernel), tblG_of 927 (by decide +kernel) (by decide +kernel), tblG_of 154 (by decide +kernel) (by decide +kernel), tblG_of 931 (by decide +kernel) (by decide +kernel), rfl, ⟨by decide, by decide⟩, by decide +kernel, by decide, Or.inl rfl⟩
theorem mvX5_60 : MV RX5 60 aX5_write 1 := ⟨tblG_of 933 (by decide +kernel) (by decide +kernel), tblG_of 935 (by decide +kernel) (by decide +kernel), tblG_of 12 (by decide +kernel) (by decide +kernel), tblG_of 156 (by decide +kernel) (by decide +kernel), tblG_of 936 (by decide +kernel) (by decide +kernel), rfl, ⟨by decide, by decide⟩, by decide +kernel, by decide⟩
theorem flX5_63_5 : FL RX5 63 5 9 := ⟨_, TX5, 18, "ToolCourt$LawReader", rfl, by decide, Or.inl (tblG_of 437 (by decide +kernel) (by decide +kernel)), Or.inr (tblG_of 438 (by decide +kernel) (by decide +kernel))⟩
noncomputable def mX5_readSum_L2 (a0 : Nat) (x1 : Int32) : MM ((Int32) ⊕ (Unit ⊕ Unit ⊕ Unit)) :=
  if 400 ≤ x1 then (
    mret (.inr ((.inr (.inr ()))))
  ) else (
    mbnd (gI 5 7 a0) fun (v6 : Int32) =>
    if v6 < 304 then (
      mbnd (nox (mX10_takeNumberl a0 3 999)) fun (v8 : Int32) =>
      if v8 = 0 then (
        mret (.inr ((.inl ())))
      ) else (
        mbnd (gI 5 9 a0) fun (v10 : Int32) =>
        mbnd (mX5_write a0 v10) fun (v11 : Int32) =>
        mbnd (α := Unit) (
          if x1 ≤ 0 then (
            mret ()
          ) else (
            mbnd (mX5_write a0 1030) fun (v16 : Int32) =>
            mret ()
          )
        ) fun (x13 : Unit) =>
        mbnd (gI 5 7 a0) fun (v17 : Int32) =>
        if v17 = 43 then (
          mbnd (nox (mX10_goOnl a0)) fun _ =>
          mret (.inl (x1 + 1))
        ) else (
          mret (.inr ((.inr (.inl ()))))
        )
      )
    ) else (
      mbnd (gI 5 7 a0) fun (v19 : Int32) =>
      if 311 < v19 then (
        mbnd (nox (mX10_takeNumberl a0 3 999)) fun (v21 : Int32) =>
        if v21 = 0 then (
          mret (.inr ((.inl ())))
        ) else (
          mbnd (gI 5 9 a0) fun (v23 : Int32) =>
          mbnd (mX5_write a0 v23) fun (v24 : Int32) =>
          mbnd (α := Unit) (
            if x1 ≤ 0 then (
              mret ()
            ) else (
              mbnd (mX5_write a0 1030) fun (v29 : Int32) =>
              mret ()
            )
          ) fun (x26 : Unit) =>
          mbnd (gI 5 7 a0) fun (v30 : Int32) =>
          if v30 = 43 then (
            mbnd (nox (mX10_goOnl a0)) fun _ =>
            mret (.inl (x1 + 1))
          ) else (
            mret (.inr ((.inr (.inl ()))))
          )
        )
      ) else (
        mbnd (gI 5 7 a0) fun (v32 : Int32) =>
        mbnd (mX5_write a0 ((1000 + v32) - 304)) fun (v33 : Int32) =>
        mbnd (nox (mX10_goOnl a0)) fun _ =>
        mbnd (α := Unit) (
          if x1 ≤ 0 then (
            mret ()
          ) else (
            mbnd (mX5_write a0 1030) fun (v38 : Int32) =>
            mret ()
          )
        ) fun (x35 : Unit) =>
        mbnd (gI 5 7 a0) fun (v39 : Int32) =>
        if v39 = 43 then (
          mbnd (nox (mX10_goOnl a0)) fun _ =>
          mret (.inl (x1 + 1))
        ) else (
          mret (.inr ((.inr (.inl ()))))
        )
      )
    )
  )
noncomputable def mX5_readSum (a0 : Nat) : MM Int32 := onC 5 a0 (
  mbnd (loopM (mX5_readSum_L2 a0) 0) fun (e41 : Unit ⊕ Unit ⊕ Unit) => match e41 with
    | .inl e41 => (
      mret 0
      )
    | .inr (.inl e41) => (
      mret 1
      )
    | .inr (.inr e41) => (
      mbnd (gI 5 8 a0) fun (v42 : Int32) =>
      mbnd (nox (mX10_wrongl a0 v42)) fun (v43 : Int32) =>
      mbool v43
      )
  )
theorem rcX5_readSum (a0 : Nat) : Rcv 5 a0 (mX5_readSum a0) := fun s r h => ⟨(onC_some h).1, (onC_some h).2.1⟩
set_option maxHeartbeats 4000000 in
set_option maxRecDepth 100000 in
theorem ctX5_readSum (a0 : Nat) : Ct aX5_readSum [vr a0] (mX5_readSum a0) rI := by
  unfold mX5_readSum
  refine ct_onC (ct_intro (by decide +kernel) rfl (Nat.le_of_ble_eq_true rfl) fun Y s => ?_)
  refine r_sub (lv' := [(0, vr a0)]) [0] rfl ?_
  refine r_p (pc' := 1) (p_iconst (n := 0) (v := 0) (by decide +kernel) rfl) ?_
  refine r_p (pc' := 2) (p_istore_n (k := 1) (lv' := [(1, vi 0), (0, vr a0)]) (by decide +kernel) (Nat.le_of_ble_eq_true rfl) rfl) ?_
  refine r_sub (lv' := [(0, vr a0), (1, vi 0)]) [1, 0] rfl ?_
  refine r_loop2 (fun (e41 : Unit ⊕ Unit ⊕ Unit) => match e41 with | .inl _ => 76 | .inr (.inl _) => 99 | .inr (.inr _) => 111) (fun (e41 : Unit ⊕ Unit ⊕ Unit) => match e41 with | .inl e41 => [] | .inr (.inl e41) => [] | .inr (.inr e41) => [(0, vr a0)]) (fun (x1 : Int32) => [(0, vr a0), (1, vi x1)]) (fun e41 s => ?_) (fun K2 hb3 he4 x1 s => ?_) 0 _
  · rcases e41 with e41 | e41 | e41
    · show Rr _ _ 76 [] [] _ _ _ _
      refine r_p (pc' := 77) (p_iconst (n := 0) (v := 0) (by decide +kernel) rfl) ?_
      exact r_iret rfl rfl _ rfl rfl (by decide +kernel)
    · show Rr _ _ 99 [] [] _ _ _ _
      refine r_p (pc' := 100) (p_iconst (n := 1) (v := 1) (by decide +kernel) rfl) ?_
      exact r_iret rfl rfl _ rfl rfl (by decide +kernel)
    · show Rr _ _ 111 [(0, vr a0)] [] _ _ _ _
      refine r_p (pc' := 112) (p_aload_n 0 (k := 0) (by decide +kernel) rfl) ?_
      refine r_p (pc' := 113) (p_aload_n 0 (k := 0) (by decide +kernel) rfl) ?_
      refine r_gI flX5_45_5 (by decide +kernel) fun v42 => ?_
      refine r_callUI muX5_48l (ctX10_wrongl a0 v42) (rcX10_wrongl a0 v42) ⟨_, _, rfl⟩ (as := [vi v42]) (st := []) rfl rfl (by decide +kernel) rfl (Nat.le_of_ble_eq_true rfl) (Nat.le_of_ble_eq_true rfl) fun v43 s => ?_
      exact r_bret (y9 := fun v => v) (fun _ => rfl) (fun _ => rfl) rfl (by decide +kernel)
  · unfold mX5_readSum_L2
    refine r_p (pc' := 3) (p_iload_n 1 (k := 1) (by decide +kernel) rfl) ?_
    refine r_p (pc' := 6) (p_sipush (n := 400) (v := 400) (by decide +kernel) (by decide +kernel)) ?_
    refine r_icmpge (off := 105) (tgt := 111) (by decide +kernel) (by decide) (fun h5 => ?_) (fun h5 => ?_)
    · refine r_sub (lv' := [(0, vr a0)]) [0] rfl ?_
      exact he4 ((.inr (.inr ()))) _
    · refine r_p (pc' := 10) (p_aload_n 0 (k := 0) (by decide +kernel) rfl) ?_
      refine r_gI flX5_42_5 (by decide +kernel) fun v6 => ?_
      refine r_p (pc' := 16) (p_sipush (n := 304) (v := 304) (by decide +kernel) (by decide +kernel)) ?_
      refine r_icmplt (off := 37) (tgt := 53) (by decide +kernel) (by decide) (fun h7 => ?_) (fun h7 => ?_)
      · refine r_p (pc' := 54) (p_aload_n 0 (k := 0) (by decide +kernel) rfl) ?_
        refine r_p (pc' := 55) (p_iconst (n := 3) (v := 3) (by decide +kernel) rfl) ?_
        refine r_p (pc' := 58) (p_sipush (n := 999) (v := 999) (by decide +kernel) (by decide +kernel)) ?_
        refine r_callUI muX5_56l (ctX10_takeNumberl a0 3 999) (rcX10_takeNumberl a0 3 999) ⟨_, _, rfl⟩ (as := [vi 3, vi 999]) (st := []) rfl rfl (by decide +kernel) rfl (Nat.le_of_ble_eq_true rfl) (Nat.le_of_ble_eq_true rfl) fun v8 s => ?_
        refine r_ifeq (off := 15) (tgt := 76) (by decide +kernel) (by decide) (fun h9 => ?_) (fun h9 => ?_)
        · refine r_sub (lv' := []) [] rfl ?_
          exact he4 ((.inl ())) _
        · refine r_p (pc' := 65) (p_aload_n 0 (k := 0) (by decide +kernel) rfl) ?_
          refine r_p (pc' := 66) (p_aload_n 0 (k := 0) (by decide +kernel) rfl) ?_
          refine r_gI flX5_63_5 (by decide +kernel) fun v10 => ?_
          refine r_callVI mvX5_60 (ctX5_write a0 v10) (rcX5_write a0 v10) ⟨_, _, rfl⟩ (as := [vi v10]) (st := []) rfl rfl (by decide +kernel) rfl (Nat.le_of_ble_eq_true rfl) (Nat.le_of_ble_eq_true rfl) fun v11 s => ?_
          refine r_p (pc' := 73) (p_pop rfl (by decide +kernel)) ?_
          refine r_p (pc' := 78) (p_goto (off := 5) (tgt := 78) (by decide +kernel) (by decide)) ?_
          refine r_p (pc' := 79) (p_iload_n 1 (k := 1) (by decide +kernel) rfl) ?_
          refine r_join 90 (fun (x13 : Unit) => [(0, vr a0), (1, vi x1)]) (fun (x13 : Unit) => []) (fun x13 s => ?_) (fun K14 hj15 => ?_)
          · refine r_p (pc' := 91) (p_aload_n 0 (k := 0) (by decide +kernel) rfl) ?_
            refine r_gI flX5_42_5 (by decide +kernel) fun v17 => ?_
            refine r_p (pc' := 96) (p_bipush (n := 43) (v := 43) (by decide +kernel) (by decide +kernel)) ?_
            refine r_icmpeq (off := 5) (tgt := 101) (by decide +kernel) (by decide) (fun h18 => ?_) (fun h18 => ?_)
            · refine r_p (pc' := 102) (p_aload_n 0 (k := 0) (by decide +kernel) rfl) ?_
              refine r_callUU muX5_52l (ctX10_goOnl a0) (rcX10_goOnl a0) ⟨_, _, rfl⟩ (as := []) (st := []) rfl rfl (by decide +kernel) rfl (Nat.le_of_ble_eq_true rfl) (Nat.le_of_ble_eq_true rfl) fun s => ?_
              refine r_p (pc' := 108) (p_iinc 1 (i := 1) (n := 1) (x := x1) (v := x1 + 1) (lv' := [(1, vi (x1 + 1)), (0, vr a0)]) (by decide +kernel) rfl rfl (Nat.le_of_ble_eq_true rfl) rfl) ?_
              refine r_p (pc' := 2) (p_goto (off := -106) (tgt := 2) (by decide +kernel) (by decide)) ?_
              refine r_sub (lv' := [(0, vr a0), (1, vi (x1 + 1))]) [1, 0] rfl ?_
              exact hb3 (x1 + 1) _
            · refine r_sub (lv' := []) [] rfl ?_
              exact he4 ((.inr (.inl ()))) _
          · refine r_ifle (off := 11) (tgt := 90) (by decide +kernel) (by decide) (fun h12 => ?_) (fun h12 => ?_)
            · exact hj15 () _
            · refine r_p (pc' := 83) (p_aload_n 0 (k := 0) (by decide +kernel) rfl) ?_
              refine r_p (pc' := 86) (p_sipush (n := 1030) (v := 1030) (by decide +kernel) (by decide +kernel)) ?_
              refine r_callVI mvX5_60 (ctX5_write a0 1030) (rcX5_write a0 1030) ⟨_, _, rfl⟩ (as := [vi 1030]) (st := []) rfl rfl (by decide +kernel) rfl (Nat.le_of_ble_eq_true rfl) (Nat.le_of_ble_eq_true rfl) fun v16 s => ?_
              refine r_p (pc' := 90) (p_pop rfl (by decide +kernel)) ?_
              exact hj15 () _
      · refine r_p (pc' := 20) (p_aload_n 0 (k := 0) (by decide +kernel) rfl) ?_
        refine r_gI flX5_42_5 (by decide +kernel) fun v19 => ?_
        refine r_p (pc' := 26) (p_sipush (n := 311) (v := 311) (by decide +kernel) (by decide +kernel)) ?_
        refine r_icmpgt (off := 27) (tgt := 53) (by decide +kernel) (by decide) (fun h20 => ?_) (fun h20 => ?_)
        · refine r_p (pc' := 54) (p_aload_n 0 (k := 0) (by decide +kernel) rfl) ?_
          refine r_p (pc' := 55) (p_iconst (n := 3) (v := 3) (by decide +kernel) rfl) ?_
          refine r_p (pc' := 58) (p_sipush (n := 999) (v := 999) (by decide +kernel) (by decide +kernel)) ?_
          refine r_callUI muX5_56l (ctX10_takeNumberl a0 3 999) (rcX10_takeNumberl a0 3 999) ⟨_, _, rfl⟩ (as := [vi 3, vi 999]) (st := []) rfl rfl (by decide +kernel) rfl (Nat.le_of_ble_eq_true rfl) (Nat.le_of_ble_eq_true rfl) fun v21 s => ?_
          refine r_ifeq (off := 15) (tgt := 76) (by decide +kernel) (by decide) (fun h22 => ?_) (fun h22 => ?_)
          · refine r_sub (lv' := []) [] rfl ?_
            exact he4 ((.inl ())) _
          · refine r_p (pc' := 65) (p_aload_n 0 (k := 0) (by decide +kernel) rfl) ?_
            refine r_p (pc' := 66) (p_aload_n 0 (k := 0) (by decide +kernel) rfl) ?_
            refine r_gI flX5_63_5 (by decide +kernel) fun v23 => ?_
            refine r_callVI mvX5_60 (ctX5_write a0 v23) (rcX5_write a0 v23) ⟨_, _, rfl⟩ (as := [vi v23]) (st := []) rfl rfl (by decide +kernel) rfl (Nat.le_of_ble_eq_true rfl) (Nat.le_of_ble_eq_true rfl) fun v24 s => ?_
            refine r_p (pc' := 73) (p_pop rfl (by decide +kernel)) ?_
            refine r_p (pc' := 78) (p_goto (off := 5) (tgt := 78) (by decide +kernel) (by decide)) ?_
            refine r_p (pc' := 79) (p_iload_n 1 (k := 1) (by decide +kernel) rfl) ?_
            refine r_join 90 (fun (x26 : Unit) => [(0, vr a0), (1, vi x1)]) (fun (x26 : Unit) => []) (fun x26 s => ?_) (fun K27 hj28 => ?_)
            · refine r_p (pc' := 91) (p_aload_n 0 (k := 0) (by decide +kernel) rfl) ?_
              refine r_gI flX5_42_5 (by decide +kernel) fun v30 => ?_
              refine r_p (pc' := 96) (p_bipush (n := 43) (v := 43) (by decide +kernel) (by decide +kernel)) ?_
              refine r_icmpeq (off := 5) (tgt := 101) (by decide +kernel) (by decide) (fun h31 => ?_) (fun h31 => ?_)
              · refine r_p (pc' := 102) (p_aload_n 0 (k := 0) (by decide +kernel) rfl) ?_
                refine r_callUU muX5_52l (ctX10_goOnl a0) (rcX10_goOnl a0) ⟨_, _, rfl⟩ (as := []) (st := []) rfl rfl (by decide +kernel) rfl (Nat.le_of_ble_eq_true rfl) (Nat.le_of_ble_eq_true rfl) fun s => ?_
                refine r_p (pc' := 108) (p_iinc 1 (i := 1) (n := 1) (x := x1) (v := x1 + 1) (lv' := [(1, vi (x1 + 1)), (0, vr a0)]) (by decide +kernel) rfl rfl (Nat.le_of_ble_eq_true rfl) rfl) ?_
                refine r_p (pc' := 2) (p_goto (off := -106) (tgt := 2) (by decide +kernel) (by decide)) ?_
                refine r_sub (lv' := [(0, vr a0), (1, vi (x1 + 1))]) [1, 0] rfl ?_
                exact hb3 (x1 + 1) _
              · refine r_sub (lv' := []) [] rfl ?_
                exact he4 ((.inr (.inl ()))) _
            · refine r_ifle (off := 11) (tgt := 90) (by decide +kernel) (by decide) (fun h25 => ?_) (fun h25 => ?_)
              · exact hj28 () _
              · refine r_p (pc' := 83) (p_aload_n 0 (k := 0) (by decide +kernel) rfl) ?_
                refine r_p (pc' := 86) (p_sipush (n := 1030) (v := 1030) (by decide +kernel) (by decide +kernel)) ?_
                refine r_callVI mvX5_60 (ctX5_write a0 1030) (rcX5_write a0 1030) ⟨_, _, rfl⟩ (as := [vi 1030]) (st := []) rfl rfl (by decide +kernel) rfl (Nat.le_of_ble_eq_true rfl) (Nat.le_of_ble_eq_true rfl) fun v29 s => ?_
                refine r_p (pc' := 90) (p_pop rfl (by decide +kernel)) ?_
                exact hj28 () _
        · refine r_p (pc' := 30) (p_aload_n 0 (k := 0) (by decide +kernel) rfl) ?_
          refine r_p (pc' := 33) (p_sipush (n := 1000) (v := 1000) (by decide +kernel) (by decide +kernel)) ?_
          refine r_p (pc' := 34) (p_aload_n 0 (k := 0) (by decide +kernel) rfl) ?_
          refine r_gI flX5_42_5 (by decide +kernel) fun v32 => ?_
          refine r_p (pc' := 38) (p_iadd (by decide +kernel)) ?_
          refine r_p (pc' := 41) (p_sipush (n := 304) (v := 304) (by decide +kernel) (by decide +kernel)) ?_
          refine r_p (pc' := 42) (p_isub (by decide +kernel)) ?_
          refine r_callVI mvX5_60 (ctX5_write a0 ((1000 + v32) - 304)) (rcX5_write a0 ((1000 + v32) - 304)) ⟨_, _, rfl⟩ (as := [vi ((1000 + v32) - 304)]) (st := []) rfl rfl (by decide +kernel) rfl (Nat.le_of_ble_eq_true rfl) (Nat.le_of_ble_eq_true rfl) fun v33 s => ?_
          refine r_p (pc' := 46) (p_pop rfl (by decide +kernel)) ?_
          refine r_p (pc' := 47) (p_aload_n 0 (k := 0) (by decide +kernel) rfl) ?_
          refine r_callUU muX5_52l (ctX10_goOnl a0) (rcX10_goOnl a0) ⟨_, _, rfl⟩ (as := []) (st := []) rfl rfl (by decide +kernel) rfl (Nat.le_of_ble_eq_true rfl) (Nat.le_of_ble_eq_true rfl) fun s => ?_
          refine r_p (pc' := 78) (p_goto (off := 28) (tgt := 78) (by decide +kernel) (by decide)) ?_
          refine r_p (pc' := 79) (p_iload_n 1 (k := 1) (by decide +kernel) rfl) ?_
          refine r_join 90 (fun (x35 : Unit) => [(0, vr a0), (1, vi x1)]) (fun (x35 : Unit) => []) (fun x35 s => ?_) (fun K36 hj37 => ?_)
          · refine r_p (pc' := 91) (p_aload_n 0 (k := 0) (by decide +kernel) rfl) ?_
            refine r_gI flX5_42_5 (by decide +kernel) fun v39 => ?_
            refine r_p (pc' := 96) (p_bipush (n := 43) (v := 43) (by decide +kernel) (by decide +kernel)) ?_
            refine r_icmpeq (off := 5) (tgt := 101) (by decide +kernel) (by decide) (fun h40 => ?_) (fun h40 => ?_)
            · refine r_p (pc' := 102) (p_aload_n 0 (k := 0) (by decide +kernel) rfl) ?_
              refine r_callUU muX5_52l (ctX10_goOnl a0) (rcX10_goOnl a0) ⟨_, _, rfl⟩ (as := []) (st := []) rfl rfl (by decide +kernel) rfl (Nat.le_of_ble_eq_true rfl) (Nat.le_of_ble_eq_true rfl) fun s => ?_
              refine r_p (pc' := 108) (p_iinc 1 (i := 1) (n := 1) (x := x1) (v := x1 + 1) (lv' := [(1, vi (x1 + 1)), (0, vr a0)]) (by decide +kernel) rfl rfl (Nat.le_of_ble_eq_true rfl) rfl) ?_
              refine r_p (pc' := 2) (p_goto (off := -106) (tgt := 2) (by decide +kernel) (by decide)) ?_
              refine r_sub (lv' := [(0, vr a0), (1, vi (x1 + 1))]) [1, 0] rfl ?_
              exact hb3 (x1 + 1) _
            · refine r_sub (lv' := []) [] rfl ?_
              exact he4 ((.inr (.inl ()))) _
          · refine r_ifle (off := 11) (tgt := 90) (by decide +kernel) (by decide) (fun h34 => ?_) (fun h34 => ?_)
            · exact hj37 () _
            · refine r_p (pc' := 83) (p_aload_n 0 (k := 0) (by decide +kernel) rfl) ?_
              refine r_p (pc' := 86) (p_sipush (n := 1030) (v := 1030) (by decide +kernel) (by decide +kernel)) ?_
              refine r_callVI mvX5_60 (ctX5_write a0 1030) (rcX5_write a0 1030) ⟨_, _, rfl⟩ (as := [vi 1030]) (st := []) rfl rfl (by decide +kernel) rfl (Nat.le_of_ble_eq_true rfl) (Nat.le_of_ble_eq_true rfl) fun v38 s => ?_
              refine r_p (pc' := 90) (p_pop rfl (by decide +kernel)) ?_
              exact hj37 () _
def aX5_readPlain : StA := (RX5, cX5_readPlain, 2, some .boolean, yX5_readPlain, 11, [])
theorem mvX5_98 : MV RX5 98 aX5_readSum 0 := ⟨tblG_of 953 (by decide +kernel) (by decide +kernel), tblG_of 955 (by decide +kernel) (by decide +kernel), tblG_of 17 (by decide +kernel) (by decide +kernel), tblG_of 156 (by decide +kernel) (by decide +kernel), tblG_of 956 (by decide +kernel) (by decide +kernel), rfl, ⟨by decide, by decide⟩, by decide +kernel, by decide⟩
noncomputable def mX5_readPlain (a0 : Nat) : MM Int32 := onC 5 a0 (
  mbnd (gI 5 7 a0) fun (v1 : Int32) =>
  if v1 < 300 then (
    mbnd (mX5_readSum a0) fun (v3 : Int32) =>
    if v3 = 0 then (
      mret 0
    ) else (
      mbnd (gI 5 7 a0) fun (v5 : Int32) =>
      if v5 = 60 then (
        mbnd (nox (mX10_goOnl a0)) fun _ =>
        mbnd (mX5_readSum a0) fun (v7 : Int32) =>
        if v7 = 0 then (
          mret 0
        ) else (
          mbnd (α := Int32) (
            if v5 = 60 then (
              mret 1031
            ) else (
              mret 1032
            )
          ) fun (x10 : Int32) =>
          mbnd (mX5_write a0 x10) fun (v13 : Int32) =>
          if v13 = 0 then (
            mret 0
          ) else (
            mret 1
          )
        )
      ) else (
        if v5 = 62 then (
          mbnd (nox (mX10_goOnl a0)) fun _ =>
          mbnd (mX5_readSum a0) fun (v16 : Int32) =>
          if v16 = 0 then (
            mret 0
          ) else (
            mbnd (α := Int32) (
              if v5 = 60 then (
                mret 1031
              ) else (
                mret 1032
              )
            ) fun (x19 : Int32) =>
            mbnd (mX5_write a0 x19) fun (v22 : Int32) =>
            if v22 = 0 then (
              mret 0
            ) else (
              mret 1
            )
          )
        ) else (
          mbnd (gI 5 8 a0) fun (v24 : Int32) =>
          mbnd (nox (mX10_wrongl a0 v24)) fun (v25 : Int32) =>
          mbool v25
        )
      )
    )
  ) else (
    mbnd (gI 5 7 a0) fun (v26 : Int32) =>
    if 303 < v26 then (
      mbnd (mX5_readSum a0) fun (v28 : Int32) =>
      if v28 = 0 then (
        mret 0
      ) else (
        mbnd (gI 5 7 a0) fun (v30 : Int32) =>
        if v30 = 60 then (
          mbnd (nox (mX10_goOnl a0)) fun _ =>
          mbnd (mX5_readSum a0) fun (v32 : Int32) =>
          if v32 = 0 then (
            mret 0
          ) else (
            mbnd (α := Int32) (
              if v30 = 60 then (
                mret 1031
              ) else (
                mret 1032
              )
            ) fun (x35 : Int32) =>
            mbnd (mX5_write a0 x35) fun (v38 : Int32) =>
            if v38 = 0 then (
              mret 0
            ) else (
              mret 1
            )
          )
        ) else (
          if v30 = 62 then (
            mbnd (nox (mX10_goOnl a0)) fun _ =>
            mbnd (mX5_readSum a0) fun (v41 : Int32) =>
            if v41 = 0 then (
              mret 0
            ) else (
              mbnd (α := Int32) (
                if v30 = 60 then (
                  mret 1031
                ) else (
                  mret 1032
                )
              ) fun (x44 : Int32) =>
              mbnd (mX5_write a0 x44) fun (v47 : Int32) =>
              if v47 = 0 then (
                mret 0
              ) else (
                mret 1
              )
            )
          ) else (
            mbnd (gI 5 8 a0) fun (v49 : Int32) =>
            mbnd (nox (mX10_wrongl a0 v49)) fun (v50 : Int32) =>
            mbool v50
          )
        )
      )
    ) else (
      mbnd (gI 5 7 a0) fun (v51 : Int32) =>
      mbnd (α := Int32) (
        if v51 = 303 then (
          mret 1009
        ) else (
          mbnd (gI 5 7 a0) fun (v56 : Int32) =>
          mret ((1020 + v56) - 300)
        )
      ) fun (x53 : Int32) =>
      mbnd (mX5_write a0 x53) fun (v57 : Int32) =>
      mbnd (nox (mX10_goOnl a0)) fun _ =>
      mret 1
    )
  )
  )
theorem rcX5_readPlain (a0 : Nat) : Rcv 5 a0 (mX5_readPlain a0) := fun s r h => ⟨(onC_some h).1, (onC_some h).2.1⟩
set_option maxHeartbeats 4000000 in
set_option maxRecDepth 100000 in
theorem ctX5_readPlain (a0 : Nat) : Ct aX5_readPlain [vr a0] (mX5_readPlain a0) rI := by
  unfold mX5_readPlain
  refine ct_onC (ct_intro (by decide +kernel) rfl (Nat.le_of_ble_eq_true rfl) fun Y s => ?_)
  refine r_sub (lv' := [(0, vr a0)]) [0] rfl ?_
  refine r_p (pc' := 1) (p_aload_n 0 (k := 0) (by decide +kernel) rfl) ?_
  refine r_gI flX5_42_5 (by decide +kernel) fun v1 => ?_
  refine r_p (pc' := 7) (p_sipush (n := 300) (v := 300) (by decide +kernel) (by decide +kernel)) ?_
  refine r_icmplt (off := 52) (tgt := 59) (by decide +kernel) (by decide) (fun h2 => ?_) (fun h2 => ?_)
  · refine r_p (pc' := 60) (p_aload_n 0 (k := 0) (by decide +kernel) rfl) ?_
    refine r_callVI mvX5_98 (ctX5_readSum a0) (rcX5_readSum a0) ⟨_, _, rfl⟩ (as := []) (st := []) rfl rfl (by decide +kernel) rfl (Nat.le_of_ble_eq_true rfl) (Nat.le_of_ble_eq_true rfl) fun v3 s => ?_
    refine r_ifne (off := 5) (tgt := 68) (by decide +kernel) (by decide) (fun h4 => ?_) (fun h4 => ?_)
    · refine r_p (pc' := 67) (p_iconst (n := 0) (v := 0) (by decide +kernel) rfl) ?_
      exact r_iret rfl rfl _ rfl rfl (by decide +kernel)
    · refine r_p (pc' := 69) (p_aload_n 0 (k := 0) (by decide +kernel) rfl) ?_
      refine r_gI flX5_42_5 (by decide +kernel) fun v5 => ?_
      refine r_p (pc' := 73) (p_istore_n (k := 1) (lv' := [(1, vi v5), (0, vr a0)]) (by decide +kernel) (Nat.le_of_ble_eq_true rfl) rfl) ?_
      refine r_p (pc' := 74) (p_iload_n 0 (k := 1) (by decide +kernel) rfl) ?_
      refine r_p (pc' := 76) (p_bipush (n := 60) (v := 60) (by decide +kernel) (by decide +kernel)) ?_
      refine r_icmpeq (off := 18) (tgt := 94) (by decide +kernel) (by decide) (fun h6 => ?_) (fun h6 => ?_)
      · refine r_p (pc' := 95) (p_aload_n 1 (k := 0) (by decide +kernel) rfl) ?_
        refine r_callUU muX5_52l (ctX10_goOnl a0) (rcX10_goOnl a0) ⟨_, _, rfl⟩ (as := []) (st := []) rfl rfl (by decide +kernel) rfl (Nat.le_of_ble_eq_true rfl) (Nat.le_of_ble_eq_true rfl) fun s => ?_
        refine r_p (pc' := 99) (p_aload_n 1 (k := 0) (by decide +kernel) rfl) ?_
        refine r_callVI mvX5_98 (ctX5_readSum a0) (rcX5_readSum a0) ⟨_, _, rfl⟩ (as := []) (st := []) rfl rfl (by decide +kernel) rfl (Nat.le_of_ble_eq_true rfl) (Nat.le_of_ble_eq_true rfl) fun v7 s => ?_
        refine r_ifeq (off := 29) (tgt := 131) (by decide +kernel) (by decide) (fun h8 => ?_) (fun h8 => ?_)
        · refine r_p (pc' := 132) (p_iconst (n := 0) (v := 0) (by decide +kernel) rfl) ?_
          exact r_iret rfl rfl _ rfl rfl (by decide +kernel)
        · refine r_p (pc' := 106) (p_aload_n 1 (k := 0) (by decide +kernel) rfl) ?_
          refine r_p (pc' := 107) (p_iload_n 0 (k := 1) (by decide +kernel) rfl) ?_
          refine r_p (pc' := 109) (p_bipush (n := 60) (v := 60) (by decide +kernel) (by decide +kernel)) ?_
          refine r_join 121 (fun (x10 : Int32) => []) (fun (x10 : Int32) => [vi x10, vr a0]) (fun x10 s => ?_) (fun K11 hj12 => ?_)
          · refine r_callVI mvX5_60 (ctX5_write a0 x10) (rcX5_write a0 x10) ⟨_, _, rfl⟩ (as := [vi x10]) (st := []) rfl rfl (by decide +kernel) rfl (Nat.le_of_ble_eq_true rfl) (Nat.le_of_ble_eq_true rfl) fun v13 s => ?_
            refine r_ifeq (off := 7) (tgt := 131) (by decide +kernel) (by decide) (fun h14 => ?_) (fun h14 => ?_)
            · refine r_p (pc' := 132) (p_iconst (n := 0) (v := 0) (by decide +kernel) rfl) ?_
              exact r_iret rfl rfl _ rfl rfl (by decide +kernel)
            · refine r_p (pc' := 128) (p_iconst (n := 1) (v := 1) (by decide +kernel) rfl) ?_
              refine r_p (pc' := 132) (p_goto (off := 4) (tgt := 132) (by decide +kernel) (by decide)) ?_
              exact r_iret rfl rfl _ rfl rfl (by decide +kernel)
          · refine r_icmpne (off := 9) (tgt := 118) (by decide +kernel) (by decide) (fun h9 => ?_) (fun h9 => ?_)
            · refine r_p (pc' := 115) (p_sipush (n := 1031) (v := 1031) (by decide +kernel) (by decide +kernel)) ?_
              refine r_p (pc' := 121) (p_goto (off := 6) (tgt := 121) (by decide +kernel) (by decide)) ?_
              refine r_sub (lv' := []) [] rfl ?_
              exact hj12 1031 _
            · refine r_p (pc' := 121) (p_sipush (n := 1032) (v := 1032) (by decide +kernel) (by decide +kernel)) ?_
              refine r_sub (lv' := []) [] rfl ?_
              exact hj12 1032 _
      · refine r_p (pc' := 80) (p_iload_n 0 (k := 1) (by decide +kernel) rfl) ?_
        refine r_p (pc' := 82) (p_bipush (n := 62) (v := 62) (by decide +kernel) (by decide +kernel)) ?_
        refine r_icmpeq (off := 12) (tgt := 94) (by decide +kernel) (by decide) (fun h15 => ?_) (fun h15 => ?_)
        · refine r_p (pc' := 95) (p_aload_n 1 (k := 0) (by decide +kernel) rfl) ?_
          refine r_callUU muX5_52l (ctX10_goOnl a0) (rcX10_goOnl a0) ⟨_, _, rfl⟩ (as := []) (st := []) rfl rfl (by decide +kernel) rfl (Nat.le_of_ble_eq_true rfl) (Nat.le_of_ble_eq_true rfl) fun s => ?_
          refine r_p (pc' := 99) (p_aload_n 1 (k := 0) (by decide +kernel) rfl) ?_
          refine r_callVI mvX5_98 (ctX5_readSum a0) (rcX5_readSum a0) ⟨_, _, rfl⟩ (as := []) (st := []) rfl rfl (by decide +kernel) rfl (Nat.le_of_ble_eq_true rfl) (Nat.le_of_ble_eq_true rfl) fun v16 s => ?_
          refine r_ifeq (off := 29) (tgt := 131) (by decide +kernel) (by decide) (fun h17 => ?_) (fun h17 => ?_)
          · refine r_p (pc' := 132) (p_iconst (n := 0) (v := 0) (by decide +kernel) rfl) ?_
            exact r_iret rfl rfl _ rfl rfl (by decide +kernel)
          · refine r_p (pc' := 106) (p_aload_n 1 (k := 0) (by decide +kernel) rfl) ?_
            refine r_p (pc' := 107) (p_iload_n 0 (k := 1) (by decide +kernel) rfl) ?_
            refine r_p (pc' := 109) (p_bipush (n := 60) (v := 60) (by decide +kernel) (by decide +kernel)) ?_
            refine r_join 121 (fun (x19 : Int32) => []) (fun (x19 : Int32) => [vi x19, vr a0]) (fun x19 s => ?_) (fun K20 hj21 => ?_)
            · refine r_callVI mvX5_60 (ctX5_write a0 x19) (rcX5_write a0 x19) ⟨_, _, rfl⟩ (as := [vi x19]) (st := []) rfl rfl (by decide +kernel) rfl (Nat.le_of_ble_eq_true rfl) (Nat.le_of_ble_eq_true rfl) fun v22 s => ?_
              refine r_ifeq (off := 7) (tgt := 131) (by decide +kernel) (by decide) (fun h23 => ?_) (fun h23 => ?_)
              · refine r_p (pc' := 132) (p_iconst (n := 0) (v := 0) (by decide +kernel) rfl) ?_
                exact r_iret rfl rfl _ rfl rfl (by decide +kernel)
              · refine r_p (pc' := 128) (p_iconst (n := 1) (v := 1) (by decide +kernel) rfl) ?_
                refine r_p (pc' := 132) (p_goto (off := 4) (tgt := 132) (by decide +kernel) (by decide)) ?_
                exact r_iret rfl rfl _ rfl rfl (by decide +kernel)
            · refine r_icmpne (off := 9) (tgt := 118) (by decide +kernel) (by decide) (fun h18 => ?_) (fun h18 => ?_)
              · refine r_p (pc' := 115) (p_sipush (n := 1031) (v := 1031) (by decide +kernel) (by decide +kernel)) ?_
                refine r_p (pc' := 121) (p_goto (off := 6) (tgt := 121) (by decide +kernel) (by decide)) ?_
                refine r_sub (lv' := []) [] rfl ?_
                exact hj21 1031 _
              · refine r_p (pc' := 121) (p_sipush (n := 1032) (v := 1032) (by decide +kernel) (by decide +kernel)) ?_
                refine r_sub (lv' := []) [] rfl ?_
                exact hj21 1032 _
        · refine r_p (pc' := 86) (p_aload_n 1 (k := 0) (by decide +kernel) rfl) ?_
          refine r_p (pc' := 87) (p_aload_n 1 (k := 0) (by decide +kernel) rfl) ?_
          refine r_gI flX5_45_5 (by decide +kernel) fun v24 => ?_
          refine r_callUI muX5_48l (ctX10_wrongl a0 v24) (rcX10_wrongl a0 v24) ⟨_, _, rfl⟩ (as := [vi v24]) (st := []) rfl rfl (by decide +kernel) rfl (Nat.le_of_ble_eq_true rfl) (Nat.le_of_ble_eq_true rfl) fun v25 s => ?_
          exact r_bret (y9 := fun v => v) (fun _ => rfl) (fun _ => rfl) rfl (by decide +kernel)
  · refine r_p (pc' := 11) (p_aload_n 0 (k := 0) (by decide +kernel) rfl) ?_
    refine r_gI flX5_42_5 (by decide +kernel) fun v26 => ?_
    refine r_p (pc' := 17) (p_sipush (n := 303) (v := 303) (by decide +kernel) (by decide +kernel)) ?_
    refine r_icmpgt (off := 42) (tgt := 59) (by decide +kernel) (by decide) (fun h27 => ?_) (fun h27 => ?_)
    · refine r_p (pc' := 60) (p_aload_n 0 (k := 0) (by decide +kernel) rfl) ?_
      refine r_callVI mvX5_98 (ctX5_readSum a0) (rcX5_readSum a0) ⟨_, _, rfl⟩ (as := []) (st := []) rfl rfl (by decide +kernel) rfl (Nat.le_of_ble_eq_true rfl) (Nat.le_of_ble_eq_true rfl) fun v28 s => ?_
      refine r_ifne (off := 5) (tgt := 68) (by decide +kernel) (by decide) (fun h29 => ?_) (fun h29 => ?_)
      · refine r_p (pc' := 67) (p_iconst (n := 0) (v := 0) (by decide +kernel) rfl) ?_
        exact r_iret rfl rfl _ rfl rfl (by decide +kernel)
      · refine r_p (pc' := 69) (p_aload_n 0 (k := 0) (by decide +kernel) rfl) ?_
        refine r_gI flX5_42_5 (by decide +kernel) fun v30 => ?_
        refine r_p (pc' := 73) (p_istore_n (k := 1) (lv' := [(1, vi v30), (0, vr a0)]) (by decide +kernel) (Nat.le_of_ble_eq_true rfl) rfl) ?_
        refine r_p (pc' := 74) (p_iload_n 0 (k := 1) (by decide +kernel) rfl) ?_
        refine r_p (pc' := 76) (p_bipush (n := 60) (v := 60) (by decide +kernel) (by decide +kernel)) ?_
        refine r_icmpeq (off := 18) (tgt := 94) (by decide +kernel) (by decide) (fun h31 => ?_) (fun h31 => ?_)
        · refine r_p (pc' := 95) (p_aload_n 1 (k := 0) (by decide +kernel) rfl) ?_
          refine r_callUU muX5_52l (ctX10_goOnl a0) (rcX10_goOnl a0) ⟨_, _, rfl⟩ (as := []) (st := []) rfl rfl (by decide +kernel) rfl (Nat.le_of_ble_eq_true rfl) (Nat.le_of_ble_eq_true rfl) fun s => ?_
          refine r_p (pc' := 99) (p_aload_n 1 (k := 0) (by decide +kernel) rfl) ?_
          refine r_callVI mvX5_98 (ctX5_readSum a0) (rcX5_readSum a0) ⟨_, _, rfl⟩ (as := []) (st := []) rfl rfl (by decide +kernel) rfl (Nat.le_of_ble_eq_true rfl) (Nat.le_of_ble_eq_true rfl) fun v32 s => ?_
          refine r_ifeq (off := 29) (tgt := 131) (by decide +kernel) (by decide) (fun h33 => ?_) (fun h33 => ?_)
          · refine r_p (pc' := 132) (p_iconst (n := 0) (v := 0) (by decide +kernel) rfl) ?_
            exact r_iret rfl rfl _ rfl rfl (by decide +kernel)
          · refine r_p (pc' := 106) (p_aload_n 1 (k := 0) (by decide +kernel) rfl) ?_
            refine r_p (pc' := 107) (p_iload_n 0 (k := 1) (by decide +kernel) rfl) ?_
            refine r_p (pc' := 109) (p_bipush (n := 60) (v := 60) (by decide +kernel) (by decide +kernel)) ?_
            refine r_join 121 (fun (x35 : Int32) => []) (fun (x35 : Int32) => [vi x35, vr a0]) (fun x35 s => ?_) (fun K36 hj37 => ?_)
            · refine r_callVI mvX5_60 (ctX5_write a0 x35) (rcX5_write a0 x35) ⟨_, _, rfl⟩ (as := [vi x35]) (st := []) rfl rfl (by decide +kernel) rfl (Nat.le_of_ble_eq_true rfl) (Nat.le_of_ble_eq_true rfl) fun v38 s => ?_
              refine r_ifeq (off := 7) (tgt := 131) (by decide +kernel) (by decide) (fun h39 => ?_) (fun h39 => ?_)
              · refine r_p (pc' := 132) (p_iconst (n := 0) (v := 0) (by decide +kernel) rfl) ?_
                exact r_iret rfl rfl _ rfl rfl (by decide +kernel)
              · refine r_p (pc' := 128) (p_iconst (n := 1) (v := 1) (by decide +kernel) rfl) ?_
                refine r_p (pc' := 132) (p_goto (off := 4) (tgt := 132) (by decide +kernel) (by decide)) ?_
                exact r_iret rfl rfl _ rfl rfl (by decide +kernel)
            · refine r_icmpne (off := 9) (tgt := 118) (by decide +kernel) (by decide) (fun h34 => ?_) (fun h34 => ?_)
              · refine r_p (pc' := 115) (p_sipush (n := 1031) (v := 1031) (by decide +kernel) (by decide +kernel)) ?_
                refine r_p (pc' := 121) (p_goto (off := 6) (tgt := 121) (by decide +kernel) (by decide)) ?_
                refine r_sub (lv' := []) [] rfl ?_
                exact hj37 1031 _
              · refine r_p (pc' := 121) (p_sipush (n := 1032) (v := 1032) (by decide +kernel) (by decide +kernel)) ?_
                refine r_sub (lv' := []) [] rfl ?_
                exact hj37 1032 _
        · refine r_p (pc' := 80) (p_iload_n 0 (k := 1) (by decide +kernel) rfl) ?_
          refine r_p (pc' := 82) (p_bipush (n := 62) (v := 62) (by decide +kernel) (by decide +kernel)) ?_
          refine r_icmpeq (off := 12) (tgt := 94) (by decide +kernel) (by decide) (fun h40 => ?_) (fun h40 => ?_)
          · refine r_p (pc' := 95) (p_aload_n 1 (k := 0) (by decide +kernel) rfl) ?_
            refine r_callUU muX5_52l (ctX10_goOnl a0) (rcX10_goOnl a0) ⟨_, _, rfl⟩ (as := []) (st := []) rfl rfl (by decide +kernel) rfl (Nat.le_of_ble_eq_true rfl) (Nat.le_of_ble_eq_true rfl) fun s => ?_
            refine r_p (pc' := 99) (p_aload_n 1 (k := 0) (by decide +kernel) rfl) ?_
            refine r_callVI mvX5_98 (ctX5_readSum a0) (rcX5_readSum a0) ⟨_, _, rfl⟩ (as := []) (st := []) rfl rfl (by decide +kernel) rfl (Nat.le_of_ble_eq_true rfl) (Nat.le_of_ble_eq_true rfl) fun v41 s => ?_
            refine r_ifeq (off := 29) (tgt := 131) (by decide +kernel) (by decide) (fun h42 => ?_) (fun h42 => ?_)
            · refine r_p (pc' := 132) (p_iconst (n := 0) (v := 0) (by decide +kernel) rfl) ?_
              exact r_iret rfl rfl _ rfl rfl (by decide +kernel)
            · refine r_p (pc' := 106) (p_aload_n 1 (k := 0) (by decide +kernel) rfl) ?_
              refine r_p (pc' := 107) (p_iload_n 0 (k := 1) (by decide +kernel) rfl) ?_
              refine r_p (pc' := 109) (p_bipush (n := 60) (v := 60) (by decide +kernel) (by decide +kernel)) ?_
              refine r_join 121 (fun (x44 : Int32) => []) (fun (x44 : Int32) => [vi x44, vr a0]) (fun x44 s => ?_) (fun K45 hj46 => ?_)
              · refine r_callVI mvX5_60 (ctX5_write a0 x44) (rcX5_write a0 x44) ⟨_, _, rfl⟩ (as := [vi x44]) (st := []) rfl rfl (by decide +kernel) rfl (Nat.le_of_ble_eq_true rfl) (Nat.le_of_ble_eq_true rfl) fun v47 s => ?_
                refine r_ifeq (off := 7) (tgt := 131) (by decide +kernel) (by decide) (fun h48 => ?_) (fun h48 => ?_)
                · refine r_p (pc' := 132) (p_iconst (n := 0) (v := 0) (by decide +kernel) rfl) ?_
                  exact r_iret rfl rfl _ rfl rfl (by decide +kernel)
                · refine r_p (pc' := 128) (p_iconst (n := 1) (v := 1) (by decide +kernel) rfl) ?_
                  refine r_p (pc' := 132) (p_goto (off := 4) (tgt := 132) (by decide +kernel) (by decide)) ?_
                  exact r_iret rfl rfl _ rfl rfl (by decide +kernel)
              · refine r_icmpne (off := 9) (tgt := 118) (by decide +kernel) (by decide) (fun h43 => ?_) (fun h43 => ?_)
                · refine r_p (pc' := 115) (p_sipush (n := 1031) (v := 1031) (by decide +kernel) (by decide +kernel)) ?_
                  refine r_p (pc' := 121) (p_goto (off := 6) (tgt := 121) (by decide +kernel) (by decide)) ?_
                  refine r_sub (lv' := []) [] rfl ?_
                  exact hj46 1031 _
                · refine r_p (pc' := 121) (p_sipush (n := 1032) (v := 1032) (by decide +kernel) (by decide +kernel)) ?_
                  refine r_sub (lv' := []) [] rfl ?_
                  exact hj46 1032 _
          · refine r_p (pc' := 86) (p_aload_n 1 (k := 0) (by decide +kernel) rfl) ?_
            refine r_p (pc' := 87) (p_aload_n 1 (k := 0) (by decide +kernel) rfl) ?_
            refine r_gI flX5_45_5 (by decide +kernel) fun v49 => ?_
            refine r_callUI muX5_48l (ctX10_wrongl a0 v49) (rcX10_wrongl a0 v49) ⟨_, _, rfl⟩ (as := [vi v49]) (st := []) rfl rfl (by decide +kernel) rfl (Nat.le_of_ble_eq_true rfl) (Nat.le_of_ble_eq_true rfl) fun v50 s => ?_
            exact r_bret (y9 := fun v => v) (fun _ => rfl) (fun _ => rfl) rfl (by decide +kernel)
    · refine r_p (pc' := 21) (p_aload_n 0 (k := 0) (by decide +kernel) rfl) ?_
      refine r_p (pc' := 22) (p_aload_n 0 (k := 0) (by decide +kernel) rfl) ?_
      refine r_gI flX5_42_5 (by decide +kernel) fun v51 => ?_
      refine r_p (pc' := 28) (p_sipush (n := 303) (v := 303) (by decide +kernel) (by decide +kernel)) ?_
      refine r_join 49 (fun (x53 : Int32) => [(0, vr a0)]) (fun (x53 : Int32) => [vi x53, vr a0]) (fun x53 s => ?_) (fun K54 hj55 => ?_)
      · refine r_callVI mvX5_60 (ctX5_write a0 x53) (rcX5_write a0 x53) ⟨_, _, rfl⟩ (as := [vi x53]) (st := []) rfl rfl (by decide +kernel) rfl (Nat.le_of_ble_eq_true rfl) (Nat.le_of_ble_eq_true rfl) fun v57 s => ?_
        refine r_p (pc' := 53) (p_pop rfl (by decide +kernel)) ?_
        refine r_p (pc' := 54) (p_aload_n 0 (k := 0) (by decide +kernel) rfl) ?_
        refine r_callUU muX5_52l (ctX10_goOnl a0) (rcX10_goOnl a0) ⟨_, _, rfl⟩ (as := []) (st := []) rfl rfl (by decide +kernel) rfl (Nat.le_of_ble_eq_true rfl) (Nat.le_of_ble_eq_true rfl) fun s => ?_
        refine r_p (pc' := 58) (p_iconst (n := 1) (v := 1) (by decide +kernel) rfl) ?_
        exact r_iret rfl rfl _ rfl rfl (by decide +kernel)
      · refine r_icmpne (off := 9) (tgt := 37) (by decide +kernel) (by decide) (fun h52 => ?_) (fun h52 => ?_)
        · refine r_p (pc' := 34) (p_sipush (n := 1009) (v := 1009) (by decide +kernel) (by decide +kernel)) ?_
          refine r_p (pc' := 49) (p_goto (off := 15) (tgt := 49) (by decide +kernel) (by decide)) ?_
          exact hj55 1009 _
        · refine r_p (pc' := 40) (p_sipush (n := 1020) (v := 1020) (by decide +kernel) (by decide +kernel)) ?_
          refine r_p (pc' := 41) (p_aload_n 0 (k := 0) (by decide +kernel) rfl) ?_
          refine r_gI flX5_42_5 (by decide +kernel) fun v56 => ?_
          refine r_p (pc' := 45) (p_iadd (by decide +kernel)) ?_
          refine r_p (pc' := 48) (p_sipush (n := 300) (v := 300) (by decide +kernel) (by decide +kernel)) ?_
          refine r_p (pc' := 49) (p_isub (by decide +kernel)) ?_
          exact hj55 ((1020 + v56) - 300) _
def aX5_writeNots : StA := (RX5, cX5_writeNots, 1, none, yX5_writeNots, 9, [])
noncomputable def mX5_writeNots_L0 (a0 : Nat) (x1 : Unit) : MM ((Unit) ⊕ (Unit)) :=
  mbnd (gI 5 15 a0) fun (v5 : Int32) =>
  if v5 ≤ 0 then (
    mret (.inr ())
  ) else (
    mbnd (gI 5 15 a0) fun (v7 : Int32) =>
    mbnd (gR 5 13 a0) fun (v8 : Nat) =>
    mbnd (lenI 0 v8) fun (v9 : Int32) =>
    if v9 < v7 then (
      mret (.inr ())
    ) else (
      mbnd (gR 5 13 a0) fun (v11 : Nat) =>
      mbnd (gI 5 15 a0) fun (v12 : Int32) =>
      mbnd (ldI 0 v11 (v12 - 1)) fun (v13 : Int32) =>
      if v13 = 1033 then (
        mbnd (mX5_write a0 1033) fun (v15 : Int32) =>
        mbnd (gI 5 17 a0) fun (v16 : Int32) =>
        mbnd (pI 5 17 a0 (v16 - 1)) fun _ =>
        mbnd (gI 5 15 a0) fun (v17 : Int32) =>
        mbnd (pI 5 15 a0 (v17 - 1)) fun _ =>
        mret (.inl ())
      ) else (
        mret (.inr ())
      )
    )
  )
noncomputable def mX5_writeNots (a0 : Nat) : MM Unit := onC 5 a0 (
  mbnd (loopM (mX5_writeNots_L0 a0) ()) fun (e18 : Unit) =>
  mret ()
  )
theorem rcX5_writeNots (a0 : Nat) : Rcv 5 a0 (mX5_writeNots a0) := fun s r h => ⟨(onC_some h).1, (onC_some h).2.1⟩
set_option maxHeartbeats 4000000 in
set_option maxRecDepth 100000 in
theorem ctX5_writeNots (a0 : Nat) : Ct aX5_writeNots [vr a0] (mX5_writeNots a0) rU := by
  unfold mX5_writeNots
  refine ct_onC (ct_intro (by decide +kernel) rfl (Nat.le_of_ble_eq_true rfl) fun Y s => ?_)
  refine r_sub (lv' := [(0, vr a0)]) [0] rfl ?_
  refine r_loop2 (fun _ => 67) (fun (e18 : Unit) => []) (fun (x1 : Unit) => [(0, vr a0)]) (fun e18 s => ?_) (fun K2 hb3 he4 x1 s => ?_) () _
  · exact r_vret (y9 := ()) rfl rfl rfl (by decide +kernel)
  · unfold mX5_writeNots_L0
    refine r_p (pc' := 1) (p_aload_n 0 (k := 0) (by decide +kernel) rfl) ?_
    refine r_gI flX5_70_5 (by decide +kernel) fun v5 => ?_
    refine r_ifle (off := 63) (tgt := 67) (by decide +kernel) (by decide) (fun h6 => ?_) (fun h6 => ?_)
    · refine r_sub (lv' := []) [] rfl ?_
      exact he4 () _
    · refine r_p (pc' := 8) (p_aload_n 0 (k := 0) (by decide +kernel) rfl) ?_
      refine r_gI flX5_70_5 (by decide +kernel) fun v7 => ?_
      refine r_p (pc' := 12) (p_aload_n 0 (k := 0) (by decide +kernel) rfl) ?_
      refine r_gR flX5_15_5 (by decide +kernel) fun v8 => ?_
      refine r_lenI (by decide) (by decide +kernel) fun v9 => ?_
      refine r_icmpgt (off := 51) (tgt := 67) (by decide +kernel) (by decide) (fun h10 => ?_) (fun h10 => ?_)
      · refine r_sub (lv' := []) [] rfl ?_
        exact he4 () _
      · refine r_p (pc' := 20) (p_aload_n 0 (k := 0) (by decide +kernel) rfl) ?_
        refine r_gR flX5_15_5 (by decide +kernel) fun v11 => ?_
        refine r_p (pc' := 24) (p_aload_n 0 (k := 0) (by decide +kernel) rfl) ?_
        refine r_gI flX5_70_5 (by decide +kernel) fun v12 => ?_
        refine r_p (pc' := 28) (p_iconst (n := 1) (v := 1) (by decide +kernel) rfl) ?_
        refine r_p (pc' := 29) (p_isub (by decide +kernel)) ?_
        refine r_ldI0 (by decide +kernel) fun v13 => ?_
        refine r_p (pc' := 33) (p_sipush (n := 1033) (v := 1033) (by decide +kernel) (by decide +kernel)) ?_
        refine r_icmpne (off := 34) (tgt := 67) (by decide +kernel) (by decide) (fun h14 => ?_) (fun h14 => ?_)
        · refine r_p (pc' := 37) (p_aload_n 0 (k := 0) (by decide +kernel) rfl) ?_
          refine r_p (pc' := 40) (p_sipush (n := 1033) (v := 1033) (by decide +kernel) (by decide +kernel)) ?_
          refine r_callVI mvX5_60 (ctX5_write a0 1033) (rcX5_write a0 1033) ⟨_, _, rfl⟩ (as := [vi 1033]) (st := []) rfl rfl (by decide +kernel) rfl (Nat.le_of_ble_eq_true rfl) (Nat.le_of_ble_eq_true rfl) fun v15 s => ?_
          refine r_p (pc' := 44) (p_pop rfl (by decide +kernel)) ?_
          refine r_p (pc' := 45) (p_aload_n 0 (k := 0) (by decide +kernel) rfl) ?_
          refine r_p (pc' := 46) (p_dup rfl (by decide +kernel)) ?_
          refine r_gI flX5_76_5 (by decide +kernel) fun v16 => ?_
          refine r_p (pc' := 50) (p_iconst (n := 1) (v := 1) (by decide +kernel) rfl) ?_
          refine r_p (pc' := 51) (p_isub (by decide +kernel)) ?_
          refine r_pI fpX5_76_5 (fun h => by cases h) (by decide +kernel) fun s => ?_
          refine r_p (pc' := 55) (p_aload_n 0 (k := 0) (by decide +kernel) rfl) ?_
          refine r_p (pc' := 56) (p_dup rfl (by decide +kernel)) ?_
          refine r_gI flX5_70_5 (by decide +kernel) fun v17 => ?_
          refine r_p (pc' := 60) (p_iconst (n := 1) (v := 1) (by decide +kernel) rfl) ?_
          refine r_p (pc' := 61) (p_isub (by decide +kernel)) ?_
          refine r_pI fpX5_70_5 (fun h => by cases h) (by decide +kernel) fun s => ?_
          refine r_p (pc' := 0) (p_goto (off := -64) (tgt := 0) (by decide +kernel) (by decide)) ?_
          exact hb3 () _
        · refine r_sub (lv' := []) [] rfl ?_
          exact he4 () _
def aX5_writeWaiting : StA := (RX5, cX5_writeWaiting, 2, none, yX5_writeWaiting, 9, [])
noncomputable def mX5_writeWaiting_L0 (a0 : Nat) (a1 : Int32) (x1 : Unit) : MM ((Unit) ⊕ (Unit)) :=
  mbnd (gI 5 15 a0) fun (v5 : Int32) =>
  if v5 ≤ 0 then (
    mret (.inr ())
  ) else (
    mbnd (gI 5 15 a0) fun (v7 : Int32) =>
    mbnd (gR 5 13 a0) fun (v8 : Nat) =>
    mbnd (lenI 0 v8) fun (v9 : Int32) =>
    if v9 < v7 then (
      mret (.inr ())
    ) else (
      mbnd (gR 5 13 a0) fun (v11 : Nat) =>
      mbnd (gI 5 15 a0) fun (v12 : Int32) =>
      mbnd (ldI 0 v11 (v12 - 1)) fun (v13 : Int32) =>
      if v13 = 1034 then (
        mbnd (gR 5 13 a0) fun (v15 : Nat) =>
        mbnd (gI 5 15 a0) fun (v16 : Int32) =>
        mbnd (ldI 0 v15 (v16 - 1)) fun (v17 : Int32) =>
        mbnd (mX5_write a0 v17) fun (v18 : Int32) =>
        mbnd (gI 5 15 a0) fun (v19 : Int32) =>
        mbnd (pI 5 15 a0 (v19 - 1)) fun _ =>
        mret (.inl ())
      ) else (
        mbnd (gR 5 13 a0) fun (v20 : Nat) =>
        mbnd (gI 5 15 a0) fun (v21 : Int32) =>
        mbnd (ldI 0 v20 (v21 - 1)) fun (v22 : Int32) =>
        if v22 = 1035 then (
          if a1 = 1035 then (
            mbnd (gR 5 13 a0) fun (v25 : Nat) =>
            mbnd (gI 5 15 a0) fun (v26 : Int32) =>
            mbnd (ldI 0 v25 (v26 - 1)) fun (v27 : Int32) =>
            mbnd (mX5_write a0 v27) fun (v28 : Int32) =>
            mbnd (gI 5 15 a0) fun (v29 : Int32) =>
            mbnd (pI 5 15 a0 (v29 - 1)) fun _ =>
            mret (.inl ())
          ) else (
            mret (.inr ())
          )
        ) else (
          mret (.inr ())
        )
      )
    )
  )
noncomputable def mX5_writeWaiting (a0 : Nat) (a1 : Int32) : MM Unit := onC 5 a0 (
  mbnd (loopM (mX5_writeWaiting_L0 a0 a1) ()) fun (e30 : Unit) =>
  mret ()
  )
theorem rcX5_writeWaiting (a0 : Nat) (a1 : Int32) : Rcv 5 a0 (mX5_writeWaiting a0 a1) := fun s r h => ⟨(onC_some h).1, (onC_some h).2.1⟩
set_option maxHeartbeats 4000000 in
set_option maxRecDepth 100000 in
theorem ctX5_writeWaiting (a0 : Nat) (a1 : Int32) : Ct aX5_writeWaiting [vr a0, vi a1] (mX5_writeWaiting a0 a1) rU := by
  unfold mX5_writeWaiting
  refine ct_onC (ct_intro (by decide +kernel) rfl (Nat.le_of_ble_eq_true rfl) fun Y s => ?_)
  refine r_sub (lv' := [(0, vr a0), (1, vi a1)]) [0, 1] rfl ?_
  refine r_loop2 (fun _ => 89) (fun (e30 : Unit) => []) (fun (x1 : Unit) => [(0, vr a0), (1, vi a1)]) (fun e30 s => ?_) (fun K2 hb3 he4 x1 s => ?_) () _
  · exact r_vret (y9 := ()) rfl rfl rfl (by decide +kernel)
  · unfold mX5_writeWaiting_L0
    refine r_p (pc' := 1) (p_aload_n 0 (k := 0) (by decide +kernel) rfl) ?_
    refine r_gI flX5_70_5 (by decide +kernel) fun v5 => ?_
    refine r_ifle (off := 85) (tgt := 89) (by decide +kernel) (by decide) (fun h6 => ?_) (fun h6 => ?_)
    · refine r_sub (lv' := []) [] rfl ?_
      exact he4 () _
    · refine r_p (pc' := 8) (p_aload_n 0 (k := 0) (by decide +kernel) rfl) ?_
      refine r_gI flX5_70_5 (by decide +kernel) fun v7 => ?_
      refine r_p (pc' := 12) (p_aload_n 0 (k := 0) (by decide +kernel) rfl) ?_
      refine r_gR flX5_15_5 (by decide +kernel) fun v8 => ?_
      refine r_lenI (by decide) (by decide +kernel) fun v9 => ?_
      refine r_icmpgt (off := 73) (tgt := 89) (by decide +kernel) (by decide) (fun h10 => ?_) (fun h10 => ?_)
      · refine r_sub (lv' := []) [] rfl ?_
        exact he4 () _
      · refine r_p (pc' := 20) (p_aload_n 0 (k := 0) (by decide +kernel) rfl) ?_
        refine r_gR flX5_15_5 (by decide +kernel) fun v11 => ?_
        refine r_p (pc' := 24) (p_aload_n 0 (k := 0) (by decide +kernel) rfl) ?_
        refine r_gI flX5_70_5 (by decide +kernel) fun v12 => ?_
        refine r_p (pc' := 28) (p_iconst (n := 1) (v := 1) (by decide +kernel) rfl) ?_
        refine r_p (pc' := 29) (p_isub (by decide +kernel)) ?_
        refine r_ldI0 (by decide +kernel) fun v13 => ?_
        refine r_p (pc' := 33) (p_sipush (n := 1034) (v := 1034) (by decide +kernel) (by decide +kernel)) ?_
        refine r_icmpeq (off := 27) (tgt := 60) (by decide +kernel) (by decide) (fun h14 => ?_) (fun h14 => ?_)
        · refine r_p (pc' := 61) (p_aload_n 0 (k := 0) (by decide +kernel) rfl) ?_
          refine r_p (pc' := 62) (p_aload_n 0 (k := 0) (by decide +kernel) rfl) ?_
          refine r_gR flX5_15_5 (by decide +kernel) fun v15 => ?_
          refine r_p (pc' := 66) (p_aload_n 0 (k := 0) (by decide +kernel) rfl) ?_
          refine r_gI flX5_70_5 (by decide +kernel) fun v16 => ?_
          refine r_p (pc' := 70) (p_iconst (n := 1) (v := 1) (by decide +kernel) rfl) ?_
          refine r_p (pc' := 71) (p_isub (by decide +kernel)) ?_
          refine r_ldI0 (by decide +kernel) fun v17 => ?_
          refine r_callVI mvX5_60 (ctX5_write a0 v17) (rcX5_write a0 v17) ⟨_, _, rfl⟩ (as := [vi v17]) (st := []) rfl rfl (by decide +kernel) rfl (Nat.le_of_ble_eq_true rfl) (Nat.le_of_ble_eq_true rfl) fun v18 s => ?_
          refine r_p (pc' := 76) (p_pop rfl (by decide +kernel)) ?_
          refine r_p (pc' := 77) (p_aload_n 0 (k := 0) (by decide +kernel) rfl) ?_
          refine r_p (pc' := 78) (p_dup rfl (by decide +kernel)) ?_
          refine r_gI flX5_70_5 (by decide +kernel) fun v19 => ?_
          refine r_p (pc' := 82) (p_iconst (n := 1) (v := 1) (by decide +kernel) rfl) ?_
          refine r_p (pc' := 83) (p_isub (by decide +kernel)) ?_
          refine r_pI fpX5_70_5 (fun h => by cases h) (by decide +kernel) fun s => ?_
          refine r_p (pc' := 0) (p_goto (off := -86) (tgt := 0) (by decide +kernel) (by decide)) ?_
          exact hb3 () _
        · refine r_p (pc' := 37) (p_aload_n 0 (k := 0) (by decide +kernel) rfl) ?_
          refine r_gR flX5_15_5 (by decide +kernel) fun v20 => ?_
          refine r_p (pc' := 41) (p_aload_n 0 (k := 0) (by decide +kernel) rfl) ?_
          refine r_gI flX5_70_5 (by decide +kernel) fun v21 => ?_
          refine r_p (pc' := 45) (p_iconst (n := 1) (v := 1) (by decide +kernel) rfl) ?_
          refine r_p (pc' := 46) (p_isub (by decide +kernel)) ?_
          refine r_ldI0 (by decide +kernel) fun v22 => ?_
          refine r_p (pc' := 50) (p_sipush (n := 1035) (v := 1035) (by decide +kernel) (by decide +kernel)) ?_
          refine r_icmpne (off := 39) (tgt := 89) (by decide +kernel) (by decide) (fun h23 => ?_) (fun h23 => ?_)
          · refine r_p (pc' := 54) (p_iload_n 1 (k := 1) (by decide +kernel) rfl) ?_
            refine r_p (pc' := 57) (p_sipush (n := 1035) (v := 1035) (by decide +kernel) (by decide +kernel)) ?_
            refine r_icmpne (off := 32) (tgt := 89) (by decide +kernel) (by decide) (fun h24 => ?_) (fun h24 => ?_)
            · refine r_p (pc' := 61) (p_aload_n 0 (k := 0) (by decide +kernel) rfl) ?_
              refine r_p (pc' := 62) (p_aload_n 0 (k := 0) (by decide +kernel) rfl) ?_
              refine r_gR flX5_15_5 (by decide +kernel) fun v25 => ?_
              refine r_p (pc' := 66) (p_aload_n 0 (k := 0) (by decide +kernel) rfl) ?_
              refine r_gI flX5_70_5 (by decide +kernel) fun v26 => ?_
              refine r_p (pc' := 70) (p_iconst (n := 1) (v := 1) (by decide +kernel) rfl) ?_
              refine r_p (pc' := 71) (p_isub (by decide +kernel)) ?_
              refine r_ldI0 (by decide +kernel) fun v27 => ?_
              refine r_callVI mvX5_60 (ctX5_write a0 v27) (rcX5_write a0 v27) ⟨_, _, rfl⟩ (as := [vi v27]) (st := []) rfl rfl (by decide +kernel) rfl (Nat.le_of_ble_eq_true rfl) (Nat.le_of_ble_eq_true rfl) fun v28 s => ?_
              refine r_p (pc' := 76) (p_pop rfl (by decide +kernel)) ?_
              refine r_p (pc' := 77) (p_aload_n 0 (k := 0) (by decide +kernel) rfl) ?_
              refine r_p (pc' := 78) (p_dup rfl (by decide +kernel)) ?_
              refine r_gI flX5_70_5 (by decide +kernel) fun v29 => ?_
              refine r_p (pc' := 82) (p_iconst (n := 1) (v := 1) (by decide +kernel) rfl) ?_
              refine r_p (pc' := 83) (p_isub (by decide +kernel)) ?_
              refine r_pI fpX5_70_5 (fun h => by cases h) (by decide +kernel) fun s => ?_
              refine r_p (pc' := 0) (p_goto (off := -86) (tgt := 0) (by decide +kernel) (by decide)) ?_
              exact hb3 () _
            · refine r_sub (lv' := []) [] rfl ?_
              exact he4 () _
          · refine r_sub (lv' := []) [] rfl ?_
            exact he4 () _
def aX5_dropWaiting : StA := (RX5, cX5_dropWaiting, 1, none, yX5_dropWaiting, 8, [])
noncomputable def mX5_dropWaiting (a0 : Nat) : MM Unit := onC 5 a0 (
  mbnd (gI 5 15 a0) fun (v1 : Int32) =>
  if v1 ≤ 0 then (
    mret ()
  ) else (
    mbnd (gI 5 15 a0) fun (v3 : Int32) =>
    mbnd (pI 5 15 a0 (v3 - 1)) fun _ =>
    mret ()
  )
  )
theorem rcX5_dropWaiting (a0 : Nat) : Rcv 5 a0 (mX5_dropWaiting a0) := fun s r h => ⟨(onC_some h).1, (onC_some h).2.1⟩
set_option maxHeartbeats 4000000 in
set_option maxRecDepth 100000 in
theorem ctX5_dropWaiting (a0 : Nat) : Ct aX5_dropWaiting [vr a0] (mX5_dropWaiting a0) rU := by
  unfold mX5_dropWaiting
  refine ct_onC (ct_intro (by decide +kernel) rfl (Nat.le_of_ble_eq_true rfl) fun Y s => ?_)
  refine r_sub (lv' := [(0, vr a0)]) [0] rfl ?_
  refine r_p (pc' := 1) (p_aload_n 0 (k := 0) (by decide +kernel) rfl) ?_
  refine r_gI flX5_70_5 (by decide +kernel) fun v1 => ?_
  refine r_ifle (off := 13) (tgt := 17) (by decide +kernel) (by decide) (fun h2 => ?_) (fun h2 => ?_)
  · exact r_vret (y9 := ()) rfl rfl rfl (by decide +kernel)
  · refine r_p (pc' := 8) (p_aload_n 0 (k := 0) (by decide +kernel) rfl) ?_
    refine r_p (pc' := 9) (p_dup rfl (by decide +kernel)) ?_
    refine r_gI flX5_70_5 (by decide +kernel) fun v3 => ?_
    refine r_p (pc' := 13) (p_iconst (n := 1) (v := 1) (by decide +kernel) rfl) ?_
    refine r_p (pc' := 14) (p_isub (by decide +kernel)) ?_
    refine r_pI fpX5_70_5 (fun h => by cases h) (by decide +kernel) fun s => ?_
    exact r_vret (y9 := ()) rfl rfl rfl (by decide +kernel)
def aX5_closeAtoms : StA := (RX5, cX5_closeAtoms, 2, none, yX5_closeAtoms, 10, [])
theorem mvX5_101 : MV RX5 101 aX5_writeNots 0 := ⟨tblG_of 961 (by decide +kernel) (by decide +kernel), tblG_of 963 (by decide +kernel) (by decide +kernel), tblG_of 19 (by decide +kernel) (by decide +kernel), tblG_of 156 (by decide +kernel) (by decide +kernel), tblG_of 964 (by decide +kernel) (by decide +kernel), rfl, ⟨by decide, by decide⟩, by decide +kernel, by decide⟩
theorem mvX5_92 : MV RX5 92 aX5_writeWaiting 1 := ⟨tblG_of 965 (by decide +kernel) (by decide +kernel), tblG_of 967 (by decide +kernel) (by decide +kernel), tblG_of 20 (by decide +kernel) (by decide +kernel), tblG_of 156 (by decide +kernel) (by decide +kernel), tblG_of 968 (by decide +kernel) (by decide +kernel), rfl, ⟨by decide, by decide⟩, by decide +kernel, by decide⟩
theorem mvX5_104 : MV RX5 104 aX5_dropWaiting 0 := ⟨tblG_of 969 (by decide +kernel) (by decide +kernel), tblG_of 971 (by decide +kernel) (by decide +kernel), tblG_of 21 (by decide +kernel) (by decide +kernel), tblG_of 156 (by decide +kernel) (by decide +kernel), tblG_of 972 (by decide +kernel) (by decide +kernel), rfl, ⟨by decide, by decide⟩, by decide +kernel, by decide⟩
noncomputable def mX5_closeAtoms_L6 (a0 : Nat) (x1 : Int32) : MM ((Int32) ⊕ (Unit)) :=
  if 400 ≤ x1 then (
    mret (.inr ())
  ) else (
    mbnd (gI 5 7 a0) fun (v6 : Int32) =>
    if v6 = 41 then (
      mbnd (gI 5 16 a0) fun (v8 : Int32) =>
      if v8 ≤ 0 then (
        mret (.inr ())
      ) else (
        mbnd (mX5_writeWaiting a0 1035) fun _ =>
        mbnd (mX5_dropWaiting a0) fun _ =>
        mbnd (gI 5 16 a0) fun (v10 : Int32) =>
        mbnd (pI 5 16 a0 (v10 - 1)) fun _ =>
        mbnd (gI 5 17 a0) fun (v11 : Int32) =>
        mbnd (pI 5 17 a0 (v11 - 1)) fun _ =>
        mbnd (nox (mX10_goOnl a0)) fun _ =>
        mbnd (mX5_writeNots a0) fun _ =>
        mret (.inl (x1 + 1))
      )
    ) else (
      mret (.inr ())
    )
  )
noncomputable def mX5_closeAtoms (a0 : Nat) : MM Unit := onC 5 a0 (
  mbnd (mX5_writeNots a0) fun _ =>
  mbnd (loopM (mX5_closeAtoms_L6 a0) 0) fun (e12 : Unit) =>
  mret ()
  )
theorem rcX5_closeAtoms (a0 : Nat) : Rcv 5 a0 (mX5_closeAtoms a0) := fun s r h => ⟨(onC_some h).1, (onC_some h).2.1⟩
set_option maxHeartbeats 4000000 in
set_option maxRecDepth 100000 in
theorem ctX5_closeAtoms (a0 : Nat) : Ct aX5_closeAtoms [vr a0] (mX5_closeAtoms a0) rU := by
  unfold mX5_closeAtoms
  refine ct_onC (ct_intro (by decide +kernel) rfl (Nat.le_of_ble_eq_true rfl) fun Y s => ?_)
  refine r_sub (lv' := [(0, vr a0)]) [0] rfl ?_
  refine r_p (pc' := 1) (p_aload_n 0 (k := 0) (by decide +kernel) rfl) ?_
  refine r_callVU mvX5_101 (ctX5_writeNots a0) (rcX5_writeNots a0) ⟨_, _, rfl⟩ (as := []) (st := []) rfl rfl (by decide +kernel) rfl (Nat.le_of_ble_eq_true rfl) (Nat.le_of_ble_eq_true rfl) fun s => ?_
  refine r_p (pc' := 5) (p_iconst (n := 0) (v := 0) (by decide +kernel) rfl) ?_
  refine r_p (pc' := 6) (p_istore_n (k := 1) (lv' := [(1, vi 0), (0, vr a0)]) (by decide +kernel) (Nat.le_of_ble_eq_true rfl) rfl) ?_
  refine r_sub (lv' := [(0, vr a0), (1, vi 0)]) [1, 0] rfl ?_
  refine r_loop2 (fun _ => 74) (fun (e12 : Unit) => []) (fun (x1 : Int32) => [(0, vr a0), (1, vi x1)]) (fun e12 s => ?_) (fun K2 hb3 he4 x1 s => ?_) 0 _
  · exact r_vret (y9 := ()) rfl rfl rfl (by decide +kernel)
  · unfold mX5_closeAtoms_L6
    refine r_p (pc' := 7) (p_iload_n 1 (k := 1) (by decide +kernel) rfl) ?_
    refine r_p (pc' := 10) (p_sipush (n := 400) (v := 400) (by decide +kernel) (by decide +kernel)) ?_
    refine r_icmpge (off := 64) (tgt := 74) (by decide +kernel) (by decide) (fun h5 => ?_) (fun h5 => ?_)
    · refine r_sub (lv' := []) [] rfl ?_
      exact he4 () _
    · refine r_p (pc' := 14) (p_aload_n 0 (k := 0) (by decide +kernel) rfl) ?_
      refine r_gI flX5_42_5 (by decide +kernel) fun v6 => ?_
      refine r_p (pc' := 19) (p_bipush (n := 41) (v := 41) (by decide +kernel) (by decide +kernel)) ?_
      refine r_icmpne (off := 55) (tgt := 74) (by decide +kernel) (by decide) (fun h7 => ?_) (fun h7 => ?_)
      · refine r_p (pc' := 23) (p_aload_n 0 (k := 0) (by decide +kernel) rfl) ?_
        refine r_gI flX5_73_5 (by decide +kernel) fun v8 => ?_
        refine r_ifle (off := 48) (tgt := 74) (by decide +kernel) (by decide) (fun h9 => ?_) (fun h9 => ?_)
        · refine r_sub (lv' := []) [] rfl ?_
          exact he4 () _
        · refine r_p (pc' := 30) (p_aload_n 0 (k := 0) (by decide +kernel) rfl) ?_
          refine r_p (pc' := 33) (p_sipush (n := 1035) (v := 1035) (by decide +kernel) (by decide +kernel)) ?_
          refine r_callVU mvX5_92 (ctX5_writeWaiting a0 1035) (rcX5_writeWaiting a0 1035) ⟨_, _, rfl⟩ (as := [vi 1035]) (st := []) rfl rfl (by decide +kernel) rfl (Nat.le_of_ble_eq_true rfl) (Nat.le_of_ble_eq_true rfl) fun s => ?_
          refine r_p (pc' := 37) (p_aload_n 0 (k := 0) (by decide +kernel) rfl) ?_
          refine r_callVU mvX5_104 (ctX5_dropWaiting a0) (rcX5_dropWaiting a0) ⟨_, _, rfl⟩ (as := []) (st := []) rfl rfl (by decide +kernel) rfl (Nat.le_of_ble_eq_true rfl) (Nat.le_of_ble_eq_true rfl) fun s => ?_
          refine r_p (pc' := 41) (p_aload_n 0 (k := 0) (by decide +kernel) rfl) ?_
          refine r_p (pc' := 42) (p_dup rfl (by decide +kernel)) ?_
          refine r_gI flX5_73_5 (by decide +kernel) fun v10 => ?_
          refine r_p (pc' := 46) (p_iconst (n := 1) (v := 1) (by decide +kernel) rfl) ?_
          refine r_p (pc' := 47) (p_isub (by decide +kernel)) ?_
          refine r_pI fpX5_73_5 (fun h => by cases h) (by decide +kernel) fun s => ?_
          refine r_p (pc' := 51) (p_aload_n 0 (k := 0) (by decide +kernel) rfl) ?_
          refine r_p (pc' := 52) (p_dup rfl (by decide +kernel)) ?_
          refine r_gI flX5_76_5 (by decide +kernel) fun v11 => ?_
          refine r_p (pc' := 56) (p_iconst (n := 1) (v := 1) (by decide +kernel) rfl) ?_
          refine r_p (pc' := 57) (p_isub (by decide +kernel)) ?_
          refine r_pI fpX5_76_5 (fun h => by cases h) (by decide +kernel) fun s => ?_
          refine r_p (pc' := 61) (p_aload_n 0 (k := 0) (by decide +kernel) rfl) ?_
          refine r_callUU muX5_52l (ctX10_goOnl a0) (rcX10_goOnl a0) ⟨_, _, rfl⟩ (as := []) (st := []) rfl rfl (by decide +kernel) rfl (Nat.le_of_ble_eq_true rfl) (Nat.le_of_ble_eq_true rfl) fun s => ?_
          refine r_p (pc' := 65) (p_aload_n 0 (k := 0) (by decide +kernel) rfl) ?_
          refine r_callVU mvX5_101 (ctX5_writeNots a0) (rcX5_writeNots a0) ⟨_, _, rfl⟩ (as := []) (st := []) rfl rfl (by decide +kernel) rfl (Nat.le_of_ble_eq_true rfl) (Nat.le_of_ble_eq_true rfl) fun s => ?_
          refine r_p (pc' := 71) (p_iinc 1 (i := 1) (n := 1) (x := x1) (v := x1 + 1) (lv' := [(1, vi (x1 + 1)), (0, vr a0)]) (by decide +kernel) rfl rfl (Nat.le_of_ble_eq_true rfl) rfl) ?_
          refine r_p (pc' := 6) (p_goto (off := -65) (tgt := 6) (by decide +kernel) (by decide)) ?_
          refine r_sub (lv' := [(0, vr a0), (1, vi (x1 + 1))]) [1, 0] rfl ?_
          exact hb3 (x1 + 1) _
      · refine r_sub (lv' := []) [] rfl ?_
        exact he4 () _
def aX5_join : StA := (RX5, cX5_join, 2, none, yX5_join, 10, [])
noncomputable def mX5_join (a0 : Nat) (a1 : Int32) : MM Unit := onC 5 a0 (
  mbnd (mX5_writeWaiting a0 a1) fun _ =>
  mbnd (mX5_await a0 a1) fun _ =>
  mret ()
  )
theorem rcX5_join (a0 : Nat) (a1 : Int32) : Rcv 5 a0 (mX5_join a0 a1) := fun s r h => ⟨(onC_some h).1, (onC_some h).2.1⟩
set_option maxHeartbeats 4000000 in
set_option maxRecDepth 100000 in
theorem ctX5_join (a0 : Nat) (a1 : Int32) : Ct aX5_join [vr a0, vi a1] (mX5_join a0 a1) rU := by
  unfold mX5_join
  refine ct_onC (ct_intro (by decide +kernel) rfl (Nat.le_of_ble_eq_true rfl) fun Y s => ?_)
  refine r_sub (lv' := [(0, vr a0), (1, vi a1)]) [0, 1] rfl ?_
  refine r_p (pc' := 1) (p_aload_n 0 (k := 0) (by decide +kernel) rfl) ?_
  refine r_p (pc' := 2) (p_iload_n 1 (k := 1) (by decide +kernel) rfl) ?_
  refine r_callVU mvX5_92 (ctX5_writeWaiting a0 a1) (rcX5_writeWaiting a0 a1) ⟨_, _, rfl⟩ (as := [vi a1]) (st := []) rfl rfl (by decide +kernel) rfl (Nat.le_of_ble_eq_true rfl) (Nat.le_of_ble_eq_true rfl) fun s => ?_
  refine r_p (pc' := 6) (p_aload_n 0 (k := 0) (by decide +kernel) rfl) ?_
  refine r_p (pc' := 7) (p_iload_n 1 (k := 1) (by decide +kernel) rfl) ?_
  refine r_callVU mvX5_95 (ctX5_await a0 a1) (rcX5_await a0 a1) ⟨_, _, rfl⟩ (as := [vi a1]) (st := []) rfl rfl (by decide +kernel) rfl (Nat.le_of_ble_eq_true rfl) (Nat.le_of_ble_eq_true rfl) fun s => ?_
  exact r_vret (y9 := ()) rfl rfl rfl (by decide +kernel)
def aX5_readCondition : StA := (RX5, cX5_readCondition, 3, some .boolean, yX5_readCondition, 12, [])
theorem mvX5_79 : MV RX5 79 aX5_readOpening 0 := ⟨tblG_of 941 (by decide +kernel) (by decide +kernel), tblG_of 943 (by decide +kernel) (by decide +kernel), tblG_of 14 (by decide +kernel) (by decide +kernel), tblG_of 156 (by decide +kernel) (by decide +kernel), tblG_of 944 (by decide +kernel) (by decide +kernel), rfl, ⟨by decide, by decide⟩, by decide +kernel, by decide⟩
theorem mvX5_82 : MV RX5 82 aX5_readPlain 0 := ⟨tblG_of 949 (by decide +kernel) (by decide +kernel), tblG_of 951 (by decide +kernel) (by decide +kernel), tblG_of 16 (by decide +kernel) (by decide +kernel), tblG_of 156 (by decide +kernel) (by decide +kernel), tblG_of 952 (by decide +kernel) (by decide +kernel), rfl, ⟨by decide, by decide⟩, by decide +kernel, by decide⟩
theorem mvX5_85 : MV RX5 85 aX5_closeAtoms 0 := ⟨tblG_of 957 (by decide +kernel) (by decide +kernel), tblG_of 959 (by decide +kernel) (by decide +kernel), tblG_of 18 (by decide +kernel) (by decide +kernel), tblG_of 156 (by decide +kernel) (by decide +kernel), tblG_of 960 (by decide +kernel) (by decide +kernel), rfl, ⟨by decide, by decide⟩, by decide +kernel, by decide⟩
theorem mvX5_88 : MV RX5 88 aX5_join 1 := ⟨tblG_of 973 (by decide +kernel) (by decide +kernel), tblG_of 975 (by decide +kernel) (by decide +kernel), tblG_of 22 (by decide +kernel) (by decide +kernel), tblG_of 156 (by decide +kernel) (by decide +kernel), tblG_of 976 (by decide +kernel) (by decide +kernel), rfl, ⟨by decide, by decide⟩, by decide +kernel, by decide⟩
noncomputable def mX5_readCondition_L19 (a0 : Nat) (x1 : Int32 × Int32) : MM ((Int32 × Int32) ⊕ (Unit ⊕ Unit)) :=
  if 400 ≤ x1.2 then (
    mret (.inr ((.inr ())))
  ) else (
    if x1.1 = 0 then (
      mret (.inr ((.inr ())))
    ) else (
      mbnd (nox (mX10_goOnl a0)) fun _ =>
      mbnd (mX5_readOpening a0) fun (v7 : Int32) =>
      if v7 = 0 then (
        mret (.inr ((.inl ())))
      ) else (
        mbnd (mX5_readPlain a0) fun (v9 : Int32) =>
        if v9 = 0 then (
          mret (.inr ((.inl ())))
        ) else (
          mbnd (mX5_closeAtoms a0) fun _ =>
          mbnd (gI 5 7 a0) fun (v11 : Int32) =>
          mbnd (α := Int32) (
            if v11 = 317 then (
              mret 1
            ) else (
              mbnd (gI 5 7 a0) fun (v16 : Int32) =>
              if v16 = 318 then (
                mret 1
              ) else (
                mret 0
              )
            )
          ) fun (x13 : Int32) =>
          mbnd (α := Unit) (
            if x13 = 0 then (
              mret ()
            ) else (
              mbnd (gI 5 7 a0) fun (v22 : Int32) =>
              mbnd (α := Int32) (
                if v22 = 317 then (
                  mret 1034
                ) else (
                  mret 1035
                )
              ) fun (x24 : Int32) =>
              mbnd (mX5_join a0 x24) fun _ =>
              mret ()
            )
          ) fun (x19 : Unit) =>
          mret (.inl (x13, x1.2 + 1))
        )
      )
    )
  )
noncomputable def mX5_readCondition (a0 : Nat) : MM Int32 := onC 5 a0 (
  mbnd (pI 5 15 a0 0) fun _ =>
  mbnd (pI 5 16 a0 0) fun _ =>
  mbnd (pI 5 17 a0 0) fun _ =>
  mbnd (loopM (mX5_readCondition_L19 a0) (1, 0)) fun (e27 : Unit ⊕ Unit) => match e27 with
    | .inl e27 => (
      mret 0
      )
    | .inr e27 => (
      mbnd (mX5_writeWaiting a0 1035) fun _ =>
      mbnd (gI 5 16 a0) fun (v28 : Int32) =>
      if v28 = 0 then (
        mret 1
      ) else (
        mbnd (gI 5 8 a0) fun (v30 : Int32) =>
        mbnd (nox (mX10_wrongl a0 v30)) fun (v31 : Int32) =>
        if v31 = 0 then (
          mret 0
        ) else (
          mret 1
        )
      )
      )
  )
theorem rcX5_readCondition (a0 : Nat) : Rcv 5 a0 (mX5_readCondition a0) := fun s r h => ⟨(onC_some h).1, (onC_some h).2.1⟩
set_option maxHeartbeats 4000000 in
set_option maxRecDepth 100000 in
theorem ctX5_readCondition (a0 : Nat) : Ct aX5_readCondition [vr a0] (mX5_readCondition a0) rI := by
  unfold mX5_readCondition
  refine ct_onC (ct_intro (by decide +kernel) rfl (Nat.le_of_ble_eq_true rfl) fun Y s => ?_)
  refine r_sub (lv' := [(0, vr a0)]) [0] rfl ?_
  refine r_p (pc' := 1) (p_aload_n 0 (k := 0) (by decide +kernel) rfl) ?_
  refine r_p (pc' := 2) (p_iconst (n := 0) (v := 0) (by decide +kernel) rfl) ?_
  refine r_pI fpX5_70_5 (fun h => by cases h) (by decide +kernel) fun s => ?_
  refine r_p (pc' := 6) (p_aload_n 0 (k := 0) (by decide +kernel) rfl) ?_
  refine r_p (pc' := 7) (p_iconst (n := 0) (v := 0) (by decide +kernel) rfl) ?_
  refine r_pI fpX5_73_5 (fun h => by cases h) (by decide +kernel) fun s => ?_
  refine r_p (pc' := 11) (p_aload_n 0 (k := 0) (by decide +kernel) rfl) ?_
  refine r_p (pc' := 12) (p_iconst (n := 0) (v := 0) (by decide +kernel) rfl) ?_
  refine r_pI fpX5_76_5 (fun h => by cases h) (by decide +kernel) fun s => ?_
  refine r_p (pc' := 16) (p_iconst (n := 1) (v := 1) (by decide +kernel) rfl) ?_
  refine r_p (pc' := 17) (p_istore_n (k := 1) (lv' := [(1, vi 1), (0, vr a0)]) (by decide +kernel) (Nat.le_of_ble_eq_true rfl) rfl) ?_
  refine r_p (pc' := 18) (p_iconst (n := 0) (v := 0) (by decide +kernel) rfl) ?_
  refine r_p (pc' := 19) (p_istore_n (k := 2) (lv' := [(2, vi 0), (1, vi 1), (0, vr a0)]) (by decide +kernel) (Nat.le_of_ble_eq_true rfl) rfl) ?_
  refine r_sub (lv' := [(0, vr a0), (1, vi 1), (2, vi 0)]) [2, 1, 0] rfl ?_
  refine r_loop2 (fun (e27 : Unit ⊕ Unit) => match e27 with | .inl _ => 48 | .inr _ => 113) (fun (e27 : Unit ⊕ Unit) => match e27 with | .inl e27 => [] | .inr e27 => [(0, vr a0)]) (fun (x1 : Int32 × Int32) => [(0, vr a0), (1, vi x1.1), (2, vi x1.2)]) (fun e27 s => ?_) (fun K2 hb3 he4 x1 s => ?_) (1, 0) _
  · rcases e27 with e27 | e27
    · show Rr _ _ 48 [] [] _ _ _ _
      refine r_p (pc' := 49) (p_iconst (n := 0) (v := 0) (by decide +kernel) rfl) ?_
      exact r_iret rfl rfl _ rfl rfl (by decide +kernel)
    · show Rr _ _ 113 [(0, vr a0)] [] _ _ _ _
      refine r_p (pc' := 114) (p_aload_n 0 (k := 0) (by decide +kernel) rfl) ?_
      refine r_p (pc' := 117) (p_sipush (n := 1035) (v := 1035) (by decide +kernel) (by decide +kernel)) ?_
      refine r_callVU mvX5_92 (ctX5_writeWaiting a0 1035) (rcX5_writeWaiting a0 1035) ⟨_, _, rfl⟩ (as := [vi 1035]) (st := []) rfl rfl (by decide +kernel) rfl (Nat.le_of_ble_eq_true rfl) (Nat.le_of_ble_eq_true rfl) fun s => ?_
      refine r_p (pc' := 121) (p_aload_n 0 (k := 0) (by decide +kernel) rfl) ?_
      refine r_gI flX5_73_5 (by decide +kernel) fun v28 => ?_
      refine r_ifeq (off := 14) (tgt := 138) (by decide +kernel) (by decide) (fun h29 => ?_) (fun h29 => ?_)
      · refine r_p (pc' := 139) (p_iconst (n := 1) (v := 1) (by decide +kernel) rfl) ?_
        refine r_p (pc' := 143) (p_goto (off := 4) (tgt := 143) (by decide +kernel) (by decide)) ?_
        exact r_iret rfl rfl _ rfl rfl (by decide +kernel)
      · refine r_p (pc' := 128) (p_aload_n 0 (k := 0) (by decide +kernel) rfl) ?_
        refine r_p (pc' := 129) (p_aload_n 0 (k := 0) (by decide +kernel) rfl) ?_
        refine r_gI flX5_45_5 (by decide +kernel) fun v30 => ?_
        refine r_callUI muX5_48l (ctX10_wrongl a0 v30) (rcX10_wrongl a0 v30) ⟨_, _, rfl⟩ (as := [vi v30]) (st := []) rfl rfl (by decide +kernel) rfl (Nat.le_of_ble_eq_true rfl) (Nat.le_of_ble_eq_true rfl) fun v31 s => ?_
        refine r_ifeq (off := 7) (tgt := 142) (by decide +kernel) (by decide) (fun h32 => ?_) (fun h32 => ?_)
        · refine r_p (pc' := 143) (p_iconst (n := 0) (v := 0) (by decide +kernel) rfl) ?_
          exact r_iret rfl rfl _ rfl rfl (by decide +kernel)
        · refine r_p (pc' := 139) (p_iconst (n := 1) (v := 1) (by decide +kernel) rfl) ?_
          refine r_p (pc' := 143) (p_goto (off := 4) (tgt := 143) (by decide +kernel) (by decide)) ?_
          exact r_iret rfl rfl _ rfl rfl (by decide +kernel)
  · unfold mX5_readCondition_L19
    refine r_p (pc' := 20) (p_iload_n 2 (k := 2) (by decide +kernel) rfl) ?_
    refine r_p (pc' := 23) (p_sipush (n := 400) (v := 400) (by decide +kernel) (by decide +kernel)) ?_
    refine r_icmpge (off := 90) (tgt := 113) (by decide +kernel) (by decide) (fun h5 => ?_) (fun h5 => ?_)
    · refine r_sub (lv' := [(0, vr a0)]) [0] rfl ?_
      exact he4 ((.inr ())) _
    · refine r_p (pc' := 27) (p_iload_n 1 (k := 1) (by decide +kernel) rfl) ?_
      refine r_ifeq (off := 86) (tgt := 113) (by decide +kernel) (by decide) (fun h6 => ?_) (fun h6 => ?_)
      · refine r_sub (lv' := [(0, vr a0)]) [0] rfl ?_
        exact he4 ((.inr ())) _
      · refine r_p (pc' := 31) (p_aload_n 0 (k := 0) (by decide +kernel) rfl) ?_
        refine r_callUU muX5_52l (ctX10_goOnl a0) (rcX10_goOnl a0) ⟨_, _, rfl⟩ (as := []) (st := []) rfl rfl (by decide +kernel) rfl (Nat.le_of_ble_eq_true rfl) (Nat.le_of_ble_eq_true rfl) fun s => ?_
        refine r_p (pc' := 35) (p_aload_n 0 (k := 0) (by decide +kernel) rfl) ?_
        refine r_callVI mvX5_79 (ctX5_readOpening a0) (rcX5_readOpening a0) ⟨_, _, rfl⟩ (as := []) (st := []) rfl rfl (by decide +kernel) rfl (Nat.le_of_ble_eq_true rfl) (Nat.le_of_ble_eq_true rfl) fun v7 s => ?_
        refine r_ifeq (off := 10) (tgt := 48) (by decide +kernel) (by decide) (fun h8 => ?_) (fun h8 => ?_)
        · refine r_sub (lv' := []) [] rfl ?_
          exact he4 ((.inl ())) _
        · refine r_p (pc' := 42) (p_aload_n 0 (k := 0) (by decide +kernel) rfl) ?_
          refine r_callVI mvX5_82 (ctX5_readPlain a0) (rcX5_readPlain a0) ⟨_, _, rfl⟩ (as := []) (st := []) rfl rfl (by decide +kernel) rfl (Nat.le_of_ble_eq_true rfl) (Nat.le_of_ble_eq_true rfl) fun v9 s => ?_
          refine r_ifne (off := 5) (tgt := 50) (by decide +kernel) (by decide) (fun h10 => ?_) (fun h10 => ?_)
          · refine r_sub (lv' := []) [] rfl ?_
            exact he4 ((.inl ())) _
          · refine r_p (pc' := 51) (p_aload_n 0 (k := 0) (by decide +kernel) rfl) ?_
            refine r_callVU mvX5_85 (ctX5_closeAtoms a0) (rcX5_closeAtoms a0) ⟨_, _, rfl⟩ (as := []) (st := []) rfl rfl (by decide +kernel) rfl (Nat.le_of_ble_eq_true rfl) (Nat.le_of_ble_eq_true rfl) fun s => ?_
            refine r_p (pc' := 55) (p_aload_n 0 (k := 0) (by decide +kernel) rfl) ?_
            refine r_gI flX5_42_5 (by decide +kernel) fun v11 => ?_
            refine r_p (pc' := 61) (p_sipush (n := 317) (v := 317) (by decide +kernel) (by decide +kernel)) ?_
            refine r_join 79 (fun (x13 : Int32) => [(0, vr a0), (2, vi x1.2)]) (fun (x13 : Int32) => [vi x13]) (fun x13 s => ?_) (fun K14 hj15 => ?_)
            · refine r_p (pc' := 80) (p_istore_n (k := 1) (lv' := [(1, vi x13), (0, vr a0), (2, vi x1.2)]) (by decide +kernel) (Nat.le_of_ble_eq_true rfl) rfl) ?_
              refine r_p (pc' := 81) (p_iload_n 0 (k := 1) (by decide +kernel) rfl) ?_
              refine r_join 107 (fun (x19 : Unit) => [(0, vr a0), (1, vi x13), (2, vi x1.2)]) (fun (x19 : Unit) => []) (fun x19 s => ?_) (fun K20 hj21 => ?_)
              · refine r_p (pc' := 110) (p_iinc 2 (i := 2) (n := 1) (x := x1.2) (v := x1.2 + 1) (lv' := [(2, vi (x1.2 + 1)), (0, vr a0), (1, vi x13)]) (by decide +kernel) rfl rfl (Nat.le_of_ble_eq_true rfl) rfl) ?_
                refine r_p (pc' := 19) (p_goto (off := -91) (tgt := 19) (by decide +kernel) (by decide)) ?_
                refine r_sub (lv' := [(0, vr a0), (1, vi x13), (2, vi (x1.2 + 1))]) [1, 2, 0] rfl ?_
                exact hb3 (x13, x1.2 + 1) _
              · refine r_ifeq (off := 26) (tgt := 107) (by decide +kernel) (by decide) (fun h18 => ?_) (fun h18 => ?_)
                · refine r_sub (lv' := [(0, vr a0), (1, vi x13), (2, vi x1.2)]) [1, 0, 2] rfl ?_
                  exact hj21 () _
                · refine r_p (pc' := 85) (p_aload_n 1 (k := 0) (by decide +kernel) rfl) ?_
                  refine r_p (pc' := 86) (p_aload_n 1 (k := 0) (by decide +kernel) rfl) ?_
                  refine r_gI flX5_42_5 (by decide +kernel) fun v22 => ?_
                  refine r_p (pc' := 92) (p_sipush (n := 317) (v := 317) (by decide +kernel) (by decide +kernel)) ?_
                  refine r_join 104 (fun (x24 : Int32) => [(0, vr a0), (1, vi x13), (2, vi x1.2)]) (fun (x24 : Int32) => [vi x24, vr a0]) (fun x24 s => ?_) (fun K25 hj26 => ?_)
                  · refine r_callVU mvX5_88 (ctX5_join a0 x24) (rcX5_join a0 x24) ⟨_, _, rfl⟩ (as := [vi x24]) (st := []) rfl rfl (by decide +kernel) rfl (Nat.le_of_ble_eq_true rfl) (Nat.le_of_ble_eq_true rfl) fun s => ?_
                    exact hj21 () _
                  · refine r_icmpne (off := 9) (tgt := 101) (by decide +kernel) (by decide) (fun h23 => ?_) (fun h23 => ?_)
                    · refine r_p (pc' := 98) (p_sipush (n := 1034) (v := 1034) (by decide +kernel) (by decide +kernel)) ?_
                      refine r_p (pc' := 104) (p_goto (off := 6) (tgt := 104) (by decide +kernel) (by decide)) ?_
                      refine r_sub (lv' := [(0, vr a0), (1, vi x13), (2, vi x1.2)]) [1, 0, 2] rfl ?_
                      exact hj26 1034 _
                    · refine r_p (pc' := 104) (p_sipush (n := 1035) (v := 1035) (by decide +kernel) (by decide +kernel)) ?_
                      refine r_sub (lv' := [(0, vr a0), (1, vi x13), (2, vi x1.2)]) [1, 0, 2] rfl ?_
                      exact hj26 1035 _
            · refine r_icmpeq (off := 13) (tgt := 74) (by decide +kernel) (by decide) (fun h12 => ?_) (fun h12 => ?_)
              · refine r_p (pc' := 75) (p_iconst (n := 1) (v := 1) (by decide +kernel) rfl) ?_
                refine r_p (pc' := 79) (p_goto (off := 4) (tgt := 79) (by decide +kernel) (by decide)) ?_
                refine r_sub (lv' := [(0, vr a0), (2, vi x1.2)]) [0, 2] rfl ?_
                exact hj15 1 _
              · refine r_p (pc' := 65) (p_aload_n 0 (k := 0) (by decide +kernel) rfl) ?_
                refine r_gI flX5_42_5 (by decide +kernel) fun v16 => ?_
                refine r_p (pc' := 71) (p_sipush (n := 318) (v := 318) (by decide +kernel) (by decide +kernel)) ?_
                refine r_icmpne (off := 7) (tgt := 78) (by decide +kernel) (by decide) (fun h17 => ?_) (fun h17 => ?_)
                · refine r_p (pc' := 75) (p_iconst (n := 1) (v := 1) (by decide +kernel) rfl) ?_
                  refine r_p (pc' := 79) (p_goto (off := 4) (tgt := 79) (by decide +kernel) (by decide)) ?_
                  refine r_sub (lv' := [(0, vr a0), (2, vi x1.2)]) [0, 2] rfl ?_
                  exact hj15 1 _
                · refine r_p (pc' := 79) (p_iconst (n := 0) (v := 0) (by decide +kernel) rfl) ?_
                  refine r_sub (lv' := [(0, vr a0), (2, vi x1.2)]) [0, 2] rfl ?_
                  exact hj15 0 _
def aX5_readLine : StA := (RX5, cX5_readLine, 3, some .boolean, yX5_readLine, 13, [])
theorem mvX5_66 : MV RX5 66 aX5_readCondition 0 := ⟨tblG_of 937 (by decide +kernel) (by decide +kernel), tblG_of 939 (by decide +kernel) (by decide +kernel), tblG_of 13 (by decide +kernel) (by decide +kernel), tblG_of 156 (by decide +kernel) (by decide +kernel), tblG_of 940 (by decide +kernel) (by decide +kernel), rfl, ⟨by decide, by decide⟩, by decide +kernel, by decide⟩
noncomputable def mX5_readLine (a0 : Nat) : MM Int32 := onC 5 a0 (
  mbnd (gI 5 7 a0) fun (v1 : Int32) =>
  mbnd (mret (v1 - 312)) fun (v2 : Int32) =>
  if v2 < 0 then (
    mbnd (gI 5 8 a0) fun (v4 : Int32) =>
    mbnd (nox (mX10_wrongl a0 v4)) fun (v5 : Int32) =>
    mbool v5
  ) else (
    if v2 < 4 then (
      mbnd (nox (mX10_goOnl a0)) fun _ =>
      mbnd (α := Int32) (
        if v2 = 3 then (
          mret 99
        ) else (
          mret 999
        )
      ) fun (x8 : Int32) =>
      mbnd (nox (mX10_takeNumberl a0 3 x8)) fun (v11 : Int32) =>
      if v11 = 0 then (
        mret 0
      ) else (
        mbnd (mX5_write a0 v2) fun (v13 : Int32) =>
        mbnd (gI 5 9 a0) fun (v14 : Int32) =>
        mbnd (mX5_write a0 v14) fun (v15 : Int32) =>
        mbnd (gI 5 14 a0) fun (v16 : Int32) =>
        mbnd (mX5_write a0 0) fun (v17 : Int32) =>
        mbnd (gI 5 7 a0) fun (v18 : Int32) =>
        if v18 = 316 then (
          mbnd (mX5_readCondition a0) fun (v20 : Int32) =>
          if v20 = 0 then (
            mret 0
          ) else (
            if v16 < 0 then (
              mret 1
            ) else (
              mbnd (gR 5 12 a0) fun (v23 : Nat) =>
              mbnd (lenI 0 v23) fun (v24 : Int32) =>
              if v24 ≤ v16 then (
                mret 1
              ) else (
                mbnd (gR 5 12 a0) fun (v26 : Nat) =>
                mbnd (gI 5 14 a0) fun (v27 : Int32) =>
                mbnd (stI 0 v26 v16 ((v27 - v16) - 1)) fun _ =>
                mret 1
              )
            )
          )
        ) else (
          if v16 < 0 then (
            mret 1
          ) else (
            mbnd (gR 5 12 a0) fun (v29 : Nat) =>
            mbnd (lenI 0 v29) fun (v30 : Int32) =>
            if v30 ≤ v16 then (
              mret 1
            ) else (
              mbnd (gR 5 12 a0) fun (v32 : Nat) =>
              mbnd (gI 5 14 a0) fun (v33 : Int32) =>
              mbnd (stI 0 v32 v16 ((v33 - v16) - 1)) fun _ =>
              mret 1
            )
          )
        )
      )
    ) else (
      mbnd (gI 5 8 a0) fun (v34 : Int32) =>
      mbnd (nox (mX10_wrongl a0 v34)) fun (v35 : Int32) =>
      mbool v35
    )
  )
  )
theorem rcX5_readLine (a0 : Nat) : Rcv 5 a0 (mX5_readLine a0) := fun s r h => ⟨(onC_some h).1, (onC_some h).2.1⟩
set_option maxHeartbeats 4000000 in
set_option maxRecDepth 100000 in
theorem ctX5_readLine (a0 : Nat) : Ct aX5_readLine [vr a0] (mX5_readLine a0) rI := by
  unfold mX5_readLine
  refine ct_onC (ct_intro (by decide +kernel) rfl (Nat.le_of_ble_eq_true rfl) fun Y s => ?_)
  refine r_sub (lv' := [(0, vr a0)]) [0] rfl ?_
  refine r_p (pc' := 1) (p_aload_n 0 (k := 0) (by decide +kernel) rfl) ?_
  refine r_gI flX5_42_5 (by decide +kernel) fun v1 => ?_
  refine r_p (pc' := 7) (p_sipush (n := 312) (v := 312) (by decide +kernel) (by decide +kernel)) ?_
  refine r_p (pc' := 8) (p_isub (by decide +kernel)) ?_
  refine r_letI fun v2 => ?_
  refine r_p (pc' := 9) (p_istore_n (k := 1) (lv' := [(1, vi v2), (0, vr a0)]) (by decide +kernel) (Nat.le_of_ble_eq_true rfl) rfl) ?_
  refine r_p (pc' := 10) (p_iload_n 0 (k := 1) (by decide +kernel) rfl) ?_
  refine r_iflt (off := 8) (tgt := 18) (by decide +kernel) (by decide) (fun h3 => ?_) (fun h3 => ?_)
  · refine r_p (pc' := 19) (p_aload_n 1 (k := 0) (by decide +kernel) rfl) ?_
    refine r_p (pc' := 20) (p_aload_n 1 (k := 0) (by decide +kernel) rfl) ?_
    refine r_gI flX5_45_5 (by decide +kernel) fun v4 => ?_
    refine r_callUI muX5_48l (ctX10_wrongl a0 v4) (rcX10_wrongl a0 v4) ⟨_, _, rfl⟩ (as := [vi v4]) (st := []) rfl rfl (by decide +kernel) rfl (Nat.le_of_ble_eq_true rfl) (Nat.le_of_ble_eq_true rfl) fun v5 s => ?_
    exact r_bret (y9 := fun v => v) (fun _ => rfl) (fun _ => rfl) rfl (by decide +kernel)
  · refine r_p (pc' := 14) (p_iload_n 0 (k := 1) (by decide +kernel) rfl) ?_
    refine r_p (pc' := 15) (p_iconst (n := 4) (v := 4) (by decide +kernel) rfl) ?_
    refine r_icmplt (off := 12) (tgt := 27) (by decide +kernel) (by decide) (fun h6 => ?_) (fun h6 => ?_)
    · refine r_p (pc' := 28) (p_aload_n 1 (k := 0) (by decide +kernel) rfl) ?_
      refine r_callUU muX5_52l (ctX10_goOnl a0) (rcX10_goOnl a0) ⟨_, _, rfl⟩ (as := []) (st := []) rfl rfl (by decide +kernel) rfl (Nat.le_of_ble_eq_true rfl) (Nat.le_of_ble_eq_true rfl) fun s => ?_
      refine r_p (pc' := 32) (p_aload_n 1 (k := 0) (by decide +kernel) rfl) ?_
      refine r_p (pc' := 33) (p_iconst (n := 3) (v := 3) (by decide +kernel) rfl) ?_
      refine r_p (pc' := 34) (p_iload_n 0 (k := 1) (by decide +kernel) rfl) ?_
      refine r_p (pc' := 35) (p_iconst (n := 3) (v := 3) (by decide +kernel) rfl) ?_
      refine r_join 46 (fun (x8 : Int32) => [(0, vr a0), (1, vi v2)]) (fun (x8 : Int32) => [vi x8, vi 3, vr a0]) (fun x8 s => ?_) (fun K9 hj10 => ?_)
      · refine r_callUI muX5_56l (ctX10_takeNumberl a0 3 x8) (rcX10_takeNumberl a0 3 x8) ⟨_, _, rfl⟩ (as := [vi 3, vi x8]) (st := []) rfl rfl (by decide +kernel) rfl (Nat.le_of_ble_eq_true rfl) (Nat.le_of_ble_eq_true rfl) fun v11 s => ?_
        refine r_ifne (off := 5) (tgt := 54) (by decide +kernel) (by decide) (fun h12 => ?_) (fun h12 => ?_)
        · refine r_p (pc' := 53) (p_iconst (n := 0) (v := 0) (by decide +kernel) rfl) ?_
          exact r_iret rfl rfl _ rfl rfl (by decide +kernel)
        · refine r_p (pc' := 55) (p_aload_n 0 (k := 0) (by decide +kernel) rfl) ?_
          refine r_p (pc' := 56) (p_iload_n 1 (k := 1) (by decide +kernel) rfl) ?_
          refine r_callVI mvX5_60 (ctX5_write a0 v2) (rcX5_write a0 v2) ⟨_, _, rfl⟩ (as := [vi v2]) (st := []) rfl rfl (by decide +kernel) rfl (Nat.le_of_ble_eq_true rfl) (Nat.le_of_ble_eq_true rfl) fun v13 s => ?_
          refine r_p (pc' := 60) (p_pop rfl (by decide +kernel)) ?_
          refine r_p (pc' := 61) (p_aload_n 0 (k := 0) (by decide +kernel) rfl) ?_
          refine r_p (pc' := 62) (p_aload_n 0 (k := 0) (by decide +kernel) rfl) ?_
          refine r_gI flX5_63_5 (by decide +kernel) fun v14 => ?_
          refine r_callVI mvX5_60 (ctX5_write a0 v14) (rcX5_write a0 v14) ⟨_, _, rfl⟩ (as := [vi v14]) (st := []) rfl rfl (by decide +kernel) rfl (Nat.le_of_ble_eq_true rfl) (Nat.le_of_ble_eq_true rfl) fun v15 s => ?_
          refine r_p (pc' := 69) (p_pop rfl (by decide +kernel)) ?_
          refine r_p (pc' := 70) (p_aload_n 0 (k := 0) (by decide +kernel) rfl) ?_
          refine r_gI flX5_24_5 (by decide +kernel) fun v16 => ?_
          refine r_p (pc' := 74) (p_istore_n (k := 2) (lv' := [(2, vi v16), (0, vr a0), (1, vi v2)]) (by decide +kernel) (Nat.le_of_ble_eq_true rfl) rfl) ?_
          refine r_p (pc' := 75) (p_aload_n 1 (k := 0) (by decide +kernel) rfl) ?_
          refine r_p (pc' := 76) (p_iconst (n := 0) (v := 0) (by decide +kernel) rfl) ?_
          refine r_callVI mvX5_60 (ctX5_write a0 0) (rcX5_write a0 0) ⟨_, _, rfl⟩ (as := [vi 0]) (st := []) rfl rfl (by decide +kernel) rfl (Nat.le_of_ble_eq_true rfl) (Nat.le_of_ble_eq_true rfl) fun v17 s => ?_
          refine r_p (pc' := 80) (p_pop rfl (by decide +kernel)) ?_
          refine r_p (pc' := 81) (p_aload_n 1 (k := 0) (by decide +kernel) rfl) ?_
          refine r_gI flX5_42_5 (by decide +kernel) fun v18 => ?_
          refine r_p (pc' := 87) (p_sipush (n := 316) (v := 316) (by decide +kernel) (by decide +kernel)) ?_
          refine r_icmpne (off := 12) (tgt := 99) (by decide +kernel) (by decide) (fun h19 => ?_) (fun h19 => ?_)
          · refine r_p (pc' := 91) (p_aload_n 1 (k := 0) (by decide +kernel) rfl) ?_
            refine r_callVI mvX5_66 (ctX5_readCondition a0) (rcX5_readCondition a0) ⟨_, _, rfl⟩ (as := []) (st := []) rfl rfl (by decide +kernel) rfl (Nat.le_of_ble_eq_true rfl) (Nat.le_of_ble_eq_true rfl) fun v20 s => ?_
            refine r_ifne (off := 5) (tgt := 99) (by decide +kernel) (by decide) (fun h21 => ?_) (fun h21 => ?_)
            · refine r_p (pc' := 98) (p_iconst (n := 0) (v := 0) (by decide +kernel) rfl) ?_
              exact r_iret rfl rfl _ rfl rfl (by decide +kernel)
            · refine r_p (pc' := 100) (p_iload_n 0 (k := 2) (by decide +kernel) rfl) ?_
              refine r_iflt (off := 26) (tgt := 126) (by decide +kernel) (by decide) (fun h22 => ?_) (fun h22 => ?_)
              · refine r_p (pc' := 127) (p_iconst (n := 1) (v := 1) (by decide +kernel) rfl) ?_
                exact r_iret rfl rfl _ rfl rfl (by decide +kernel)
              · refine r_p (pc' := 104) (p_iload_n 0 (k := 2) (by decide +kernel) rfl) ?_
                refine r_p (pc' := 105) (p_aload_n 1 (k := 0) (by decide +kernel) rfl) ?_
                refine r_gR flX5_9_5 (by decide +kernel) fun v23 => ?_
                refine r_lenI (by decide) (by decide +kernel) fun v24 => ?_
                refine r_icmpge (off := 17) (tgt := 126) (by decide +kernel) (by decide) (fun h25 => ?_) (fun h25 => ?_)
                · refine r_p (pc' := 127) (p_iconst (n := 1) (v := 1) (by decide +kernel) rfl) ?_
                  exact r_iret rfl rfl _ rfl rfl (by decide +kernel)
                · refine r_p (pc' := 113) (p_aload_n 1 (k := 0) (by decide +kernel) rfl) ?_
                  refine r_gR flX5_9_5 (by decide +kernel) fun v26 => ?_
                  refine r_p (pc' := 117) (p_iload_n 0 (k := 2) (by decide +kernel) rfl) ?_
                  refine r_p (pc' := 118) (p_aload_n 1 (k := 0) (by decide +kernel) rfl) ?_
                  refine r_gI flX5_24_5 (by decide +kernel) fun v27 => ?_
                  refine r_p (pc' := 122) (p_iload_n 0 (k := 2) (by decide +kernel) rfl) ?_
                  refine r_p (pc' := 123) (p_isub (by decide +kernel)) ?_
                  refine r_p (pc' := 124) (p_iconst (n := 1) (v := 1) (by decide +kernel) rfl) ?_
                  refine r_p (pc' := 125) (p_isub (by decide +kernel)) ?_
                  refine r_stI0 (by decide +kernel) fun s => ?_
                  refine r_p (pc' := 127) (p_iconst (n := 1) (v := 1) (by decide +kernel) rfl) ?_
                  exact r_iret rfl rfl _ rfl rfl (by decide +kernel)
          · refine r_p (pc' := 100) (p_iload_n 0 (k := 2) (by decide +kernel) rfl) ?_
            refine r_iflt (off := 26) (tgt := 126) (by decide +kernel) (by decide) (fun h28 => ?_) (fun h28 => ?_)
            · refine r_p (pc' := 127) (p_iconst (n := 1) (v := 1) (by decide +kernel) rfl) ?_
              exact r_iret rfl rfl _ rfl rfl (by decide +kernel)
            · refine r_p (pc' := 104) (p_iload_n 0 (k := 2) (by decide +kernel) rfl) ?_
              refine r_p (pc' := 105) (p_aload_n 1 (k := 0) (by decide +kernel) rfl) ?_
              refine r_gR flX5_9_5 (by decide +kernel) fun v29 => ?_
              refine r_lenI (by decide) (by decide +kernel) fun v30 => ?_
              refine r_icmpge (off := 17) (tgt := 126) (by decide +kernel) (by decide) (fun h31 => ?_) (fun h31 => ?_)
              · refine r_p (pc' := 127) (p_iconst (n := 1) (v := 1) (by decide +kernel) rfl) ?_
                exact r_iret rfl rfl _ rfl rfl (by decide +kernel)
              · refine r_p (pc' := 113) (p_aload_n 1 (k := 0) (by decide +kernel) rfl) ?_
                refine r_gR flX5_9_5 (by decide +kernel) fun v32 => ?_
                refine r_p (pc' := 117) (p_iload_n 0 (k := 2) (by decide +kernel) rfl) ?_
                refine r_p (pc' := 118) (p_aload_n 1 (k := 0) (by decide +kernel) rfl) ?_
                refine r_gI flX5_24_5 (by decide +kernel) fun v33 => ?_
                refine r_p (pc' := 122) (p_iload_n 0 (k := 2) (by decide +kernel) rfl) ?_
                refine r_p (pc' := 123) (p_isub (by decide +kernel)) ?_
                refine r_p (pc' := 124) (p_iconst (n := 1) (v := 1) (by decide +kernel) rfl) ?_
                refine r_p (pc' := 125) (p_isub (by decide +kernel)) ?_
                refine r_stI0 (by decide +kernel) fun s => ?_
                refine r_p (pc' := 127) (p_iconst (n := 1) (v := 1) (by decide +kernel) rfl) ?_
                exact r_iret rfl rfl _ rfl rfl (by decide +kernel)
      · refine r_icmpne (off := 8) (tgt := 43) (by decide +kernel) (by decide) (fun h7 => ?_) (fun h7 => ?_)
        · refine r_p (pc' := 40) (p_bipush (n := 99) (v := 99) (by decide +kernel) (by decide +kernel)) ?_
          refine r_p (pc' := 46) (p_goto (off := 6) (tgt := 46) (by decide +kernel) (by decide)) ?_
          refine r_sub (lv' := [(0, vr a0), (1, vi v2)]) [1, 0] rfl ?_
          exact hj10 99 _
        · refine r_p (pc' := 46) (p_sipush (n := 999) (v := 999) (by decide +kernel) (by decide +kernel)) ?_
          refine r_sub (lv' := [(0, vr a0), (1, vi v2)]) [1, 0] rfl ?_
          exact hj10 999 _
    · refine r_p (pc' := 19) (p_aload_n 1 (k := 0) (by decide +kernel) rfl) ?_
      refine r_p (pc' := 20) (p_aload_n 1 (k := 0) (by decide +kernel) rfl) ?_
      refine r_gI flX5_45_5 (by decide +kernel) fun v34 => ?_
      refine r_callUI muX5_48l (ctX10_wrongl a0 v34) (rcX10_wrongl a0 v34) ⟨_, _, rfl⟩ (as := [vi v34]) (st := []) rfl rfl (by decide +kernel) rfl (Nat.le_of_ble_eq_true rfl) (Nat.le_of_ble_eq_true rfl) fun v35 s => ?_
      exact r_bret (y9 := fun v => v) (fun _ => rfl) (fun _ => rfl) rfl (by decide +kernel)
def aX10_takeThingl : StA := (RX10, cX10_takeThing, 2, some .boolean, yX10_takeThing, 9, [])
noncomputable def mX10_takeThingl (a0 : Nat) (a1 : Int32) : MM Int32 := onC 5 a0 (
  mbnd (gI 5 7 a0) fun (v1 : Int32) =>
  if v1 = a1 then (
    mbnd (nox (mX10_goOnl a0)) fun _ =>
    mret 1
  ) else (
    mbnd (gI 5 8 a0) fun (v3 : Int32) =>
    mbnd (nox (mX10_wrongl a0 v3)) fun (v4 : Int32) =>
    mbool v4
  )
  )
theorem rcX10_takeThingl (a0 : Nat) (a1 : Int32) : Rcv 5 a0 (mX10_takeThingl a0 a1) := fun s r h => ⟨(onC_some h).1, (onC_some h).2.1⟩
set_option maxHeartbeats 4000000 in
set_option maxRecDepth 100000 in
theorem ctX10_takeThingl (a0 : Nat) (a1 : Int32) : Ct aX10_takeThingl [vr a0, vi a1] (mX10_takeThingl a0 a1) rI := by
  unfold mX10_takeThingl
  refine ct_onC (ct_intro (by decide +kernel) rfl (Nat.le_of_ble_eq_true rfl) fun Y s => ?_)
  refine r_sub (lv' := [(0, vr a0), (1, vi a1)]) [0, 1] rfl ?_
  refine r_p (pc' := 1) (p_aload_n 0 (k := 0) (by decide +kernel) rfl) ?_
  refine r_gI flX10_41_5 (by decide +kernel) fun v1 => ?_
  refine r_p (pc' := 5) (p_iload_n 1 (k := 1) (by decide +kernel) rfl) ?_
  refine r_icmpeq (off := 12) (tgt := 17) (by decide +kernel) (by decide) (fun h2 => ?_) (fun h2 => ?_)
  · refine r_p (pc' := 18) (p_aload_n 0 (k := 0) (by decide +kernel) rfl) ?_
    refine r_callUU muX10_69l (ctX10_goOnl a0) (rcX10_goOnl a0) ⟨_, _, rfl⟩ (as := []) (st := []) rfl rfl (by decide +kernel) rfl (Nat.le_of_ble_eq_true rfl) (Nat.le_of_ble_eq_true rfl) fun s => ?_
    refine r_p (pc' := 22) (p_iconst (n := 1) (v := 1) (by decide +kernel) rfl) ?_
    exact r_iret rfl rfl _ rfl rfl (by decide +kernel)
  · refine r_p (pc' := 9) (p_aload_n 0 (k := 0) (by decide +kernel) rfl) ?_
    refine r_p (pc' := 10) (p_aload_n 0 (k := 0) (by decide +kernel) rfl) ?_
    refine r_gI flX10_52_5 (by decide +kernel) fun v3 => ?_
    refine r_callUI muX10_55l (ctX10_wrongl a0 v3) (rcX10_wrongl a0 v3) ⟨_, _, rfl⟩ (as := [vi v3]) (st := []) rfl rfl (by decide +kernel) rfl (Nat.le_of_ble_eq_true rfl) (Nat.le_of_ble_eq_true rfl) fun v4 s => ?_
    exact r_bret (y9 := fun v => v) (fun _ => rfl) (fun _ => rfl) rfl (by decide +kernel)
def aX10_readLinesl : StA := (RX10, cX10_readLines, 3, some .boolean, yX10_readLines, 14, [])
theorem muX10_32l : MU RX10 32 "ToolCourt$LawReader" "ToolCourt$TextReader" ⟨"ToolCourt$TextReader", "start", "()V"⟩ aX5_start 0 := ⟨tblG_of 810 (by decide +kernel) (by decide +kernel), tblG_of 814 (by decide +kernel) (by decide +kernel), tblG_of 813 (by decide +kernel) (by decide +kernel), tblG_of 812 (by decide +kernel) (by decide +kernel), tblG_of 156 (by decide +kernel) (by decide +kernel), tblG_of 815 (by decide +kernel) (by decide +kernel), rfl, ⟨by decide, by decide⟩, by decide +kernel, by decide, Or.inr (List.mem_of_getElem? (i := 811) (by decide +kernel))⟩
theorem muX10_35l : MU RX10 35 "ToolCourt$LawReader" "ToolCourt$TextReader" ⟨"ToolCourt$TextReader", "split", "()V"⟩ aX10_splitl 0 := ⟨tblG_of 820 (by decide +kernel) (by decide +kernel), tblG_of 822 (by decide +kernel) (by decide +kernel), tblG_of 2389 (by decide +kernel) (by decide +kernel), tblG_of 2355 (by decide +kernel) (by decide +kernel), tblG_of 154 (by decide +kernel) (by decide +kernel), tblG_of 823 (by decide +kernel) (by decide +kernel), rfl, ⟨by decide, by decide⟩, by decide +kernel, by decide, Or.inl rfl⟩
theorem fpX10_38_5 : FP RX10 38 5 10 .int false := ⟨_, TX5, 18, "ToolCourt$TextReader", tyX5, rfl, by decide, Or.inl (tblG_of 442 (by decide +kernel) (by decide +kernel)), Or.inl rfl, tyX5_ok, nmX5, rfl, by decide, by decide +kernel⟩
theorem muX10_44l : MU RX10 44 "ToolCourt$LawReader" "ToolCourt$TextReader" ⟨"ToolCourt$TextReader", "readLine", "()Z"⟩ aX5_readLine 0 := ⟨tblG_of 910 (by decide +kernel) (by decide +kernel), tblG_of 914 (by decide +kernel) (by decide +kernel), tblG_of 913 (by decide +kernel) (by decide +kernel), tblG_of 912 (by decide +kernel) (by decide +kernel), tblG_of 156 (by decide +kernel) (by decide +kernel), tblG_of 915 (by decide +kernel) (by decide +kernel), rfl, ⟨by decide, by decide⟩, by decide +kernel, by decide, Or.inr (List.mem_of_getElem? (i := 911) (by decide +kernel))⟩
theorem flX10_38_5 : FL RX10 38 5 10 := ⟨_, TX5, 18, "ToolCourt$TextReader", rfl, by decide, Or.inl (tblG_of 442 (by decide +kernel) (by decide +kernel)), Or.inl rfl⟩
theorem muX10_48l : MU RX10 48 "ToolCourt$LawReader" "ToolCourt$TextReader" ⟨"ToolCourt$TextReader", "takeThing", "(I)Z"⟩ aX10_takeThingl 1 := ⟨tblG_of 1051 (by decide +kernel) (by decide +kernel), tblG_of 998 (by decide +kernel) (by decide +kernel), tblG_of 2365 (by decide +kernel) (by decide +kernel), tblG_of 2364 (by decide +kernel) (by decide +kernel), tblG_of 154 (by decide +kernel) (by decide +kernel), tblG_of 999 (by decide +kernel) (by decide +kernel), rfl, ⟨by decide, by decide⟩, by decide +kernel, by decide, Or.inl rfl⟩
noncomputable def mX10_readLinesl_L30 (a0 : Nat) (a1 : Int32) (x3 : Int32) : MM ((Int32) ⊕ (Unit ⊕ Unit ⊕ Unit ⊕ Unit)) :=
  if a1 ≤ x3 then (
    mret (.inr ((.inr (.inr (.inr ())))))
  ) else (
    mbnd (nox (mX5_readLine a0)) fun (v8 : Int32) =>
    if v8 = 0 then (
      mret (.inr ((.inl ())))
    ) else (
      mbnd (gI 5 10 a0) fun (v10 : Int32) =>
      mbnd (pI 5 10 a0 (v10 + 1)) fun _ =>
      mbnd (gI 5 7 a0) fun (v11 : Int32) =>
      if v11 = (-1) then (
        mret (.inr ((.inr (.inl ()))))
      ) else (
        mbnd (nox (mX10_takeThingl a0 59)) fun (v13 : Int32) =>
        if v13 = 0 then (
          mret (.inr ((.inr (.inr (.inl ())))))
        ) else (
          mret (.inl (x3 + 1))
        )
      )
    )
  )
noncomputable def mX10_readLinesl (a0 : Nat) (a1 : Int32) : MM Int32 := onC 5 a0 (
  mbnd (nox (mX5_start a0)) fun _ =>
  mbnd (nox (mX10_splitl a0)) fun _ =>
  mbnd (pI 5 10 a0 0) fun _ =>
  mbnd (pI 5 11 a0 (-1)) fun _ =>
  mbnd (gI 5 7 a0) fun (v1 : Int32) =>
  if v1 = (-1) then (
    mret 1
  ) else (
    mbnd (loopM (mX10_readLinesl_L30 a0 a1) 0) fun (e15 : Unit ⊕ Unit ⊕ Unit ⊕ Unit) => match e15 with
      | .inl e15 => (
        mret 0
        )
      | .inr (.inl e15) => (
        mret 1
        )
      | .inr (.inr (.inl e15)) => (
        mret 0
        )
      | .inr (.inr (.inr e15)) => (
        mbnd (gI 5 8 a0) fun (v16 : Int32) =>
        mbnd (nox (mX10_wrongl a0 v16)) fun (v17 : Int32) =>
        mbool v17
        )
  )
  )
theorem rcX10_readLinesl (a0 : Nat) (a1 : Int32) : Rcv 5 a0 (mX10_readLinesl a0 a1) := fun s r h => ⟨(onC_some h).1, (onC_some h).2.1⟩
set_option maxHeartbeats 4000000 in
set_option maxRecDepth 100000 in
theorem ctX10_readLinesl (a0 : Nat) (a1 : Int32) : Ct aX10_readLinesl [vr a0, vi a1] (mX10_readLinesl a0 a1) rI := by
  unfold mX10_readLinesl
  refine ct_onC (ct_intro (by decide +kernel) rfl (Nat.le_of_ble_eq_true rfl) fun Y s => ?_)
  refine r_sub (lv' := [(0, vr a0), (1, vi a1)]) [0, 1] rfl ?_
  refine r_p (pc' := 1) (p_aload_n 0 (k := 0) (by decide +kernel) rfl) ?_
  refine r_callUU muX10_32l (ctX5_start a0) (rcX5_start a0) ⟨_, _, rfl⟩ (as := []) (st := []) rfl rfl (by decide +kernel) rfl (Nat.le_of_ble_eq_true rfl) (Nat.le_of_ble_eq_true rfl) fun s => ?_
  refine r_p (pc' := 5) (p_aload_n 0 (k := 0) (by decide +kernel) rfl) ?_
  refine r_callUU muX10_35l (ctX10_splitl a0) (rcX10_splitl a0) ⟨_, _, rfl⟩ (as := []) (st := []) rfl rfl (by decide +kernel) rfl (Nat.le_of_ble_eq_true rfl) (Nat.le_of_ble_eq_true rfl) fun s => ?_
  refine r_p (pc' := 9) (p_aload_n 0 (k := 0) (by decide +kernel) rfl) ?_
  refine r_p (pc' := 10) (p_iconst (n := 0) (v := 0) (by decide +kernel) rfl) ?_
  refine r_pI fpX10_38_5 (fun h => by cases h) (by decide +kernel) fun s => ?_
  refine r_p (pc' := 14) (p_aload_n 0 (k := 0) (by decide +kernel) rfl) ?_
  refine r_p (pc' := 15) (p_iconst (n := -1) (v := -1) (by decide +kernel) rfl) ?_
  refine r_pI fpX10_24_5 (fun h => by cases h) (by decide +kernel) fun s => ?_
  refine r_p (pc' := 19) (p_aload_n 0 (k := 0) (by decide +kernel) rfl) ?_
  refine r_gI flX10_41_5 (by decide +kernel) fun v1 => ?_
  refine r_p (pc' := 23) (p_iconst (n := -1) (v := -1) (by decide +kernel) rfl) ?_
  refine r_icmpne (off := 5) (tgt := 28) (by decide +kernel) (by decide) (fun h2 => ?_) (fun h2 => ?_)
  · refine r_p (pc' := 27) (p_iconst (n := 1) (v := 1) (by decide +kernel) rfl) ?_
    exact r_iret rfl rfl _ rfl rfl (by decide +kernel)
  · refine r_p (pc' := 29) (p_iconst (n := 0) (v := 0) (by decide +kernel) rfl) ?_
    refine r_p (pc' := 30) (p_istore_n (k := 2) (lv' := [(2, vi 0), (0, vr a0), (1, vi a1)]) (by decide +kernel) (Nat.le_of_ble_eq_true rfl) rfl) ?_
    refine r_sub (lv' := [(0, vr a0), (1, vi a1), (2, vi 0)]) [1, 2, 0] rfl ?_
    refine r_loop2 (fun (e15 : Unit ⊕ Unit ⊕ Unit ⊕ Unit) => match e15 with | .inl _ => 42 | .inr (.inl _) => 62 | .inr (.inr (.inl _)) => 73 | .inr (.inr (.inr _)) => 81) (fun (e15 : Unit ⊕ Unit ⊕ Unit ⊕ Unit) => match e15 with | .inl e15 => [] | .inr (.inl e15) => [] | .inr (.inr (.inl e15)) => [] | .inr (.inr (.inr e15)) => [(0, vr a0)]) (fun (x3 : Int32) => [(0, vr a0), (1, vi a1), (2, vi x3)]) (fun e15 s => ?_) (fun K4 hb5 he6 x3 s => ?_) 0 _
    · rcases e15 with e15 | e15 | e15 | e15
      · show Rr _ _ 42 [] [] _ _ _ _
        refine r_p (pc' := 43) (p_iconst (n := 0) (v := 0) (by decide +kernel) rfl) ?_
        exact r_iret rfl rfl _ rfl rfl (by decide +kernel)
      · show Rr _ _ 62 [] [] _ _ _ _
        refine r_p (pc' := 63) (p_iconst (n := 1) (v := 1) (by decide +kernel) rfl) ?_
        exact r_iret rfl rfl _ rfl rfl (by decide +kernel)
      · show Rr _ _ 73 [] [] _ _ _ _
        refine r_p (pc' := 74) (p_iconst (n := 0) (v := 0) (by decide +kernel) rfl) ?_
        exact r_iret rfl rfl _ rfl rfl (by decide +kernel)
      · show Rr _ _ 81 [(0, vr a0)] [] _ _ _ _
        refine r_p (pc' := 82) (p_aload_n 0 (k := 0) (by decide +kernel) rfl) ?_
        refine r_p (pc' := 83) (p_aload_n 0 (k := 0) (by decide +kernel) rfl) ?_
        refine r_gI flX10_52_5 (by decide +kernel) fun v16 => ?_
        refine r_callUI muX10_55l (ctX10_wrongl a0 v16) (rcX10_wrongl a0 v16) ⟨_, _, rfl⟩ (as := [vi v16]) (st := []) rfl rfl (by decide +kernel) rfl (Nat.le_of_ble_eq_true rfl) (Nat.le_of_ble_eq_true rfl) fun v17 s => ?_
        exact r_bret (y9 := fun v => v) (fun _ => rfl) (fun _ => rfl) rfl (by decide +kernel)
    · unfold mX10_readLinesl_L30
      refine r_p (pc' := 31) (p_iload_n 2 (k := 2) (by decide +kernel) rfl) ?_
      refine r_p (pc' := 32) (p_iload_n 1 (k := 1) (by decide +kernel) rfl) ?_
      refine r_icmpge (off := 49) (tgt := 81) (by decide +kernel) (by decide) (fun h7 => ?_) (fun h7 => ?_)
      · refine r_sub (lv' := [(0, vr a0)]) [0] rfl ?_
        exact he6 ((.inr (.inr (.inr ())))) _
      · refine r_p (pc' := 36) (p_aload_n 0 (k := 0) (by decide +kernel) rfl) ?_
        refine r_callUI muX10_44l (ctX5_readLine a0) (rcX5_readLine a0) ⟨_, _, rfl⟩ (as := []) (st := []) rfl rfl (by decide +kernel) rfl (Nat.le_of_ble_eq_true rfl) (Nat.le_of_ble_eq_true rfl) fun v8 s => ?_
        refine r_ifne (off := 5) (tgt := 44) (by decide +kernel) (by decide) (fun h9 => ?_) (fun h9 => ?_)
        · refine r_sub (lv' := []) [] rfl ?_
          exact he6 ((.inl ())) _
        · refine r_p (pc' := 45) (p_aload_n 0 (k := 0) (by decide +kernel) rfl) ?_
          refine r_p (pc' := 46) (p_dup rfl (by decide +kernel)) ?_
          refine r_gI flX10_38_5 (by decide +kernel) fun v10 => ?_
          refine r_p (pc' := 50) (p_iconst (n := 1) (v := 1) (by decide +kernel) rfl) ?_
          refine r_p (pc' := 51) (p_iadd (by decide +kernel)) ?_
          refine r_pI fpX10_38_5 (fun h => by cases h) (by decide +kernel) fun s => ?_
          refine r_p (pc' := 55) (p_aload_n 0 (k := 0) (by decide +kernel) rfl) ?_
          refine r_gI flX10_41_5 (by decide +kernel) fun v11 => ?_
          refine r_p (pc' := 59) (p_iconst (n := -1) (v := -1) (by decide +kernel) rfl) ?_
          refine r_icmpne (off := 5) (tgt := 64) (by decide +kernel) (by decide) (fun h12 => ?_) (fun h12 => ?_)
          · refine r_sub (lv' := []) [] rfl ?_
            exact he6 ((.inr (.inl ()))) _
          · refine r_p (pc' := 65) (p_aload_n 0 (k := 0) (by decide +kernel) rfl) ?_
            refine r_p (pc' := 67) (p_bipush (n := 59) (v := 59) (by decide +kernel) (by decide +kernel)) ?_
            refine r_callUI muX10_48l (ctX10_takeThingl a0 59) (rcX10_takeThingl a0 59) ⟨_, _, rfl⟩ (as := [vi 59]) (st := []) rfl rfl (by decide +kernel) rfl (Nat.le_of_ble_eq_true rfl) (Nat.le_of_ble_eq_true rfl) fun v13 s => ?_
            refine r_ifne (off := 5) (tgt := 75) (by decide +kernel) (by decide) (fun h14 => ?_) (fun h14 => ?_)
            · refine r_sub (lv' := []) [] rfl ?_
              exact he6 ((.inr (.inr (.inl ())))) _
            · refine r_p (pc' := 78) (p_iinc 2 (i := 2) (n := 1) (x := x3) (v := x3 + 1) (lv' := [(2, vi (x3 + 1)), (0, vr a0), (1, vi a1)]) (by decide +kernel) rfl rfl (Nat.le_of_ble_eq_true rfl) rfl) ?_
              refine r_p (pc' := 30) (p_goto (off := -48) (tgt := 30) (by decide +kernel) (by decide)) ?_
              refine r_sub (lv' := [(0, vr a0), (1, vi a1), (2, vi (x3 + 1))]) [1, 2, 0] rfl ?_
              exact hb5 (x3 + 1) _
def aX10_isLetters : StA := (RX10, cX10_isLetter, 1, some .boolean, yX10_isLetter, 8, [])
noncomputable def mX10_isLetters (a0 : Int32) : MM Int32 :=
  if a0 < 97 then (
    mret 0
  ) else (
    if 122 < a0 then (
      mret 0
    ) else (
      mret 1
    )
  )
set_option maxHeartbeats 4000000 in
set_option maxRecDepth 100000 in
theorem ctX10_isLetters (a0 : Int32) : Ct aX10_isLetters [vi a0] (mX10_isLetters a0) rI := by
  unfold mX10_isLetters
  refine ct_intro (by decide +kernel) rfl (Nat.le_of_ble_eq_true rfl) fun Y s => ?_
  refine r_sub (lv' := [(0, vi a0)]) [0] rfl ?_
  refine r_p (pc' := 1) (p_iload_n 0 (k := 0) (by decide +kernel) rfl) ?_
  refine r_p (pc' := 3) (p_bipush (n := 97) (v := 97) (by decide +kernel) (by decide +kernel)) ?_
  refine r_icmplt (off := 13) (tgt := 16) (by decide +kernel) (by decide) (fun h1 => ?_) (fun h1 => ?_)
  · refine r_p (pc' := 17) (p_iconst (n := 0) (v := 0) (by decide +kernel) rfl) ?_
    exact r_iret rfl rfl _ rfl rfl (by decide +kernel)
  · refine r_p (pc' := 7) (p_iload_n 0 (k := 0) (by decide +kernel) rfl) ?_
    refine r_p (pc' := 9) (p_bipush (n := 122) (v := 122) (by decide +kernel) (by decide +kernel)) ?_
    refine r_icmpgt (off := 7) (tgt := 16) (by decide +kernel) (by decide) (fun h2 => ?_) (fun h2 => ?_)
    · refine r_p (pc' := 17) (p_iconst (n := 0) (v := 0) (by decide +kernel) rfl) ?_
      exact r_iret rfl rfl _ rfl rfl (by decide +kernel)
    · refine r_p (pc' := 13) (p_iconst (n := 1) (v := 1) (by decide +kernel) rfl) ?_
      refine r_p (pc' := 17) (p_goto (off := 4) (tgt := 17) (by decide +kernel) (by decide)) ?_
      exact r_iret rfl rfl _ rfl rfl (by decide +kernel)
def aX10_isLetterl : StA := (RX10, cX10_isLetter, 1, some .boolean, yX10_isLetter, 8, [])
noncomputable def mX10_isLetterl (a0 : Int32) : MM Int32 :=
  if a0 < 97 then (
    mret 0
  ) else (
    if 122 < a0 then (
      mret 0
    ) else (
      mret 1
    )
  )
set_option maxHeartbeats 4000000 in
set_option maxRecDepth 100000 in
theorem ctX10_isLetterl (a0 : Int32) : Ct aX10_isLetterl [vi a0] (mX10_isLetterl a0) rI := by
  unfold mX10_isLetterl
  refine ct_intro (by decide +kernel) rfl (Nat.le_of_ble_eq_true rfl) fun Y s => ?_
  refine r_sub (lv' := [(0, vi a0)]) [0] rfl ?_
  refine r_p (pc' := 1) (p_iload_n 0 (k := 0) (by decide +kernel) rfl) ?_
  refine r_p (pc' := 3) (p_bipush (n := 97) (v := 97) (by decide +kernel) (by decide +kernel)) ?_
  refine r_icmplt (off := 13) (tgt := 16) (by decide +kernel) (by decide) (fun h1 => ?_) (fun h1 => ?_)
  · refine r_p (pc' := 17) (p_iconst (n := 0) (v := 0) (by decide +kernel) rfl) ?_
    exact r_iret rfl rfl _ rfl rfl (by decide +kernel)
  · refine r_p (pc' := 7) (p_iload_n 0 (k := 0) (by decide +kernel) rfl) ?_
    refine r_p (pc' := 9) (p_bipush (n := 122) (v := 122) (by decide +kernel) (by decide +kernel)) ?_
    refine r_icmpgt (off := 7) (tgt := 16) (by decide +kernel) (by decide) (fun h2 => ?_) (fun h2 => ?_)
    · refine r_p (pc' := 17) (p_iconst (n := 0) (v := 0) (by decide +kernel) rfl) ?_
      exact r_iret rfl rfl _ rfl rfl (by decide +kernel)
    · refine r_p (pc' := 13) (p_iconst (n := 1) (v := 1) (by decide +kernel) rfl) ?_
      refine r_p (pc' := 17) (p_goto (off := 4) (tgt := 17) (by decide +kernel) (by decide)) ?_
      exact r_iret rfl rfl _ rfl rfl (by decide +kernel)
def aX10_isDigits : StA := (RX10, cX10_isDigit, 1, some .boolean, yX10_isDigit, 8, [])
noncomputable def mX10_isDigits (a0 : Int32) : MM Int32 :=
  if a0 < 48 then (
    mret 0
  ) else (
    if 57 < a0 then (
      mret 0
    ) else (
      mret 1
    )
  )
set_option maxHeartbeats 4000000 in
set_option maxRecDepth 100000 in
theorem ctX10_isDigits (a0 : Int32) : Ct aX10_isDigits [vi a0] (mX10_isDigits a0) rI := by
  unfold mX10_isDigits
  refine ct_intro (by decide +kernel) rfl (Nat.le_of_ble_eq_true rfl) fun Y s => ?_
  refine r_sub (lv' := [(0, vi a0)]) [0] rfl ?_
  refine r_p (pc' := 1) (p_iload_n 0 (k := 0) (by decide +kernel) rfl) ?_
  refine r_p (pc' := 3) (p_bipush (n := 48) (v := 48) (by decide +kernel) (by decide +kernel)) ?_
  refine r_icmplt (off := 13) (tgt := 16) (by decide +kernel) (by decide) (fun h1 => ?_) (fun h1 => ?_)
  · refine r_p (pc' := 17) (p_iconst (n := 0) (v := 0) (by decide +kernel) rfl) ?_
    exact r_iret rfl rfl _ rfl rfl (by decide +kernel)
  · refine r_p (pc' := 7) (p_iload_n 0 (k := 0) (by decide +kernel) rfl) ?_
    refine r_p (pc' := 9) (p_bipush (n := 57) (v := 57) (by decide +kernel) (by decide +kernel)) ?_
    refine r_icmpgt (off := 7) (tgt := 16) (by decide +kernel) (by decide) (fun h2 => ?_) (fun h2 => ?_)
    · refine r_p (pc' := 17) (p_iconst (n := 0) (v := 0) (by decide +kernel) rfl) ?_
      exact r_iret rfl rfl _ rfl rfl (by decide +kernel)
    · refine r_p (pc' := 13) (p_iconst (n := 1) (v := 1) (by decide +kernel) rfl) ?_
      refine r_p (pc' := 17) (p_goto (off := 4) (tgt := 17) (by decide +kernel) (by decide)) ?_
      exact r_iret rfl rfl _ rfl rfl (by decide +kernel)
def aX10_isDigitl : StA := (RX10, cX10_isDigit, 1, some .boolean, yX10_isDigit, 8, [])
noncomputable def mX10_isDigitl (a0 : Int32) : MM Int32 :=
  if a0 < 48 then (
    mret 0
  ) else (
    if 57 < a0 then (
      mret 0
    ) else (
      mret 1
    )
  )
set_option maxHeartbeats 4000000 in
set_option maxRecDepth 100000 in
theorem ctX10_isDigitl (a0 : Int32) : Ct aX10_isDigitl [vi a0] (mX10_isDigitl a0) rI := by
  unfold mX10_isDigitl
  refine ct_intro (by decide +kernel) rfl (Nat.le_of_ble_eq_true rfl) fun Y s => ?_
  refine r_sub (lv' := [(0, vi a0)]) [0] rfl ?_
  refine r_p (pc' := 1) (p_iload_n 0 (k := 0) (by decide +kernel) rfl) ?_
  refine r_p (pc' := 3) (p_bipush (n := 48) (v := 48) (by decide +kernel) (by decide +kernel)) ?_
  refine r_icmplt (off := 13) (tgt := 16) (by decide +kernel) (by decide) (fun h1 => ?_) (fun h1 => ?_)
  · refine r_p (pc' := 17) (p_iconst (n := 0) (v := 0) (by decide +kernel) rfl) ?_
    exact r_iret rfl rfl _ rfl rfl (by decide +kernel)
  · refine r_p (pc' := 7) (p_iload_n 0 (k := 0) (by decide +kernel) rfl) ?_
    refine r_p (pc' := 9) (p_bipush (n := 57) (v := 57) (by decide +kernel) (by decide +kernel)) ?_
    refine r_icmpgt (off := 7) (tgt := 16) (by decide +kernel) (by decide) (fun h2 => ?_) (fun h2 => ?_)
    · refine r_p (pc' := 17) (p_iconst (n := 0) (v := 0) (by decide +kernel) rfl) ?_
      exact r_iret rfl rfl _ rfl rfl (by decide +kernel)
    · refine r_p (pc' := 13) (p_iconst (n := 1) (v := 1) (by decide +kernel) rfl) ?_
      refine r_p (pc' := 17) (p_goto (off := 4) (tgt := 17) (by decide +kernel) (by decide)) ?_
      exact r_iret rfl rfl _ rfl rfl (by decide +kernel)
