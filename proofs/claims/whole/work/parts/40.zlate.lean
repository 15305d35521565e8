/-! PRINTED BY wip/whole/gen.py -/
def aJ7_copyOf_59c91 : StA := (RJ7, cJ7_copyOf_59c91, 3, some (.array .int), yJ7_copyOf_59c91, 8, [])
noncomputable def mJ7_copyOf_59c91 (a0 : Nat) (a1 : Int32) : MM Nat :=
  mbnd (lenI 0 a0) fun (v1 : Int32) =>
  if a1 = v1 then (
    mbnd (cln a0) fun (v3 : Nat) =>
    mbnd (isI0 v3) fun _ =>
    mret v3
  ) else (
    mbnd (nwI 0 a1) fun (v4 : Nat) =>
    mbnd (lenI 0 a0) fun (v5 : Int32) =>
    mbnd (cpI 0 a0 0 v4 0 (imin v5 a1)) fun _ =>
    mret v4
  )
set_option maxHeartbeats 4000000 in
set_option maxRecDepth 100000 in
theorem ctJ7_copyOf_59c91 (a0 : Nat) (a1 : Int32) : Ct aJ7_copyOf_59c91 [vr a0, vi a1] (mJ7_copyOf_59c91 a0 a1) rR := by
  unfold mJ7_copyOf_59c91
  refine ct_intro (by decide +kernel) rfl (Nat.le_of_ble_eq_true rfl) fun Y s => ?_
  refine r_sub (lv' := [(0, vr a0), (1, vi a1)]) [0, 1] rfl ?_
  refine r_p (pc' := 1) (p_iload_n 1 (k := 1) (by decide +kernel) rfl) ?_
  refine r_p (pc' := 2) (p_aload_n 0 (k := 0) (by decide +kernel) rfl) ?_
  refine r_lenI (by decide) (by decide +kernel) fun v1 => ?_
  refine r_icmpne (off := 11) (tgt := 14) (by decide +kernel) (by decide) (fun h2 => ?_) (fun h2 => ?_)
  · refine r_p (pc' := 7) (p_aload_n 0 (k := 0) (by decide +kernel) rfl) ?_
    refine r_cln (idx := 316) rfl rfl (Nat.le_of_ble_eq_true rfl) (Nat.le_of_ble_eq_true rfl) (by decide +kernel) fun v3 s => ?_
    refine r_castI (idx := 317) (tblG_of 1160 (by decide +kernel) (by decide +kernel)) (by decide +kernel) ?_
    exact r_aret rfl rfl _ rfl (Or.inr ⟨_, rfl⟩) (by decide +kernel)
  · refine r_p (pc' := 15) (p_iload_n 1 (k := 1) (by decide +kernel) rfl) ?_
    refine r_nwI (at9 := .int) (ty := .int) rfl (by decide) (by decide +kernel) fun v4 s => ?_
    refine r_p (pc' := 18) (p_astore_n (k := 2) (lv' := [(2, vr v4), (0, vr a0), (1, vi a1)]) (by decide +kernel) (Nat.le_of_ble_eq_true rfl) rfl) ?_
    refine r_p (pc' := 19) (p_aload_n 1 (k := 0) (by decide +kernel) rfl) ?_
    refine r_p (pc' := 20) (p_iconst (n := 0) (v := 0) (by decide +kernel) rfl) ?_
    refine r_p (pc' := 21) (p_aload_n 0 (k := 2) (by decide +kernel) rfl) ?_
    refine r_p (pc' := 22) (p_iconst (n := 0) (v := 0) (by decide +kernel) rfl) ?_
    refine r_p (pc' := 23) (p_aload_n 1 (k := 0) (by decide +kernel) rfl) ?_
    refine r_lenI (by decide) (by decide +kernel) fun v5 => ?_
    refine r_p (pc' := 25) (p_iload_n 2 (k := 1) (by decide +kernel) rfl) ?_
    refine r_p (pc' := 28) (p_min (idx := 304) (tblG_of 1161 (by decide +kernel) (by decide +kernel)) (Nat.le_of_ble_eq_true rfl) (Nat.le_of_ble_eq_true rfl) (by decide +kernel)) ?_
    refine r_cp (idx := 150) (tblG_of 1162 (by decide +kernel) (by decide +kernel)) (Nat.le_of_ble_eq_true rfl) (Nat.le_of_ble_eq_true rfl) (by decide +kernel) fun s => ?_
    refine r_p (pc' := 32) (p_aload_n 0 (k := 2) (by decide +kernel) rfl) ?_
    exact r_aret rfl rfl _ rfl (Or.inr ⟨_, rfl⟩) (by decide +kernel)
def aX5_made : StA := (RX5, cX5_made, 1, some (.object "ToolCourt$Law"), yX5_made, 9, [])
theorem nwX5_18 : NW RX5 18 4 3 [.int 0, .null, .null] := ⟨_, TX4, tyX4, rfl, tyX4_ok, tblG_of 1149 (by decide +kernel) (by decide +kernel), tblG_of 290 (by decide +kernel) (by decide +kernel), tblG_of 149 (by decide +kernel) (by decide +kernel), (fun j hj => by match j, hj with | 0, _ => rfl | 1, _ => rfl | 2, _ => rfl), rfl⟩
theorem flX5_20_5 : FL RX5 20 5 10 := ⟨_, TX5, 18, "ToolCourt$LawReader", rfl, by decide, Or.inl (tblG_of 439 (by decide +kernel) (by decide +kernel)), Or.inr (tblG_of 440 (by decide +kernel) (by decide +kernel))⟩
theorem msX5_33 : MS RX5 33 aJ7_copyOf_59c91 2 := ⟨tblG_of 1151 (by decide +kernel) (by decide +kernel), tblG_of 1152 (by decide +kernel) (by decide +kernel), tblG_of 167 (by decide +kernel) (by decide +kernel), tblG_of 1153 (by decide +kernel) (by decide +kernel), rfl, ⟨by decide, by decide⟩, by decide +kernel, by decide⟩
theorem miX5_39 : MI RX5 39 aX4_init 2 := ⟨tblG_of 1163 (by decide +kernel) (by decide +kernel), tblG_of 292 (by decide +kernel) (by decide +kernel), tblG_of 149 (by decide +kernel) (by decide +kernel), tblG_of 293 (by decide +kernel) (by decide +kernel), rfl, ⟨by decide, by decide⟩, by decide +kernel, by decide, rfl, rfl⟩
noncomputable def mX5_made (a0 : Nat) : MM Nat := onC 5 a0 (
  mbnd (nw 4 3 [.int 0, .null, .null]) fun (v1 : Nat) =>
  mbnd (gI 5 10 a0) fun (v2 : Int32) =>
  mbnd (gR 5 12 a0) fun (v3 : Nat) =>
  mbnd (gI 5 14 a0) fun (v4 : Int32) =>
  mbnd (mJ7_copyOf_59c91 v3 (imax 0 v4)) fun (v5 : Nat) =>
  mbnd (nox (mX4_init v1 v2 v5)) fun _ =>
  mret v1
  )
theorem rcX5_made (a0 : Nat) : Rcv 5 a0 (mX5_made a0) := fun s r h => ⟨(onC_some h).1, (onC_some h).2.1⟩
set_option maxHeartbeats 4000000 in
set_option maxRecDepth 100000 in
theorem ctX5_made (a0 : Nat) : Ct aX5_made [vr a0] (mX5_made a0) rR := by
  unfold mX5_made
  refine ct_onC (ct_intro (by decide +kernel) rfl (Nat.le_of_ble_eq_true rfl) fun Y s => ?_)
  refine r_sub (lv' := [(0, vr a0)]) [0] rfl ?_
  refine r_nw nwX5_18 (by decide +kernel) fun v1 s => ?_
  refine r_p (pc' := 4) (p_dup rfl (by decide +kernel)) ?_
  refine r_p (pc' := 5) (p_aload_n 0 (k := 0) (by decide +kernel) rfl) ?_
  refine r_gI flX5_20_5 (by decide +kernel) fun v2 => ?_
  refine r_p (pc' := 9) (p_aload_n 0 (k := 0) (by decide +kernel) rfl) ?_
  refine r_gR flX5_9_5 (by decide +kernel) fun v3 => ?_
  refine r_p (pc' := 13) (p_iconst (n := 0) (v := 0) (by decide +kernel) rfl) ?_
  refine r_p (pc' := 14) (p_aload_n 0 (k := 0) (by decide +kernel) rfl) ?_
  refine r_gI flX5_24_5 (by decide +kernel) fun v4 => ?_
  refine r_p (pc' := 20) (p_max (idx := 27) (tblG_of 1150 (by decide +kernel) (by decide +kernel)) (Nat.le_of_ble_eq_true rfl) (Nat.le_of_ble_eq_true rfl) (by decide +kernel)) ?_
  refine r_callSR msX5_33 (ctJ7_copyOf_59c91 v3 (imax 0 v4)) (as := [vr v3, vi (imax 0 v4)]) (st := [vi v2, vr v1, vr v1]) rfl rfl (by decide +kernel) rfl (Nat.le_of_ble_eq_true rfl) (Nat.le_of_ble_eq_true rfl) fun v5 s => ?_
  refine r_callIU miX5_39 (ctX4_init v1 v2 v5) (as := [vi v2, vr v5]) (st := [vr v1]) rfl rfl (by decide +kernel) rfl (Nat.le_of_ble_eq_true rfl) (Nat.le_of_ble_eq_true rfl) fun s => ?_
  exact r_aret rfl rfl _ rfl (Or.inl ⟨_, rfl⟩) (by decide +kernel)
def aX11_law : StA := (RX11, cX11_law, 2, some .int, yX11_law, 15, [])
theorem flX11_75_10 : FL RX11 75 10 2 := ⟨_, TX11, 10, "ToolCourt", rfl, by decide, Or.inl (tblG_of 515 (by decide +kernel) (by decide +kernel)), Or.inl rfl⟩
theorem muX11_123l : MU RX11 123 "ToolCourt$LawReader" "ToolCourt$TextReader" ⟨"ToolCourt$LawReader", "readLines", "(I)Z"⟩ aX10_readLinesl 1 := ⟨tblG_of 1142 (by decide +kernel) (by decide +kernel), tblG_of 803 (by decide +kernel) (by decide +kernel), tblG_of 1144 (by decide +kernel) (by decide +kernel), tblG_of 1143 (by decide +kernel) (by decide +kernel), tblG_of 153 (by decide +kernel) (by decide +kernel), tblG_of 804 (by decide +kernel) (by decide +kernel), rfl, ⟨by decide, by decide⟩, by decide +kernel, by decide, Or.inl rfl⟩
theorem flX11_124_5 : FL RX11 124 5 11 := ⟨_, TX5, 18, "ToolCourt$LawReader", rfl, by decide, Or.inl (tblG_of 445 (by decide +kernel) (by decide +kernel)), Or.inr (tblG_of 446 (by decide +kernel) (by decide +kernel))⟩
theorem mvX11_125 : MV RX11 125 aX5_made 0 := ⟨tblG_of 1145 (by decide +kernel) (by decide +kernel), tblG_of 1146 (by decide +kernel) (by decide +kernel), tblG_of 1147 (by decide +kernel) (by decide +kernel), tblG_of 155 (by decide +kernel) (by decide +kernel), tblG_of 1148 (by decide +kernel) (by decide +kernel), rfl, ⟨by decide, by decide⟩, by decide +kernel, by decide⟩
theorem fpX11_129_1 : FP RX11 129 1 6 (.object "ToolCourt$Law") false := ⟨_, TX1, 13, "ToolCourt$Court", tyX1, rfl, by decide, Or.inr ⟨rfl, "ToolCourt", List.mem_of_getElem? (i := 361) (by decide +kernel)⟩, Or.inl rfl, tyX1_ok, nmX1, rfl, by decide, by decide +kernel⟩
noncomputable def mX11_law (a0 : Nat) : MM Int32 := onC 10 a0 (
  mbnd (gR 10 2 a0) fun (v1 : Nat) =>
  mbnd (nox (mX10_readLinesl v1 12)) fun (v2 : Int32) =>
  mbnd (gR 10 2 a0) fun (v3 : Nat) =>
  mbnd (gI 5 11 v3) fun (v4 : Int32) =>
  mbnd (pI 10 9 a0 v4) fun _ =>
  mbnd (gR 10 0 a0) fun (v5 : Nat) =>
  mbnd (mX9_cut v5 0) fun (v6 : Int32) =>
  if v2 = 0 then (
    mthr 0
  ) else (
    mbnd (gR 10 7 a0) fun (v8 : Nat) =>
    mbnd (gR 10 2 a0) fun (v9 : Nat) =>
    mbnd (mX5_made v9) fun (v10 : Nat) =>
    mbnd (pR 1 6 v8 v10) fun _ =>
    mbnd (gR 10 6 a0) fun (v11 : Nat) =>
    mbnd (mX6_forgetActs v11) fun _ =>
    mbnd (gR 10 7 a0) fun (v12 : Nat) =>
    mbnd (gR 1 6 v12) fun (v13 : Nat) =>
    mbnd (gI 4 0 v13) fun (v14 : Int32) =>
    mret v14
  )
  )
theorem rcX11_law (a0 : Nat) : Rcv 10 a0 (mX11_law a0) := fun s r h => ⟨(onC_some h).1, (onC_some h).2.1⟩
set_option maxHeartbeats 4000000 in
set_option maxRecDepth 100000 in
theorem ctX11_law (a0 : Nat) : Ct aX11_law [vr a0] (mX11_law a0) rI := by
  unfold mX11_law
  refine ct_onC (ct_intro (by decide +kernel) rfl (Nat.le_of_ble_eq_true rfl) fun Y s => ?_)
  refine r_sub (lv' := [(0, vr a0)]) [0] rfl ?_
  refine r_p (pc' := 1) (p_aload_n 0 (k := 0) (by decide +kernel) rfl) ?_
  refine r_gR flX11_75_10 (by decide +kernel) fun v1 => ?_
  refine r_p (pc' := 6) (p_bipush (n := 12) (v := 12) (by decide +kernel) (by decide +kernel)) ?_
  refine r_callUI muX11_123l (ctX10_readLinesl v1 12) (rcX10_readLinesl v1 12) ⟨_, _, rfl⟩ (as := [vi 12]) (st := []) rfl rfl (by decide +kernel) rfl (Nat.le_of_ble_eq_true rfl) (Nat.le_of_ble_eq_true rfl) fun v2 s => ?_
  refine r_p (pc' := 10) (p_istore_n (k := 1) (lv' := [(1, vi v2), (0, vr a0)]) (by decide +kernel) (Nat.le_of_ble_eq_true rfl) rfl) ?_
  refine r_p (pc' := 11) (p_aload_n 1 (k := 0) (by decide +kernel) rfl) ?_
  refine r_p (pc' := 12) (p_aload_n 1 (k := 0) (by decide +kernel) rfl) ?_
  refine r_gR flX11_75_10 (by decide +kernel) fun v3 => ?_
  refine r_gI flX11_124_5 (by decide +kernel) fun v4 => ?_
  refine r_pI fpX11_79_10 (fun h => by cases h) (by decide +kernel) fun s => ?_
  refine r_p (pc' := 22) (p_aload_n 1 (k := 0) (by decide +kernel) rfl) ?_
  refine r_gR flX11_10_10 (by decide +kernel) fun v5 => ?_
  refine r_p (pc' := 26) (p_iconst (n := 0) (v := 0) (by decide +kernel) rfl) ?_
  refine r_callVI mvX11_94 (ctX9_cut v5 0) (rcX9_cut v5 0) ⟨_, _, rfl⟩ (as := [vi 0]) (st := []) rfl rfl (by decide +kernel) rfl (Nat.le_of_ble_eq_true rfl) (Nat.le_of_ble_eq_true rfl) fun v6 s => ?_
  refine r_p (pc' := 30) (p_pop rfl (by decide +kernel)) ?_
  refine r_p (pc' := 31) (p_iload_n 0 (k := 1) (by decide +kernel) rfl) ?_
  refine r_ifne (off := 13) (tgt := 44) (by decide +kernel) (by decide) (fun h7 => ?_) (fun h7 => ?_)
  · exact r_thr thX11_103_105 rfl (Nat.le_of_ble_eq_true rfl) (Nat.le_of_ble_eq_true rfl) (by decide +kernel) (by decide +kernel) (by decide +kernel) (by decide +kernel) (by decide +kernel)
  · refine r_p (pc' := 45) (p_aload_n 1 (k := 0) (by decide +kernel) rfl) ?_
    refine r_gR flX11_54_10 (by decide +kernel) fun v8 => ?_
    refine r_p (pc' := 49) (p_aload_n 1 (k := 0) (by decide +kernel) rfl) ?_
    refine r_gR flX11_75_10 (by decide +kernel) fun v9 => ?_
    refine r_callVR mvX11_125 (ctX5_made v9) (rcX5_made v9) ⟨_, _, rfl⟩ (as := []) (st := [vr v8]) rfl rfl (by decide +kernel) rfl (Nat.le_of_ble_eq_true rfl) (Nat.le_of_ble_eq_true rfl) fun v10 s => ?_
    refine r_pR fpX11_129_1 (fun h => by cases h) (Or.inl ⟨_, rfl⟩) (by decide +kernel) fun s => ?_
    refine r_p (pc' := 59) (p_aload_n 1 (k := 0) (by decide +kernel) rfl) ?_
    refine r_gR flX11_40_10 (by decide +kernel) fun v11 => ?_
    refine r_callVU mvX11_120 (ctX6_forgetActs v11) (rcX6_forgetActs v11) ⟨_, _, rfl⟩ (as := []) (st := []) rfl rfl (by decide +kernel) rfl (Nat.le_of_ble_eq_true rfl) (Nat.le_of_ble_eq_true rfl) fun s => ?_
    refine r_p (pc' := 66) (p_aload_n 1 (k := 0) (by decide +kernel) rfl) ?_
    refine r_gR flX11_54_10 (by decide +kernel) fun v12 => ?_
    refine r_gR flX11_129_1 (by decide +kernel) fun v13 => ?_
    refine r_gI flX11_133_4 (by decide +kernel) fun v14 => ?_
    exact r_iret rfl rfl _ rfl rfl (by decide +kernel)
