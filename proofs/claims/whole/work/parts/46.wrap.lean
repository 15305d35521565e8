/-! PRINTED BY wip/whole/gen.py -/
def aL_shop : StA := (RL, cL_shop, 3, some .int, yL_shop, 15, [(0, 8, 11, 13), (0, 8, 14, 15)])
theorem mvL_7 : MV RL 7 aX11_shop 0 := ⟨tblG_of 800 (by decide +kernel) (by decide +kernel), tblG_of 801 (by decide +kernel) (by decide +kernel), tblG_of 802 (by decide +kernel) (by decide +kernel), tblG_of 144 (by decide +kernel) (by decide +kernel), tblG_of 803 (by decide +kernel) (by decide +kernel), rfl, ⟨by decide, by decide⟩, by decide +kernel, by decide⟩
noncomputable def mL_shop (a0 : Nat) (a1 : Nat) : MM Int32 :=
  mcat (mX11_shop a0) (fun (v1 : Int32) =>
    mbnd (stL a1 0 (v1.toInt64)) fun _ =>
    mret 0
  ) (hsel [(0, 1), (1, 2)])
set_option maxHeartbeats 4000000 in
set_option maxRecDepth 100000 in
theorem ctL_shop (a0 : Nat) (a1 : Nat) : Ct aL_shop [vr a0, vr a1] (mL_shop a0 a1) rI := by
  unfold mL_shop
  refine ct_introH (by decide +kernel) ⟨_, _, rfl⟩ (Nat.le_of_ble_eq_true rfl) fun Y s => ?_
  refine r_sub (lv' := [(0, vr a0), (1, vr a1)]) [0, 1] rfl ?_
  refine r_p (pc' := 1) (p_aload_n 1 (k := 1) (by decide +kernel) rfl) ?_
  refine r_p (pc' := 2) (p_iconst (n := 0) (v := 0) (by decide +kernel) rfl) ?_
  refine r_p (pc' := 3) (p_aload_n 0 (k := 0) (by decide +kernel) rfl) ?_
  refine r_callVL mvL_7 (ctX11_shop a0) (rcX11_shop a0) ⟨_, _, rfl⟩ (as := []) (st := [vi 0, vr a1]) rfl rfl (by decide +kernel) (Nat.le_of_ble_eq_true rfl) (Nat.le_of_ble_eq_true rfl) (fun v1 s => ?_) (List.forall_mem_cons.mpr ⟨⟨11, 12, ⟨[], [⟨0, 8, 14, 15⟩], ⟨0, 8, 11, 13⟩, rfl, (fun z hz => nomatch hz), by decide, by decide, by decide, tblG_of 798 (by decide +kernel) (by decide +kernel), List.mem_of_getElem? (i := 1054) (by decide +kernel), rfl⟩, Or.inl ⟨2, by decide +kernel, by decide, rfl⟩, fun s => r_p (pc' := 13) (p_iconst (n := 1) (v := 1) (by decide +kernel) rfl) (r_iret rfl rfl _ rfl rfl (by decide +kernel))⟩, List.forall_mem_cons.mpr ⟨⟨14, 15, ⟨[⟨0, 8, 11, 13⟩], [], ⟨0, 8, 14, 15⟩, rfl, List.forall_mem_cons.mpr ⟨⟨by decide, 0, by decide, by decide, tblG_of 798 (by decide +kernel) (by decide +kernel)⟩, (fun z hz => nomatch hz)⟩, by decide, by decide, by decide, tblG_of 799 (by decide +kernel) (by decide +kernel), List.mem_of_getElem? (i := 1124) (by decide +kernel), rfl⟩, Or.inl ⟨2, by decide +kernel, by decide, rfl⟩, fun s => r_p (pc' := 16) (p_iconst (n := 2) (v := 2) (by decide +kernel) rfl) (r_iret rfl rfl _ rfl rfl (by decide +kernel))⟩, (fun q hq => nomatch hq)⟩⟩)
  refine r_p (pc' := 7) (p_i2l (by decide +kernel)) ?_
  refine r_stL (by decide +kernel) fun s => ?_
  refine r_p (pc' := 17) (p_goto (off := 9) (tgt := 17) (by decide +kernel) (by decide)) ?_
  refine r_p (pc' := 18) (p_iconst (n := 0) (v := 0) (by decide +kernel) rfl) ?_
  exact r_iret rfl rfl _ rfl rfl (by decide +kernel)
def aL_law : StA := (RL, cL_law, 3, some .int, yL_law, 16, [(0, 8, 11, 13)])
theorem mvL_17 : MV RL 17 aX11_law 0 := ⟨tblG_of 1143 (by decide +kernel) (by decide +kernel), tblG_of 1144 (by decide +kernel) (by decide +kernel), tblG_of 1145 (by decide +kernel) (by decide +kernel), tblG_of 144 (by decide +kernel) (by decide +kernel), tblG_of 1146 (by decide +kernel) (by decide +kernel), rfl, ⟨by decide, by decide⟩, by decide +kernel, by decide⟩
noncomputable def mL_law (a0 : Nat) (a1 : Nat) : MM Int32 :=
  mcat (mX11_law a0) (fun (v1 : Int32) =>
    mbnd (stL a1 0 (v1.toInt64)) fun _ =>
    mret 0
  ) (hsel [(0, 1)])
set_option maxHeartbeats 4000000 in
set_option maxRecDepth 100000 in
theorem ctL_law (a0 : Nat) (a1 : Nat) : Ct aL_law [vr a0, vr a1] (mL_law a0 a1) rI := by
  unfold mL_law
  refine ct_introH (by decide +kernel) ⟨_, _, rfl⟩ (Nat.le_of_ble_eq_true rfl) fun Y s => ?_
  refine r_sub (lv' := [(0, vr a0), (1, vr a1)]) [0, 1] rfl ?_
  refine r_p (pc' := 1) (p_aload_n 1 (k := 1) (by decide +kernel) rfl) ?_
  refine r_p (pc' := 2) (p_iconst (n := 0) (v := 0) (by decide +kernel) rfl) ?_
  refine r_p (pc' := 3) (p_aload_n 0 (k := 0) (by decide +kernel) rfl) ?_
  refine r_callVL mvL_17 (ctX11_law a0) (rcX11_law a0) ⟨_, _, rfl⟩ (as := []) (st := [vi 0, vr a1]) rfl rfl (by decide +kernel) (Nat.le_of_ble_eq_true rfl) (Nat.le_of_ble_eq_true rfl) (fun v1 s => ?_) (List.forall_mem_cons.mpr ⟨⟨11, 12, ⟨[], [], ⟨0, 8, 11, 13⟩, rfl, (fun z hz => nomatch hz), by decide, by decide, by decide, tblG_of 798 (by decide +kernel) (by decide +kernel), List.mem_of_getElem? (i := 1054) (by decide +kernel), rfl⟩, Or.inl ⟨2, by decide +kernel, by decide, rfl⟩, fun s => r_p (pc' := 13) (p_iconst (n := 1) (v := 1) (by decide +kernel) rfl) (r_iret rfl rfl _ rfl rfl (by decide +kernel))⟩, (fun q hq => nomatch hq)⟩)
  refine r_p (pc' := 7) (p_i2l (by decide +kernel)) ?_
  refine r_stL (by decide +kernel) fun s => ?_
  refine r_p (pc' := 14) (p_goto (off := 6) (tgt := 14) (by decide +kernel) (by decide)) ?_
  refine r_p (pc' := 15) (p_iconst (n := 0) (v := 0) (by decide +kernel) rfl) ?_
  exact r_iret rfl rfl _ rfl rfl (by decide +kernel)
def aL_part : StA := (RL, cL_part, 5, some .int, yL_part, 13, [(0, 10, 13, 24), (0, 10, 17, 26)])
theorem mvL_20 : MV RL 20 aX11_part 2 := ⟨tblG_of 1174 (by decide +kernel) (by decide +kernel), tblG_of 1175 (by decide +kernel) (by decide +kernel), tblG_of 1176 (by decide +kernel) (by decide +kernel), tblG_of 144 (by decide +kernel) (by decide +kernel), tblG_of 1177 (by decide +kernel) (by decide +kernel), rfl, ⟨by decide, by decide⟩, by decide +kernel, by decide⟩
noncomputable def mL_part (a0 : Nat) (a1 : Int32) (a2 : Int32) (a3 : Nat) : MM Int32 :=
  mcat (mX11_part a0 a1 a2) (fun (v1 : Int32) =>
    mbnd (stL a3 0 (v1.toInt64)) fun _ =>
    mret 0
  ) (hsel [(2, 1), (3, 2)])
set_option maxHeartbeats 4000000 in
set_option maxRecDepth 100000 in
theorem ctL_part (a0 : Nat) (a1 : Int32) (a2 : Int32) (a3 : Nat) : Ct aL_part [vr a0, vi a1, vi a2, vr a3] (mL_part a0 a1 a2 a3) rI := by
  unfold mL_part
  refine ct_introH (by decide +kernel) ⟨_, _, rfl⟩ (Nat.le_of_ble_eq_true rfl) fun Y s => ?_
  refine r_sub (lv' := [(0, vr a0), (1, vi a1), (2, vi a2), (3, vr a3)]) [0, 1, 2, 3] rfl ?_
  refine r_p (pc' := 1) (p_aload_n 3 (k := 3) (by decide +kernel) rfl) ?_
  refine r_p (pc' := 2) (p_iconst (n := 0) (v := 0) (by decide +kernel) rfl) ?_
  refine r_p (pc' := 3) (p_aload_n 0 (k := 0) (by decide +kernel) rfl) ?_
  refine r_p (pc' := 4) (p_iload_n 1 (k := 1) (by decide +kernel) rfl) ?_
  refine r_p (pc' := 5) (p_iload_n 2 (k := 2) (by decide +kernel) rfl) ?_
  refine r_callVL mvL_20 (ctX11_part a0 a1 a2) (rcX11_part a0 a1 a2) ⟨_, _, rfl⟩ (as := [vi a1, vi a2]) (st := [vi 0, vr a3]) rfl rfl (by decide +kernel) (Nat.le_of_ble_eq_true rfl) (Nat.le_of_ble_eq_true rfl) (fun v1 s => ?_) (List.forall_mem_cons.mpr ⟨⟨13, 15, ⟨[], [⟨0, 10, 17, 26⟩], ⟨0, 10, 13, 24⟩, rfl, (fun z hz => nomatch hz), by decide, by decide, by decide, tblG_of 1172 (by decide +kernel) (by decide +kernel), List.mem_of_getElem? (i := 1185) (by decide +kernel), rfl⟩, Or.inr ⟨4, by decide +kernel, by decide, rfl⟩, fun s => r_p (pc' := 16) (p_iconst (n := 1) (v := 1) (by decide +kernel) rfl) (r_iret rfl rfl _ rfl rfl (by decide +kernel))⟩, List.forall_mem_cons.mpr ⟨⟨17, 19, ⟨[⟨0, 10, 13, 24⟩], [], ⟨0, 10, 17, 26⟩, rfl, List.forall_mem_cons.mpr ⟨⟨by decide, 2, by decide, by decide, tblG_of 1172 (by decide +kernel) (by decide +kernel)⟩, (fun z hz => nomatch hz)⟩, by decide, by decide, by decide, tblG_of 1173 (by decide +kernel) (by decide +kernel), List.mem_of_getElem? (i := 1212) (by decide +kernel), rfl⟩, Or.inr ⟨4, by decide +kernel, by decide, rfl⟩, fun s => r_p (pc' := 20) (p_iconst (n := 2) (v := 2) (by decide +kernel) rfl) (r_iret rfl rfl _ rfl rfl (by decide +kernel))⟩, (fun q hq => nomatch hq)⟩⟩)
  refine r_p (pc' := 9) (p_i2l (by decide +kernel)) ?_
  refine r_stL (by decide +kernel) fun s => ?_
  refine r_p (pc' := 21) (p_goto (off := 11) (tgt := 21) (by decide +kernel) (by decide)) ?_
  refine r_p (pc' := 22) (p_iconst (n := 0) (v := 0) (by decide +kernel) rfl) ?_
  exact r_iret rfl rfl _ rfl rfl (by decide +kernel)
def aL_tool : StA := (RL, cL_tool, 5, some .int, yL_tool, 13, [(0, 10, 13, 24), (0, 10, 17, 26)])
theorem mvL_28 : MV RL 28 aX11_tool 2 := ⟨tblG_of 1229 (by decide +kernel) (by decide +kernel), tblG_of 1230 (by decide +kernel) (by decide +kernel), tblG_of 1231 (by decide +kernel) (by decide +kernel), tblG_of 144 (by decide +kernel) (by decide +kernel), tblG_of 1232 (by decide +kernel) (by decide +kernel), rfl, ⟨by decide, by decide⟩, by decide +kernel, by decide⟩
noncomputable def mL_tool (a0 : Nat) (a1 : Int32) (a2 : Int32) (a3 : Nat) : MM Int32 :=
  mcat (mX11_tool a0 a1 a2) (fun (v1 : Int32) =>
    mbnd (stL a3 0 (v1.toInt64)) fun _ =>
    mret 0
  ) (hsel [(2, 1), (3, 2)])
set_option maxHeartbeats 4000000 in
set_option maxRecDepth 100000 in
theorem ctL_tool (a0 : Nat) (a1 : Int32) (a2 : Int32) (a3 : Nat) : Ct aL_tool [vr a0, vi a1, vi a2, vr a3] (mL_tool a0 a1 a2 a3) rI := by
  unfold mL_tool
  refine ct_introH (by decide +kernel) ⟨_, _, rfl⟩ (Nat.le_of_ble_eq_true rfl) fun Y s => ?_
  refine r_sub (lv' := [(0, vr a0), (1, vi a1), (2, vi a2), (3, vr a3)]) [0, 1, 2, 3] rfl ?_
  refine r_p (pc' := 1) (p_aload_n 3 (k := 3) (by decide +kernel) rfl) ?_
  refine r_p (pc' := 2) (p_iconst (n := 0) (v := 0) (by decide +kernel) rfl) ?_
  refine r_p (pc' := 3) (p_aload_n 0 (k := 0) (by decide +kernel) rfl) ?_
  refine r_p (pc' := 4) (p_iload_n 1 (k := 1) (by decide +kernel) rfl) ?_
  refine r_p (pc' := 5) (p_iload_n 2 (k := 2) (by decide +kernel) rfl) ?_
  refine r_callVL mvL_28 (ctX11_tool a0 a1 a2) (rcX11_tool a0 a1 a2) ⟨_, _, rfl⟩ (as := [vi a1, vi a2]) (st := [vi 0, vr a3]) rfl rfl (by decide +kernel) (Nat.le_of_ble_eq_true rfl) (Nat.le_of_ble_eq_true rfl) (fun v1 s => ?_) (List.forall_mem_cons.mpr ⟨⟨13, 15, ⟨[], [⟨0, 10, 17, 26⟩], ⟨0, 10, 13, 24⟩, rfl, (fun z hz => nomatch hz), by decide, by decide, by decide, tblG_of 1172 (by decide +kernel) (by decide +kernel), List.mem_of_getElem? (i := 1185) (by decide +kernel), rfl⟩, Or.inr ⟨4, by decide +kernel, by decide, rfl⟩, fun s => r_p (pc' := 16) (p_iconst (n := 1) (v := 1) (by decide +kernel) rfl) (r_iret rfl rfl _ rfl rfl (by decide +kernel))⟩, List.forall_mem_cons.mpr ⟨⟨17, 19, ⟨[⟨0, 10, 13, 24⟩], [], ⟨0, 10, 17, 26⟩, rfl, List.forall_mem_cons.mpr ⟨⟨by decide, 2, by decide, by decide, tblG_of 1172 (by decide +kernel) (by decide +kernel)⟩, (fun z hz => nomatch hz)⟩, by decide, by decide, by decide, tblG_of 1173 (by decide +kernel) (by decide +kernel), List.mem_of_getElem? (i := 1212) (by decide +kernel), rfl⟩, Or.inr ⟨4, by decide +kernel, by decide, rfl⟩, fun s => r_p (pc' := 20) (p_iconst (n := 2) (v := 2) (by decide +kernel) rfl) (r_iret rfl rfl _ rfl rfl (by decide +kernel))⟩, (fun q hq => nomatch hq)⟩⟩)
  refine r_p (pc' := 9) (p_i2l (by decide +kernel)) ?_
  refine r_stL (by decide +kernel) fun s => ?_
  refine r_p (pc' := 21) (p_goto (off := 11) (tgt := 21) (by decide +kernel) (by decide)) ?_
  refine r_p (pc' := 22) (p_iconst (n := 0) (v := 0) (by decide +kernel) rfl) ?_
  exact r_iret rfl rfl _ rfl rfl (by decide +kernel)
def aL_master : StA := (RL, cL_master, 5, some .int, yL_master, 11, [(0, 10, 13, 24)])
theorem mvL_31 : MV RL 31 aX11_master 2 := ⟨tblG_of 1243 (by decide +kernel) (by decide +kernel), tblG_of 1244 (by decide +kernel) (by decide +kernel), tblG_of 1245 (by decide +kernel) (by decide +kernel), tblG_of 144 (by decide +kernel) (by decide +kernel), tblG_of 1246 (by decide +kernel) (by decide +kernel), rfl, ⟨by decide, by decide⟩, by decide +kernel, by decide⟩
noncomputable def mL_master (a0 : Nat) (a1 : Int32) (a2 : Int32) (a3 : Nat) : MM Int32 :=
  mcat (mX11_master a0 a1 a2) (fun (v1 : Int32) =>
    mbnd (stL a3 0 (v1.toInt64)) fun _ =>
    mret 0
  ) (hsel [(2, 1)])
set_option maxHeartbeats 4000000 in
set_option maxRecDepth 100000 in
theorem ctL_master (a0 : Nat) (a1 : Int32) (a2 : Int32) (a3 : Nat) : Ct aL_master [vr a0, vi a1, vi a2, vr a3] (mL_master a0 a1 a2 a3) rI := by
  unfold mL_master
  refine ct_introH (by decide +kernel) ⟨_, _, rfl⟩ (Nat.le_of_ble_eq_true rfl) fun Y s => ?_
  refine r_sub (lv' := [(0, vr a0), (1, vi a1), (2, vi a2), (3, vr a3)]) [0, 1, 2, 3] rfl ?_
  refine r_p (pc' := 1) (p_aload_n 3 (k := 3) (by decide +kernel) rfl) ?_
  refine r_p (pc' := 2) (p_iconst (n := 0) (v := 0) (by decide +kernel) rfl) ?_
  refine r_p (pc' := 3) (p_aload_n 0 (k := 0) (by decide +kernel) rfl) ?_
  refine r_p (pc' := 4) (p_iload_n 1 (k := 1) (by decide +kernel) rfl) ?_
  refine r_p (pc' := 5) (p_iload_n 2 (k := 2) (by decide +kernel) rfl) ?_
  refine r_callVL mvL_31 (ctX11_master a0 a1 a2) (rcX11_master a0 a1 a2) ⟨_, _, rfl⟩ (as := [vi a1, vi a2]) (st := [vi 0, vr a3]) rfl rfl (by decide +kernel) (Nat.le_of_ble_eq_true rfl) (Nat.le_of_ble_eq_true rfl) (fun v1 s => ?_) (List.forall_mem_cons.mpr ⟨⟨13, 15, ⟨[], [], ⟨0, 10, 13, 24⟩, rfl, (fun z hz => nomatch hz), by decide, by decide, by decide, tblG_of 1172 (by decide +kernel) (by decide +kernel), List.mem_of_getElem? (i := 1185) (by decide +kernel), rfl⟩, Or.inr ⟨4, by decide +kernel, by decide, rfl⟩, fun s => r_p (pc' := 16) (p_iconst (n := 1) (v := 1) (by decide +kernel) rfl) (r_iret rfl rfl _ rfl rfl (by decide +kernel))⟩, (fun q hq => nomatch hq)⟩)
  refine r_p (pc' := 9) (p_i2l (by decide +kernel)) ?_
  refine r_stL (by decide +kernel) fun s => ?_
  refine r_p (pc' := 17) (p_goto (off := 7) (tgt := 17) (by decide +kernel) (by decide)) ?_
  refine r_p (pc' := 18) (p_iconst (n := 0) (v := 0) (by decide +kernel) rfl) ?_
  exact r_iret rfl rfl _ rfl rfl (by decide +kernel)
def aL_rule : StA := (RL, cL_rule, 5, some .int, yL_rule, 13, [(0, 10, 13, 24), (0, 10, 17, 26)])
theorem mvL_35 : MV RL 35 aX11_rule 2 := ⟨tblG_of 1255 (by decide +kernel) (by decide +kernel), tblG_of 1256 (by decide +kernel) (by decide +kernel), tblG_of 1257 (by decide +kernel) (by decide +kernel), tblG_of 144 (by decide +kernel) (by decide +kernel), tblG_of 1258 (by decide +kernel) (by decide +kernel), rfl, ⟨by decide, by decide⟩, by decide +kernel, by decide⟩
noncomputable def mL_rule (a0 : Nat) (a1 : Int32) (a2 : Int32) (a3 : Nat) : MM Int32 :=
  mcat (mX11_rule a0 a1 a2) (fun (v1 : Int32) =>
    mbnd (stL a3 0 (v1.toInt64)) fun _ =>
    mret 0
  ) (hsel [(2, 1), (3, 2)])
set_option maxHeartbeats 4000000 in
set_option maxRecDepth 100000 in
theorem ctL_rule (a0 : Nat) (a1 : Int32) (a2 : Int32) (a3 : Nat) : Ct aL_rule [vr a0, vi a1, vi a2, vr a3] (mL_rule a0 a1 a2 a3) rI := by
  unfold mL_rule
  refine ct_introH (by decide +kernel) ⟨_, _, rfl⟩ (Nat.le_of_ble_eq_true rfl) fun Y s => ?_
  refine r_sub (lv' := [(0, vr a0), (1, vi a1), (2, vi a2), (3, vr a3)]) [0, 1, 2, 3] rfl ?_
  refine r_p (pc' := 1) (p_aload_n 3 (k := 3) (by decide +kernel) rfl) ?_
  refine r_p (pc' := 2) (p_iconst (n := 0) (v := 0) (by decide +kernel) rfl) ?_
  refine r_p (pc' := 3) (p_aload_n 0 (k := 0) (by decide +kernel) rfl) ?_
  refine r_p (pc' := 4) (p_iload_n 1 (k := 1) (by decide +kernel) rfl) ?_
  refine r_p (pc' := 5) (p_iload_n 2 (k := 2) (by decide +kernel) rfl) ?_
  refine r_callVL mvL_35 (ctX11_rule a0 a1 a2) (rcX11_rule a0 a1 a2) ⟨_, _, rfl⟩ (as := [vi a1, vi a2]) (st := [vi 0, vr a3]) rfl rfl (by decide +kernel) (Nat.le_of_ble_eq_true rfl) (Nat.le_of_ble_eq_true rfl) (fun v1 s => ?_) (List.forall_mem_cons.mpr ⟨⟨13, 15, ⟨[], [⟨0, 10, 17, 26⟩], ⟨0, 10, 13, 24⟩, rfl, (fun z hz => nomatch hz), by decide, by decide, by decide, tblG_of 1172 (by decide +kernel) (by decide +kernel), List.mem_of_getElem? (i := 1185) (by decide +kernel), rfl⟩, Or.inr ⟨4, by decide +kernel, by decide, rfl⟩, fun s => r_p (pc' := 16) (p_iconst (n := 1) (v := 1) (by decide +kernel) rfl) (r_iret rfl rfl _ rfl rfl (by decide +kernel))⟩, List.forall_mem_cons.mpr ⟨⟨17, 19, ⟨[⟨0, 10, 13, 24⟩], [], ⟨0, 10, 17, 26⟩, rfl, List.forall_mem_cons.mpr ⟨⟨by decide, 2, by decide, by decide, tblG_of 1172 (by decide +kernel) (by decide +kernel)⟩, (fun z hz => nomatch hz)⟩, by decide, by decide, by decide, tblG_of 1173 (by decide +kernel) (by decide +kernel), List.mem_of_getElem? (i := 1212) (by decide +kernel), rfl⟩, Or.inr ⟨4, by decide +kernel, by decide, rfl⟩, fun s => r_p (pc' := 20) (p_iconst (n := 2) (v := 2) (by decide +kernel) rfl) (r_iret rfl rfl _ rfl rfl (by decide +kernel))⟩, (fun q hq => nomatch hq)⟩⟩)
  refine r_p (pc' := 9) (p_i2l (by decide +kernel)) ?_
  refine r_stL (by decide +kernel) fun s => ?_
  refine r_p (pc' := 21) (p_goto (off := 11) (tgt := 21) (by decide +kernel) (by decide)) ?_
  refine r_p (pc' := 22) (p_iconst (n := 0) (v := 0) (by decide +kernel) rfl) ?_
  exact r_iret rfl rfl _ rfl rfl (by decide +kernel)
def aL_deed : StA := (RL, cL_deed, 7, some .int, yL_deed, 14, [(0, 14, 17, 24), (0, 14, 21, 13), (0, 14, 25, 42), (0, 14, 29, 15)])
theorem mvL_38 : MV RL 38 aX11_deed 4 := ⟨tblG_of 1264 (by decide +kernel) (by decide +kernel), tblG_of 1265 (by decide +kernel) (by decide +kernel), tblG_of 1266 (by decide +kernel) (by decide +kernel), tblG_of 144 (by decide +kernel) (by decide +kernel), tblG_of 1267 (by decide +kernel) (by decide +kernel), rfl, ⟨by decide, by decide⟩, by decide +kernel, by decide⟩
noncomputable def mL_deed (a0 : Nat) (a1 : Int32) (a2 : Int32) (a3 : Int32) (a4 : Int32) (a5 : Nat) : MM Int32 :=
  mcat (mX11_deed a0 a1 a2 a3 a4) (fun (v1 : Int32) =>
    mbnd (stL a5 0 (v1.toInt64)) fun _ =>
    mret 0
  ) (hsel [(2, 1), (0, 2), (4, 3), (1, 4)])
set_option maxHeartbeats 4000000 in
set_option maxRecDepth 100000 in
theorem ctL_deed (a0 : Nat) (a1 : Int32) (a2 : Int32) (a3 : Int32) (a4 : Int32) (a5 : Nat) : Ct aL_deed [vr a0, vi a1, vi a2, vi a3, vi a4, vr a5] (mL_deed a0 a1 a2 a3 a4 a5) rI := by
  unfold mL_deed
  refine ct_introH (by decide +kernel) ⟨_, _, rfl⟩ (Nat.le_of_ble_eq_true rfl) fun Y s => ?_
  refine r_sub (lv' := [(0, vr a0), (1, vi a1), (2, vi a2), (3, vi a3), (4, vi a4), (5, vr a5)]) [0, 1, 2, 3, 4, 5] rfl ?_
  refine r_p (pc' := 2) (p_aload 5 (i := 5) (by decide +kernel) rfl) ?_
  refine r_p (pc' := 3) (p_iconst (n := 0) (v := 0) (by decide +kernel) rfl) ?_
  refine r_p (pc' := 4) (p_aload_n 0 (k := 0) (by decide +kernel) rfl) ?_
  refine r_p (pc' := 5) (p_iload_n 1 (k := 1) (by decide +kernel) rfl) ?_
  refine r_p (pc' := 6) (p_iload_n 2 (k := 2) (by decide +kernel) rfl) ?_
  refine r_p (pc' := 7) (p_iload_n 3 (k := 3) (by decide +kernel) rfl) ?_
  refine r_p (pc' := 9) (p_iload 4 (i := 4) (by decide +kernel) rfl) ?_
  refine r_callVL mvL_38 (ctX11_deed a0 a1 a2 a3 a4) (rcX11_deed a0 a1 a2 a3 a4) ⟨_, _, rfl⟩ (as := [vi a1, vi a2, vi a3, vi a4]) (st := [vi 0, vr a5]) rfl rfl (by decide +kernel) (Nat.le_of_ble_eq_true rfl) (Nat.le_of_ble_eq_true rfl) (fun v1 s => ?_) (List.forall_mem_cons.mpr ⟨⟨17, 19, ⟨[], [⟨0, 14, 21, 13⟩, ⟨0, 14, 25, 42⟩, ⟨0, 14, 29, 15⟩], ⟨0, 14, 17, 24⟩, rfl, (fun z hz => nomatch hz), by decide, by decide, by decide, tblG_of 1172 (by decide +kernel) (by decide +kernel), List.mem_of_getElem? (i := 1185) (by decide +kernel), rfl⟩, Or.inr ⟨6, by decide +kernel, by decide, rfl⟩, fun s => r_p (pc' := 20) (p_iconst (n := 1) (v := 1) (by decide +kernel) rfl) (r_iret rfl rfl _ rfl rfl (by decide +kernel))⟩, List.forall_mem_cons.mpr ⟨⟨21, 23, ⟨[⟨0, 14, 17, 24⟩], [⟨0, 14, 25, 42⟩, ⟨0, 14, 29, 15⟩], ⟨0, 14, 21, 13⟩, rfl, List.forall_mem_cons.mpr ⟨⟨by decide, 2, by decide, by decide, tblG_of 1172 (by decide +kernel) (by decide +kernel)⟩, (fun z hz => nomatch hz)⟩, by decide, by decide, by decide, tblG_of 798 (by decide +kernel) (by decide +kernel), List.mem_of_getElem? (i := 1054) (by decide +kernel), rfl⟩, Or.inr ⟨6, by decide +kernel, by decide, rfl⟩, fun s => r_p (pc' := 24) (p_iconst (n := 2) (v := 2) (by decide +kernel) rfl) (r_iret rfl rfl _ rfl rfl (by decide +kernel))⟩, List.forall_mem_cons.mpr ⟨⟨25, 27, ⟨[⟨0, 14, 17, 24⟩, ⟨0, 14, 21, 13⟩], [⟨0, 14, 29, 15⟩], ⟨0, 14, 25, 42⟩, rfl, List.forall_mem_cons.mpr ⟨⟨by decide, 2, by decide, by decide, tblG_of 1172 (by decide +kernel) (by decide +kernel)⟩, List.forall_mem_cons.mpr ⟨⟨by decide, 0, by decide, by decide, tblG_of 798 (by decide +kernel) (by decide +kernel)⟩, (fun z hz => nomatch hz)⟩⟩, by decide, by decide, by decide, tblG_of 1263 (by decide +kernel) (by decide +kernel), List.mem_of_getElem? (i := 1275) (by decide +kernel), rfl⟩, Or.inr ⟨6, by decide +kernel, by decide, rfl⟩, fun s => r_p (pc' := 28) (p_iconst (n := 3) (v := 3) (by decide +kernel) rfl) (r_iret rfl rfl _ rfl rfl (by decide +kernel))⟩, List.forall_mem_cons.mpr ⟨⟨29, 31, ⟨[⟨0, 14, 17, 24⟩, ⟨0, 14, 21, 13⟩, ⟨0, 14, 25, 42⟩], [], ⟨0, 14, 29, 15⟩, rfl, List.forall_mem_cons.mpr ⟨⟨by decide, 2, by decide, by decide, tblG_of 1172 (by decide +kernel) (by decide +kernel)⟩, List.forall_mem_cons.mpr ⟨⟨by decide, 0, by decide, by decide, tblG_of 798 (by decide +kernel) (by decide +kernel)⟩, List.forall_mem_cons.mpr ⟨⟨by decide, 4, by decide, by decide, tblG_of 1263 (by decide +kernel) (by decide +kernel)⟩, (fun z hz => nomatch hz)⟩⟩⟩, by decide, by decide, by decide, tblG_of 799 (by decide +kernel) (by decide +kernel), List.mem_of_getElem? (i := 1124) (by decide +kernel), rfl⟩, Or.inr ⟨6, by decide +kernel, by decide, rfl⟩, fun s => r_p (pc' := 32) (p_iconst (n := 4) (v := 4) (by decide +kernel) rfl) (r_iret rfl rfl _ rfl rfl (by decide +kernel))⟩, (fun q hq => nomatch hq)⟩⟩⟩⟩)
  refine r_p (pc' := 13) (p_i2l (by decide +kernel)) ?_
  refine r_stL (by decide +kernel) fun s => ?_
  refine r_p (pc' := 33) (p_goto (off := 19) (tgt := 33) (by decide +kernel) (by decide)) ?_
  refine r_p (pc' := 34) (p_iconst (n := 0) (v := 0) (by decide +kernel) rfl) ?_
  exact r_iret rfl rfl _ rfl rfl (by decide +kernel)
def aL_swap : StA := (RL, cL_swap, 6, some .int, yL_swap, 14, [(0, 12, 15, 24), (0, 12, 19, 13), (0, 12, 23, 42)])
theorem mvL_44 : MV RL 44 aX11_swap 3 := ⟨tblG_of 1339 (by decide +kernel) (by decide +kernel), tblG_of 1340 (by decide +kernel) (by decide +kernel), tblG_of 1341 (by decide +kernel) (by decide +kernel), tblG_of 144 (by decide +kernel) (by decide +kernel), tblG_of 1342 (by decide +kernel) (by decide +kernel), rfl, ⟨by decide, by decide⟩, by decide +kernel, by decide⟩
noncomputable def mL_swap (a0 : Nat) (a1 : Int32) (a2 : Int32) (a3 : Int32) (a4 : Nat) : MM Int32 :=
  mcat (mX11_swap a0 a1 a2 a3) (fun (v1 : Int32) =>
    mbnd (stL a4 0 (v1.toInt64)) fun _ =>
    mret 0
  ) (hsel [(2, 1), (0, 2), (4, 3)])
set_option maxHeartbeats 4000000 in
set_option maxRecDepth 100000 in
theorem ctL_swap (a0 : Nat) (a1 : Int32) (a2 : Int32) (a3 : Int32) (a4 : Nat) : Ct aL_swap [vr a0, vi a1, vi a2, vi a3, vr a4] (mL_swap a0 a1 a2 a3 a4) rI := by
  unfold mL_swap
  refine ct_introH (by decide +kernel) ⟨_, _, rfl⟩ (Nat.le_of_ble_eq_true rfl) fun Y s => ?_
  refine r_sub (lv' := [(0, vr a0), (1, vi a1), (2, vi a2), (3, vi a3), (4, vr a4)]) [0, 1, 2, 3, 4] rfl ?_
  refine r_p (pc' := 2) (p_aload 4 (i := 4) (by decide +kernel) rfl) ?_
  refine r_p (pc' := 3) (p_iconst (n := 0) (v := 0) (by decide +kernel) rfl) ?_
  refine r_p (pc' := 4) (p_aload_n 0 (k := 0) (by decide +kernel) rfl) ?_
  refine r_p (pc' := 5) (p_iload_n 1 (k := 1) (by decide +kernel) rfl) ?_
  refine r_p (pc' := 6) (p_iload_n 2 (k := 2) (by decide +kernel) rfl) ?_
  refine r_p (pc' := 7) (p_iload_n 3 (k := 3) (by decide +kernel) rfl) ?_
  refine r_callVL mvL_44 (ctX11_swap a0 a1 a2 a3) (rcX11_swap a0 a1 a2 a3) ⟨_, _, rfl⟩ (as := [vi a1, vi a2, vi a3]) (st := [vi 0, vr a4]) rfl rfl (by decide +kernel) (Nat.le_of_ble_eq_true rfl) (Nat.le_of_ble_eq_true rfl) (fun v1 s => ?_) (List.forall_mem_cons.mpr ⟨⟨15, 17, ⟨[], [⟨0, 12, 19, 13⟩, ⟨0, 12, 23, 42⟩], ⟨0, 12, 15, 24⟩, rfl, (fun z hz => nomatch hz), by decide, by decide, by decide, tblG_of 1172 (by decide +kernel) (by decide +kernel), List.mem_of_getElem? (i := 1185) (by decide +kernel), rfl⟩, Or.inr ⟨5, by decide +kernel, by decide, rfl⟩, fun s => r_p (pc' := 18) (p_iconst (n := 1) (v := 1) (by decide +kernel) rfl) (r_iret rfl rfl _ rfl rfl (by decide +kernel))⟩, List.forall_mem_cons.mpr ⟨⟨19, 21, ⟨[⟨0, 12, 15, 24⟩], [⟨0, 12, 23, 42⟩], ⟨0, 12, 19, 13⟩, rfl, List.forall_mem_cons.mpr ⟨⟨by decide, 2, by decide, by decide, tblG_of 1172 (by decide +kernel) (by decide +kernel)⟩, (fun z hz => nomatch hz)⟩, by decide, by decide, by decide, tblG_of 798 (by decide +kernel) (by decide +kernel), List.mem_of_getElem? (i := 1054) (by decide +kernel), rfl⟩, Or.inr ⟨5, by decide +kernel, by decide, rfl⟩, fun s => r_p (pc' := 22) (p_iconst (n := 2) (v := 2) (by decide +kernel) rfl) (r_iret rfl rfl _ rfl rfl (by decide +kernel))⟩, List.forall_mem_cons.mpr ⟨⟨23, 25, ⟨[⟨0, 12, 15, 24⟩, ⟨0, 12, 19, 13⟩], [], ⟨0, 12, 23, 42⟩, rfl, List.forall_mem_cons.mpr ⟨⟨by decide, 2, by decide, by decide, tblG_of 1172 (by decide +kernel) (by decide +kernel)⟩, List.forall_mem_cons.mpr ⟨⟨by decide, 0, by decide, by decide, tblG_of 798 (by decide +kernel) (by decide +kernel)⟩, (fun z hz => nomatch hz)⟩⟩, by decide, by decide, by decide, tblG_of 1263 (by decide +kernel) (by decide +kernel), List.mem_of_getElem? (i := 1275) (by decide +kernel), rfl⟩, Or.inr ⟨5, by decide +kernel, by decide, rfl⟩, fun s => r_p (pc' := 26) (p_iconst (n := 3) (v := 3) (by decide +kernel) rfl) (r_iret rfl rfl _ rfl rfl (by decide +kernel))⟩, (fun q hq => nomatch hq)⟩⟩⟩)
  refine r_p (pc' := 11) (p_i2l (by decide +kernel)) ?_
  refine r_stL (by decide +kernel) fun s => ?_
  refine r_p (pc' := 27) (p_goto (off := 15) (tgt := 27) (by decide +kernel) (by decide)) ?_
  refine r_p (pc' := 28) (p_iconst (n := 0) (v := 0) (by decide +kernel) rfl) ?_
  exact r_iret rfl rfl _ rfl rfl (by decide +kernel)
def aL_serve : StA := (RL, cL_serve, 5, some .int, yL_serve, 13, [(0, 10, 13, 24), (0, 10, 17, 13)])
theorem mvL_48 : MV RL 48 aX11_serve 2 := ⟨tblG_of 1367 (by decide +kernel) (by decide +kernel), tblG_of 1368 (by decide +kernel) (by decide +kernel), tblG_of 1369 (by decide +kernel) (by decide +kernel), tblG_of 144 (by decide +kernel) (by decide +kernel), tblG_of 1370 (by decide +kernel) (by decide +kernel), rfl, ⟨by decide, by decide⟩, by decide +kernel, by decide⟩
noncomputable def mL_serve (a0 : Nat) (a1 : Int32) (a2 : Int32) (a3 : Nat) : MM Int32 :=
  mcat (mX11_serve a0 a1 a2) (fun (v1 : Int32) =>
    mbnd (stL a3 0 (v1.toInt64)) fun _ =>
    mret 0
  ) (hsel [(2, 1), (0, 2)])
set_option maxHeartbeats 4000000 in
set_option maxRecDepth 100000 in
theorem ctL_serve (a0 : Nat) (a1 : Int32) (a2 : Int32) (a3 : Nat) : Ct aL_serve [vr a0, vi a1, vi a2, vr a3] (mL_serve a0 a1 a2 a3) rI := by
  unfold mL_serve
  refine ct_introH (by decide +kernel) ⟨_, _, rfl⟩ (Nat.le_of_ble_eq_true rfl) fun Y s => ?_
  refine r_sub (lv' := [(0, vr a0), (1, vi a1), (2, vi a2), (3, vr a3)]) [0, 1, 2, 3] rfl ?_
  refine r_p (pc' := 1) (p_aload_n 3 (k := 3) (by decide +kernel) rfl) ?_
  refine r_p (pc' := 2) (p_iconst (n := 0) (v := 0) (by decide +kernel) rfl) ?_
  refine r_p (pc' := 3) (p_aload_n 0 (k := 0) (by decide +kernel) rfl) ?_
  refine r_p (pc' := 4) (p_iload_n 1 (k := 1) (by decide +kernel) rfl) ?_
  refine r_p (pc' := 5) (p_iload_n 2 (k := 2) (by decide +kernel) rfl) ?_
  refine r_callVL mvL_48 (ctX11_serve a0 a1 a2) (rcX11_serve a0 a1 a2) ⟨_, _, rfl⟩ (as := [vi a1, vi a2]) (st := [vi 0, vr a3]) rfl rfl (by decide +kernel) (Nat.le_of_ble_eq_true rfl) (Nat.le_of_ble_eq_true rfl) (fun v1 s => ?_) (List.forall_mem_cons.mpr ⟨⟨13, 15, ⟨[], [⟨0, 10, 17, 13⟩], ⟨0, 10, 13, 24⟩, rfl, (fun z hz => nomatch hz), by decide, by decide, by decide, tblG_of 1172 (by decide +kernel) (by decide +kernel), List.mem_of_getElem? (i := 1185) (by decide +kernel), rfl⟩, Or.inr ⟨4, by decide +kernel, by decide, rfl⟩, fun s => r_p (pc' := 16) (p_iconst (n := 1) (v := 1) (by decide +kernel) rfl) (r_iret rfl rfl _ rfl rfl (by decide +kernel))⟩, List.forall_mem_cons.mpr ⟨⟨17, 19, ⟨[⟨0, 10, 13, 24⟩], [], ⟨0, 10, 17, 13⟩, rfl, List.forall_mem_cons.mpr ⟨⟨by decide, 2, by decide, by decide, tblG_of 1172 (by decide +kernel) (by decide +kernel)⟩, (fun z hz => nomatch hz)⟩, by decide, by decide, by decide, tblG_of 798 (by decide +kernel) (by decide +kernel), List.mem_of_getElem? (i := 1054) (by decide +kernel), rfl⟩, Or.inr ⟨4, by decide +kernel, by decide, rfl⟩, fun s => r_p (pc' := 20) (p_iconst (n := 2) (v := 2) (by decide +kernel) rfl) (r_iret rfl rfl _ rfl rfl (by decide +kernel))⟩, (fun q hq => nomatch hq)⟩⟩)
  refine r_p (pc' := 9) (p_i2l (by decide +kernel)) ?_
  refine r_stL (by decide +kernel) fun s => ?_
  refine r_p (pc' := 21) (p_goto (off := 11) (tgt := 21) (by decide +kernel) (by decide)) ?_
  refine r_p (pc' := 22) (p_iconst (n := 0) (v := 0) (by decide +kernel) rfl) ?_
  exact r_iret rfl rfl _ rfl rfl (by decide +kernel)
def aL_grind : StA := (RL, cL_grind, 4, some .int, yL_grind, 13, [(0, 9, 12, 24), (0, 9, 15, 13), (0, 9, 18, 42)])
theorem mvL_51 : MV RL 51 aX11_grind 1 := ⟨tblG_of 1379 (by decide +kernel) (by decide +kernel), tblG_of 1380 (by decide +kernel) (by decide +kernel), tblG_of 1381 (by decide +kernel) (by decide +kernel), tblG_of 144 (by decide +kernel) (by decide +kernel), tblG_of 1382 (by decide +kernel) (by decide +kernel), rfl, ⟨by decide, by decide⟩, by decide +kernel, by decide⟩
noncomputable def mL_grind (a0 : Nat) (a1 : Int32) (a2 : Nat) : MM Int32 :=
  mcat (mX11_grind a0 a1) (fun (v1 : Int32) =>
    mbnd (stL a2 0 (v1.toInt64)) fun _ =>
    mret 0
  ) (hsel [(2, 1), (0, 2), (4, 3)])
set_option maxHeartbeats 4000000 in
set_option maxRecDepth 100000 in
theorem ctL_grind (a0 : Nat) (a1 : Int32) (a2 : Nat) : Ct aL_grind [vr a0, vi a1, vr a2] (mL_grind a0 a1 a2) rI := by
  unfold mL_grind
  refine ct_introH (by decide +kernel) ⟨_, _, rfl⟩ (Nat.le_of_ble_eq_true rfl) fun Y s => ?_
  refine r_sub (lv' := [(0, vr a0), (1, vi a1), (2, vr a2)]) [0, 1, 2] rfl ?_
  refine r_p (pc' := 1) (p_aload_n 2 (k := 2) (by decide +kernel) rfl) ?_
  refine r_p (pc' := 2) (p_iconst (n := 0) (v := 0) (by decide +kernel) rfl) ?_
  refine r_p (pc' := 3) (p_aload_n 0 (k := 0) (by decide +kernel) rfl) ?_
  refine r_p (pc' := 4) (p_iload_n 1 (k := 1) (by decide +kernel) rfl) ?_
  refine r_callVL mvL_51 (ctX11_grind a0 a1) (rcX11_grind a0 a1) ⟨_, _, rfl⟩ (as := [vi a1]) (st := [vi 0, vr a2]) rfl rfl (by decide +kernel) (Nat.le_of_ble_eq_true rfl) (Nat.le_of_ble_eq_true rfl) (fun v1 s => ?_) (List.forall_mem_cons.mpr ⟨⟨12, 13, ⟨[], [⟨0, 9, 15, 13⟩, ⟨0, 9, 18, 42⟩], ⟨0, 9, 12, 24⟩, rfl, (fun z hz => nomatch hz), by decide, by decide, by decide, tblG_of 1172 (by decide +kernel) (by decide +kernel), List.mem_of_getElem? (i := 1185) (by decide +kernel), rfl⟩, Or.inl ⟨3, by decide +kernel, by decide, rfl⟩, fun s => r_p (pc' := 14) (p_iconst (n := 1) (v := 1) (by decide +kernel) rfl) (r_iret rfl rfl _ rfl rfl (by decide +kernel))⟩, List.forall_mem_cons.mpr ⟨⟨15, 16, ⟨[⟨0, 9, 12, 24⟩], [⟨0, 9, 18, 42⟩], ⟨0, 9, 15, 13⟩, rfl, List.forall_mem_cons.mpr ⟨⟨by decide, 2, by decide, by decide, tblG_of 1172 (by decide +kernel) (by decide +kernel)⟩, (fun z hz => nomatch hz)⟩, by decide, by decide, by decide, tblG_of 798 (by decide +kernel) (by decide +kernel), List.mem_of_getElem? (i := 1054) (by decide +kernel), rfl⟩, Or.inl ⟨3, by decide +kernel, by decide, rfl⟩, fun s => r_p (pc' := 17) (p_iconst (n := 2) (v := 2) (by decide +kernel) rfl) (r_iret rfl rfl _ rfl rfl (by decide +kernel))⟩, List.forall_mem_cons.mpr ⟨⟨18, 19, ⟨[⟨0, 9, 12, 24⟩, ⟨0, 9, 15, 13⟩], [], ⟨0, 9, 18, 42⟩, rfl, List.forall_mem_cons.mpr ⟨⟨by decide, 2, by decide, by decide, tblG_of 1172 (by decide +kernel) (by decide +kernel)⟩, List.forall_mem_cons.mpr ⟨⟨by decide, 0, by decide, by decide, tblG_of 798 (by decide +kernel) (by decide +kernel)⟩, (fun z hz => nomatch hz)⟩⟩, by decide, by decide, by decide, tblG_of 1263 (by decide +kernel) (by decide +kernel), List.mem_of_getElem? (i := 1275) (by decide +kernel), rfl⟩, Or.inl ⟨3, by decide +kernel, by decide, rfl⟩, fun s => r_p (pc' := 20) (p_iconst (n := 3) (v := 3) (by decide +kernel) rfl) (r_iret rfl rfl _ rfl rfl (by decide +kernel))⟩, (fun q hq => nomatch hq)⟩⟩⟩)
  refine r_p (pc' := 8) (p_i2l (by decide +kernel)) ?_
  refine r_stL (by decide +kernel) fun s => ?_
  refine r_p (pc' := 21) (p_goto (off := 12) (tgt := 21) (by decide +kernel) (by decide)) ?_
  refine r_p (pc' := 22) (p_iconst (n := 0) (v := 0) (by decide +kernel) rfl) ?_
  exact r_iret rfl rfl _ rfl rfl (by decide +kernel)
def aL_nail : StA := (RL, cL_nail, 5, some .int, yL_nail, 13, [(0, 17, 20, 24), (0, 17, 24, 42)])
theorem mvL_55 : MV RL 55 aX11_nail 2 := ⟨tblG_of 1392 (by decide +kernel) (by decide +kernel), tblG_of 1393 (by decide +kernel) (by decide +kernel), tblG_of 1394 (by decide +kernel) (by decide +kernel), tblG_of 144 (by decide +kernel) (by decide +kernel), tblG_of 1395 (by decide +kernel) (by decide +kernel), rfl, ⟨by decide, by decide⟩, by decide +kernel, by decide⟩
noncomputable def mL_nail (a0 : Nat) (a1 : Int32) (a2 : Int32) (a3 : Nat) : MM Int32 :=
  mcat (mX11_nail a0 a1 a2) (fun (v1 : Int32) =>
    mbnd (α := Int64) (
      if v1 = 0 then (
        mret 0
      ) else (
        mret 1
      )
    ) fun (x3 : Int64) =>
    mbnd (stL a3 0 x3) fun _ =>
    mret 0
  ) (hsel [(2, 1), (4, 2)])
set_option maxHeartbeats 4000000 in
set_option maxRecDepth 100000 in
theorem ctL_nail (a0 : Nat) (a1 : Int32) (a2 : Int32) (a3 : Nat) : Ct aL_nail [vr a0, vi a1, vi a2, vr a3] (mL_nail a0 a1 a2 a3) rI := by
  unfold mL_nail
  refine ct_introH (by decide +kernel) ⟨_, _, rfl⟩ (Nat.le_of_ble_eq_true rfl) fun Y s => ?_
  refine r_sub (lv' := [(0, vr a0), (1, vi a1), (2, vi a2), (3, vr a3)]) [0, 1, 2, 3] rfl ?_
  refine r_p (pc' := 1) (p_aload_n 3 (k := 3) (by decide +kernel) rfl) ?_
  refine r_p (pc' := 2) (p_iconst (n := 0) (v := 0) (by decide +kernel) rfl) ?_
  refine r_p (pc' := 3) (p_aload_n 0 (k := 0) (by decide +kernel) rfl) ?_
  refine r_p (pc' := 4) (p_iload_n 1 (k := 1) (by decide +kernel) rfl) ?_
  refine r_p (pc' := 5) (p_iload_n 2 (k := 2) (by decide +kernel) rfl) ?_
  refine r_callVL mvL_55 (ctX11_nail a0 a1 a2) (rcX11_nail a0 a1 a2) ⟨_, _, rfl⟩ (as := [vi a1, vi a2]) (st := [vi 0, vr a3]) rfl rfl (by decide +kernel) (Nat.le_of_ble_eq_true rfl) (Nat.le_of_ble_eq_true rfl) (fun v1 s => ?_) (List.forall_mem_cons.mpr ⟨⟨20, 22, ⟨[], [⟨0, 17, 24, 42⟩], ⟨0, 17, 20, 24⟩, rfl, (fun z hz => nomatch hz), by decide, by decide, by decide, tblG_of 1172 (by decide +kernel) (by decide +kernel), List.mem_of_getElem? (i := 1185) (by decide +kernel), rfl⟩, Or.inr ⟨4, by decide +kernel, by decide, rfl⟩, fun s => r_p (pc' := 23) (p_iconst (n := 1) (v := 1) (by decide +kernel) rfl) (r_iret rfl rfl _ rfl rfl (by decide +kernel))⟩, List.forall_mem_cons.mpr ⟨⟨24, 26, ⟨[⟨0, 17, 20, 24⟩], [], ⟨0, 17, 24, 42⟩, rfl, List.forall_mem_cons.mpr ⟨⟨by decide, 2, by decide, by decide, tblG_of 1172 (by decide +kernel) (by decide +kernel)⟩, (fun z hz => nomatch hz)⟩, by decide, by decide, by decide, tblG_of 1263 (by decide +kernel) (by decide +kernel), List.mem_of_getElem? (i := 1275) (by decide +kernel), rfl⟩, Or.inr ⟨4, by decide +kernel, by decide, rfl⟩, fun s => r_p (pc' := 27) (p_iconst (n := 2) (v := 2) (by decide +kernel) rfl) (r_iret rfl rfl _ rfl rfl (by decide +kernel))⟩, (fun q hq => nomatch hq)⟩⟩)
  refine r_join 16 (fun (x3 : Int64) => []) (fun (x3 : Int64) => [vl x3, vi 0, vr a3]) (fun x3 s => ?_) (fun K4 hj5 => ?_)
  · refine r_stL (by decide +kernel) fun s => ?_
    refine r_p (pc' := 28) (p_goto (off := 11) (tgt := 28) (by decide +kernel) (by decide)) ?_
    refine r_p (pc' := 29) (p_iconst (n := 0) (v := 0) (by decide +kernel) rfl) ?_
    exact r_iret rfl rfl _ rfl rfl (by decide +kernel)
  · refine r_ifeq (off := 7) (tgt := 15) (by decide +kernel) (by decide) (fun h2 => ?_) (fun h2 => ?_)
    · refine r_p (pc' := 16) (p_lconst (n := 0) (v := 0) (by decide +kernel) rfl) ?_
      refine r_sub (lv' := []) [] rfl ?_
      exact hj5 0 _
    · refine r_p (pc' := 12) (p_lconst (n := 1) (v := 1) (by decide +kernel) rfl) ?_
      refine r_p (pc' := 16) (p_goto (off := 4) (tgt := 16) (by decide +kernel) (by decide)) ?_
      refine r_sub (lv' := []) [] rfl ?_
      exact hj5 1 _
def aL_days : StA := (RL, cL_days, 4, some .int, yL_days, 13, [(0, 9, 12, 13)])
theorem mvL_59 : MV RL 59 aX11_days 1 := ⟨tblG_of 1400 (by decide +kernel) (by decide +kernel), tblG_of 1401 (by decide +kernel) (by decide +kernel), tblG_of 1402 (by decide +kernel) (by decide +kernel), tblG_of 144 (by decide +kernel) (by decide +kernel), tblG_of 1403 (by decide +kernel) (by decide +kernel), rfl, ⟨by decide, by decide⟩, by decide +kernel, by decide⟩
noncomputable def mL_days (a0 : Nat) (a1 : Int32) (a2 : Nat) : MM Int32 :=
  mcat (mX11_days a0 a1) (fun (v1 : Int32) =>
    mbnd (stL a2 0 (v1.toInt64)) fun _ =>
    mret 0
  ) (hsel [(0, 1)])
set_option maxHeartbeats 4000000 in
set_option maxRecDepth 100000 in
theorem ctL_days (a0 : Nat) (a1 : Int32) (a2 : Nat) : Ct aL_days [vr a0, vi a1, vr a2] (mL_days a0 a1 a2) rI := by
  unfold mL_days
  refine ct_introH (by decide +kernel) ⟨_, _, rfl⟩ (Nat.le_of_ble_eq_true rfl) fun Y s => ?_
  refine r_sub (lv' := [(0, vr a0), (1, vi a1), (2, vr a2)]) [0, 1, 2] rfl ?_
  refine r_p (pc' := 1) (p_aload_n 2 (k := 2) (by decide +kernel) rfl) ?_
  refine r_p (pc' := 2) (p_iconst (n := 0) (v := 0) (by decide +kernel) rfl) ?_
  refine r_p (pc' := 3) (p_aload_n 0 (k := 0) (by decide +kernel) rfl) ?_
  refine r_p (pc' := 4) (p_iload_n 1 (k := 1) (by decide +kernel) rfl) ?_
  refine r_callVL mvL_59 (ctX11_days a0 a1) (rcX11_days a0 a1) ⟨_, _, rfl⟩ (as := [vi a1]) (st := [vi 0, vr a2]) rfl rfl (by decide +kernel) (Nat.le_of_ble_eq_true rfl) (Nat.le_of_ble_eq_true rfl) (fun v1 s => ?_) (List.forall_mem_cons.mpr ⟨⟨12, 13, ⟨[], [], ⟨0, 9, 12, 13⟩, rfl, (fun z hz => nomatch hz), by decide, by decide, by decide, tblG_of 798 (by decide +kernel) (by decide +kernel), List.mem_of_getElem? (i := 1054) (by decide +kernel), rfl⟩, Or.inl ⟨3, by decide +kernel, by decide, rfl⟩, fun s => r_p (pc' := 14) (p_iconst (n := 1) (v := 1) (by decide +kernel) rfl) (r_iret rfl rfl _ rfl rfl (by decide +kernel))⟩, (fun q hq => nomatch hq)⟩)
  refine r_p (pc' := 8) (p_i2l (by decide +kernel)) ?_
  refine r_stL (by decide +kernel) fun s => ?_
  refine r_p (pc' := 15) (p_goto (off := 6) (tgt := 15) (by decide +kernel) (by decide)) ?_
  refine r_p (pc' := 16) (p_iconst (n := 0) (v := 0) (by decide +kernel) rfl) ?_
  exact r_iret rfl rfl _ rfl rfl (by decide +kernel)
def aL_culprits : StA := (RL, cL_culprits, 6, some .int, yL_culprits, 12, [(0, 12, 15, 13)])
theorem mvL_62 : MV RL 62 aX11_culprits 3 := ⟨tblG_of 1426 (by decide +kernel) (by decide +kernel), tblG_of 1427 (by decide +kernel) (by decide +kernel), tblG_of 1428 (by decide +kernel) (by decide +kernel), tblG_of 144 (by decide +kernel) (by decide +kernel), tblG_of 1429 (by decide +kernel) (by decide +kernel), rfl, ⟨by decide, by decide⟩, by decide +kernel, by decide⟩
noncomputable def mL_culprits (a0 : Nat) (a1 : Int32) (a2 : Int32) (a3 : Int32) (a4 : Nat) : MM Int32 :=
  mcat (mX11_culprits a0 a1 a2 a3) (fun (v1 : Int32) =>
    mbnd (stL a4 0 (v1.toInt64)) fun _ =>
    mret 0
  ) (hsel [(0, 1)])
set_option maxHeartbeats 4000000 in
set_option maxRecDepth 100000 in
theorem ctL_culprits (a0 : Nat) (a1 : Int32) (a2 : Int32) (a3 : Int32) (a4 : Nat) : Ct aL_culprits [vr a0, vi a1, vi a2, vi a3, vr a4] (mL_culprits a0 a1 a2 a3 a4) rI := by
  unfold mL_culprits
  refine ct_introH (by decide +kernel) ⟨_, _, rfl⟩ (Nat.le_of_ble_eq_true rfl) fun Y s => ?_
  refine r_sub (lv' := [(0, vr a0), (1, vi a1), (2, vi a2), (3, vi a3), (4, vr a4)]) [0, 1, 2, 3, 4] rfl ?_
  refine r_p (pc' := 2) (p_aload 4 (i := 4) (by decide +kernel) rfl) ?_
  refine r_p (pc' := 3) (p_iconst (n := 0) (v := 0) (by decide +kernel) rfl) ?_
  refine r_p (pc' := 4) (p_aload_n 0 (k := 0) (by decide +kernel) rfl) ?_
  refine r_p (pc' := 5) (p_iload_n 1 (k := 1) (by decide +kernel) rfl) ?_
  refine r_p (pc' := 6) (p_iload_n 2 (k := 2) (by decide +kernel) rfl) ?_
  refine r_p (pc' := 7) (p_iload_n 3 (k := 3) (by decide +kernel) rfl) ?_
  refine r_callVL mvL_62 (ctX11_culprits a0 a1 a2 a3) (rcX11_culprits a0 a1 a2 a3) ⟨_, _, rfl⟩ (as := [vi a1, vi a2, vi a3]) (st := [vi 0, vr a4]) rfl rfl (by decide +kernel) (Nat.le_of_ble_eq_true rfl) (Nat.le_of_ble_eq_true rfl) (fun v1 s => ?_) (List.forall_mem_cons.mpr ⟨⟨15, 17, ⟨[], [], ⟨0, 12, 15, 13⟩, rfl, (fun z hz => nomatch hz), by decide, by decide, by decide, tblG_of 798 (by decide +kernel) (by decide +kernel), List.mem_of_getElem? (i := 1054) (by decide +kernel), rfl⟩, Or.inr ⟨5, by decide +kernel, by decide, rfl⟩, fun s => r_p (pc' := 18) (p_iconst (n := 1) (v := 1) (by decide +kernel) rfl) (r_iret rfl rfl _ rfl rfl (by decide +kernel))⟩, (fun q hq => nomatch hq)⟩)
  refine r_p (pc' := 11) (p_i2l (by decide +kernel)) ?_
  refine r_stL (by decide +kernel) fun s => ?_
  refine r_p (pc' := 19) (p_goto (off := 7) (tgt := 19) (by decide +kernel) (by decide)) ?_
  refine r_p (pc' := 20) (p_iconst (n := 0) (v := 0) (by decide +kernel) rfl) ?_
  exact r_iret rfl rfl _ rfl rfl (by decide +kernel)
def aL_laundered : StA := (RL, cL_laundered, 5, some .int, yL_laundered, 16, [(0, 10, 13, 24)])
theorem mvL_65 : MV RL 65 aX11_laundered 2 := ⟨tblG_of 1450 (by decide +kernel) (by decide +kernel), tblG_of 1451 (by decide +kernel) (by decide +kernel), tblG_of 1452 (by decide +kernel) (by decide +kernel), tblG_of 144 (by decide +kernel) (by decide +kernel), tblG_of 1453 (by decide +kernel) (by decide +kernel), rfl, ⟨by decide, by decide⟩, by decide +kernel, by decide⟩
noncomputable def mL_laundered (a0 : Nat) (a1 : Int32) (a2 : Int32) (a3 : Nat) : MM Int32 :=
  mcat (mX11_laundered a0 a1 a2) (fun (v1 : Int32) =>
    mbnd (stL a3 0 (v1.toInt64)) fun _ =>
    mret 0
  ) (hsel [(2, 1)])
set_option maxHeartbeats 4000000 in
set_option maxRecDepth 100000 in
theorem ctL_laundered (a0 : Nat) (a1 : Int32) (a2 : Int32) (a3 : Nat) : Ct aL_laundered [vr a0, vi a1, vi a2, vr a3] (mL_laundered a0 a1 a2 a3) rI := by
  unfold mL_laundered
  refine ct_introH (by decide +kernel) ⟨_, _, rfl⟩ (Nat.le_of_ble_eq_true rfl) fun Y s => ?_
  refine r_sub (lv' := [(0, vr a0), (1, vi a1), (2, vi a2), (3, vr a3)]) [0, 1, 2, 3] rfl ?_
  refine r_p (pc' := 1) (p_aload_n 3 (k := 3) (by decide +kernel) rfl) ?_
  refine r_p (pc' := 2) (p_iconst (n := 0) (v := 0) (by decide +kernel) rfl) ?_
  refine r_p (pc' := 3) (p_aload_n 0 (k := 0) (by decide +kernel) rfl) ?_
  refine r_p (pc' := 4) (p_iload_n 1 (k := 1) (by decide +kernel) rfl) ?_
  refine r_p (pc' := 5) (p_iload_n 2 (k := 2) (by decide +kernel) rfl) ?_
  refine r_callVL mvL_65 (ctX11_laundered a0 a1 a2) (rcX11_laundered a0 a1 a2) ⟨_, _, rfl⟩ (as := [vi a1, vi a2]) (st := [vi 0, vr a3]) rfl rfl (by decide +kernel) (Nat.le_of_ble_eq_true rfl) (Nat.le_of_ble_eq_true rfl) (fun v1 s => ?_) (List.forall_mem_cons.mpr ⟨⟨13, 15, ⟨[], [], ⟨0, 10, 13, 24⟩, rfl, (fun z hz => nomatch hz), by decide, by decide, by decide, tblG_of 1172 (by decide +kernel) (by decide +kernel), List.mem_of_getElem? (i := 1185) (by decide +kernel), rfl⟩, Or.inr ⟨4, by decide +kernel, by decide, rfl⟩, fun s => r_p (pc' := 16) (p_iconst (n := 1) (v := 1) (by decide +kernel) rfl) (r_iret rfl rfl _ rfl rfl (by decide +kernel))⟩, (fun q hq => nomatch hq)⟩)
  refine r_p (pc' := 9) (p_i2l (by decide +kernel)) ?_
  refine r_stL (by decide +kernel) fun s => ?_
  refine r_p (pc' := 17) (p_goto (off := 7) (tgt := 17) (by decide +kernel) (by decide)) ?_
  refine r_p (pc' := 18) (p_iconst (n := 0) (v := 0) (by decide +kernel) rfl) ?_
  exact r_iret rfl rfl _ rfl rfl (by decide +kernel)
def aL_guard : StA := (RL, cL_guard, 4, some .int, yL_guard, 16, [(0, 9, 12, 24)])
theorem mvL_68 : MV RL 68 aX11_guard 1 := ⟨tblG_of 1457 (by decide +kernel) (by decide +kernel), tblG_of 1458 (by decide +kernel) (by decide +kernel), tblG_of 1459 (by decide +kernel) (by decide +kernel), tblG_of 144 (by decide +kernel) (by decide +kernel), tblG_of 1460 (by decide +kernel) (by decide +kernel), rfl, ⟨by decide, by decide⟩, by decide +kernel, by decide⟩
noncomputable def mL_guard (a0 : Nat) (a1 : Int32) (a2 : Nat) : MM Int32 :=
  mcat (mX11_guard a0 a1) (fun (v1 : Int32) =>
    mbnd (stL a2 0 (v1.toInt64)) fun _ =>
    mret 0
  ) (hsel [(2, 1)])
set_option maxHeartbeats 4000000 in
set_option maxRecDepth 100000 in
theorem ctL_guard (a0 : Nat) (a1 : Int32) (a2 : Nat) : Ct aL_guard [vr a0, vi a1, vr a2] (mL_guard a0 a1 a2) rI := by
  unfold mL_guard
  refine ct_introH (by decide +kernel) ⟨_, _, rfl⟩ (Nat.le_of_ble_eq_true rfl) fun Y s => ?_
  refine r_sub (lv' := [(0, vr a0), (1, vi a1), (2, vr a2)]) [0, 1, 2] rfl ?_
  refine r_p (pc' := 1) (p_aload_n 2 (k := 2) (by decide +kernel) rfl) ?_
  refine r_p (pc' := 2) (p_iconst (n := 0) (v := 0) (by decide +kernel) rfl) ?_
  refine r_p (pc' := 3) (p_aload_n 0 (k := 0) (by decide +kernel) rfl) ?_
  refine r_p (pc' := 4) (p_iload_n 1 (k := 1) (by decide +kernel) rfl) ?_
  refine r_callVL mvL_68 (ctX11_guard a0 a1) (rcX11_guard a0 a1) ⟨_, _, rfl⟩ (as := [vi a1]) (st := [vi 0, vr a2]) rfl rfl (by decide +kernel) (Nat.le_of_ble_eq_true rfl) (Nat.le_of_ble_eq_true rfl) (fun v1 s => ?_) (List.forall_mem_cons.mpr ⟨⟨12, 13, ⟨[], [], ⟨0, 9, 12, 24⟩, rfl, (fun z hz => nomatch hz), by decide, by decide, by decide, tblG_of 1172 (by decide +kernel) (by decide +kernel), List.mem_of_getElem? (i := 1185) (by decide +kernel), rfl⟩, Or.inl ⟨3, by decide +kernel, by decide, rfl⟩, fun s => r_p (pc' := 14) (p_iconst (n := 1) (v := 1) (by decide +kernel) rfl) (r_iret rfl rfl _ rfl rfl (by decide +kernel))⟩, (fun q hq => nomatch hq)⟩)
  refine r_p (pc' := 8) (p_i2l (by decide +kernel)) ?_
  refine r_stL (by decide +kernel) fun s => ?_
  refine r_p (pc' := 15) (p_goto (off := 6) (tgt := 15) (by decide +kernel) (by decide)) ?_
  refine r_p (pc' := 16) (p_iconst (n := 0) (v := 0) (by decide +kernel) rfl) ?_
  exact r_iret rfl rfl _ rfl rfl (by decide +kernel)
def aL_word : StA := (RL, cL_word, 4, some .int, yL_word, 16, [(0, 9, 12, 24)])
theorem mvL_71 : MV RL 71 aX11_word 1 := ⟨tblG_of 1464 (by decide +kernel) (by decide +kernel), tblG_of 1465 (by decide +kernel) (by decide +kernel), tblG_of 1466 (by decide +kernel) (by decide +kernel), tblG_of 144 (by decide +kernel) (by decide +kernel), tblG_of 1467 (by decide +kernel) (by decide +kernel), rfl, ⟨by decide, by decide⟩, by decide +kernel, by decide⟩
noncomputable def mL_word (a0 : Nat) (a1 : Int32) (a2 : Nat) : MM Int32 :=
  mcat (mX11_word a0 a1) (fun (v1 : Int32) =>
    mbnd (stL a2 0 (v1.toInt64)) fun _ =>
    mret 0
  ) (hsel [(2, 1)])
set_option maxHeartbeats 4000000 in
set_option maxRecDepth 100000 in
theorem ctL_word (a0 : Nat) (a1 : Int32) (a2 : Nat) : Ct aL_word [vr a0, vi a1, vr a2] (mL_word a0 a1 a2) rI := by
  unfold mL_word
  refine ct_introH (by decide +kernel) ⟨_, _, rfl⟩ (Nat.le_of_ble_eq_true rfl) fun Y s => ?_
  refine r_sub (lv' := [(0, vr a0), (1, vi a1), (2, vr a2)]) [0, 1, 2] rfl ?_
  refine r_p (pc' := 1) (p_aload_n 2 (k := 2) (by decide +kernel) rfl) ?_
  refine r_p (pc' := 2) (p_iconst (n := 0) (v := 0) (by decide +kernel) rfl) ?_
  refine r_p (pc' := 3) (p_aload_n 0 (k := 0) (by decide +kernel) rfl) ?_
  refine r_p (pc' := 4) (p_iload_n 1 (k := 1) (by decide +kernel) rfl) ?_
  refine r_callVL mvL_71 (ctX11_word a0 a1) (rcX11_word a0 a1) ⟨_, _, rfl⟩ (as := [vi a1]) (st := [vi 0, vr a2]) rfl rfl (by decide +kernel) (Nat.le_of_ble_eq_true rfl) (Nat.le_of_ble_eq_true rfl) (fun v1 s => ?_) (List.forall_mem_cons.mpr ⟨⟨12, 13, ⟨[], [], ⟨0, 9, 12, 24⟩, rfl, (fun z hz => nomatch hz), by decide, by decide, by decide, tblG_of 1172 (by decide +kernel) (by decide +kernel), List.mem_of_getElem? (i := 1185) (by decide +kernel), rfl⟩, Or.inl ⟨3, by decide +kernel, by decide, rfl⟩, fun s => r_p (pc' := 14) (p_iconst (n := 1) (v := 1) (by decide +kernel) rfl) (r_iret rfl rfl _ rfl rfl (by decide +kernel))⟩, (fun q hq => nomatch hq)⟩)
  refine r_p (pc' := 8) (p_i2l (by decide +kernel)) ?_
  refine r_stL (by decide +kernel) fun s => ?_
  refine r_p (pc' := 15) (p_goto (off := 6) (tgt := 15) (by decide +kernel) (by decide)) ?_
  refine r_p (pc' := 16) (p_iconst (n := 0) (v := 0) (by decide +kernel) rfl) ?_
  exact r_iret rfl rfl _ rfl rfl (by decide +kernel)
def aL_exchange : StA := (RL, cL_exchange, 6, some .int, yL_exchange, 15, [(0, 12, 15, 24), (0, 12, 19, 13)])
theorem mvL_74 : MV RL 74 aX11_exchange 3 := ⟨tblG_of 1471 (by decide +kernel) (by decide +kernel), tblG_of 1472 (by decide +kernel) (by decide +kernel), tblG_of 1473 (by decide +kernel) (by decide +kernel), tblG_of 144 (by decide +kernel) (by decide +kernel), tblG_of 1474 (by decide +kernel) (by decide +kernel), rfl, ⟨by decide, by decide⟩, by decide +kernel, by decide⟩
noncomputable def mL_exchange (a0 : Nat) (a1 : Int32) (a2 : Int32) (a3 : Int32) (a4 : Nat) : MM Int32 :=
  mcat (mX11_exchange a0 a1 a2 a3) (fun (v1 : Int32) =>
    mbnd (stL a4 0 (v1.toInt64)) fun _ =>
    mret 0
  ) (hsel [(2, 1), (0, 2)])
set_option maxHeartbeats 4000000 in
set_option maxRecDepth 100000 in
theorem ctL_exchange (a0 : Nat) (a1 : Int32) (a2 : Int32) (a3 : Int32) (a4 : Nat) : Ct aL_exchange [vr a0, vi a1, vi a2, vi a3, vr a4] (mL_exchange a0 a1 a2 a3 a4) rI := by
  unfold mL_exchange
  refine ct_introH (by decide +kernel) ⟨_, _, rfl⟩ (Nat.le_of_ble_eq_true rfl) fun Y s => ?_
  refine r_sub (lv' := [(0, vr a0), (1, vi a1), (2, vi a2), (3, vi a3), (4, vr a4)]) [0, 1, 2, 3, 4] rfl ?_
  refine r_p (pc' := 2) (p_aload 4 (i := 4) (by decide +kernel) rfl) ?_
  refine r_p (pc' := 3) (p_iconst (n := 0) (v := 0) (by decide +kernel) rfl) ?_
  refine r_p (pc' := 4) (p_aload_n 0 (k := 0) (by decide +kernel) rfl) ?_
  refine r_p (pc' := 5) (p_iload_n 1 (k := 1) (by decide +kernel) rfl) ?_
  refine r_p (pc' := 6) (p_iload_n 2 (k := 2) (by decide +kernel) rfl) ?_
  refine r_p (pc' := 7) (p_iload_n 3 (k := 3) (by decide +kernel) rfl) ?_
  refine r_callVL mvL_74 (ctX11_exchange a0 a1 a2 a3) (rcX11_exchange a0 a1 a2 a3) ⟨_, _, rfl⟩ (as := [vi a1, vi a2, vi a3]) (st := [vi 0, vr a4]) rfl rfl (by decide +kernel) (Nat.le_of_ble_eq_true rfl) (Nat.le_of_ble_eq_true rfl) (fun v1 s => ?_) (List.forall_mem_cons.mpr ⟨⟨15, 17, ⟨[], [⟨0, 12, 19, 13⟩], ⟨0, 12, 15, 24⟩, rfl, (fun z hz => nomatch hz), by decide, by decide, by decide, tblG_of 1172 (by decide +kernel) (by decide +kernel), List.mem_of_getElem? (i := 1185) (by decide +kernel), rfl⟩, Or.inr ⟨5, by decide +kernel, by decide, rfl⟩, fun s => r_p (pc' := 18) (p_iconst (n := 1) (v := 1) (by decide +kernel) rfl) (r_iret rfl rfl _ rfl rfl (by decide +kernel))⟩, List.forall_mem_cons.mpr ⟨⟨19, 21, ⟨[⟨0, 12, 15, 24⟩], [], ⟨0, 12, 19, 13⟩, rfl, List.forall_mem_cons.mpr ⟨⟨by decide, 2, by decide, by decide, tblG_of 1172 (by decide +kernel) (by decide +kernel)⟩, (fun z hz => nomatch hz)⟩, by decide, by decide, by decide, tblG_of 798 (by decide +kernel) (by decide +kernel), List.mem_of_getElem? (i := 1054) (by decide +kernel), rfl⟩, Or.inr ⟨5, by decide +kernel, by decide, rfl⟩, fun s => r_p (pc' := 22) (p_iconst (n := 2) (v := 2) (by decide +kernel) rfl) (r_iret rfl rfl _ rfl rfl (by decide +kernel))⟩, (fun q hq => nomatch hq)⟩⟩)
  refine r_p (pc' := 11) (p_i2l (by decide +kernel)) ?_
  refine r_stL (by decide +kernel) fun s => ?_
  refine r_p (pc' := 23) (p_goto (off := 11) (tgt := 23) (by decide +kernel) (by decide)) ?_
  refine r_p (pc' := 24) (p_iconst (n := 0) (v := 0) (by decide +kernel) rfl) ?_
  exact r_iret rfl rfl _ rfl rfl (by decide +kernel)
def aL_with : StA := (RL, cL_with, 4, some .int, yL_with, 11, [(0, 9, 12, 24)])
theorem mvL_78 : MV RL 78 aX11_with 1 := ⟨tblG_of 1493 (by decide +kernel) (by decide +kernel), tblG_of 1494 (by decide +kernel) (by decide +kernel), tblG_of 1495 (by decide +kernel) (by decide +kernel), tblG_of 144 (by decide +kernel) (by decide +kernel), tblG_of 1496 (by decide +kernel) (by decide +kernel), rfl, ⟨by decide, by decide⟩, by decide +kernel, by decide⟩
noncomputable def mL_with (a0 : Nat) (a1 : Int32) (a2 : Nat) : MM Int32 :=
  mcat (mX11_with a0 a1) (fun (v1 : Int32) =>
    mbnd (stL a2 0 (v1.toInt64)) fun _ =>
    mret 0
  ) (hsel [(2, 1)])
set_option maxHeartbeats 4000000 in
set_option maxRecDepth 100000 in
theorem ctL_with (a0 : Nat) (a1 : Int32) (a2 : Nat) : Ct aL_with [vr a0, vi a1, vr a2] (mL_with a0 a1 a2) rI := by
  unfold mL_with
  refine ct_introH (by decide +kernel) ⟨_, _, rfl⟩ (Nat.le_of_ble_eq_true rfl) fun Y s => ?_
  refine r_sub (lv' := [(0, vr a0), (1, vi a1), (2, vr a2)]) [0, 1, 2] rfl ?_
  refine r_p (pc' := 1) (p_aload_n 2 (k := 2) (by decide +kernel) rfl) ?_
  refine r_p (pc' := 2) (p_iconst (n := 0) (v := 0) (by decide +kernel) rfl) ?_
  refine r_p (pc' := 3) (p_aload_n 0 (k := 0) (by decide +kernel) rfl) ?_
  refine r_p (pc' := 4) (p_iload_n 1 (k := 1) (by decide +kernel) rfl) ?_
  refine r_callVL mvL_78 (ctX11_with a0 a1) (rcX11_with a0 a1) ⟨_, _, rfl⟩ (as := [vi a1]) (st := [vi 0, vr a2]) rfl rfl (by decide +kernel) (Nat.le_of_ble_eq_true rfl) (Nat.le_of_ble_eq_true rfl) (fun v1 s => ?_) (List.forall_mem_cons.mpr ⟨⟨12, 13, ⟨[], [], ⟨0, 9, 12, 24⟩, rfl, (fun z hz => nomatch hz), by decide, by decide, by decide, tblG_of 1172 (by decide +kernel) (by decide +kernel), List.mem_of_getElem? (i := 1185) (by decide +kernel), rfl⟩, Or.inl ⟨3, by decide +kernel, by decide, rfl⟩, fun s => r_p (pc' := 14) (p_iconst (n := 1) (v := 1) (by decide +kernel) rfl) (r_iret rfl rfl _ rfl rfl (by decide +kernel))⟩, (fun q hq => nomatch hq)⟩)
  refine r_p (pc' := 8) (p_i2l (by decide +kernel)) ?_
  refine r_stL (by decide +kernel) fun s => ?_
  refine r_p (pc' := 15) (p_goto (off := 6) (tgt := 15) (by decide +kernel) (by decide)) ?_
  refine r_p (pc' := 16) (p_iconst (n := 0) (v := 0) (by decide +kernel) rfl) ?_
  exact r_iret rfl rfl _ rfl rfl (by decide +kernel)
def aL_strokes : StA := (RL, cL_strokes, 5, some .int, yL_strokes, 11, [(0, 10, 13, 24)])
theorem mvL_81 : MV RL 81 aX11_strokes 2 := ⟨tblG_of 1512 (by decide +kernel) (by decide +kernel), tblG_of 1513 (by decide +kernel) (by decide +kernel), tblG_of 1514 (by decide +kernel) (by decide +kernel), tblG_of 144 (by decide +kernel) (by decide +kernel), tblG_of 1515 (by decide +kernel) (by decide +kernel), rfl, ⟨by decide, by decide⟩, by decide +kernel, by decide⟩
noncomputable def mL_strokes (a0 : Nat) (a1 : Int32) (a2 : Int32) (a3 : Nat) : MM Int32 :=
  mcat (mX11_strokes a0 a1 a2) (fun (v1 : Int32) =>
    mbnd (stL a3 0 (v1.toInt64)) fun _ =>
    mret 0
  ) (hsel [(2, 1)])
set_option maxHeartbeats 4000000 in
set_option maxRecDepth 100000 in
theorem ctL_strokes (a0 : Nat) (a1 : Int32) (a2 : Int32) (a3 : Nat) : Ct aL_strokes [vr a0, vi a1, vi a2, vr a3] (mL_strokes a0 a1 a2 a3) rI := by
  unfold mL_strokes
  refine ct_introH (by decide +kernel) ⟨_, _, rfl⟩ (Nat.le_of_ble_eq_true rfl) fun Y s => ?_
  refine r_sub (lv' := [(0, vr a0), (1, vi a1), (2, vi a2), (3, vr a3)]) [0, 1, 2, 3] rfl ?_
  refine r_p (pc' := 1) (p_aload_n 3 (k := 3) (by decide +kernel) rfl) ?_
  refine r_p (pc' := 2) (p_iconst (n := 0) (v := 0) (by decide +kernel) rfl) ?_
  refine r_p (pc' := 3) (p_aload_n 0 (k := 0) (by decide +kernel) rfl) ?_
  refine r_p (pc' := 4) (p_iload_n 1 (k := 1) (by decide +kernel) rfl) ?_
  refine r_p (pc' := 5) (p_iload_n 2 (k := 2) (by decide +kernel) rfl) ?_
  refine r_callVL mvL_81 (ctX11_strokes a0 a1 a2) (rcX11_strokes a0 a1 a2) ⟨_, _, rfl⟩ (as := [vi a1, vi a2]) (st := [vi 0, vr a3]) rfl rfl (by decide +kernel) (Nat.le_of_ble_eq_true rfl) (Nat.le_of_ble_eq_true rfl) (fun v1 s => ?_) (List.forall_mem_cons.mpr ⟨⟨13, 15, ⟨[], [], ⟨0, 10, 13, 24⟩, rfl, (fun z hz => nomatch hz), by decide, by decide, by decide, tblG_of 1172 (by decide +kernel) (by decide +kernel), List.mem_of_getElem? (i := 1185) (by decide +kernel), rfl⟩, Or.inr ⟨4, by decide +kernel, by decide, rfl⟩, fun s => r_p (pc' := 16) (p_iconst (n := 1) (v := 1) (by decide +kernel) rfl) (r_iret rfl rfl _ rfl rfl (by decide +kernel))⟩, (fun q hq => nomatch hq)⟩)
  refine r_p (pc' := 9) (p_i2l (by decide +kernel)) ?_
  refine r_stL (by decide +kernel) fun s => ?_
  refine r_p (pc' := 17) (p_goto (off := 7) (tgt := 17) (by decide +kernel) (by decide)) ?_
  refine r_p (pc' := 18) (p_iconst (n := 0) (v := 0) (by decide +kernel) rfl) ?_
  exact r_iret rfl rfl _ rfl rfl (by decide +kernel)
def aL_harmed : StA := (RL, cL_harmed, 5, some .int, yL_harmed, 10, [(0, 10, 13, 13)])
theorem mvL_84 : MV RL 84 aX11_harmed 2 := ⟨tblG_of 1523 (by decide +kernel) (by decide +kernel), tblG_of 1524 (by decide +kernel) (by decide +kernel), tblG_of 1525 (by decide +kernel) (by decide +kernel), tblG_of 144 (by decide +kernel) (by decide +kernel), tblG_of 1526 (by decide +kernel) (by decide +kernel), rfl, ⟨by decide, by decide⟩, by decide +kernel, by decide⟩
noncomputable def mL_harmed (a0 : Nat) (a1 : Int32) (a2 : Int32) (a3 : Nat) : MM Int32 :=
  mcat (mX11_harmed a0 a1 a2) (fun (v1 : Int32) =>
    mbnd (stL a3 0 (v1.toInt64)) fun _ =>
    mret 0
  ) (hsel [(0, 1)])
set_option maxHeartbeats 4000000 in
set_option maxRecDepth 100000 in
theorem ctL_harmed (a0 : Nat) (a1 : Int32) (a2 : Int32) (a3 : Nat) : Ct aL_harmed [vr a0, vi a1, vi a2, vr a3] (mL_harmed a0 a1 a2 a3) rI := by
  unfold mL_harmed
  refine ct_introH (by decide +kernel) ⟨_, _, rfl⟩ (Nat.le_of_ble_eq_true rfl) fun Y s => ?_
  refine r_sub (lv' := [(0, vr a0), (1, vi a1), (2, vi a2), (3, vr a3)]) [0, 1, 2, 3] rfl ?_
  refine r_p (pc' := 1) (p_aload_n 3 (k := 3) (by decide +kernel) rfl) ?_
  refine r_p (pc' := 2) (p_iconst (n := 0) (v := 0) (by decide +kernel) rfl) ?_
  refine r_p (pc' := 3) (p_aload_n 0 (k := 0) (by decide +kernel) rfl) ?_
  refine r_p (pc' := 4) (p_iload_n 1 (k := 1) (by decide +kernel) rfl) ?_
  refine r_p (pc' := 5) (p_iload_n 2 (k := 2) (by decide +kernel) rfl) ?_
  refine r_callVL mvL_84 (ctX11_harmed a0 a1 a2) (rcX11_harmed a0 a1 a2) ⟨_, _, rfl⟩ (as := [vi a1, vi a2]) (st := [vi 0, vr a3]) rfl rfl (by decide +kernel) (Nat.le_of_ble_eq_true rfl) (Nat.le_of_ble_eq_true rfl) (fun v1 s => ?_) (List.forall_mem_cons.mpr ⟨⟨13, 15, ⟨[], [], ⟨0, 10, 13, 13⟩, rfl, (fun z hz => nomatch hz), by decide, by decide, by decide, tblG_of 798 (by decide +kernel) (by decide +kernel), List.mem_of_getElem? (i := 1054) (by decide +kernel), rfl⟩, Or.inr ⟨4, by decide +kernel, by decide, rfl⟩, fun s => r_p (pc' := 16) (p_iconst (n := 1) (v := 1) (by decide +kernel) rfl) (r_iret rfl rfl _ rfl rfl (by decide +kernel))⟩, (fun q hq => nomatch hq)⟩)
  refine r_p (pc' := 9) (p_i2l (by decide +kernel)) ?_
  refine r_stL (by decide +kernel) fun s => ?_
  refine r_p (pc' := 17) (p_goto (off := 7) (tgt := 17) (by decide +kernel) (by decide)) ?_
  refine r_p (pc' := 18) (p_iconst (n := 0) (v := 0) (by decide +kernel) rfl) ?_
  exact r_iret rfl rfl _ rfl rfl (by decide +kernel)
def aL_joint : StA := (RL, cL_joint, 5, some .int, yL_joint, 12, [(0, 10, 13, 24), (0, 10, 17, 13)])
theorem mvL_87 : MV RL 87 aX11_joint 2 := ⟨tblG_of 1530 (by decide +kernel) (by decide +kernel), tblG_of 1531 (by decide +kernel) (by decide +kernel), tblG_of 1532 (by decide +kernel) (by decide +kernel), tblG_of 144 (by decide +kernel) (by decide +kernel), tblG_of 1533 (by decide +kernel) (by decide +kernel), rfl, ⟨by decide, by decide⟩, by decide +kernel, by decide⟩
noncomputable def mL_joint (a0 : Nat) (a1 : Int32) (a2 : Int32) (a3 : Nat) : MM Int32 :=
  mcat (mX11_joint a0 a1 a2) (fun (v1 : Int32) =>
    mbnd (stL a3 0 (v1.toInt64)) fun _ =>
    mret 0
  ) (hsel [(2, 1), (0, 2)])
set_option maxHeartbeats 4000000 in
set_option maxRecDepth 100000 in
theorem ctL_joint (a0 : Nat) (a1 : Int32) (a2 : Int32) (a3 : Nat) : Ct aL_joint [vr a0, vi a1, vi a2, vr a3] (mL_joint a0 a1 a2 a3) rI := by
  unfold mL_joint
  refine ct_introH (by decide +kernel) ⟨_, _, rfl⟩ (Nat.le_of_ble_eq_true rfl) fun Y s => ?_
  refine r_sub (lv' := [(0, vr a0), (1, vi a1), (2, vi a2), (3, vr a3)]) [0, 1, 2, 3] rfl ?_
  refine r_p (pc' := 1) (p_aload_n 3 (k := 3) (by decide +kernel) rfl) ?_
  refine r_p (pc' := 2) (p_iconst (n := 0) (v := 0) (by decide +kernel) rfl) ?_
  refine r_p (pc' := 3) (p_aload_n 0 (k := 0) (by decide +kernel) rfl) ?_
  refine r_p (pc' := 4) (p_iload_n 1 (k := 1) (by decide +kernel) rfl) ?_
  refine r_p (pc' := 5) (p_iload_n 2 (k := 2) (by decide +kernel) rfl) ?_
  refine r_callVL mvL_87 (ctX11_joint a0 a1 a2) (rcX11_joint a0 a1 a2) ⟨_, _, rfl⟩ (as := [vi a1, vi a2]) (st := [vi 0, vr a3]) rfl rfl (by decide +kernel) (Nat.le_of_ble_eq_true rfl) (Nat.le_of_ble_eq_true rfl) (fun v1 s => ?_) (List.forall_mem_cons.mpr ⟨⟨13, 15, ⟨[], [⟨0, 10, 17, 13⟩], ⟨0, 10, 13, 24⟩, rfl, (fun z hz => nomatch hz), by decide, by decide, by decide, tblG_of 1172 (by decide +kernel) (by decide +kernel), List.mem_of_getElem? (i := 1185) (by decide +kernel), rfl⟩, Or.inr ⟨4, by decide +kernel, by decide, rfl⟩, fun s => r_p (pc' := 16) (p_iconst (n := 1) (v := 1) (by decide +kernel) rfl) (r_iret rfl rfl _ rfl rfl (by decide +kernel))⟩, List.forall_mem_cons.mpr ⟨⟨17, 19, ⟨[⟨0, 10, 13, 24⟩], [], ⟨0, 10, 17, 13⟩, rfl, List.forall_mem_cons.mpr ⟨⟨by decide, 2, by decide, by decide, tblG_of 1172 (by decide +kernel) (by decide +kernel)⟩, (fun z hz => nomatch hz)⟩, by decide, by decide, by decide, tblG_of 798 (by decide +kernel) (by decide +kernel), List.mem_of_getElem? (i := 1054) (by decide +kernel), rfl⟩, Or.inr ⟨4, by decide +kernel, by decide, rfl⟩, fun s => r_p (pc' := 20) (p_iconst (n := 2) (v := 2) (by decide +kernel) rfl) (r_iret rfl rfl _ rfl rfl (by decide +kernel))⟩, (fun q hq => nomatch hq)⟩⟩)
  refine r_p (pc' := 9) (p_i2l (by decide +kernel)) ?_
  refine r_stL (by decide +kernel) fun s => ?_
  refine r_p (pc' := 21) (p_goto (off := 11) (tgt := 21) (by decide +kernel) (by decide)) ?_
  refine r_p (pc' := 22) (p_iconst (n := 0) (v := 0) (by decide +kernel) rfl) ?_
  exact r_iret rfl rfl _ rfl rfl (by decide +kernel)
def aL_clock : StA := (RL, cL_clock, 6, some .int, yL_clock, 11, [(0, 12, 15, 24), (0, 12, 19, 13)])
theorem mvL_90 : MV RL 90 aX11_clock 3 := ⟨tblG_of 1541 (by decide +kernel) (by decide +kernel), tblG_of 1542 (by decide +kernel) (by decide +kernel), tblG_of 1543 (by decide +kernel) (by decide +kernel), tblG_of 144 (by decide +kernel) (by decide +kernel), tblG_of 1544 (by decide +kernel) (by decide +kernel), rfl, ⟨by decide, by decide⟩, by decide +kernel, by decide⟩
noncomputable def mL_clock (a0 : Nat) (a1 : Int32) (a2 : Int32) (a3 : Int32) (a4 : Nat) : MM Int32 :=
  mcat (mX11_clock a0 a1 a2 a3) (fun (v1 : Int32) =>
    mbnd (stL a4 0 (v1.toInt64)) fun _ =>
    mret 0
  ) (hsel [(2, 1), (0, 2)])
set_option maxHeartbeats 4000000 in
set_option maxRecDepth 100000 in
theorem ctL_clock (a0 : Nat) (a1 : Int32) (a2 : Int32) (a3 : Int32) (a4 : Nat) : Ct aL_clock [vr a0, vi a1, vi a2, vi a3, vr a4] (mL_clock a0 a1 a2 a3 a4) rI := by
  unfold mL_clock
  refine ct_introH (by decide +kernel) ⟨_, _, rfl⟩ (Nat.le_of_ble_eq_true rfl) fun Y s => ?_
  refine r_sub (lv' := [(0, vr a0), (1, vi a1), (2, vi a2), (3, vi a3), (4, vr a4)]) [0, 1, 2, 3, 4] rfl ?_
  refine r_p (pc' := 2) (p_aload 4 (i := 4) (by decide +kernel) rfl) ?_
  refine r_p (pc' := 3) (p_iconst (n := 0) (v := 0) (by decide +kernel) rfl) ?_
  refine r_p (pc' := 4) (p_aload_n 0 (k := 0) (by decide +kernel) rfl) ?_
  refine r_p (pc' := 5) (p_iload_n 1 (k := 1) (by decide +kernel) rfl) ?_
  refine r_p (pc' := 6) (p_iload_n 2 (k := 2) (by decide +kernel) rfl) ?_
  refine r_p (pc' := 7) (p_iload_n 3 (k := 3) (by decide +kernel) rfl) ?_
  refine r_callVL mvL_90 (ctX11_clock a0 a1 a2 a3) (rcX11_clock a0 a1 a2 a3) ⟨_, _, rfl⟩ (as := [vi a1, vi a2, vi a3]) (st := [vi 0, vr a4]) rfl rfl (by decide +kernel) (Nat.le_of_ble_eq_true rfl) (Nat.le_of_ble_eq_true rfl) (fun v1 s => ?_) (List.forall_mem_cons.mpr ⟨⟨15, 17, ⟨[], [⟨0, 12, 19, 13⟩], ⟨0, 12, 15, 24⟩, rfl, (fun z hz => nomatch hz), by decide, by decide, by decide, tblG_of 1172 (by decide +kernel) (by decide +kernel), List.mem_of_getElem? (i := 1185) (by decide +kernel), rfl⟩, Or.inr ⟨5, by decide +kernel, by decide, rfl⟩, fun s => r_p (pc' := 18) (p_iconst (n := 1) (v := 1) (by decide +kernel) rfl) (r_iret rfl rfl _ rfl rfl (by decide +kernel))⟩, List.forall_mem_cons.mpr ⟨⟨19, 21, ⟨[⟨0, 12, 15, 24⟩], [], ⟨0, 12, 19, 13⟩, rfl, List.forall_mem_cons.mpr ⟨⟨by decide, 2, by decide, by decide, tblG_of 1172 (by decide +kernel) (by decide +kernel)⟩, (fun z hz => nomatch hz)⟩, by decide, by decide, by decide, tblG_of 798 (by decide +kernel) (by decide +kernel), List.mem_of_getElem? (i := 1054) (by decide +kernel), rfl⟩, Or.inr ⟨5, by decide +kernel, by decide, rfl⟩, fun s => r_p (pc' := 22) (p_iconst (n := 2) (v := 2) (by decide +kernel) rfl) (r_iret rfl rfl _ rfl rfl (by decide +kernel))⟩, (fun q hq => nomatch hq)⟩⟩)
  refine r_p (pc' := 11) (p_i2l (by decide +kernel)) ?_
  refine r_stL (by decide +kernel) fun s => ?_
  refine r_p (pc' := 23) (p_goto (off := 11) (tgt := 23) (by decide +kernel) (by decide)) ?_
  refine r_p (pc' := 24) (p_iconst (n := 0) (v := 0) (by decide +kernel) rfl) ?_
  exact r_iret rfl rfl _ rfl rfl (by decide +kernel)
def aL_together : StA := (RL, cL_together, 4, some .int, yL_together, 11, [(0, 9, 12, 13)])
theorem mvL_93 : MV RL 93 aX11_together 1 := ⟨tblG_of 1548 (by decide +kernel) (by decide +kernel), tblG_of 1549 (by decide +kernel) (by decide +kernel), tblG_of 1550 (by decide +kernel) (by decide +kernel), tblG_of 144 (by decide +kernel) (by decide +kernel), tblG_of 1551 (by decide +kernel) (by decide +kernel), rfl, ⟨by decide, by decide⟩, by decide +kernel, by decide⟩
noncomputable def mL_together (a0 : Nat) (a1 : Int32) (a2 : Nat) : MM Int32 :=
  mcat (mX11_together a0 a1) (fun (v1 : Int32) =>
    mbnd (stL a2 0 (v1.toInt64)) fun _ =>
    mret 0
  ) (hsel [(0, 1)])
set_option maxHeartbeats 4000000 in
set_option maxRecDepth 100000 in
theorem ctL_together (a0 : Nat) (a1 : Int32) (a2 : Nat) : Ct aL_together [vr a0, vi a1, vr a2] (mL_together a0 a1 a2) rI := by
  unfold mL_together
  refine ct_introH (by decide +kernel) ⟨_, _, rfl⟩ (Nat.le_of_ble_eq_true rfl) fun Y s => ?_
  refine r_sub (lv' := [(0, vr a0), (1, vi a1), (2, vr a2)]) [0, 1, 2] rfl ?_
  refine r_p (pc' := 1) (p_aload_n 2 (k := 2) (by decide +kernel) rfl) ?_
  refine r_p (pc' := 2) (p_iconst (n := 0) (v := 0) (by decide +kernel) rfl) ?_
  refine r_p (pc' := 3) (p_aload_n 0 (k := 0) (by decide +kernel) rfl) ?_
  refine r_p (pc' := 4) (p_iload_n 1 (k := 1) (by decide +kernel) rfl) ?_
  refine r_callVL mvL_93 (ctX11_together a0 a1) (rcX11_together a0 a1) ⟨_, _, rfl⟩ (as := [vi a1]) (st := [vi 0, vr a2]) rfl rfl (by decide +kernel) (Nat.le_of_ble_eq_true rfl) (Nat.le_of_ble_eq_true rfl) (fun v1 s => ?_) (List.forall_mem_cons.mpr ⟨⟨12, 13, ⟨[], [], ⟨0, 9, 12, 13⟩, rfl, (fun z hz => nomatch hz), by decide, by decide, by decide, tblG_of 798 (by decide +kernel) (by decide +kernel), List.mem_of_getElem? (i := 1054) (by decide +kernel), rfl⟩, Or.inl ⟨3, by decide +kernel, by decide, rfl⟩, fun s => r_p (pc' := 14) (p_iconst (n := 1) (v := 1) (by decide +kernel) rfl) (r_iret rfl rfl _ rfl rfl (by decide +kernel))⟩, (fun q hq => nomatch hq)⟩)
  refine r_p (pc' := 8) (p_i2l (by decide +kernel)) ?_
  refine r_stL (by decide +kernel) fun s => ?_
  refine r_p (pc' := 15) (p_goto (off := 6) (tgt := 15) (by decide +kernel) (by decide)) ?_
  refine r_p (pc' := 16) (p_iconst (n := 0) (v := 0) (by decide +kernel) rfl) ?_
  exact r_iret rfl rfl _ rfl rfl (by decide +kernel)
def aL_jury : StA := (RL, cL_jury, 5, some .int, yL_jury, 12, [(0, 17, 20, 24)])
theorem mvL_97 : MV RL 97 aX11_jury 2 := ⟨tblG_of 1561 (by decide +kernel) (by decide +kernel), tblG_of 1562 (by decide +kernel) (by decide +kernel), tblG_of 1563 (by decide +kernel) (by decide +kernel), tblG_of 144 (by decide +kernel) (by decide +kernel), tblG_of 1564 (by decide +kernel) (by decide +kernel), rfl, ⟨by decide, by decide⟩, by decide +kernel, by decide⟩
noncomputable def mL_jury (a0 : Nat) (a1 : Int32) (a2 : Int32) (a3 : Nat) : MM Int32 :=
  mcat (mX11_jury a0 a1 a2) (fun (v1 : Int32) =>
    mbnd (α := Int64) (
      if v1 = 0 then (
        mret 0
      ) else (
        mret 1
      )
    ) fun (x3 : Int64) =>
    mbnd (stL a3 0 x3) fun _ =>
    mret 0
  ) (hsel [(2, 1)])
set_option maxHeartbeats 4000000 in
set_option maxRecDepth 100000 in
theorem ctL_jury (a0 : Nat) (a1 : Int32) (a2 : Int32) (a3 : Nat) : Ct aL_jury [vr a0, vi a1, vi a2, vr a3] (mL_jury a0 a1 a2 a3) rI := by
  unfold mL_jury
  refine ct_introH (by decide +kernel) ⟨_, _, rfl⟩ (Nat.le_of_ble_eq_true rfl) fun Y s => ?_
  refine r_sub (lv' := [(0, vr a0), (1, vi a1), (2, vi a2), (3, vr a3)]) [0, 1, 2, 3] rfl ?_
  refine r_p (pc' := 1) (p_aload_n 3 (k := 3) (by decide +kernel) rfl) ?_
  refine r_p (pc' := 2) (p_iconst (n := 0) (v := 0) (by decide +kernel) rfl) ?_
  refine r_p (pc' := 3) (p_aload_n 0 (k := 0) (by decide +kernel) rfl) ?_
  refine r_p (pc' := 4) (p_iload_n 1 (k := 1) (by decide +kernel) rfl) ?_
  refine r_p (pc' := 5) (p_iload_n 2 (k := 2) (by decide +kernel) rfl) ?_
  refine r_callVL mvL_97 (ctX11_jury a0 a1 a2) (rcX11_jury a0 a1 a2) ⟨_, _, rfl⟩ (as := [vi a1, vi a2]) (st := [vi 0, vr a3]) rfl rfl (by decide +kernel) (Nat.le_of_ble_eq_true rfl) (Nat.le_of_ble_eq_true rfl) (fun v1 s => ?_) (List.forall_mem_cons.mpr ⟨⟨20, 22, ⟨[], [], ⟨0, 17, 20, 24⟩, rfl, (fun z hz => nomatch hz), by decide, by decide, by decide, tblG_of 1172 (by decide +kernel) (by decide +kernel), List.mem_of_getElem? (i := 1185) (by decide +kernel), rfl⟩, Or.inr ⟨4, by decide +kernel, by decide, rfl⟩, fun s => r_p (pc' := 23) (p_iconst (n := 1) (v := 1) (by decide +kernel) rfl) (r_iret rfl rfl _ rfl rfl (by decide +kernel))⟩, (fun q hq => nomatch hq)⟩)
  refine r_join 16 (fun (x3 : Int64) => []) (fun (x3 : Int64) => [vl x3, vi 0, vr a3]) (fun x3 s => ?_) (fun K4 hj5 => ?_)
  · refine r_stL (by decide +kernel) fun s => ?_
    refine r_p (pc' := 24) (p_goto (off := 7) (tgt := 24) (by decide +kernel) (by decide)) ?_
    refine r_p (pc' := 25) (p_iconst (n := 0) (v := 0) (by decide +kernel) rfl) ?_
    exact r_iret rfl rfl _ rfl rfl (by decide +kernel)
  · refine r_ifeq (off := 7) (tgt := 15) (by decide +kernel) (by decide) (fun h2 => ?_) (fun h2 => ?_)
    · refine r_p (pc' := 16) (p_lconst (n := 0) (v := 0) (by decide +kernel) rfl) ?_
      refine r_sub (lv' := []) [] rfl ?_
      exact hj5 0 _
    · refine r_p (pc' := 12) (p_lconst (n := 1) (v := 1) (by decide +kernel) rfl) ?_
      refine r_p (pc' := 16) (p_goto (off := 4) (tgt := 16) (by decide +kernel) (by decide)) ?_
      refine r_sub (lv' := []) [] rfl ?_
      exact hj5 1 _
def aL_alibi : StA := (RL, cL_alibi, 5, some .int, yL_alibi, 11, [(0, 17, 20, 24), (0, 17, 24, 13)])
theorem mvL_101 : MV RL 101 aX11_alibi 2 := ⟨tblG_of 1568 (by decide +kernel) (by decide +kernel), tblG_of 1569 (by decide +kernel) (by decide +kernel), tblG_of 1570 (by decide +kernel) (by decide +kernel), tblG_of 144 (by decide +kernel) (by decide +kernel), tblG_of 1571 (by decide +kernel) (by decide +kernel), rfl, ⟨by decide, by decide⟩, by decide +kernel, by decide⟩
noncomputable def mL_alibi (a0 : Nat) (a1 : Int32) (a2 : Int32) (a3 : Nat) : MM Int32 :=
  mcat (mX11_alibi a0 a1 a2) (fun (v1 : Int32) =>
    mbnd (α := Int64) (
      if v1 = 0 then (
        mret 0
      ) else (
        mret 1
      )
    ) fun (x3 : Int64) =>
    mbnd (stL a3 0 x3) fun _ =>
    mret 0
  ) (hsel [(2, 1), (0, 2)])
set_option maxHeartbeats 4000000 in
set_option maxRecDepth 100000 in
theorem ctL_alibi (a0 : Nat) (a1 : Int32) (a2 : Int32) (a3 : Nat) : Ct aL_alibi [vr a0, vi a1, vi a2, vr a3] (mL_alibi a0 a1 a2 a3) rI := by
  unfold mL_alibi
  refine ct_introH (by decide +kernel) ⟨_, _, rfl⟩ (Nat.le_of_ble_eq_true rfl) fun Y s => ?_
  refine r_sub (lv' := [(0, vr a0), (1, vi a1), (2, vi a2), (3, vr a3)]) [0, 1, 2, 3] rfl ?_
  refine r_p (pc' := 1) (p_aload_n 3 (k := 3) (by decide +kernel) rfl) ?_
  refine r_p (pc' := 2) (p_iconst (n := 0) (v := 0) (by decide +kernel) rfl) ?_
  refine r_p (pc' := 3) (p_aload_n 0 (k := 0) (by decide +kernel) rfl) ?_
  refine r_p (pc' := 4) (p_iload_n 1 (k := 1) (by decide +kernel) rfl) ?_
  refine r_p (pc' := 5) (p_iload_n 2 (k := 2) (by decide +kernel) rfl) ?_
  refine r_callVL mvL_101 (ctX11_alibi a0 a1 a2) (rcX11_alibi a0 a1 a2) ⟨_, _, rfl⟩ (as := [vi a1, vi a2]) (st := [vi 0, vr a3]) rfl rfl (by decide +kernel) (Nat.le_of_ble_eq_true rfl) (Nat.le_of_ble_eq_true rfl) (fun v1 s => ?_) (List.forall_mem_cons.mpr ⟨⟨20, 22, ⟨[], [⟨0, 17, 24, 13⟩], ⟨0, 17, 20, 24⟩, rfl, (fun z hz => nomatch hz), by decide, by decide, by decide, tblG_of 1172 (by decide +kernel) (by decide +kernel), List.mem_of_getElem? (i := 1185) (by decide +kernel), rfl⟩, Or.inr ⟨4, by decide +kernel, by decide, rfl⟩, fun s => r_p (pc' := 23) (p_iconst (n := 1) (v := 1) (by decide +kernel) rfl) (r_iret rfl rfl _ rfl rfl (by decide +kernel))⟩, List.forall_mem_cons.mpr ⟨⟨24, 26, ⟨[⟨0, 17, 20, 24⟩], [], ⟨0, 17, 24, 13⟩, rfl, List.forall_mem_cons.mpr ⟨⟨by decide, 2, by decide, by decide, tblG_of 1172 (by decide +kernel) (by decide +kernel)⟩, (fun z hz => nomatch hz)⟩, by decide, by decide, by decide, tblG_of 798 (by decide +kernel) (by decide +kernel), List.mem_of_getElem? (i := 1054) (by decide +kernel), rfl⟩, Or.inr ⟨4, by decide +kernel, by decide, rfl⟩, fun s => r_p (pc' := 27) (p_iconst (n := 2) (v := 2) (by decide +kernel) rfl) (r_iret rfl rfl _ rfl rfl (by decide +kernel))⟩, (fun q hq => nomatch hq)⟩⟩)
  refine r_join 16 (fun (x3 : Int64) => []) (fun (x3 : Int64) => [vl x3, vi 0, vr a3]) (fun x3 s => ?_) (fun K4 hj5 => ?_)
  · refine r_stL (by decide +kernel) fun s => ?_
    refine r_p (pc' := 28) (p_goto (off := 11) (tgt := 28) (by decide +kernel) (by decide)) ?_
    refine r_p (pc' := 29) (p_iconst (n := 0) (v := 0) (by decide +kernel) rfl) ?_
    exact r_iret rfl rfl _ rfl rfl (by decide +kernel)
  · refine r_ifeq (off := 7) (tgt := 15) (by decide +kernel) (by decide) (fun h2 => ?_) (fun h2 => ?_)
    · refine r_p (pc' := 16) (p_lconst (n := 0) (v := 0) (by decide +kernel) rfl) ?_
      refine r_sub (lv' := []) [] rfl ?_
      exact hj5 0 _
    · refine r_p (pc' := 12) (p_lconst (n := 1) (v := 1) (by decide +kernel) rfl) ?_
      refine r_p (pc' := 16) (p_goto (off := 4) (tgt := 16) (by decide +kernel) (by decide)) ?_
      refine r_sub (lv' := []) [] rfl ?_
      exact hj5 1 _
def aL_pairs : StA := (RL, cL_pairs, 5, some .int, yL_pairs, 11, [(0, 10, 13, 24)])
theorem mvL_104 : MV RL 104 aX11_pairs 2 := ⟨tblG_of 1578 (by decide +kernel) (by decide +kernel), tblG_of 1579 (by decide +kernel) (by decide +kernel), tblG_of 1580 (by decide +kernel) (by decide +kernel), tblG_of 144 (by decide +kernel) (by decide +kernel), tblG_of 1581 (by decide +kernel) (by decide +kernel), rfl, ⟨by decide, by decide⟩, by decide +kernel, by decide⟩
noncomputable def mL_pairs (a0 : Nat) (a1 : Int32) (a2 : Int32) (a3 : Nat) : MM Int32 :=
  mcat (mX11_pairs a0 a1 a2) (fun (v1 : Int32) =>
    mbnd (stL a3 0 (v1.toInt64)) fun _ =>
    mret 0
  ) (hsel [(2, 1)])
set_option maxHeartbeats 4000000 in
set_option maxRecDepth 100000 in
theorem ctL_pairs (a0 : Nat) (a1 : Int32) (a2 : Int32) (a3 : Nat) : Ct aL_pairs [vr a0, vi a1, vi a2, vr a3] (mL_pairs a0 a1 a2 a3) rI := by
  unfold mL_pairs
  refine ct_introH (by decide +kernel) ⟨_, _, rfl⟩ (Nat.le_of_ble_eq_true rfl) fun Y s => ?_
  refine r_sub (lv' := [(0, vr a0), (1, vi a1), (2, vi a2), (3, vr a3)]) [0, 1, 2, 3] rfl ?_
  refine r_p (pc' := 1) (p_aload_n 3 (k := 3) (by decide +kernel) rfl) ?_
  refine r_p (pc' := 2) (p_iconst (n := 0) (v := 0) (by decide +kernel) rfl) ?_
  refine r_p (pc' := 3) (p_aload_n 0 (k := 0) (by decide +kernel) rfl) ?_
  refine r_p (pc' := 4) (p_iload_n 1 (k := 1) (by decide +kernel) rfl) ?_
  refine r_p (pc' := 5) (p_iload_n 2 (k := 2) (by decide +kernel) rfl) ?_
  refine r_callVL mvL_104 (ctX11_pairs a0 a1 a2) (rcX11_pairs a0 a1 a2) ⟨_, _, rfl⟩ (as := [vi a1, vi a2]) (st := [vi 0, vr a3]) rfl rfl (by decide +kernel) (Nat.le_of_ble_eq_true rfl) (Nat.le_of_ble_eq_true rfl) (fun v1 s => ?_) (List.forall_mem_cons.mpr ⟨⟨13, 15, ⟨[], [], ⟨0, 10, 13, 24⟩, rfl, (fun z hz => nomatch hz), by decide, by decide, by decide, tblG_of 1172 (by decide +kernel) (by decide +kernel), List.mem_of_getElem? (i := 1185) (by decide +kernel), rfl⟩, Or.inr ⟨4, by decide +kernel, by decide, rfl⟩, fun s => r_p (pc' := 16) (p_iconst (n := 1) (v := 1) (by decide +kernel) rfl) (r_iret rfl rfl _ rfl rfl (by decide +kernel))⟩, (fun q hq => nomatch hq)⟩)
  refine r_p (pc' := 9) (p_i2l (by decide +kernel)) ?_
  refine r_stL (by decide +kernel) fun s => ?_
  refine r_p (pc' := 17) (p_goto (off := 7) (tgt := 17) (by decide +kernel) (by decide)) ?_
  refine r_p (pc' := 18) (p_iconst (n := 0) (v := 0) (by decide +kernel) rfl) ?_
  exact r_iret rfl rfl _ rfl rfl (by decide +kernel)
def aL_trial : StA := (RL, cL_trial, 4, some .int, yL_trial, 11, [(0, 9, 12, 13)])
theorem mvL_107 : MV RL 107 aX11_trial 1 := ⟨tblG_of 1585 (by decide +kernel) (by decide +kernel), tblG_of 1586 (by decide +kernel) (by decide +kernel), tblG_of 1587 (by decide +kernel) (by decide +kernel), tblG_of 144 (by decide +kernel) (by decide +kernel), tblG_of 1588 (by decide +kernel) (by decide +kernel), rfl, ⟨by decide, by decide⟩, by decide +kernel, by decide⟩
noncomputable def mL_trial (a0 : Nat) (a1 : Int32) (a2 : Nat) : MM Int32 :=
  mcat (mX11_trial a0 a1) (fun (v1 : Int32) =>
    mbnd (stL a2 0 (v1.toInt64)) fun _ =>
    mret 0
  ) (hsel [(0, 1)])
set_option maxHeartbeats 4000000 in
set_option maxRecDepth 100000 in
theorem ctL_trial (a0 : Nat) (a1 : Int32) (a2 : Nat) : Ct aL_trial [vr a0, vi a1, vr a2] (mL_trial a0 a1 a2) rI := by
  unfold mL_trial
  refine ct_introH (by decide +kernel) ⟨_, _, rfl⟩ (Nat.le_of_ble_eq_true rfl) fun Y s => ?_
  refine r_sub (lv' := [(0, vr a0), (1, vi a1), (2, vr a2)]) [0, 1, 2] rfl ?_
  refine r_p (pc' := 1) (p_aload_n 2 (k := 2) (by decide +kernel) rfl) ?_
  refine r_p (pc' := 2) (p_iconst (n := 0) (v := 0) (by decide +kernel) rfl) ?_
  refine r_p (pc' := 3) (p_aload_n 0 (k := 0) (by decide +kernel) rfl) ?_
  refine r_p (pc' := 4) (p_iload_n 1 (k := 1) (by decide +kernel) rfl) ?_
  refine r_callVL mvL_107 (ctX11_trial a0 a1) (rcX11_trial a0 a1) ⟨_, _, rfl⟩ (as := [vi a1]) (st := [vi 0, vr a2]) rfl rfl (by decide +kernel) (Nat.le_of_ble_eq_true rfl) (Nat.le_of_ble_eq_true rfl) (fun v1 s => ?_) (List.forall_mem_cons.mpr ⟨⟨12, 13, ⟨[], [], ⟨0, 9, 12, 13⟩, rfl, (fun z hz => nomatch hz), by decide, by decide, by decide, tblG_of 798 (by decide +kernel) (by decide +kernel), List.mem_of_getElem? (i := 1054) (by decide +kernel), rfl⟩, Or.inl ⟨3, by decide +kernel, by decide, rfl⟩, fun s => r_p (pc' := 14) (p_iconst (n := 1) (v := 1) (by decide +kernel) rfl) (r_iret rfl rfl _ rfl rfl (by decide +kernel))⟩, (fun q hq => nomatch hq)⟩)
  refine r_p (pc' := 8) (p_i2l (by decide +kernel)) ?_
  refine r_stL (by decide +kernel) fun s => ?_
  refine r_p (pc' := 15) (p_goto (off := 6) (tgt := 15) (by decide +kernel) (by decide)) ?_
  refine r_p (pc' := 16) (p_iconst (n := 0) (v := 0) (by decide +kernel) rfl) ?_
  exact r_iret rfl rfl _ rfl rfl (by decide +kernel)
def aL_span : StA := (RL, cL_span, 5, some .int, yL_span, 11, [(0, 10, 13, 13)])
theorem mvL_110 : MV RL 110 aX11_span 2 := ⟨tblG_of 1599 (by decide +kernel) (by decide +kernel), tblG_of 1600 (by decide +kernel) (by decide +kernel), tblG_of 1601 (by decide +kernel) (by decide +kernel), tblG_of 144 (by decide +kernel) (by decide +kernel), tblG_of 1602 (by decide +kernel) (by decide +kernel), rfl, ⟨by decide, by decide⟩, by decide +kernel, by decide⟩
noncomputable def mL_span (a0 : Nat) (a1 : Int32) (a2 : Int32) (a3 : Nat) : MM Int32 :=
  mcat (mX11_span a0 a1 a2) (fun (v1 : Int32) =>
    mbnd (stL a3 0 (v1.toInt64)) fun _ =>
    mret 0
  ) (hsel [(0, 1)])
set_option maxHeartbeats 4000000 in
set_option maxRecDepth 100000 in
theorem ctL_span (a0 : Nat) (a1 : Int32) (a2 : Int32) (a3 : Nat) : Ct aL_span [vr a0, vi a1, vi a2, vr a3] (mL_span a0 a1 a2 a3) rI := by
  unfold mL_span
  refine ct_introH (by decide +kernel) ⟨_, _, rfl⟩ (Nat.le_of_ble_eq_true rfl) fun Y s => ?_
  refine r_sub (lv' := [(0, vr a0), (1, vi a1), (2, vi a2), (3, vr a3)]) [0, 1, 2, 3] rfl ?_
  refine r_p (pc' := 1) (p_aload_n 3 (k := 3) (by decide +kernel) rfl) ?_
  refine r_p (pc' := 2) (p_iconst (n := 0) (v := 0) (by decide +kernel) rfl) ?_
  refine r_p (pc' := 3) (p_aload_n 0 (k := 0) (by decide +kernel) rfl) ?_
  refine r_p (pc' := 4) (p_iload_n 1 (k := 1) (by decide +kernel) rfl) ?_
  refine r_p (pc' := 5) (p_iload_n 2 (k := 2) (by decide +kernel) rfl) ?_
  refine r_callVL mvL_110 (ctX11_span a0 a1 a2) (rcX11_span a0 a1 a2) ⟨_, _, rfl⟩ (as := [vi a1, vi a2]) (st := [vi 0, vr a3]) rfl rfl (by decide +kernel) (Nat.le_of_ble_eq_true rfl) (Nat.le_of_ble_eq_true rfl) (fun v1 s => ?_) (List.forall_mem_cons.mpr ⟨⟨13, 15, ⟨[], [], ⟨0, 10, 13, 13⟩, rfl, (fun z hz => nomatch hz), by decide, by decide, by decide, tblG_of 798 (by decide +kernel) (by decide +kernel), List.mem_of_getElem? (i := 1054) (by decide +kernel), rfl⟩, Or.inr ⟨4, by decide +kernel, by decide, rfl⟩, fun s => r_p (pc' := 16) (p_iconst (n := 1) (v := 1) (by decide +kernel) rfl) (r_iret rfl rfl _ rfl rfl (by decide +kernel))⟩, (fun q hq => nomatch hq)⟩)
  refine r_p (pc' := 9) (p_i2l (by decide +kernel)) ?_
  refine r_stL (by decide +kernel) fun s => ?_
  refine r_p (pc' := 17) (p_goto (off := 7) (tgt := 17) (by decide +kernel) (by decide)) ?_
  refine r_p (pc' := 18) (p_iconst (n := 0) (v := 0) (by decide +kernel) rfl) ?_
  exact r_iret rfl rfl _ rfl rfl (by decide +kernel)
def aL_after : StA := (RL, cL_after, 7, some .int, yL_after, 13, [(0, 14, 17, 24), (0, 14, 21, 13), (0, 14, 25, 42)])
theorem mvL_113 : MV RL 113 aX11_after 4 := ⟨tblG_of 1606 (by decide +kernel) (by decide +kernel), tblG_of 1607 (by decide +kernel) (by decide +kernel), tblG_of 1608 (by decide +kernel) (by decide +kernel), tblG_of 144 (by decide +kernel) (by decide +kernel), tblG_of 1609 (by decide +kernel) (by decide +kernel), rfl, ⟨by decide, by decide⟩, by decide +kernel, by decide⟩
noncomputable def mL_after (a0 : Nat) (a1 : Int32) (a2 : Int32) (a3 : Int32) (a4 : Int32) (a5 : Nat) : MM Int32 :=
  mcat (mX11_after a0 a1 a2 a3 a4) (fun (v1 : Int32) =>
    mbnd (stL a5 0 (v1.toInt64)) fun _ =>
    mret 0
  ) (hsel [(2, 1), (0, 2), (4, 3)])
set_option maxHeartbeats 4000000 in
set_option maxRecDepth 100000 in
theorem ctL_after (a0 : Nat) (a1 : Int32) (a2 : Int32) (a3 : Int32) (a4 : Int32) (a5 : Nat) : Ct aL_after [vr a0, vi a1, vi a2, vi a3, vi a4, vr a5] (mL_after a0 a1 a2 a3 a4 a5) rI := by
  unfold mL_after
  refine ct_introH (by decide +kernel) ⟨_, _, rfl⟩ (Nat.le_of_ble_eq_true rfl) fun Y s => ?_
  refine r_sub (lv' := [(0, vr a0), (1, vi a1), (2, vi a2), (3, vi a3), (4, vi a4), (5, vr a5)]) [0, 1, 2, 3, 4, 5] rfl ?_
  refine r_p (pc' := 2) (p_aload 5 (i := 5) (by decide +kernel) rfl) ?_
  refine r_p (pc' := 3) (p_iconst (n := 0) (v := 0) (by decide +kernel) rfl) ?_
  refine r_p (pc' := 4) (p_aload_n 0 (k := 0) (by decide +kernel) rfl) ?_
  refine r_p (pc' := 5) (p_iload_n 1 (k := 1) (by decide +kernel) rfl) ?_
  refine r_p (pc' := 6) (p_iload_n 2 (k := 2) (by decide +kernel) rfl) ?_
  refine r_p (pc' := 7) (p_iload_n 3 (k := 3) (by decide +kernel) rfl) ?_
  refine r_p (pc' := 9) (p_iload 4 (i := 4) (by decide +kernel) rfl) ?_
  refine r_callVL mvL_113 (ctX11_after a0 a1 a2 a3 a4) (rcX11_after a0 a1 a2 a3 a4) ⟨_, _, rfl⟩ (as := [vi a1, vi a2, vi a3, vi a4]) (st := [vi 0, vr a5]) rfl rfl (by decide +kernel) (Nat.le_of_ble_eq_true rfl) (Nat.le_of_ble_eq_true rfl) (fun v1 s => ?_) (List.forall_mem_cons.mpr ⟨⟨17, 19, ⟨[], [⟨0, 14, 21, 13⟩, ⟨0, 14, 25, 42⟩], ⟨0, 14, 17, 24⟩, rfl, (fun z hz => nomatch hz), by decide, by decide, by decide, tblG_of 1172 (by decide +kernel) (by decide +kernel), List.mem_of_getElem? (i := 1185) (by decide +kernel), rfl⟩, Or.inr ⟨6, by decide +kernel, by decide, rfl⟩, fun s => r_p (pc' := 20) (p_iconst (n := 1) (v := 1) (by decide +kernel) rfl) (r_iret rfl rfl _ rfl rfl (by decide +kernel))⟩, List.forall_mem_cons.mpr ⟨⟨21, 23, ⟨[⟨0, 14, 17, 24⟩], [⟨0, 14, 25, 42⟩], ⟨0, 14, 21, 13⟩, rfl, List.forall_mem_cons.mpr ⟨⟨by decide, 2, by decide, by decide, tblG_of 1172 (by decide +kernel) (by decide +kernel)⟩, (fun z hz => nomatch hz)⟩, by decide, by decide, by decide, tblG_of 798 (by decide +kernel) (by decide +kernel), List.mem_of_getElem? (i := 1054) (by decide +kernel), rfl⟩, Or.inr ⟨6, by decide +kernel, by decide, rfl⟩, fun s => r_p (pc' := 24) (p_iconst (n := 2) (v := 2) (by decide +kernel) rfl) (r_iret rfl rfl _ rfl rfl (by decide +kernel))⟩, List.forall_mem_cons.mpr ⟨⟨25, 27, ⟨[⟨0, 14, 17, 24⟩, ⟨0, 14, 21, 13⟩], [], ⟨0, 14, 25, 42⟩, rfl, List.forall_mem_cons.mpr ⟨⟨by decide, 2, by decide, by decide, tblG_of 1172 (by decide +kernel) (by decide +kernel)⟩, List.forall_mem_cons.mpr ⟨⟨by decide, 0, by decide, by decide, tblG_of 798 (by decide +kernel) (by decide +kernel)⟩, (fun z hz => nomatch hz)⟩⟩, by decide, by decide, by decide, tblG_of 1263 (by decide +kernel) (by decide +kernel), List.mem_of_getElem? (i := 1275) (by decide +kernel), rfl⟩, Or.inr ⟨6, by decide +kernel, by decide, rfl⟩, fun s => r_p (pc' := 28) (p_iconst (n := 3) (v := 3) (by decide +kernel) rfl) (r_iret rfl rfl _ rfl rfl (by decide +kernel))⟩, (fun q hq => nomatch hq)⟩⟩⟩)
  refine r_p (pc' := 13) (p_i2l (by decide +kernel)) ?_
  refine r_stL (by decide +kernel) fun s => ?_
  refine r_p (pc' := 29) (p_goto (off := 15) (tgt := 29) (by decide +kernel) (by decide)) ?_
  refine r_p (pc' := 30) (p_iconst (n := 0) (v := 0) (by decide +kernel) rfl) ?_
  exact r_iret rfl rfl _ rfl rfl (by decide +kernel)
def aL_worst : StA := (RL, cL_worst, 6, some .int, yL_worst, 13, [(0, 12, 15, 24), (0, 12, 19, 13), (0, 12, 23, 42)])
theorem mvL_116 : MV RL 116 aX11_worst 3 := ⟨tblG_of 1618 (by decide +kernel) (by decide +kernel), tblG_of 1619 (by decide +kernel) (by decide +kernel), tblG_of 1620 (by decide +kernel) (by decide +kernel), tblG_of 144 (by decide +kernel) (by decide +kernel), tblG_of 1621 (by decide +kernel) (by decide +kernel), rfl, ⟨by decide, by decide⟩, by decide +kernel, by decide⟩
noncomputable def mL_worst (a0 : Nat) (a1 : Int32) (a2 : Int32) (a3 : Int32) (a4 : Nat) : MM Int32 :=
  mcat (mX11_worst a0 a1 a2 a3) (fun (v1 : Int32) =>
    mbnd (stL a4 0 (v1.toInt64)) fun _ =>
    mret 0
  ) (hsel [(2, 1), (0, 2), (4, 3)])
set_option maxHeartbeats 4000000 in
set_option maxRecDepth 100000 in
theorem ctL_worst (a0 : Nat) (a1 : Int32) (a2 : Int32) (a3 : Int32) (a4 : Nat) : Ct aL_worst [vr a0, vi a1, vi a2, vi a3, vr a4] (mL_worst a0 a1 a2 a3 a4) rI := by
  unfold mL_worst
  refine ct_introH (by decide +kernel) ⟨_, _, rfl⟩ (Nat.le_of_ble_eq_true rfl) fun Y s => ?_
  refine r_sub (lv' := [(0, vr a0), (1, vi a1), (2, vi a2), (3, vi a3), (4, vr a4)]) [0, 1, 2, 3, 4] rfl ?_
  refine r_p (pc' := 2) (p_aload 4 (i := 4) (by decide +kernel) rfl) ?_
  refine r_p (pc' := 3) (p_iconst (n := 0) (v := 0) (by decide +kernel) rfl) ?_
  refine r_p (pc' := 4) (p_aload_n 0 (k := 0) (by decide +kernel) rfl) ?_
  refine r_p (pc' := 5) (p_iload_n 1 (k := 1) (by decide +kernel) rfl) ?_
  refine r_p (pc' := 6) (p_iload_n 2 (k := 2) (by decide +kernel) rfl) ?_
  refine r_p (pc' := 7) (p_iload_n 3 (k := 3) (by decide +kernel) rfl) ?_
  refine r_callVL mvL_116 (ctX11_worst a0 a1 a2 a3) (rcX11_worst a0 a1 a2 a3) ⟨_, _, rfl⟩ (as := [vi a1, vi a2, vi a3]) (st := [vi 0, vr a4]) rfl rfl (by decide +kernel) (Nat.le_of_ble_eq_true rfl) (Nat.le_of_ble_eq_true rfl) (fun v1 s => ?_) (List.forall_mem_cons.mpr ⟨⟨15, 17, ⟨[], [⟨0, 12, 19, 13⟩, ⟨0, 12, 23, 42⟩], ⟨0, 12, 15, 24⟩, rfl, (fun z hz => nomatch hz), by decide, by decide, by decide, tblG_of 1172 (by decide +kernel) (by decide +kernel), List.mem_of_getElem? (i := 1185) (by decide +kernel), rfl⟩, Or.inr ⟨5, by decide +kernel, by decide, rfl⟩, fun s => r_p (pc' := 18) (p_iconst (n := 1) (v := 1) (by decide +kernel) rfl) (r_iret rfl rfl _ rfl rfl (by decide +kernel))⟩, List.forall_mem_cons.mpr ⟨⟨19, 21, ⟨[⟨0, 12, 15, 24⟩], [⟨0, 12, 23, 42⟩], ⟨0, 12, 19, 13⟩, rfl, List.forall_mem_cons.mpr ⟨⟨by decide, 2, by decide, by decide, tblG_of 1172 (by decide +kernel) (by decide +kernel)⟩, (fun z hz => nomatch hz)⟩, by decide, by decide, by decide, tblG_of 798 (by decide +kernel) (by decide +kernel), List.mem_of_getElem? (i := 1054) (by decide +kernel), rfl⟩, Or.inr ⟨5, by decide +kernel, by decide, rfl⟩, fun s => r_p (pc' := 22) (p_iconst (n := 2) (v := 2) (by decide +kernel) rfl) (r_iret rfl rfl _ rfl rfl (by decide +kernel))⟩, List.forall_mem_cons.mpr ⟨⟨23, 25, ⟨[⟨0, 12, 15, 24⟩, ⟨0, 12, 19, 13⟩], [], ⟨0, 12, 23, 42⟩, rfl, List.forall_mem_cons.mpr ⟨⟨by decide, 2, by decide, by decide, tblG_of 1172 (by decide +kernel) (by decide +kernel)⟩, List.forall_mem_cons.mpr ⟨⟨by decide, 0, by decide, by decide, tblG_of 798 (by decide +kernel) (by decide +kernel)⟩, (fun z hz => nomatch hz)⟩⟩, by decide, by decide, by decide, tblG_of 1263 (by decide +kernel) (by decide +kernel), List.mem_of_getElem? (i := 1275) (by decide +kernel), rfl⟩, Or.inr ⟨5, by decide +kernel, by decide, rfl⟩, fun s => r_p (pc' := 26) (p_iconst (n := 3) (v := 3) (by decide +kernel) rfl) (r_iret rfl rfl _ rfl rfl (by decide +kernel))⟩, (fun q hq => nomatch hq)⟩⟩⟩)
  refine r_p (pc' := 11) (p_i2l (by decide +kernel)) ?_
  refine r_stL (by decide +kernel) fun s => ?_
  refine r_p (pc' := 27) (p_goto (off := 15) (tgt := 27) (by decide +kernel) (by decide)) ?_
  refine r_p (pc' := 28) (p_iconst (n := 0) (v := 0) (by decide +kernel) rfl) ?_
  exact r_iret rfl rfl _ rfl rfl (by decide +kernel)
def aL_sure : StA := (RL, cL_sure, 4, some .int, yL_sure, 10, [(0, 9, 12, 13)])
theorem mvL_119 : MV RL 119 aX11_sure 1 := ⟨tblG_of 1629 (by decide +kernel) (by decide +kernel), tblG_of 1630 (by decide +kernel) (by decide +kernel), tblG_of 1631 (by decide +kernel) (by decide +kernel), tblG_of 144 (by decide +kernel) (by decide +kernel), tblG_of 1632 (by decide +kernel) (by decide +kernel), rfl, ⟨by decide, by decide⟩, by decide +kernel, by decide⟩
noncomputable def mL_sure (a0 : Nat) (a1 : Int32) (a2 : Nat) : MM Int32 :=
  mcat (mX11_sure a0 a1) (fun (v1 : Int32) =>
    mbnd (stL a2 0 (v1.toInt64)) fun _ =>
    mret 0
  ) (hsel [(0, 1)])
set_option maxHeartbeats 4000000 in
set_option maxRecDepth 100000 in
theorem ctL_sure (a0 : Nat) (a1 : Int32) (a2 : Nat) : Ct aL_sure [vr a0, vi a1, vr a2] (mL_sure a0 a1 a2) rI := by
  unfold mL_sure
  refine ct_introH (by decide +kernel) ⟨_, _, rfl⟩ (Nat.le_of_ble_eq_true rfl) fun Y s => ?_
  refine r_sub (lv' := [(0, vr a0), (1, vi a1), (2, vr a2)]) [0, 1, 2] rfl ?_
  refine r_p (pc' := 1) (p_aload_n 2 (k := 2) (by decide +kernel) rfl) ?_
  refine r_p (pc' := 2) (p_iconst (n := 0) (v := 0) (by decide +kernel) rfl) ?_
  refine r_p (pc' := 3) (p_aload_n 0 (k := 0) (by decide +kernel) rfl) ?_
  refine r_p (pc' := 4) (p_iload_n 1 (k := 1) (by decide +kernel) rfl) ?_
  refine r_callVL mvL_119 (ctX11_sure a0 a1) (rcX11_sure a0 a1) ⟨_, _, rfl⟩ (as := [vi a1]) (st := [vi 0, vr a2]) rfl rfl (by decide +kernel) (Nat.le_of_ble_eq_true rfl) (Nat.le_of_ble_eq_true rfl) (fun v1 s => ?_) (List.forall_mem_cons.mpr ⟨⟨12, 13, ⟨[], [], ⟨0, 9, 12, 13⟩, rfl, (fun z hz => nomatch hz), by decide, by decide, by decide, tblG_of 798 (by decide +kernel) (by decide +kernel), List.mem_of_getElem? (i := 1054) (by decide +kernel), rfl⟩, Or.inl ⟨3, by decide +kernel, by decide, rfl⟩, fun s => r_p (pc' := 14) (p_iconst (n := 1) (v := 1) (by decide +kernel) rfl) (r_iret rfl rfl _ rfl rfl (by decide +kernel))⟩, (fun q hq => nomatch hq)⟩)
  refine r_p (pc' := 8) (p_i2l (by decide +kernel)) ?_
  refine r_stL (by decide +kernel) fun s => ?_
  refine r_p (pc' := 15) (p_goto (off := 6) (tgt := 15) (by decide +kernel) (by decide)) ?_
  refine r_p (pc' := 16) (p_iconst (n := 0) (v := 0) (by decide +kernel) rfl) ?_
  exact r_iret rfl rfl _ rfl rfl (by decide +kernel)
def aL_truth : StA := (RL, cL_truth, 5, some .int, yL_truth, 10, [(0, 10, 13, 24), (0, 10, 17, 26)])
theorem mvL_122 : MV RL 122 aX11_truth 2 := ⟨tblG_of 1636 (by decide +kernel) (by decide +kernel), tblG_of 1637 (by decide +kernel) (by decide +kernel), tblG_of 1638 (by decide +kernel) (by decide +kernel), tblG_of 144 (by decide +kernel) (by decide +kernel), tblG_of 1639 (by decide +kernel) (by decide +kernel), rfl, ⟨by decide, by decide⟩, by decide +kernel, by decide⟩
noncomputable def mL_truth (a0 : Nat) (a1 : Int32) (a2 : Int32) (a3 : Nat) : MM Int32 :=
  mcat (mX11_truth a0 a1 a2) (fun (v1 : Int32) =>
    mbnd (stL a3 0 (v1.toInt64)) fun _ =>
    mret 0
  ) (hsel [(2, 1), (3, 2)])
set_option maxHeartbeats 4000000 in
set_option maxRecDepth 100000 in
theorem ctL_truth (a0 : Nat) (a1 : Int32) (a2 : Int32) (a3 : Nat) : Ct aL_truth [vr a0, vi a1, vi a2, vr a3] (mL_truth a0 a1 a2 a3) rI := by
  unfold mL_truth
  refine ct_introH (by decide +kernel) ⟨_, _, rfl⟩ (Nat.le_of_ble_eq_true rfl) fun Y s => ?_
  refine r_sub (lv' := [(0, vr a0), (1, vi a1), (2, vi a2), (3, vr a3)]) [0, 1, 2, 3] rfl ?_
  refine r_p (pc' := 1) (p_aload_n 3 (k := 3) (by decide +kernel) rfl) ?_
  refine r_p (pc' := 2) (p_iconst (n := 0) (v := 0) (by decide +kernel) rfl) ?_
  refine r_p (pc' := 3) (p_aload_n 0 (k := 0) (by decide +kernel) rfl) ?_
  refine r_p (pc' := 4) (p_iload_n 1 (k := 1) (by decide +kernel) rfl) ?_
  refine r_p (pc' := 5) (p_iload_n 2 (k := 2) (by decide +kernel) rfl) ?_
  refine r_callVL mvL_122 (ctX11_truth a0 a1 a2) (rcX11_truth a0 a1 a2) ⟨_, _, rfl⟩ (as := [vi a1, vi a2]) (st := [vi 0, vr a3]) rfl rfl (by decide +kernel) (Nat.le_of_ble_eq_true rfl) (Nat.le_of_ble_eq_true rfl) (fun v1 s => ?_) (List.forall_mem_cons.mpr ⟨⟨13, 15, ⟨[], [⟨0, 10, 17, 26⟩], ⟨0, 10, 13, 24⟩, rfl, (fun z hz => nomatch hz), by decide, by decide, by decide, tblG_of 1172 (by decide +kernel) (by decide +kernel), List.mem_of_getElem? (i := 1185) (by decide +kernel), rfl⟩, Or.inr ⟨4, by decide +kernel, by decide, rfl⟩, fun s => r_p (pc' := 16) (p_iconst (n := 1) (v := 1) (by decide +kernel) rfl) (r_iret rfl rfl _ rfl rfl (by decide +kernel))⟩, List.forall_mem_cons.mpr ⟨⟨17, 19, ⟨[⟨0, 10, 13, 24⟩], [], ⟨0, 10, 17, 26⟩, rfl, List.forall_mem_cons.mpr ⟨⟨by decide, 2, by decide, by decide, tblG_of 1172 (by decide +kernel) (by decide +kernel)⟩, (fun z hz => nomatch hz)⟩, by decide, by decide, by decide, tblG_of 1173 (by decide +kernel) (by decide +kernel), List.mem_of_getElem? (i := 1212) (by decide +kernel), rfl⟩, Or.inr ⟨4, by decide +kernel, by decide, rfl⟩, fun s => r_p (pc' := 20) (p_iconst (n := 2) (v := 2) (by decide +kernel) rfl) (r_iret rfl rfl _ rfl rfl (by decide +kernel))⟩, (fun q hq => nomatch hq)⟩⟩)
  refine r_p (pc' := 9) (p_i2l (by decide +kernel)) ?_
  refine r_stL (by decide +kernel) fun s => ?_
  refine r_p (pc' := 21) (p_goto (off := 11) (tgt := 21) (by decide +kernel) (by decide)) ?_
  refine r_p (pc' := 22) (p_iconst (n := 0) (v := 0) (by decide +kernel) rfl) ?_
  exact r_iret rfl rfl _ rfl rfl (by decide +kernel)
def aL_log : StA := (RL, cL_log, 5, some .int, yL_log, 10, [(0, 10, 13, 26)])
theorem mvL_125 : MV RL 125 aX11_log 2 := ⟨tblG_of 1644 (by decide +kernel) (by decide +kernel), tblG_of 1645 (by decide +kernel) (by decide +kernel), tblG_of 1646 (by decide +kernel) (by decide +kernel), tblG_of 144 (by decide +kernel) (by decide +kernel), tblG_of 1647 (by decide +kernel) (by decide +kernel), rfl, ⟨by decide, by decide⟩, by decide +kernel, by decide⟩
noncomputable def mL_log (a0 : Nat) (a1 : Int32) (a2 : Int32) (a3 : Nat) : MM Int32 :=
  mcat (mX11_log a0 a1 a2) (fun (v1 : Int32) =>
    mbnd (stL a3 0 (v1.toInt64)) fun _ =>
    mret 0
  ) (hsel [(3, 1)])
set_option maxHeartbeats 4000000 in
set_option maxRecDepth 100000 in
theorem ctL_log (a0 : Nat) (a1 : Int32) (a2 : Int32) (a3 : Nat) : Ct aL_log [vr a0, vi a1, vi a2, vr a3] (mL_log a0 a1 a2 a3) rI := by
  unfold mL_log
  refine ct_introH (by decide +kernel) ⟨_, _, rfl⟩ (Nat.le_of_ble_eq_true rfl) fun Y s => ?_
  refine r_sub (lv' := [(0, vr a0), (1, vi a1), (2, vi a2), (3, vr a3)]) [0, 1, 2, 3] rfl ?_
  refine r_p (pc' := 1) (p_aload_n 3 (k := 3) (by decide +kernel) rfl) ?_
  refine r_p (pc' := 2) (p_iconst (n := 0) (v := 0) (by decide +kernel) rfl) ?_
  refine r_p (pc' := 3) (p_aload_n 0 (k := 0) (by decide +kernel) rfl) ?_
  refine r_p (pc' := 4) (p_iload_n 1 (k := 1) (by decide +kernel) rfl) ?_
  refine r_p (pc' := 5) (p_iload_n 2 (k := 2) (by decide +kernel) rfl) ?_
  refine r_callVL mvL_125 (ctX11_log a0 a1 a2) (rcX11_log a0 a1 a2) ⟨_, _, rfl⟩ (as := [vi a1, vi a2]) (st := [vi 0, vr a3]) rfl rfl (by decide +kernel) (Nat.le_of_ble_eq_true rfl) (Nat.le_of_ble_eq_true rfl) (fun v1 s => ?_) (List.forall_mem_cons.mpr ⟨⟨13, 15, ⟨[], [], ⟨0, 10, 13, 26⟩, rfl, (fun z hz => nomatch hz), by decide, by decide, by decide, tblG_of 1173 (by decide +kernel) (by decide +kernel), List.mem_of_getElem? (i := 1212) (by decide +kernel), rfl⟩, Or.inr ⟨4, by decide +kernel, by decide, rfl⟩, fun s => r_p (pc' := 16) (p_iconst (n := 1) (v := 1) (by decide +kernel) rfl) (r_iret rfl rfl _ rfl rfl (by decide +kernel))⟩, (fun q hq => nomatch hq)⟩)
  refine r_p (pc' := 9) (p_i2l (by decide +kernel)) ?_
  refine r_stL (by decide +kernel) fun s => ?_
  refine r_p (pc' := 17) (p_goto (off := 7) (tgt := 17) (by decide +kernel) (by decide)) ?_
  refine r_p (pc' := 18) (p_iconst (n := 0) (v := 0) (by decide +kernel) rfl) ?_
  exact r_iret rfl rfl _ rfl rfl (by decide +kernel)
def aL_led : StA := (RL, cL_led, 4, some .int, yL_led, 11, [(0, 9, 12, 24)])
theorem mvL_128 : MV RL 128 aX11_led 1 := ⟨tblG_of 1651 (by decide +kernel) (by decide +kernel), tblG_of 1652 (by decide +kernel) (by decide +kernel), tblG_of 1653 (by decide +kernel) (by decide +kernel), tblG_of 144 (by decide +kernel) (by decide +kernel), tblG_of 1654 (by decide +kernel) (by decide +kernel), rfl, ⟨by decide, by decide⟩, by decide +kernel, by decide⟩
noncomputable def mL_led (a0 : Nat) (a1 : Int32) (a2 : Nat) : MM Int32 :=
  mcat (mX11_led a0 a1) (fun (v1 : Int32) =>
    mbnd (stL a2 0 (v1.toInt64)) fun _ =>
    mret 0
  ) (hsel [(2, 1)])
set_option maxHeartbeats 4000000 in
set_option maxRecDepth 100000 in
theorem ctL_led (a0 : Nat) (a1 : Int32) (a2 : Nat) : Ct aL_led [vr a0, vi a1, vr a2] (mL_led a0 a1 a2) rI := by
  unfold mL_led
  refine ct_introH (by decide +kernel) ⟨_, _, rfl⟩ (Nat.le_of_ble_eq_true rfl) fun Y s => ?_
  refine r_sub (lv' := [(0, vr a0), (1, vi a1), (2, vr a2)]) [0, 1, 2] rfl ?_
  refine r_p (pc' := 1) (p_aload_n 2 (k := 2) (by decide +kernel) rfl) ?_
  refine r_p (pc' := 2) (p_iconst (n := 0) (v := 0) (by decide +kernel) rfl) ?_
  refine r_p (pc' := 3) (p_aload_n 0 (k := 0) (by decide +kernel) rfl) ?_
  refine r_p (pc' := 4) (p_iload_n 1 (k := 1) (by decide +kernel) rfl) ?_
  refine r_callVL mvL_128 (ctX11_led a0 a1) (rcX11_led a0 a1) ⟨_, _, rfl⟩ (as := [vi a1]) (st := [vi 0, vr a2]) rfl rfl (by decide +kernel) (Nat.le_of_ble_eq_true rfl) (Nat.le_of_ble_eq_true rfl) (fun v1 s => ?_) (List.forall_mem_cons.mpr ⟨⟨12, 13, ⟨[], [], ⟨0, 9, 12, 24⟩, rfl, (fun z hz => nomatch hz), by decide, by decide, by decide, tblG_of 1172 (by decide +kernel) (by decide +kernel), List.mem_of_getElem? (i := 1185) (by decide +kernel), rfl⟩, Or.inl ⟨3, by decide +kernel, by decide, rfl⟩, fun s => r_p (pc' := 14) (p_iconst (n := 1) (v := 1) (by decide +kernel) rfl) (r_iret rfl rfl _ rfl rfl (by decide +kernel))⟩, (fun q hq => nomatch hq)⟩)
  refine r_p (pc' := 8) (p_i2l (by decide +kernel)) ?_
  refine r_stL (by decide +kernel) fun s => ?_
  refine r_p (pc' := 15) (p_goto (off := 6) (tgt := 15) (by decide +kernel) (by decide)) ?_
  refine r_p (pc' := 16) (p_iconst (n := 0) (v := 0) (by decide +kernel) rfl) ?_
  exact r_iret rfl rfl _ rfl rfl (by decide +kernel)
