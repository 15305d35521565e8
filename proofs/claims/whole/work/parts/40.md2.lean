/-! PRINTED BY wip/whole/gen.py -/
def aX12_wears : StA := (RX12, cX12_wears, 3, none, yX12_wears, 10, [])
noncomputable def mX12_wears (a0 : Nat) (a1 : Int32) (a2 : Int32) : MM Unit := onC 11 a0 (
  mbnd (gR 11 1 a0) fun (v1 : Nat) =>
  mbnd (mX12_partAt a1 2) fun (v2 : Int32) =>
  mbnd (mX12_of a0 a1 2) fun (v3 : Int32) =>
  mbnd (stI 0 v1 v2 (imin 99 (v3 + a2))) fun _ =>
  mret ()
  )
theorem rcX12_wears (a0 : Nat) (a1 : Int32) (a2 : Int32) : Rcv 11 a0 (mX12_wears a0 a1 a2) := fun s r h => ⟨(onC_some h).1, (onC_some h).2.1⟩
set_option maxHeartbeats 4000000 in
set_option maxRecDepth 100000 in
theorem ctX12_wears (a0 : Nat) (a1 : Int32) (a2 : Int32) : Ct aX12_wears [vr a0, vi a1, vi a2] (mX12_wears a0 a1 a2) rU := by
  unfold mX12_wears
  refine ct_onC (ct_intro (by decide +kernel) rfl (Nat.le_of_ble_eq_true rfl) fun Y s => ?_)
  refine r_sub (lv' := [(0, vr a0), (1, vi a1), (2, vi a2)]) [0, 1, 2] rfl ?_
  refine r_p (pc' := 1) (p_aload_n 0 (k := 0) (by decide +kernel) rfl) ?_
  refine r_gR flX12_13_11 (by decide +kernel) fun v1 => ?_
  refine r_p (pc' := 5) (p_iload_n 1 (k := 1) (by decide +kernel) rfl) ?_
  refine r_p (pc' := 6) (p_iconst (n := 2) (v := 2) (by decide +kernel) rfl) ?_
  refine r_callSI msX12_61 (ctX12_partAt a1 2) (as := [vi a1, vi 2]) (st := [vr v1]) rfl rfl (by decide +kernel) rfl (Nat.le_of_ble_eq_true rfl) (Nat.le_of_ble_eq_true rfl) fun v2 s => ?_
  refine r_p (pc' := 11) (p_bipush (n := 99) (v := 99) (by decide +kernel) (by decide +kernel)) ?_
  refine r_p (pc' := 12) (p_aload_n 0 (k := 0) (by decide +kernel) rfl) ?_
  refine r_p (pc' := 13) (p_iload_n 1 (k := 1) (by decide +kernel) rfl) ?_
  refine r_p (pc' := 14) (p_iconst (n := 2) (v := 2) (by decide +kernel) rfl) ?_
  refine r_callVI mvX12_65 (ctX12_of a0 a1 2) (rcX12_of a0 a1 2) ⟨_, _, rfl⟩ (as := [vi a1, vi 2]) (st := [vi 99, vi v2, vr v1]) rfl rfl (by decide +kernel) rfl (Nat.le_of_ble_eq_true rfl) (Nat.le_of_ble_eq_true rfl) fun v3 s => ?_
  refine r_p (pc' := 18) (p_iload_n 2 (k := 2) (by decide +kernel) rfl) ?_
  refine r_p (pc' := 19) (p_iadd (by decide +kernel)) ?_
  refine r_p (pc' := 22) (p_min (idx := 298) (tblG_of 2042 (by decide +kernel) (by decide +kernel)) (Nat.le_of_ble_eq_true rfl) (Nat.le_of_ble_eq_true rfl) (by decide +kernel)) ?_
  refine r_stI0 (by decide +kernel) fun s => ?_
  exact r_vret (y9 := ()) rfl rfl rfl (by decide +kernel)
def aX12_partsIn : StA := (RX12, cX12_partsIn, 4, some .int, yX12_partsIn, 9, [])
noncomputable def mX12_partsIn_L4 (a0 : Nat) (a1 : Int32) (x1 : Int32 × Int32) : MM ((Int32 × Int32) ⊕ (Int32)) :=
  if 3 ≤ x1.2 then (
    mret (.inr x1.1)
  ) else (
    mbnd (mX12_inTool a0 a1 x1.2) fun (v6 : Int32) =>
    mbnd (α := Int32) (
      if 0 ≤ v6 then (
        mbnd (mX12_inTool a0 a1 x1.2) fun (v11 : Int32) =>
        mret (1 <<< (v11 &&& (31 : Int32)))
      ) else (
        mret 0
      )
    ) fun (x8 : Int32) =>
    mbnd (mret (x1.1 ||| x8)) fun (v12 : Int32) =>
    mret (.inl (v12, x1.2 + 1))
  )
noncomputable def mX12_partsIn (a0 : Nat) (a1 : Int32) : MM Int32 := onC 11 a0 (
  mbnd (loopM (mX12_partsIn_L4 a0 a1) (0, 0)) fun (e13 : Int32) =>
  mret e13
  )
theorem rcX12_partsIn (a0 : Nat) (a1 : Int32) : Rcv 11 a0 (mX12_partsIn a0 a1) := fun s r h => ⟨(onC_some h).1, (onC_some h).2.1⟩
set_option maxHeartbeats 4000000 in
set_option maxRecDepth 100000 in
theorem ctX12_partsIn (a0 : Nat) (a1 : Int32) : Ct aX12_partsIn [vr a0, vi a1] (mX12_partsIn a0 a1) rI := by
  unfold mX12_partsIn
  refine ct_onC (ct_intro (by decide +kernel) rfl (Nat.le_of_ble_eq_true rfl) fun Y s => ?_)
  refine r_sub (lv' := [(0, vr a0), (1, vi a1)]) [0, 1] rfl ?_
  refine r_p (pc' := 1) (p_iconst (n := 0) (v := 0) (by decide +kernel) rfl) ?_
  refine r_p (pc' := 2) (p_istore_n (k := 2) (lv' := [(2, vi 0), (0, vr a0), (1, vi a1)]) (by decide +kernel) (Nat.le_of_ble_eq_true rfl) rfl) ?_
  refine r_p (pc' := 3) (p_iconst (n := 0) (v := 0) (by decide +kernel) rfl) ?_
  refine r_p (pc' := 4) (p_istore_n (k := 3) (lv' := [(3, vi 0), (2, vi 0), (0, vr a0), (1, vi a1)]) (by decide +kernel) (Nat.le_of_ble_eq_true rfl) rfl) ?_
  refine r_sub (lv' := [(0, vr a0), (1, vi a1), (2, vi 0), (3, vi 0)]) [2, 3, 1, 0] rfl ?_
  refine r_loop2 (fun _ => 39) (fun (e13 : Int32) => [(2, vi e13)]) (fun (x1 : Int32 × Int32) => [(0, vr a0), (1, vi a1), (2, vi x1.1), (3, vi x1.2)]) (fun e13 s => ?_) (fun K2 hb3 he4 x1 s => ?_) (0, 0) _
  · refine r_p (pc' := 40) (p_iload_n 0 (k := 2) (by decide +kernel) rfl) ?_
    exact r_iret rfl rfl _ rfl rfl (by decide +kernel)
  · unfold mX12_partsIn_L4
    refine r_p (pc' := 5) (p_iload_n 3 (k := 3) (by decide +kernel) rfl) ?_
    refine r_p (pc' := 6) (p_iconst (n := 3) (v := 3) (by decide +kernel) rfl) ?_
    refine r_icmpge (off := 33) (tgt := 39) (by decide +kernel) (by decide) (fun h5 => ?_) (fun h5 => ?_)
    · refine r_sub (lv' := [(2, vi x1.1)]) [2] rfl ?_
      exact he4 x1.1 _
    · refine r_p (pc' := 10) (p_iload_n 2 (k := 2) (by decide +kernel) rfl) ?_
      refine r_p (pc' := 11) (p_aload_n 0 (k := 0) (by decide +kernel) rfl) ?_
      refine r_p (pc' := 12) (p_iload_n 1 (k := 1) (by decide +kernel) rfl) ?_
      refine r_p (pc' := 13) (p_iload_n 3 (k := 3) (by decide +kernel) rfl) ?_
      refine r_callVI mvX12_149 (ctX12_inTool a0 a1 x1.2) (rcX12_inTool a0 a1 x1.2) ⟨_, _, rfl⟩ (as := [vi a1, vi x1.2]) (st := [vi x1.1]) rfl rfl (by decide +kernel) rfl (Nat.le_of_ble_eq_true rfl) (Nat.le_of_ble_eq_true rfl) fun v6 s => ?_
      refine r_join 31 (fun (x8 : Int32) => [(0, vr a0), (1, vi a1), (3, vi x1.2)]) (fun (x8 : Int32) => [vi x8, vi x1.1]) (fun x8 s => ?_) (fun K9 hj10 => ?_)
      · refine r_p (pc' := 32) (p_ior (by decide +kernel)) ?_
        refine r_letI fun v12 => ?_
        refine r_p (pc' := 33) (p_istore_n (k := 2) (lv' := [(2, vi v12), (0, vr a0), (1, vi a1), (3, vi x1.2)]) (by decide +kernel) (Nat.le_of_ble_eq_true rfl) rfl) ?_
        refine r_p (pc' := 36) (p_iinc 3 (i := 3) (n := 1) (x := x1.2) (v := x1.2 + 1) (lv' := [(3, vi (x1.2 + 1)), (2, vi v12), (0, vr a0), (1, vi a1)]) (by decide +kernel) rfl rfl (Nat.le_of_ble_eq_true rfl) rfl) ?_
        refine r_p (pc' := 4) (p_goto (off := -32) (tgt := 4) (by decide +kernel) (by decide)) ?_
        refine r_sub (lv' := [(0, vr a0), (1, vi a1), (2, vi v12), (3, vi (x1.2 + 1))]) [2, 3, 1, 0] rfl ?_
        exact hb3 (v12, x1.2 + 1) _
      · refine r_ifge (off := 7) (tgt := 23) (by decide +kernel) (by decide) (fun h7 => ?_) (fun h7 => ?_)
        · refine r_p (pc' := 24) (p_iconst (n := 1) (v := 1) (by decide +kernel) rfl) ?_
          refine r_p (pc' := 25) (p_aload_n 0 (k := 0) (by decide +kernel) rfl) ?_
          refine r_p (pc' := 26) (p_iload_n 1 (k := 1) (by decide +kernel) rfl) ?_
          refine r_p (pc' := 27) (p_iload_n 3 (k := 3) (by decide +kernel) rfl) ?_
          refine r_callVI mvX12_149 (ctX12_inTool a0 a1 x1.2) (rcX12_inTool a0 a1 x1.2) ⟨_, _, rfl⟩ (as := [vi a1, vi x1.2]) (st := [vi 1, vi x1.1]) rfl rfl (by decide +kernel) rfl (Nat.le_of_ble_eq_true rfl) (Nat.le_of_ble_eq_true rfl) fun v11 s => ?_
          refine r_p (pc' := 31) (p_ishl (by decide +kernel)) ?_
          refine r_sub (lv' := [(0, vr a0), (1, vi a1), (3, vi x1.2)]) [0, 1, 3] rfl ?_
          exact hj10 (1 <<< (v11 &&& (31 : Int32))) _
        · refine r_p (pc' := 20) (p_iconst (n := 0) (v := 0) (by decide +kernel) rfl) ?_
          refine r_p (pc' := 31) (p_goto (off := 11) (tgt := 31) (by decide +kernel) (by decide)) ?_
          refine r_sub (lv' := [(0, vr a0), (1, vi a1), (3, vi x1.2)]) [0, 1, 3] rfl ?_
          exact hj10 0 _
def aX12_isTrue : StA := (RX12, cX12_isTrue, 6, none, yX12_isTrue, 10, [])
theorem mvX12_337 : MV RX12 337 aX12_partsIn 1 := ⟨tblG_of 2062 (by decide +kernel) (by decide +kernel), tblG_of 2064 (by decide +kernel) (by decide +kernel), tblG_of 107 (by decide +kernel) (by decide +kernel), tblG_of 157 (by decide +kernel) (by decide +kernel), tblG_of 2065 (by decide +kernel) (by decide +kernel), rfl, ⟨by decide, by decide⟩, by decide +kernel, by decide⟩
noncomputable def mX12_isTrue (a0 : Nat) (a1 : Int32) (a2 : Int32) (a3 : Int32) : MM Unit := onC 11 a0 (
  mbnd (mX12_deeds a0) fun (v1 : Int32) =>
  mbnd (mret (171 + (7 * v1))) fun (v2 : Int32) =>
  mbnd (mX12_inTool a0 a1 1) fun (v3 : Int32) =>
  mbnd (gR 11 1 a0) fun (v4 : Nat) =>
  mbnd (mX12_today a0) fun (v5 : Int32) =>
  mbnd (stI 0 v4 (v2 + 0) v5) fun _ =>
  mbnd (gR 11 1 a0) fun (v6 : Nat) =>
  mbnd (stI 0 v6 (v2 + 1) a1) fun _ =>
  mbnd (gR 11 1 a0) fun (v7 : Nat) =>
  mbnd (stI 0 v7 (v2 + 2) a2) fun _ =>
  mbnd (gR 11 1 a0) fun (v8 : Nat) =>
  mbnd (stI 0 v8 (v2 + 3) a3) fun _ =>
  mbnd (gR 11 1 a0) fun (v9 : Nat) =>
  mbnd (mX12_of a0 v3 1) fun (v10 : Int32) =>
  mbnd (stI 0 v9 (v2 + 4) v10) fun _ =>
  mbnd (gR 11 1 a0) fun (v11 : Nat) =>
  mbnd (mX12_of a0 v3 2) fun (v12 : Int32) =>
  mbnd (stI 0 v11 (v2 + 5) (v12 / 10)) fun _ =>
  mbnd (gR 11 1 a0) fun (v13 : Nat) =>
  mbnd (mX12_partsIn a0 a1) fun (v14 : Int32) =>
  mbnd (stI 0 v13 (v2 + 6) v14) fun _ =>
  mbnd (gR 11 1 a0) fun (v15 : Nat) =>
  mbnd (ldI 0 v15 6) fun (v16 : Int32) =>
  mbnd (stI 0 v15 6 (v16 + 1)) fun _ =>
  mret ()
  )
theorem rcX12_isTrue (a0 : Nat) (a1 : Int32) (a2 : Int32) (a3 : Int32) : Rcv 11 a0 (mX12_isTrue a0 a1 a2 a3) := fun s r h => ⟨(onC_some h).1, (onC_some h).2.1⟩
set_option maxHeartbeats 4000000 in
set_option maxRecDepth 100000 in
theorem ctX12_isTrue (a0 : Nat) (a1 : Int32) (a2 : Int32) (a3 : Int32) : Ct aX12_isTrue [vr a0, vi a1, vi a2, vi a3] (mX12_isTrue a0 a1 a2 a3) rU := by
  unfold mX12_isTrue
  refine ct_onC (ct_intro (by decide +kernel) rfl (Nat.le_of_ble_eq_true rfl) fun Y s => ?_)
  refine r_sub (lv' := [(0, vr a0), (1, vi a1), (2, vi a2), (3, vi a3)]) [0, 1, 2, 3] rfl ?_
  refine r_p (pc' := 3) (p_sipush (n := 171) (v := 171) (by decide +kernel) (by decide +kernel)) ?_
  refine r_p (pc' := 5) (p_bipush (n := 7) (v := 7) (by decide +kernel) (by decide +kernel)) ?_
  refine r_p (pc' := 6) (p_aload_n 0 (k := 0) (by decide +kernel) rfl) ?_
  refine r_callVI mvX12_325 (ctX12_deeds a0) (rcX12_deeds a0) ⟨_, _, rfl⟩ (as := []) (st := [vi 7, vi 171]) rfl rfl (by decide +kernel) rfl (Nat.le_of_ble_eq_true rfl) (Nat.le_of_ble_eq_true rfl) fun v1 s => ?_
  refine r_p (pc' := 10) (p_imul (by decide +kernel)) ?_
  refine r_p (pc' := 11) (p_iadd (by decide +kernel)) ?_
  refine r_letI fun v2 => ?_
  refine r_p (pc' := 13) (p_istore (i := 4) (lv' := [(4, vi v2), (0, vr a0), (1, vi a1), (2, vi a2), (3, vi a3)]) (by decide +kernel) (Nat.le_of_ble_eq_true rfl) rfl) ?_
  refine r_p (pc' := 14) (p_aload_n 1 (k := 0) (by decide +kernel) rfl) ?_
  refine r_p (pc' := 15) (p_iload_n 2 (k := 1) (by decide +kernel) rfl) ?_
  refine r_p (pc' := 16) (p_iconst (n := 1) (v := 1) (by decide +kernel) rfl) ?_
  refine r_callVI mvX12_149 (ctX12_inTool a0 a1 1) (rcX12_inTool a0 a1 1) ⟨_, _, rfl⟩ (as := [vi a1, vi 1]) (st := []) rfl rfl (by decide +kernel) rfl (Nat.le_of_ble_eq_true rfl) (Nat.le_of_ble_eq_true rfl) fun v3 s => ?_
  refine r_p (pc' := 21) (p_istore (i := 5) (lv' := [(5, vi v3), (4, vi v2), (0, vr a0), (1, vi a1), (2, vi a2), (3, vi a3)]) (by decide +kernel) (Nat.le_of_ble_eq_true rfl) rfl) ?_
  refine r_p (pc' := 22) (p_aload_n 2 (k := 0) (by decide +kernel) rfl) ?_
  refine r_gR flX12_13_11 (by decide +kernel) fun v4 => ?_
  refine r_p (pc' := 27) (p_iload 1 (i := 4) (by decide +kernel) rfl) ?_
  refine r_p (pc' := 28) (p_iconst (n := 0) (v := 0) (by decide +kernel) rfl) ?_
  refine r_p (pc' := 29) (p_iadd (by decide +kernel)) ?_
  refine r_p (pc' := 30) (p_aload_n 2 (k := 0) (by decide +kernel) rfl) ?_
  refine r_callVI mvX12_281 (ctX12_today a0) (rcX12_today a0) ⟨_, _, rfl⟩ (as := []) (st := [vi (v2 + 0), vr v4]) rfl rfl (by decide +kernel) rfl (Nat.le_of_ble_eq_true rfl) (Nat.le_of_ble_eq_true rfl) fun v5 s => ?_
  refine r_stI0 (by decide +kernel) fun s => ?_
  refine r_p (pc' := 35) (p_aload_n 2 (k := 0) (by decide +kernel) rfl) ?_
  refine r_gR flX12_13_11 (by decide +kernel) fun v6 => ?_
  refine r_p (pc' := 40) (p_iload 1 (i := 4) (by decide +kernel) rfl) ?_
  refine r_p (pc' := 41) (p_iconst (n := 1) (v := 1) (by decide +kernel) rfl) ?_
  refine r_p (pc' := 42) (p_iadd (by decide +kernel)) ?_
  refine r_p (pc' := 43) (p_iload_n 3 (k := 1) (by decide +kernel) rfl) ?_
  refine r_stI0 (by decide +kernel) fun s => ?_
  refine r_p (pc' := 45) (p_aload_n 2 (k := 0) (by decide +kernel) rfl) ?_
  refine r_gR flX12_13_11 (by decide +kernel) fun v7 => ?_
  refine r_p (pc' := 50) (p_iload 1 (i := 4) (by decide +kernel) rfl) ?_
  refine r_p (pc' := 51) (p_iconst (n := 2) (v := 2) (by decide +kernel) rfl) ?_
  refine r_p (pc' := 52) (p_iadd (by decide +kernel)) ?_
  refine r_p (pc' := 53) (p_iload_n 4 (k := 2) (by decide +kernel) rfl) ?_
  refine r_stI0 (by decide +kernel) fun s => ?_
  refine r_p (pc' := 55) (p_aload_n 2 (k := 0) (by decide +kernel) rfl) ?_
  refine r_gR flX12_13_11 (by decide +kernel) fun v8 => ?_
  refine r_p (pc' := 60) (p_iload 1 (i := 4) (by decide +kernel) rfl) ?_
  refine r_p (pc' := 61) (p_iconst (n := 3) (v := 3) (by decide +kernel) rfl) ?_
  refine r_p (pc' := 62) (p_iadd (by decide +kernel)) ?_
  refine r_p (pc' := 63) (p_iload_n 5 (k := 3) (by decide +kernel) rfl) ?_
  refine r_stI0 (by decide +kernel) fun s => ?_
  refine r_p (pc' := 65) (p_aload_n 2 (k := 0) (by decide +kernel) rfl) ?_
  refine r_gR flX12_13_11 (by decide +kernel) fun v9 => ?_
  refine r_p (pc' := 70) (p_iload 1 (i := 4) (by decide +kernel) rfl) ?_
  refine r_p (pc' := 71) (p_iconst (n := 4) (v := 4) (by decide +kernel) rfl) ?_
  refine r_p (pc' := 72) (p_iadd (by decide +kernel)) ?_
  refine r_p (pc' := 73) (p_aload_n 2 (k := 0) (by decide +kernel) rfl) ?_
  refine r_p (pc' := 75) (p_iload 0 (i := 5) (by decide +kernel) rfl) ?_
  refine r_p (pc' := 76) (p_iconst (n := 1) (v := 1) (by decide +kernel) rfl) ?_
  refine r_callVI mvX12_65 (ctX12_of a0 v3 1) (rcX12_of a0 v3 1) ⟨_, _, rfl⟩ (as := [vi v3, vi 1]) (st := [vi (v2 + 4), vr v9]) rfl rfl (by decide +kernel) rfl (Nat.le_of_ble_eq_true rfl) (Nat.le_of_ble_eq_true rfl) fun v10 s => ?_
  refine r_stI0 (by decide +kernel) fun s => ?_
  refine r_p (pc' := 81) (p_aload_n 2 (k := 0) (by decide +kernel) rfl) ?_
  refine r_gR flX12_13_11 (by decide +kernel) fun v11 => ?_
  refine r_p (pc' := 86) (p_iload 1 (i := 4) (by decide +kernel) rfl) ?_
  refine r_p (pc' := 87) (p_iconst (n := 5) (v := 5) (by decide +kernel) rfl) ?_
  refine r_p (pc' := 88) (p_iadd (by decide +kernel)) ?_
  refine r_p (pc' := 89) (p_aload_n 2 (k := 0) (by decide +kernel) rfl) ?_
  refine r_p (pc' := 91) (p_iload 0 (i := 5) (by decide +kernel) rfl) ?_
  refine r_p (pc' := 92) (p_iconst (n := 2) (v := 2) (by decide +kernel) rfl) ?_
  refine r_callVI mvX12_65 (ctX12_of a0 v3 2) (rcX12_of a0 v3 2) ⟨_, _, rfl⟩ (as := [vi v3, vi 2]) (st := [vi (v2 + 5), vr v11]) rfl rfl (by decide +kernel) rfl (Nat.le_of_ble_eq_true rfl) (Nat.le_of_ble_eq_true rfl) fun v12 s => ?_
  refine r_p (pc' := 97) (p_bipush (n := 10) (v := 10) (by decide +kernel) (by decide +kernel)) ?_
  refine r_p (pc' := 98) (p_idiv (by decide +kernel) (by decide)) ?_
  refine r_stI0 (by decide +kernel) fun s => ?_
  refine r_p (pc' := 100) (p_aload_n 2 (k := 0) (by decide +kernel) rfl) ?_
  refine r_gR flX12_13_11 (by decide +kernel) fun v13 => ?_
  refine r_p (pc' := 105) (p_iload 1 (i := 4) (by decide +kernel) rfl) ?_
  refine r_p (pc' := 107) (p_bipush (n := 6) (v := 6) (by decide +kernel) (by decide +kernel)) ?_
  refine r_p (pc' := 108) (p_iadd (by decide +kernel)) ?_
  refine r_p (pc' := 109) (p_aload_n 2 (k := 0) (by decide +kernel) rfl) ?_
  refine r_p (pc' := 110) (p_iload_n 3 (k := 1) (by decide +kernel) rfl) ?_
  refine r_callVI mvX12_337 (ctX12_partsIn a0 a1) (rcX12_partsIn a0 a1) ⟨_, _, rfl⟩ (as := [vi a1]) (st := [vi (v2 + 6), vr v13]) rfl rfl (by decide +kernel) rfl (Nat.le_of_ble_eq_true rfl) (Nat.le_of_ble_eq_true rfl) fun v14 s => ?_
  refine r_stI0 (by decide +kernel) fun s => ?_
  refine r_p (pc' := 115) (p_aload_n 2 (k := 0) (by decide +kernel) rfl) ?_
  refine r_gR flX12_13_11 (by decide +kernel) fun v15 => ?_
  refine r_p (pc' := 120) (p_bipush (n := 6) (v := 6) (by decide +kernel) (by decide +kernel)) ?_
  refine r_p (pc' := 121) (p_dup2 rfl rfl (by decide +kernel)) ?_
  refine r_ldI0 (by decide +kernel) fun v16 => ?_
  refine r_p (pc' := 123) (p_iconst (n := 1) (v := 1) (by decide +kernel) rfl) ?_
  refine r_p (pc' := 124) (p_iadd (by decide +kernel)) ?_
  refine r_stI0 (by decide +kernel) fun s => ?_
  exact r_vret (y9 := ()) rfl rfl rfl (by decide +kernel)
def aX12_noHarm : StA := (RX12, cX12_noHarm, 2, some .boolean, yX12_noHarm, 9, [])
noncomputable def mX12_noHarm (a0 : Int32) (a1 : Int32) : MM Int32 :=
  mbnd (mX12_in a0 1 999) fun (v1 : Int32) =>
  if v1 = 0 then (
    mret 1
  ) else (
    mbnd (mX12_in a1 0 9) fun (v3 : Int32) =>
    if v3 = 0 then (
      mret 1
    ) else (
      mret 0
    )
  )
set_option maxHeartbeats 4000000 in
set_option maxRecDepth 100000 in
theorem ctX12_noHarm (a0 : Int32) (a1 : Int32) : Ct aX12_noHarm [vi a0, vi a1] (mX12_noHarm a0 a1) rI := by
  unfold mX12_noHarm
  refine ct_intro (by decide +kernel) rfl (Nat.le_of_ble_eq_true rfl) fun Y s => ?_
  refine r_sub (lv' := [(0, vi a0), (1, vi a1)]) [0, 1] rfl ?_
  refine r_p (pc' := 1) (p_iload_n 0 (k := 0) (by decide +kernel) rfl) ?_
  refine r_p (pc' := 2) (p_iconst (n := 1) (v := 1) (by decide +kernel) rfl) ?_
  refine r_p (pc' := 5) (p_sipush (n := 999) (v := 999) (by decide +kernel) (by decide +kernel)) ?_
  refine r_callSI msX12_72 (ctX12_in a0 1 999) (as := [vi a0, vi 1, vi 999]) (st := []) rfl rfl (by decide +kernel) rfl (Nat.le_of_ble_eq_true rfl) (Nat.le_of_ble_eq_true rfl) fun v1 s => ?_
  refine r_ifeq (off := 13) (tgt := 21) (by decide +kernel) (by decide) (fun h2 => ?_) (fun h2 => ?_)
  · refine r_p (pc' := 22) (p_iconst (n := 1) (v := 1) (by decide +kernel) rfl) ?_
    refine r_p (pc' := 26) (p_goto (off := 4) (tgt := 26) (by decide +kernel) (by decide)) ?_
    exact r_iret rfl rfl _ rfl rfl (by decide +kernel)
  · refine r_p (pc' := 12) (p_iload_n 1 (k := 1) (by decide +kernel) rfl) ?_
    refine r_p (pc' := 13) (p_iconst (n := 0) (v := 0) (by decide +kernel) rfl) ?_
    refine r_p (pc' := 15) (p_bipush (n := 9) (v := 9) (by decide +kernel) (by decide +kernel)) ?_
    refine r_callSI msX12_72 (ctX12_in a1 0 9) (as := [vi a1, vi 0, vi 9]) (st := []) rfl rfl (by decide +kernel) rfl (Nat.le_of_ble_eq_true rfl) (Nat.le_of_ble_eq_true rfl) fun v3 s => ?_
    refine r_ifne (off := 7) (tgt := 25) (by decide +kernel) (by decide) (fun h4 => ?_) (fun h4 => ?_)
    · refine r_p (pc' := 22) (p_iconst (n := 1) (v := 1) (by decide +kernel) rfl) ?_
      refine r_p (pc' := 26) (p_goto (off := 4) (tgt := 26) (by decide +kernel) (by decide)) ?_
      exact r_iret rfl rfl _ rfl rfl (by decide +kernel)
    · refine r_p (pc' := 26) (p_iconst (n := 0) (v := 0) (by decide +kernel) rfl) ?_
      exact r_iret rfl rfl _ rfl rfl (by decide +kernel)
def aX12_markNow : StA := (RX12, cX12_markNow, 3, some .int, yX12_markNow, 10, [])
noncomputable def mX12_markNow (a0 : Nat) (a1 : Int32) : MM Int32 := onC 11 a0 (
  mbnd (mX12_inTool a0 a1 1) fun (v1 : Int32) =>
  if 0 ≤ v1 then (
    mbnd (mX12_of a0 v1 1) fun (v3 : Int32) =>
    mbnd (mX12_of a0 v1 2) fun (v4 : Int32) =>
    mret ((10 * v3) + (v4 / 10))
  ) else (
    mret (-1)
  )
  )
theorem rcX12_markNow (a0 : Nat) (a1 : Int32) : Rcv 11 a0 (mX12_markNow a0 a1) := fun s r h => ⟨(onC_some h).1, (onC_some h).2.1⟩
set_option maxHeartbeats 4000000 in
set_option maxRecDepth 100000 in
theorem ctX12_markNow (a0 : Nat) (a1 : Int32) : Ct aX12_markNow [vr a0, vi a1] (mX12_markNow a0 a1) rI := by
  unfold mX12_markNow
  refine ct_onC (ct_intro (by decide +kernel) rfl (Nat.le_of_ble_eq_true rfl) fun Y s => ?_)
  refine r_sub (lv' := [(0, vr a0), (1, vi a1)]) [0, 1] rfl ?_
  refine r_p (pc' := 1) (p_aload_n 0 (k := 0) (by decide +kernel) rfl) ?_
  refine r_p (pc' := 2) (p_iload_n 1 (k := 1) (by decide +kernel) rfl) ?_
  refine r_p (pc' := 3) (p_iconst (n := 1) (v := 1) (by decide +kernel) rfl) ?_
  refine r_callVI mvX12_149 (ctX12_inTool a0 a1 1) (rcX12_inTool a0 a1 1) ⟨_, _, rfl⟩ (as := [vi a1, vi 1]) (st := []) rfl rfl (by decide +kernel) rfl (Nat.le_of_ble_eq_true rfl) (Nat.le_of_ble_eq_true rfl) fun v1 s => ?_
  refine r_p (pc' := 7) (p_istore_n (k := 2) (lv' := [(2, vi v1), (0, vr a0), (1, vi a1)]) (by decide +kernel) (Nat.le_of_ble_eq_true rfl) rfl) ?_
  refine r_p (pc' := 8) (p_iload_n 0 (k := 2) (by decide +kernel) rfl) ?_
  refine r_ifge (off := 7) (tgt := 15) (by decide +kernel) (by decide) (fun h2 => ?_) (fun h2 => ?_)
  · refine r_p (pc' := 17) (p_bipush (n := 10) (v := 10) (by decide +kernel) (by decide +kernel)) ?_
    refine r_p (pc' := 18) (p_aload_n 1 (k := 0) (by decide +kernel) rfl) ?_
    refine r_p (pc' := 19) (p_iload_n 0 (k := 2) (by decide +kernel) rfl) ?_
    refine r_p (pc' := 20) (p_iconst (n := 1) (v := 1) (by decide +kernel) rfl) ?_
    refine r_callVI mvX12_65 (ctX12_of a0 v1 1) (rcX12_of a0 v1 1) ⟨_, _, rfl⟩ (as := [vi v1, vi 1]) (st := [vi 10]) rfl rfl (by decide +kernel) rfl (Nat.le_of_ble_eq_true rfl) (Nat.le_of_ble_eq_true rfl) fun v3 s => ?_
    refine r_p (pc' := 24) (p_imul (by decide +kernel)) ?_
    refine r_p (pc' := 25) (p_aload_n 1 (k := 0) (by decide +kernel) rfl) ?_
    refine r_p (pc' := 26) (p_iload_n 0 (k := 2) (by decide +kernel) rfl) ?_
    refine r_p (pc' := 27) (p_iconst (n := 2) (v := 2) (by decide +kernel) rfl) ?_
    refine r_callVI mvX12_65 (ctX12_of a0 v1 2) (rcX12_of a0 v1 2) ⟨_, _, rfl⟩ (as := [vi v1, vi 2]) (st := [vi (10 * v3)]) rfl rfl (by decide +kernel) rfl (Nat.le_of_ble_eq_true rfl) (Nat.le_of_ble_eq_true rfl) fun v4 s => ?_
    refine r_p (pc' := 32) (p_bipush (n := 10) (v := 10) (by decide +kernel) (by decide +kernel)) ?_
    refine r_p (pc' := 33) (p_idiv (by decide +kernel) (by decide)) ?_
    refine r_p (pc' := 34) (p_iadd (by decide +kernel)) ?_
    exact r_iret rfl rfl _ rfl rfl (by decide +kernel)
  · refine r_p (pc' := 12) (p_iconst (n := -1) (v := -1) (by decide +kernel) rfl) ?_
    refine r_p (pc' := 34) (p_goto (off := 22) (tgt := 34) (by decide +kernel) (by decide)) ?_
    exact r_iret rfl rfl _ rfl rfl (by decide +kernel)
def aX12_deed : StA := (RX12, cX12_deed, 8, some .int, yX12_deed, 14, [])
theorem msX12_340 : MS RX12 340 aX12_noHarm 2 := ⟨tblG_of 2047 (by decide +kernel) (by decide +kernel), tblG_of 2048 (by decide +kernel) (by decide +kernel), tblG_of 157 (by decide +kernel) (by decide +kernel), tblG_of 2049 (by decide +kernel) (by decide +kernel), rfl, ⟨by decide, by decide⟩, by decide +kernel, by decide⟩
theorem mvX12_343 : MV RX12 343 aX12_remembers 0 := ⟨tblG_of 2050 (by decide +kernel) (by decide +kernel), tblG_of 2052 (by decide +kernel) (by decide +kernel), tblG_of 104 (by decide +kernel) (by decide +kernel), tblG_of 157 (by decide +kernel) (by decide +kernel), tblG_of 2053 (by decide +kernel) (by decide +kernel), rfl, ⟨by decide, by decide⟩, by decide +kernel, by decide⟩
theorem flX12_42_11 : FL RX12 42 11 21 := ⟨_, TX12, 27, "ToolCourtModel", rfl, by decide, Or.inl (tblG_of 1686 (by decide +kernel) (by decide +kernel)), Or.inl rfl⟩
theorem mvX12_346 : MV RX12 346 aX12_gain 1 := ⟨tblG_of 2054 (by decide +kernel) (by decide +kernel), tblG_of 2056 (by decide +kernel) (by decide +kernel), tblG_of 105 (by decide +kernel) (by decide +kernel), tblG_of 157 (by decide +kernel) (by decide +kernel), tblG_of 2057 (by decide +kernel) (by decide +kernel), rfl, ⟨by decide, by decide⟩, by decide +kernel, by decide⟩
theorem flX12_45_11 : FL RX12 45 11 22 := ⟨_, TX12, 27, "ToolCourtModel", rfl, by decide, Or.inl (tblG_of 1687 (by decide +kernel) (by decide +kernel)), Or.inl rfl⟩
theorem mvX12_349 : MV RX12 349 aX12_isTrue 3 := ⟨tblG_of 2058 (by decide +kernel) (by decide +kernel), tblG_of 2060 (by decide +kernel) (by decide +kernel), tblG_of 106 (by decide +kernel) (by decide +kernel), tblG_of 157 (by decide +kernel) (by decide +kernel), tblG_of 2061 (by decide +kernel) (by decide +kernel), rfl, ⟨by decide, by decide⟩, by decide +kernel, by decide⟩
theorem mvX12_352 : MV RX12 352 aX12_markNow 1 := ⟨tblG_of 2066 (by decide +kernel) (by decide +kernel), tblG_of 2068 (by decide +kernel) (by decide +kernel), tblG_of 108 (by decide +kernel) (by decide +kernel), tblG_of 157 (by decide +kernel) (by decide +kernel), tblG_of 2069 (by decide +kernel) (by decide +kernel), rfl, ⟨by decide, by decide⟩, by decide +kernel, by decide⟩
theorem mvX12_355 : MV RX12 355 aX12_tells 4 := ⟨tblG_of 2070 (by decide +kernel) (by decide +kernel), tblG_of 2072 (by decide +kernel) (by decide +kernel), tblG_of 109 (by decide +kernel) (by decide +kernel), tblG_of 157 (by decide +kernel) (by decide +kernel), tblG_of 2073 (by decide +kernel) (by decide +kernel), rfl, ⟨by decide, by decide⟩, by decide +kernel, by decide⟩
theorem mvX12_359 : MV RX12 359 aX12_wears 2 := ⟨tblG_of 2074 (by decide +kernel) (by decide +kernel), tblG_of 2076 (by decide +kernel) (by decide +kernel), tblG_of 110 (by decide +kernel) (by decide +kernel), tblG_of 157 (by decide +kernel) (by decide +kernel), tblG_of 2077 (by decide +kernel) (by decide +kernel), rfl, ⟨by decide, by decide⟩, by decide +kernel, by decide⟩
noncomputable def mX12_deed_L109 (a0 : Nat) (a1 : Int32) (a4 : Int32) (x27 : Int32) : MM ((Int32) ⊕ (Unit)) :=
  if 3 ≤ x27 then (
    mret (.inr ())
  ) else (
    mbnd (mX12_inTool a0 a1 x27) fun (v32 : Int32) =>
    mbnd (gR 11 21 a0) fun (v33 : Nat) =>
    mbnd (α := Int32) (
      if 0 ≤ v32 then (
        mbnd (mX12_gain a0 v32) fun (v38 : Int32) =>
        mret v38
      ) else (
        mret 0
      )
    ) fun (x35 : Int32) =>
    mbnd (stI 0 v33 x27 x35) fun _ =>
    mbnd (gR 11 22 a0) fun (v39 : Nat) =>
    mbnd (α := Int32) (
      if 0 ≤ v32 then (
        mbnd (mX12_says a0 3 v32) fun (v44 : Int32) =>
        mbnd (α := Int32) (
          if x27 = 1 then (
            mret a4
          ) else (
            mret 0
          )
        ) fun (x46 : Int32) =>
        mret (v44 + x46)
      ) else (
        mret 0
      )
    ) fun (x41 : Int32) =>
    mbnd (stI 0 v39 x27 x41) fun _ =>
    mret (.inl (x27 + 1))
  )
noncomputable def mX12_deed_L205 (a0 : Nat) (a1 : Int32) (x51 : Int32) : MM ((Int32) ⊕ (Unit)) :=
  if 3 ≤ x51 then (
    mret (.inr ())
  ) else (
    mbnd (mX12_inTool a0 a1 x51) fun (v56 : Int32) =>
    mbnd (α := Unit) (
      if 0 ≤ v56 then (
        mbnd (gR 11 1 a0) fun (v61 : Nat) =>
        mbnd (mX12_partAt v56 3) fun (v62 : Int32) =>
        mbnd (ldI 0 v61 v62) fun (v63 : Int32) =>
        mbnd (gR 11 21 a0) fun (v64 : Nat) =>
        mbnd (ldI 0 v64 x51) fun (v65 : Int32) =>
        mbnd (stI 0 v61 v62 (v63 + v65)) fun _ =>
        mbnd (gR 11 21 a0) fun (v66 : Nat) =>
        mbnd (ldI 0 v66 x51) fun (v67 : Int32) =>
        mbnd (mX12_deeds a0) fun (v68 : Int32) =>
        mbnd (mX12_tells a0 v56 v67 (v68 - 1) (-1)) fun _ =>
        mbnd (gR 11 22 a0) fun (v69 : Nat) =>
        mbnd (ldI 0 v69 x51) fun (v70 : Int32) =>
        mbnd (mX12_wears a0 v56 v70) fun _ =>
        mret ()
      ) else (
        mret ()
      )
    ) fun (x58 : Unit) =>
    mret (.inl (x51 + 1))
  )
noncomputable def mX12_deed (a0 : Nat) (a1 : Int32) (a2 : Int32) (a3 : Int32) (a4 : Int32) : MM Int32 := onC 11 a0 (
  mbnd (pI 11 0 a0 0) fun _ =>
  mbnd (mX12_noTool a0 a1) fun (v1 : Int32) =>
  mbnd (α := Int32) (
    if v1 = 0 then (
      mbnd (mX12_noMaster a0 a2) fun (v6 : Int32) =>
      if v6 = 0 then (
        mret 0
      ) else (
        mret 1
      )
    ) else (
      mret 1
    )
  ) fun (x3 : Int32) =>
  mbnd (mX12_throwsIf a0 x3 1) fun (v8 : Int32) =>
  if v8 = 0 then (
    mbnd (mX12_noHarm a3 a4) fun (v10 : Int32) =>
    mbnd (mX12_throwsIf a0 v10 2) fun (v11 : Int32) =>
    if v11 = 0 then (
      mbnd (mX12_inTool a0 a1 1) fun (v13 : Int32) =>
      mbnd (α := Int32) (
        if 0 ≤ v13 then (
          mret 0
        ) else (
          mret 1
        )
      ) fun (x15 : Int32) =>
      mbnd (mX12_throwsIf a0 x15 3) fun (v18 : Int32) =>
      if v18 = 0 then (
        mbnd (mX12_deeds a0) fun (v20 : Int32) =>
        mbnd (α := Int32) (
          if v20 = 60 then (
            mret 1
          ) else (
            mret 0
          )
        ) fun (x22 : Int32) =>
        mbnd (mX12_throwsIf a0 x22 4) fun (v25 : Int32) =>
        if v25 = 0 then (
          mbnd (mX12_remembers a0) fun _ =>
          mbnd (mX12_ofDeed a0 a2 a3 a4) fun _ =>
          mbnd (loopM (mX12_deed_L109 a0 a1 a4) 0) fun (e49 : Unit) =>
          mbnd (mX12_isTrue a0 a1 a2 a3) fun _ =>
          mbnd (mX12_markNow a0 a1) fun (v50 : Int32) =>
          mbnd (loopM (mX12_deed_L205 a0 a1) 0) fun (e71 : Unit) =>
          mret v50
        ) else (
          mret 0
        )
      ) else (
        mret 0
      )
    ) else (
      mret 0
    )
  ) else (
    mret 0
  )
  )
theorem rcX12_deed (a0 : Nat) (a1 : Int32) (a2 : Int32) (a3 : Int32) (a4 : Int32) : Rcv 11 a0 (mX12_deed a0 a1 a2 a3 a4) := fun s r h => ⟨(onC_some h).1, (onC_some h).2.1⟩
set_option maxHeartbeats 4000000 in
set_option maxRecDepth 100000 in
theorem ctX12_deed (a0 : Nat) (a1 : Int32) (a2 : Int32) (a3 : Int32) (a4 : Int32) : Ct aX12_deed [vr a0, vi a1, vi a2, vi a3, vi a4] (mX12_deed a0 a1 a2 a3 a4) rI := by
  unfold mX12_deed
  refine ct_onC (ct_intro (by decide +kernel) rfl (Nat.le_of_ble_eq_true rfl) fun Y s => ?_)
  refine r_sub (lv' := [(0, vr a0), (1, vi a1), (2, vi a2), (3, vi a3), (4, vi a4)]) [0, 1, 2, 3, 4] rfl ?_
  refine r_p (pc' := 1) (p_aload_n 0 (k := 0) (by decide +kernel) rfl) ?_
  refine r_p (pc' := 2) (p_iconst (n := 0) (v := 0) (by decide +kernel) rfl) ?_
  refine r_pI fpX12_3_11 (fun h => by cases h) (by decide +kernel) fun s => ?_
  refine r_p (pc' := 6) (p_aload_n 0 (k := 0) (by decide +kernel) rfl) ?_
  refine r_p (pc' := 7) (p_aload_n 0 (k := 0) (by decide +kernel) rfl) ?_
  refine r_p (pc' := 8) (p_iload_n 1 (k := 1) (by decide +kernel) rfl) ?_
  refine r_callVI mvX12_319 (ctX12_noTool a0 a1) (rcX12_noTool a0 a1) ⟨_, _, rfl⟩ (as := [vi a1]) (st := [vr a0]) rfl rfl (by decide +kernel) rfl (Nat.le_of_ble_eq_true rfl) (Nat.le_of_ble_eq_true rfl) fun v1 s => ?_
  refine r_join 27 (fun (x3 : Int32) => [(0, vr a0), (1, vi a1), (2, vi a2), (3, vi a3), (4, vi a4)]) (fun (x3 : Int32) => [vi x3, vr a0]) (fun x3 s => ?_) (fun K4 hj5 => ?_)
  · refine r_p (pc' := 28) (p_iconst (n := 1) (v := 1) (by decide +kernel) rfl) ?_
    refine r_callVI mvX12_265 (ctX12_throwsIf a0 x3 1) (rcX12_throwsIf a0 x3 1) ⟨_, _, rfl⟩ (as := [vi x3, vi 1]) (st := []) rfl rfl (by decide +kernel) rfl (Nat.le_of_ble_eq_true rfl) (Nat.le_of_ble_eq_true rfl) fun v8 s => ?_
    refine r_ifne (off := 61) (tgt := 92) (by decide +kernel) (by decide) (fun h9 => ?_) (fun h9 => ?_)
    · refine r_p (pc' := 35) (p_aload_n 0 (k := 0) (by decide +kernel) rfl) ?_
      refine r_p (pc' := 36) (p_iload_n 3 (k := 3) (by decide +kernel) rfl) ?_
      refine r_p (pc' := 38) (p_iload 4 (i := 4) (by decide +kernel) rfl) ?_
      refine r_callSI msX12_340 (ctX12_noHarm a3 a4) (as := [vi a3, vi a4]) (st := [vr a0]) rfl rfl (by decide +kernel) rfl (Nat.le_of_ble_eq_true rfl) (Nat.le_of_ble_eq_true rfl) fun v10 s => ?_
      refine r_p (pc' := 42) (p_iconst (n := 2) (v := 2) (by decide +kernel) rfl) ?_
      refine r_callVI mvX12_265 (ctX12_throwsIf a0 v10 2) (rcX12_throwsIf a0 v10 2) ⟨_, _, rfl⟩ (as := [vi v10, vi 2]) (st := []) rfl rfl (by decide +kernel) rfl (Nat.le_of_ble_eq_true rfl) (Nat.le_of_ble_eq_true rfl) fun v11 s => ?_
      refine r_ifne (off := 47) (tgt := 92) (by decide +kernel) (by decide) (fun h12 => ?_) (fun h12 => ?_)
      · refine r_p (pc' := 49) (p_aload_n 0 (k := 0) (by decide +kernel) rfl) ?_
        refine r_p (pc' := 50) (p_aload_n 0 (k := 0) (by decide +kernel) rfl) ?_
        refine r_p (pc' := 51) (p_iload_n 1 (k := 1) (by decide +kernel) rfl) ?_
        refine r_p (pc' := 52) (p_iconst (n := 1) (v := 1) (by decide +kernel) rfl) ?_
        refine r_callVI mvX12_149 (ctX12_inTool a0 a1 1) (rcX12_inTool a0 a1 1) ⟨_, _, rfl⟩ (as := [vi a1, vi 1]) (st := [vr a0]) rfl rfl (by decide +kernel) rfl (Nat.le_of_ble_eq_true rfl) (Nat.le_of_ble_eq_true rfl) fun v13 s => ?_
        refine r_join 63 (fun (x15 : Int32) => [(0, vr a0), (1, vi a1), (2, vi a2), (3, vi a3), (4, vi a4)]) (fun (x15 : Int32) => [vi x15, vr a0]) (fun x15 s => ?_) (fun K16 hj17 => ?_)
        · refine r_p (pc' := 64) (p_iconst (n := 3) (v := 3) (by decide +kernel) rfl) ?_
          refine r_callVI mvX12_265 (ctX12_throwsIf a0 x15 3) (rcX12_throwsIf a0 x15 3) ⟨_, _, rfl⟩ (as := [vi x15, vi 3]) (st := []) rfl rfl (by decide +kernel) rfl (Nat.le_of_ble_eq_true rfl) (Nat.le_of_ble_eq_true rfl) fun v18 s => ?_
          refine r_ifne (off := 25) (tgt := 92) (by decide +kernel) (by decide) (fun h19 => ?_) (fun h19 => ?_)
          · refine r_p (pc' := 71) (p_aload_n 0 (k := 0) (by decide +kernel) rfl) ?_
            refine r_p (pc' := 72) (p_aload_n 0 (k := 0) (by decide +kernel) rfl) ?_
            refine r_callVI mvX12_325 (ctX12_deeds a0) (rcX12_deeds a0) ⟨_, _, rfl⟩ (as := []) (st := [vr a0]) rfl rfl (by decide +kernel) rfl (Nat.le_of_ble_eq_true rfl) (Nat.le_of_ble_eq_true rfl) fun v20 s => ?_
            refine r_p (pc' := 77) (p_bipush (n := 60) (v := 60) (by decide +kernel) (by decide +kernel)) ?_
            refine r_join 85 (fun (x22 : Int32) => [(0, vr a0), (1, vi a1), (2, vi a2), (3, vi a3), (4, vi a4)]) (fun (x22 : Int32) => [vi x22, vr a0]) (fun x22 s => ?_) (fun K23 hj24 => ?_)
            · refine r_p (pc' := 86) (p_iconst (n := 4) (v := 4) (by decide +kernel) rfl) ?_
              refine r_callVI mvX12_265 (ctX12_throwsIf a0 x22 4) (rcX12_throwsIf a0 x22 4) ⟨_, _, rfl⟩ (as := [vi x22, vi 4]) (st := []) rfl rfl (by decide +kernel) rfl (Nat.le_of_ble_eq_true rfl) (Nat.le_of_ble_eq_true rfl) fun v25 s => ?_
              refine r_ifeq (off := 5) (tgt := 94) (by decide +kernel) (by decide) (fun h26 => ?_) (fun h26 => ?_)
              · refine r_p (pc' := 95) (p_aload_n 0 (k := 0) (by decide +kernel) rfl) ?_
                refine r_callVU mvX12_343 (ctX12_remembers a0) (rcX12_remembers a0) ⟨_, _, rfl⟩ (as := []) (st := []) rfl rfl (by decide +kernel) rfl (Nat.le_of_ble_eq_true rfl) (Nat.le_of_ble_eq_true rfl) fun s => ?_
                refine r_p (pc' := 99) (p_aload_n 0 (k := 0) (by decide +kernel) rfl) ?_
                refine r_p (pc' := 100) (p_iload_n 2 (k := 2) (by decide +kernel) rfl) ?_
                refine r_p (pc' := 101) (p_iload_n 3 (k := 3) (by decide +kernel) rfl) ?_
                refine r_p (pc' := 103) (p_iload 4 (i := 4) (by decide +kernel) rfl) ?_
                refine r_callVU mvX12_268 (ctX12_ofDeed a0 a2 a3 a4) (rcX12_ofDeed a0 a2 a3 a4) ⟨_, _, rfl⟩ (as := [vi a2, vi a3, vi a4]) (st := []) rfl rfl (by decide +kernel) rfl (Nat.le_of_ble_eq_true rfl) (Nat.le_of_ble_eq_true rfl) fun s => ?_
                refine r_p (pc' := 107) (p_iconst (n := 0) (v := 0) (by decide +kernel) rfl) ?_
                refine r_p (pc' := 109) (p_istore (i := 5) (lv' := [(5, vi 0), (0, vr a0), (1, vi a1), (2, vi a2), (3, vi a3), (4, vi a4)]) (by decide +kernel) (Nat.le_of_ble_eq_true rfl) rfl) ?_
                refine r_sub (lv' := [(0, vr a0), (1, vi a1), (2, vi a2), (3, vi a3), (4, vi a4), (5, vi 0)]) [1, 2, 3, 4, 5, 0] rfl ?_
                refine r_loop2 (fun _ => 188) (fun (e49 : Unit) => [(0, vr a0), (1, vi a1), (2, vi a2), (3, vi a3)]) (fun (x27 : Int32) => [(0, vr a0), (1, vi a1), (2, vi a2), (3, vi a3), (4, vi a4), (5, vi x27)]) (fun e49 s => ?_) (fun K28 hb29 he30 x27 s => ?_) 0 _
                · refine r_p (pc' := 189) (p_aload_n 0 (k := 0) (by decide +kernel) rfl) ?_
                  refine r_p (pc' := 190) (p_iload_n 1 (k := 1) (by decide +kernel) rfl) ?_
                  refine r_p (pc' := 191) (p_iload_n 2 (k := 2) (by decide +kernel) rfl) ?_
                  refine r_p (pc' := 192) (p_iload_n 3 (k := 3) (by decide +kernel) rfl) ?_
                  refine r_callVU mvX12_349 (ctX12_isTrue a0 a1 a2 a3) (rcX12_isTrue a0 a1 a2 a3) ⟨_, _, rfl⟩ (as := [vi a1, vi a2, vi a3]) (st := []) rfl rfl (by decide +kernel) rfl (Nat.le_of_ble_eq_true rfl) (Nat.le_of_ble_eq_true rfl) fun s => ?_
                  refine r_p (pc' := 196) (p_aload_n 0 (k := 0) (by decide +kernel) rfl) ?_
                  refine r_p (pc' := 197) (p_iload_n 1 (k := 1) (by decide +kernel) rfl) ?_
                  refine r_callVI mvX12_352 (ctX12_markNow a0 a1) (rcX12_markNow a0 a1) ⟨_, _, rfl⟩ (as := [vi a1]) (st := []) rfl rfl (by decide +kernel) rfl (Nat.le_of_ble_eq_true rfl) (Nat.le_of_ble_eq_true rfl) fun v50 s => ?_
                  refine r_p (pc' := 202) (p_istore (i := 5) (lv' := [(5, vi v50), (0, vr a0), (1, vi a1), (2, vi a2), (3, vi a3)]) (by decide +kernel) (Nat.le_of_ble_eq_true rfl) rfl) ?_
                  refine r_p (pc' := 203) (p_iconst (n := 0) (v := 0) (by decide +kernel) rfl) ?_
                  refine r_p (pc' := 205) (p_istore (i := 6) (lv' := [(6, vi 0), (5, vi v50), (0, vr a0), (1, vi a1), (2, vi a2), (3, vi a3)]) (by decide +kernel) (Nat.le_of_ble_eq_true rfl) rfl) ?_
                  refine r_sub (lv' := [(0, vr a0), (1, vi a1), (5, vi v50), (6, vi 0)]) [2, 3, 1, 0] rfl ?_
                  refine r_loop2 (fun _ => 288) (fun (e71 : Unit) => [(5, vi v50)]) (fun (x51 : Int32) => [(0, vr a0), (1, vi a1), (5, vi v50), (6, vi x51)]) (fun e71 s => ?_) (fun K52 hb53 he54 x51 s => ?_) 0 _
                  · refine r_p (pc' := 290) (p_iload 0 (i := 5) (by decide +kernel) rfl) ?_
                    exact r_iret rfl rfl _ rfl rfl (by decide +kernel)
                  · unfold mX12_deed_L205
                    refine r_p (pc' := 207) (p_iload 3 (i := 6) (by decide +kernel) rfl) ?_
                    refine r_p (pc' := 208) (p_iconst (n := 3) (v := 3) (by decide +kernel) rfl) ?_
                    refine r_icmpge (off := 80) (tgt := 288) (by decide +kernel) (by decide) (fun h55 => ?_) (fun h55 => ?_)
                    · refine r_sub (lv' := [(5, vi v50)]) [2] rfl ?_
                      exact he54 () _
                    · refine r_p (pc' := 212) (p_aload_n 0 (k := 0) (by decide +kernel) rfl) ?_
                      refine r_p (pc' := 213) (p_iload_n 1 (k := 1) (by decide +kernel) rfl) ?_
                      refine r_p (pc' := 215) (p_iload 3 (i := 6) (by decide +kernel) rfl) ?_
                      refine r_callVI mvX12_149 (ctX12_inTool a0 a1 x51) (rcX12_inTool a0 a1 x51) ⟨_, _, rfl⟩ (as := [vi a1, vi x51]) (st := []) rfl rfl (by decide +kernel) rfl (Nat.le_of_ble_eq_true rfl) (Nat.le_of_ble_eq_true rfl) fun v56 s => ?_
                      refine r_p (pc' := 220) (p_istore (i := 7) (lv' := [(7, vi v56), (0, vr a0), (1, vi a1), (5, vi v50), (6, vi x51)]) (by decide +kernel) (Nat.le_of_ble_eq_true rfl) rfl) ?_
                      refine r_p (pc' := 222) (p_iload 0 (i := 7) (by decide +kernel) rfl) ?_
                      refine r_join 282 (fun (x58 : Unit) => [(0, vr a0), (1, vi a1), (5, vi v50), (6, vi x51)]) (fun (x58 : Unit) => []) (fun x58 s => ?_) (fun K59 hj60 => ?_)
                      · refine r_p (pc' := 285) (p_iinc 3 (i := 6) (n := 1) (x := x51) (v := x51 + 1) (lv' := [(6, vi (x51 + 1)), (0, vr a0), (1, vi a1), (5, vi v50)]) (by decide +kernel) rfl rfl (Nat.le_of_ble_eq_true rfl) rfl) ?_
                        refine r_p (pc' := 205) (p_goto (off := -80) (tgt := 205) (by decide +kernel) (by decide)) ?_
                        refine r_sub (lv' := [(0, vr a0), (1, vi a1), (5, vi v50), (6, vi (x51 + 1))]) [1, 2, 3, 0] rfl ?_
                        exact hb53 (x51 + 1) _
                      · refine r_ifge (off := 6) (tgt := 228) (by decide +kernel) (by decide) (fun h57 => ?_) (fun h57 => ?_)
                        · refine r_p (pc' := 229) (p_aload_n 1 (k := 0) (by decide +kernel) rfl) ?_
                          refine r_gR flX12_13_11 (by decide +kernel) fun v61 => ?_
                          refine r_p (pc' := 234) (p_iload 0 (i := 7) (by decide +kernel) rfl) ?_
                          refine r_p (pc' := 235) (p_iconst (n := 3) (v := 3) (by decide +kernel) rfl) ?_
                          refine r_callSI msX12_61 (ctX12_partAt v56 3) (as := [vi v56, vi 3]) (st := [vr v61]) rfl rfl (by decide +kernel) rfl (Nat.le_of_ble_eq_true rfl) (Nat.le_of_ble_eq_true rfl) fun v62 s => ?_
                          refine r_p (pc' := 239) (p_dup2 rfl rfl (by decide +kernel)) ?_
                          refine r_ldI0 (by decide +kernel) fun v63 => ?_
                          refine r_p (pc' := 241) (p_aload_n 1 (k := 0) (by decide +kernel) rfl) ?_
                          refine r_gR flX12_42_11 (by decide +kernel) fun v64 => ?_
                          refine r_p (pc' := 246) (p_iload 4 (i := 6) (by decide +kernel) rfl) ?_
                          refine r_ldI0 (by decide +kernel) fun v65 => ?_
                          refine r_p (pc' := 248) (p_iadd (by decide +kernel)) ?_
                          refine r_stI0 (by decide +kernel) fun s => ?_
                          refine r_p (pc' := 250) (p_aload_n 1 (k := 0) (by decide +kernel) rfl) ?_
                          refine r_p (pc' := 252) (p_iload 0 (i := 7) (by decide +kernel) rfl) ?_
                          refine r_p (pc' := 253) (p_aload_n 1 (k := 0) (by decide +kernel) rfl) ?_
                          refine r_gR flX12_42_11 (by decide +kernel) fun v66 => ?_
                          refine r_p (pc' := 258) (p_iload 4 (i := 6) (by decide +kernel) rfl) ?_
                          refine r_ldI0 (by decide +kernel) fun v67 => ?_
                          refine r_p (pc' := 260) (p_aload_n 1 (k := 0) (by decide +kernel) rfl) ?_
                          refine r_callVI mvX12_325 (ctX12_deeds a0) (rcX12_deeds a0) ⟨_, _, rfl⟩ (as := []) (st := [vi v67, vi v56, vr a0]) rfl rfl (by decide +kernel) rfl (Nat.le_of_ble_eq_true rfl) (Nat.le_of_ble_eq_true rfl) fun v68 s => ?_
                          refine r_p (pc' := 264) (p_iconst (n := 1) (v := 1) (by decide +kernel) rfl) ?_
                          refine r_p (pc' := 265) (p_isub (by decide +kernel)) ?_
                          refine r_p (pc' := 266) (p_iconst (n := -1) (v := -1) (by decide +kernel) rfl) ?_
                          refine r_callVU mvX12_355 (ctX12_tells a0 v56 v67 (v68 - 1) (-1)) (rcX12_tells a0 v56 v67 (v68 - 1) (-1)) ⟨_, _, rfl⟩ (as := [vi v56, vi v67, vi (v68 - 1), vi (-1)]) (st := []) rfl rfl (by decide +kernel) rfl (Nat.le_of_ble_eq_true rfl) (Nat.le_of_ble_eq_true rfl) fun s => ?_
                          refine r_p (pc' := 270) (p_aload_n 1 (k := 0) (by decide +kernel) rfl) ?_
                          refine r_p (pc' := 272) (p_iload 0 (i := 7) (by decide +kernel) rfl) ?_
                          refine r_p (pc' := 273) (p_aload_n 1 (k := 0) (by decide +kernel) rfl) ?_
                          refine r_gR flX12_45_11 (by decide +kernel) fun v69 => ?_
                          refine r_p (pc' := 278) (p_iload 4 (i := 6) (by decide +kernel) rfl) ?_
                          refine r_ldI0 (by decide +kernel) fun v70 => ?_
                          refine r_callVU mvX12_359 (ctX12_wears a0 v56 v70) (rcX12_wears a0 v56 v70) ⟨_, _, rfl⟩ (as := [vi v56, vi v70]) (st := []) rfl rfl (by decide +kernel) rfl (Nat.le_of_ble_eq_true rfl) (Nat.le_of_ble_eq_true rfl) fun s => ?_
                          refine r_sub (lv' := [(0, vr a0), (1, vi a1), (5, vi v50), (6, vi x51)]) [1, 2, 3, 4] rfl ?_
                          exact hj60 () _
                        · refine r_p (pc' := 282) (p_goto (off := 57) (tgt := 282) (by decide +kernel) (by decide)) ?_
                          refine r_sub (lv' := [(0, vr a0), (1, vi a1), (5, vi v50), (6, vi x51)]) [1, 2, 3, 4] rfl ?_
                          exact hj60 () _
                · unfold mX12_deed_L109
                  refine r_p (pc' := 111) (p_iload 5 (i := 5) (by decide +kernel) rfl) ?_
                  refine r_p (pc' := 112) (p_iconst (n := 3) (v := 3) (by decide +kernel) rfl) ?_
                  refine r_icmpge (off := 76) (tgt := 188) (by decide +kernel) (by decide) (fun h31 => ?_) (fun h31 => ?_)
                  · refine r_sub (lv' := [(0, vr a0), (1, vi a1), (2, vi a2), (3, vi a3)]) [0, 1, 2, 3] rfl ?_
                    exact he30 () _
                  · refine r_p (pc' := 116) (p_aload_n 0 (k := 0) (by decide +kernel) rfl) ?_
                    refine r_p (pc' := 117) (p_iload_n 1 (k := 1) (by decide +kernel) rfl) ?_
                    refine r_p (pc' := 119) (p_iload 5 (i := 5) (by decide +kernel) rfl) ?_
                    refine r_callVI mvX12_149 (ctX12_inTool a0 a1 x27) (rcX12_inTool a0 a1 x27) ⟨_, _, rfl⟩ (as := [vi a1, vi x27]) (st := []) rfl rfl (by decide +kernel) rfl (Nat.le_of_ble_eq_true rfl) (Nat.le_of_ble_eq_true rfl) fun v32 s => ?_
                    refine r_p (pc' := 124) (p_istore (i := 6) (lv' := [(6, vi v32), (0, vr a0), (1, vi a1), (2, vi a2), (3, vi a3), (4, vi a4), (5, vi x27)]) (by decide +kernel) (Nat.le_of_ble_eq_true rfl) rfl) ?_
                    refine r_p (pc' := 125) (p_aload_n 1 (k := 0) (by decide +kernel) rfl) ?_
                    refine r_gR flX12_42_11 (by decide +kernel) fun v33 => ?_
                    refine r_p (pc' := 130) (p_iload 6 (i := 5) (by decide +kernel) rfl) ?_
                    refine r_p (pc' := 132) (p_iload 0 (i := 6) (by decide +kernel) rfl) ?_
                    refine r_join 145 (fun (x35 : Int32) => [(0, vr a0), (1, vi a1), (2, vi a2), (3, vi a3), (4, vi a4), (5, vi x27), (6, vi v32)]) (fun (x35 : Int32) => [vi x35, vi x27, vr v33]) (fun x35 s => ?_) (fun K36 hj37 => ?_)
                    · refine r_stI0 (by decide +kernel) fun s => ?_
                      refine r_p (pc' := 147) (p_aload_n 0 (k := 0) (by decide +kernel) rfl) ?_
                      refine r_gR flX12_45_11 (by decide +kernel) fun v39 => ?_
                      refine r_p (pc' := 152) (p_iload 5 (i := 5) (by decide +kernel) rfl) ?_
                      refine r_p (pc' := 154) (p_iload 6 (i := 6) (by decide +kernel) rfl) ?_
                      refine r_join 181 (fun (x41 : Int32) => [(0, vr a0), (1, vi a1), (2, vi a2), (3, vi a3), (4, vi a4), (5, vi x27)]) (fun (x41 : Int32) => [vi x41, vi x27, vr v39]) (fun x41 s => ?_) (fun K42 hj43 => ?_)
                      · refine r_stI0 (by decide +kernel) fun s => ?_
                        refine r_p (pc' := 185) (p_iinc 5 (i := 5) (n := 1) (x := x27) (v := x27 + 1) (lv' := [(5, vi (x27 + 1)), (0, vr a0), (1, vi a1), (2, vi a2), (3, vi a3), (4, vi a4)]) (by decide +kernel) rfl rfl (Nat.le_of_ble_eq_true rfl) rfl) ?_
                        refine r_p (pc' := 109) (p_goto (off := -76) (tgt := 109) (by decide +kernel) (by decide)) ?_
                        refine r_sub (lv' := [(0, vr a0), (1, vi a1), (2, vi a2), (3, vi a3), (4, vi a4), (5, vi (x27 + 1))]) [1, 2, 3, 4, 5, 0] rfl ?_
                        exact hb29 (x27 + 1) _
                      · refine r_ifge (off := 7) (tgt := 161) (by decide +kernel) (by decide) (fun h40 => ?_) (fun h40 => ?_)
                        · refine r_p (pc' := 162) (p_aload_n 0 (k := 0) (by decide +kernel) rfl) ?_
                          refine r_p (pc' := 163) (p_iconst (n := 3) (v := 3) (by decide +kernel) rfl) ?_
                          refine r_p (pc' := 165) (p_iload 6 (i := 6) (by decide +kernel) rfl) ?_
                          refine r_callVI mvX12_301 (ctX12_says a0 3 v32) (rcX12_says a0 3 v32) ⟨_, _, rfl⟩ (as := [vi 3, vi v32]) (st := [vi x27, vr v39]) rfl rfl (by decide +kernel) rfl (Nat.le_of_ble_eq_true rfl) (Nat.le_of_ble_eq_true rfl) fun v44 s => ?_
                          refine r_p (pc' := 170) (p_iload 5 (i := 5) (by decide +kernel) rfl) ?_
                          refine r_p (pc' := 171) (p_iconst (n := 1) (v := 1) (by decide +kernel) rfl) ?_
                          refine r_join 180 (fun (x46 : Int32) => [(0, vr a0), (1, vi a1), (2, vi a2), (3, vi a3), (4, vi a4), (5, vi x27)]) (fun (x46 : Int32) => [vi x46, vi v44, vi x27, vr v39]) (fun x46 s => ?_) (fun K47 hj48 => ?_)
                          · refine r_p (pc' := 181) (p_iadd (by decide +kernel)) ?_
                            exact hj43 (v44 + x46) _
                          · refine r_icmpne (off := 8) (tgt := 179) (by decide +kernel) (by decide) (fun h45 => ?_) (fun h45 => ?_)
                            · refine r_p (pc' := 176) (p_iload 4 (i := 4) (by decide +kernel) rfl) ?_
                              refine r_p (pc' := 180) (p_goto (off := 4) (tgt := 180) (by decide +kernel) (by decide)) ?_
                              refine r_sub (lv' := [(0, vr a0), (1, vi a1), (2, vi a2), (3, vi a3), (4, vi a4), (5, vi x27)]) [0, 1, 2, 3, 4, 5] rfl ?_
                              exact hj48 a4 _
                            · refine r_p (pc' := 180) (p_iconst (n := 0) (v := 0) (by decide +kernel) rfl) ?_
                              refine r_sub (lv' := [(0, vr a0), (1, vi a1), (2, vi a2), (3, vi a3), (4, vi a4), (5, vi x27)]) [0, 1, 2, 3, 4, 5] rfl ?_
                              exact hj48 0 _
                        · refine r_p (pc' := 158) (p_iconst (n := 0) (v := 0) (by decide +kernel) rfl) ?_
                          refine r_p (pc' := 181) (p_goto (off := 23) (tgt := 181) (by decide +kernel) (by decide)) ?_
                          refine r_sub (lv' := [(0, vr a0), (1, vi a1), (2, vi a2), (3, vi a3), (4, vi a4), (5, vi x27)]) [0, 1, 2, 3, 4, 5] rfl ?_
                          exact hj43 0 _
                    · refine r_ifge (off := 7) (tgt := 139) (by decide +kernel) (by decide) (fun h34 => ?_) (fun h34 => ?_)
                      · refine r_p (pc' := 140) (p_aload_n 1 (k := 0) (by decide +kernel) rfl) ?_
                        refine r_p (pc' := 142) (p_iload 0 (i := 6) (by decide +kernel) rfl) ?_
                        refine r_callVI mvX12_346 (ctX12_gain a0 v32) (rcX12_gain a0 v32) ⟨_, _, rfl⟩ (as := [vi v32]) (st := [vi x27, vr v33]) rfl rfl (by decide +kernel) rfl (Nat.le_of_ble_eq_true rfl) (Nat.le_of_ble_eq_true rfl) fun v38 s => ?_
                        refine r_sub (lv' := [(0, vr a0), (1, vi a1), (2, vi a2), (3, vi a3), (4, vi a4), (5, vi x27), (6, vi v32)]) [1, 2, 3, 4, 5, 6, 0] rfl ?_
                        exact hj37 v38 _
                      · refine r_p (pc' := 136) (p_iconst (n := 0) (v := 0) (by decide +kernel) rfl) ?_
                        refine r_p (pc' := 145) (p_goto (off := 9) (tgt := 145) (by decide +kernel) (by decide)) ?_
                        refine r_sub (lv' := [(0, vr a0), (1, vi a1), (2, vi a2), (3, vi a3), (4, vi a4), (5, vi x27), (6, vi v32)]) [1, 2, 3, 4, 5, 6, 0] rfl ?_
                        exact hj37 0 _
              · refine r_p (pc' := 93) (p_iconst (n := 0) (v := 0) (by decide +kernel) rfl) ?_
                exact r_iret rfl rfl _ rfl rfl (by decide +kernel)
            · refine r_icmpne (off := 7) (tgt := 84) (by decide +kernel) (by decide) (fun h21 => ?_) (fun h21 => ?_)
              · refine r_p (pc' := 81) (p_iconst (n := 1) (v := 1) (by decide +kernel) rfl) ?_
                refine r_p (pc' := 85) (p_goto (off := 4) (tgt := 85) (by decide +kernel) (by decide)) ?_
                exact hj24 1 _
              · refine r_p (pc' := 85) (p_iconst (n := 0) (v := 0) (by decide +kernel) rfl) ?_
                exact hj24 0 _
          · refine r_p (pc' := 93) (p_iconst (n := 0) (v := 0) (by decide +kernel) rfl) ?_
            exact r_iret rfl rfl _ rfl rfl (by decide +kernel)
        · refine r_ifge (off := 7) (tgt := 62) (by decide +kernel) (by decide) (fun h14 => ?_) (fun h14 => ?_)
          · refine r_p (pc' := 63) (p_iconst (n := 0) (v := 0) (by decide +kernel) rfl) ?_
            exact hj17 0 _
          · refine r_p (pc' := 59) (p_iconst (n := 1) (v := 1) (by decide +kernel) rfl) ?_
            refine r_p (pc' := 63) (p_goto (off := 4) (tgt := 63) (by decide +kernel) (by decide)) ?_
            exact hj17 1 _
      · refine r_p (pc' := 93) (p_iconst (n := 0) (v := 0) (by decide +kernel) rfl) ?_
        exact r_iret rfl rfl _ rfl rfl (by decide +kernel)
    · refine r_p (pc' := 93) (p_iconst (n := 0) (v := 0) (by decide +kernel) rfl) ?_
      exact r_iret rfl rfl _ rfl rfl (by decide +kernel)
  · refine r_ifne (off := 11) (tgt := 22) (by decide +kernel) (by decide) (fun h2 => ?_) (fun h2 => ?_)
    · refine r_p (pc' := 15) (p_aload_n 0 (k := 0) (by decide +kernel) rfl) ?_
      refine r_p (pc' := 16) (p_iload_n 2 (k := 2) (by decide +kernel) rfl) ?_
      refine r_callVI mvX12_331 (ctX12_noMaster a0 a2) (rcX12_noMaster a0 a2) ⟨_, _, rfl⟩ (as := [vi a2]) (st := [vr a0]) rfl rfl (by decide +kernel) rfl (Nat.le_of_ble_eq_true rfl) (Nat.le_of_ble_eq_true rfl) fun v6 s => ?_
      refine r_ifeq (off := 7) (tgt := 26) (by decide +kernel) (by decide) (fun h7 => ?_) (fun h7 => ?_)
      · refine r_p (pc' := 27) (p_iconst (n := 0) (v := 0) (by decide +kernel) rfl) ?_
        exact hj5 0 _
      · refine r_p (pc' := 23) (p_iconst (n := 1) (v := 1) (by decide +kernel) rfl) ?_
        refine r_p (pc' := 27) (p_goto (off := 4) (tgt := 27) (by decide +kernel) (by decide)) ?_
        exact hj5 1 _
    · refine r_p (pc' := 23) (p_iconst (n := 1) (v := 1) (by decide +kernel) rfl) ?_
      refine r_p (pc' := 27) (p_goto (off := 4) (tgt := 27) (by decide +kernel) (by decide)) ?_
      exact hj5 1 _
def aX12_goesOver : StA := (RX12, cX12_goesOver, 2, some .int, yX12_goesOver, 14, [])
theorem mvX12_362 : MV RX12 362 aX12_heirs 1 := ⟨tblG_of 2090 (by decide +kernel) (by decide +kernel), tblG_of 2092 (by decide +kernel) (by decide +kernel), tblG_of 113 (by decide +kernel) (by decide +kernel), tblG_of 157 (by decide +kernel) (by decide +kernel), tblG_of 2093 (by decide +kernel) (by decide +kernel), rfl, ⟨by decide, by decide⟩, by decide +kernel, by decide⟩
noncomputable def mX12_goesOver (a0 : Nat) (a1 : Int32) : MM Int32 := onC 11 a0 (
  mbnd (mX12_of a0 a1 3) fun (v1 : Int32) =>
  mbnd (mX12_heirs a0 a1) fun (v2 : Int32) =>
  mret ((((v1.toInt64) * (v2.toInt64)) / 100).toInt32)
  )
theorem rcX12_goesOver (a0 : Nat) (a1 : Int32) : Rcv 11 a0 (mX12_goesOver a0 a1) := fun s r h => ⟨(onC_some h).1, (onC_some h).2.1⟩
set_option maxHeartbeats 4000000 in
set_option maxRecDepth 100000 in
theorem ctX12_goesOver (a0 : Nat) (a1 : Int32) : Ct aX12_goesOver [vr a0, vi a1] (mX12_goesOver a0 a1) rI := by
  unfold mX12_goesOver
  refine ct_onC (ct_intro (by decide +kernel) rfl (Nat.le_of_ble_eq_true rfl) fun Y s => ?_)
  refine r_sub (lv' := [(0, vr a0), (1, vi a1)]) [0, 1] rfl ?_
  refine r_p (pc' := 1) (p_aload_n 0 (k := 0) (by decide +kernel) rfl) ?_
  refine r_p (pc' := 2) (p_iload_n 1 (k := 1) (by decide +kernel) rfl) ?_
  refine r_p (pc' := 3) (p_iconst (n := 3) (v := 3) (by decide +kernel) rfl) ?_
  refine r_callVI mvX12_65 (ctX12_of a0 a1 3) (rcX12_of a0 a1 3) ⟨_, _, rfl⟩ (as := [vi a1, vi 3]) (st := []) rfl rfl (by decide +kernel) rfl (Nat.le_of_ble_eq_true rfl) (Nat.le_of_ble_eq_true rfl) fun v1 s => ?_
  refine r_p (pc' := 7) (p_i2l (by decide +kernel)) ?_
  refine r_p (pc' := 8) (p_aload_n 0 (k := 0) (by decide +kernel) rfl) ?_
  refine r_p (pc' := 9) (p_iload_n 1 (k := 1) (by decide +kernel) rfl) ?_
  refine r_callVI mvX12_362 (ctX12_heirs a0 a1) (rcX12_heirs a0 a1) ⟨_, _, rfl⟩ (as := [vi a1]) (st := [vl (v1.toInt64)]) rfl rfl (by decide +kernel) rfl (Nat.le_of_ble_eq_true rfl) (Nat.le_of_ble_eq_true rfl) fun v2 s => ?_
  refine r_p (pc' := 13) (p_i2l (by decide +kernel)) ?_
  refine r_p (pc' := 14) (p_lmul (by decide +kernel)) ?_
  refine r_p (pc' := 17) (p_ldc2 (i := 365) (v := 100) (by decide +kernel) (tblG_of 2094 (by decide +kernel) (by decide +kernel))) ?_
  refine r_p (pc' := 18) (p_ldiv (by decide +kernel) (by decide)) ?_
  refine r_p (pc' := 19) (p_l2i (by decide +kernel)) ?_
  exact r_iret rfl rfl _ rfl rfl (by decide +kernel)
def aX12_swap : StA := (RX12, cX12_swap, 7, some .int, yX12_swap, 15, [])
theorem mvX12_367 : MV RX12 367 aX12_isNailed 1 := ⟨tblG_of 2082 (by decide +kernel) (by decide +kernel), tblG_of 2084 (by decide +kernel) (by decide +kernel), tblG_of 111 (by decide +kernel) (by decide +kernel), tblG_of 157 (by decide +kernel) (by decide +kernel), tblG_of 2085 (by decide +kernel) (by decide +kernel), rfl, ⟨by decide, by decide⟩, by decide +kernel, by decide⟩
theorem mvX12_370 : MV RX12 370 aX12_goesOver 1 := ⟨tblG_of 2086 (by decide +kernel) (by decide +kernel), tblG_of 2088 (by decide +kernel) (by decide +kernel), tblG_of 112 (by decide +kernel) (by decide +kernel), tblG_of 157 (by decide +kernel) (by decide +kernel), tblG_of 2089 (by decide +kernel) (by decide +kernel), rfl, ⟨by decide, by decide⟩, by decide +kernel, by decide⟩
noncomputable def mX12_swap (a0 : Nat) (a1 : Int32) (a2 : Int32) (a3 : Int32) : MM Int32 := onC 11 a0 (
  mbnd (pI 11 0 a0 0) fun _ =>
  mbnd (mX12_noTool a0 a1) fun (v1 : Int32) =>
  mbnd (α := Int32) (
    if v1 = 0 then (
      mbnd (mX12_in a2 0 2) fun (v6 : Int32) =>
      if v6 = 0 then (
        mret 1
      ) else (
        if a3 = (-1) then (
          mret 0
        ) else (
          mbnd (mX12_noPart a0 a3) fun (v9 : Int32) =>
          if v9 = 0 then (
            mret 0
          ) else (
            mret 1
          )
        )
      )
    ) else (
      mret 1
    )
  ) fun (x3 : Int32) =>
  mbnd (mX12_throwsIf a0 x3 1) fun (v11 : Int32) =>
  if v11 = 0 then (
    mbnd (α := Int32) (
      if a3 = (-1) then (
        mret 0
      ) else (
        mbnd (mX12_of a0 a3 0) fun (v17 : Int32) =>
        if v17 = a2 then (
          mret 0
        ) else (
          mret 1
        )
      )
    ) fun (x14 : Int32) =>
    mbnd (mX12_throwsIf a0 x14 2) fun (v19 : Int32) =>
    if v19 = 0 then (
      mbnd (mX12_inTool a0 a1 a2) fun (v21 : Int32) =>
      mbnd (α := Int32) (
        if 0 ≤ v21 then (
          mbnd (mX12_isNailed a0 v21) fun (v26 : Int32) =>
          if v26 = 0 then (
            mret 1
          ) else (
            mret 0
          )
        ) else (
          if a3 < 0 then (
            mret 0
          ) else (
            mret 1
          )
        )
      ) fun (x23 : Int32) =>
      mbnd (α := Int32) (
        if x23 = 0 then (
          mret 1
        ) else (
          if a3 < 0 then (
            mret 0
          ) else (
            mbnd (mX12_isSpare a0 a3) fun (v34 : Int32) =>
            if v34 = 0 then (
              mret 1
            ) else (
              mret 0
            )
          )
        )
      ) fun (x30 : Int32) =>
      mbnd (mX12_throwsIf a0 x30 3) fun (v36 : Int32) =>
      if v36 = 0 then (
        mbnd (mX12_remembers a0) fun _ =>
        mbnd (α := Int32) (
          if v21 < 0 then (
            mret 0
          ) else (
            if 0 ≤ a3 then (
              mbnd (mX12_goesOver a0 v21) fun (v43 : Int32) =>
              mret v43
            ) else (
              mret 0
            )
          )
        ) fun (x39 : Int32) =>
        mbnd (α := Unit) (
          if v21 < 0 then (
            mret ()
          ) else (
            mbnd (gR 11 1 a0) fun (v48 : Nat) =>
            mbnd (mX12_partAt v21 6) fun (v49 : Int32) =>
            mbnd (stI 0 v48 v49 (-1)) fun _ =>
            mret ()
          )
        ) fun (x45 : Unit) =>
        mbnd (gR 11 1 a0) fun (v50 : Nat) =>
        mbnd (stI 0 v50 ((141 + (4 * a1)) + a2) (-1)) fun _ =>
        if 0 ≤ a3 then (
          mbnd (mX12_puts a0 a1 a3) fun _ =>
          if 0 ≤ v21 then (
            mbnd (gR 11 1 a0) fun (v53 : Nat) =>
            mbnd (mX12_partAt v21 3) fun (v54 : Int32) =>
            mbnd (ldI 0 v53 v54) fun (v55 : Int32) =>
            mbnd (stI 0 v53 v54 (v55 - x39)) fun _ =>
            mbnd (gR 11 1 a0) fun (v56 : Nat) =>
            mbnd (mX12_partAt a3 3) fun (v57 : Int32) =>
            mbnd (ldI 0 v56 v57) fun (v58 : Int32) =>
            mbnd (stI 0 v56 v57 (v58 + x39)) fun _ =>
            mbnd (gR 11 1 a0) fun (v59 : Nat) =>
            mbnd (mX12_partAt a3 7) fun (v60 : Int32) =>
            mbnd (ldI 0 v59 v60) fun (v61 : Int32) =>
            mbnd (stI 0 v59 v60 (v61 + x39)) fun _ =>
            mbnd (mX12_tells a0 a3 x39 (-1) v21) fun _ =>
            mret x39
          ) else (
            mret 0
          )
        ) else (
          mret 0
        )
      ) else (
        mret 0
      )
    ) else (
      mret 0
    )
  ) else (
    mret 0
  )
  )
theorem rcX12_swap (a0 : Nat) (a1 : Int32) (a2 : Int32) (a3 : Int32) : Rcv 11 a0 (mX12_swap a0 a1 a2 a3) := fun s r h => ⟨(onC_some h).1, (onC_some h).2.1⟩
set_option maxHeartbeats 4000000 in
set_option maxRecDepth 100000 in
theorem ctX12_swap (a0 : Nat) (a1 : Int32) (a2 : Int32) (a3 : Int32) : Ct aX12_swap [vr a0, vi a1, vi a2, vi a3] (mX12_swap a0 a1 a2 a3) rI := by
  unfold mX12_swap
  refine ct_onC (ct_intro (by decide +kernel) rfl (Nat.le_of_ble_eq_true rfl) fun Y s => ?_)
  refine r_sub (lv' := [(0, vr a0), (1, vi a1), (2, vi a2), (3, vi a3)]) [0, 1, 2, 3] rfl ?_
  refine r_p (pc' := 1) (p_aload_n 0 (k := 0) (by decide +kernel) rfl) ?_
  refine r_p (pc' := 2) (p_iconst (n := 0) (v := 0) (by decide +kernel) rfl) ?_
  refine r_pI fpX12_3_11 (fun h => by cases h) (by decide +kernel) fun s => ?_
  refine r_p (pc' := 6) (p_aload_n 0 (k := 0) (by decide +kernel) rfl) ?_
  refine r_p (pc' := 7) (p_aload_n 0 (k := 0) (by decide +kernel) rfl) ?_
  refine r_p (pc' := 8) (p_iload_n 1 (k := 1) (by decide +kernel) rfl) ?_
  refine r_callVI mvX12_319 (ctX12_noTool a0 a1) (rcX12_noTool a0 a1) ⟨_, _, rfl⟩ (as := [vi a1]) (st := [vr a0]) rfl rfl (by decide +kernel) rfl (Nat.le_of_ble_eq_true rfl) (Nat.le_of_ble_eq_true rfl) fun v1 s => ?_
  refine r_join 41 (fun (x3 : Int32) => [(0, vr a0), (1, vi a1), (2, vi a2), (3, vi a3)]) (fun (x3 : Int32) => [vi x3, vr a0]) (fun x3 s => ?_) (fun K4 hj5 => ?_)
  · refine r_p (pc' := 42) (p_iconst (n := 1) (v := 1) (by decide +kernel) rfl) ?_
    refine r_callVI mvX12_265 (ctX12_throwsIf a0 x3 1) (rcX12_throwsIf a0 x3 1) ⟨_, _, rfl⟩ (as := [vi x3, vi 1]) (st := []) rfl rfl (by decide +kernel) rfl (Nat.le_of_ble_eq_true rfl) (Nat.le_of_ble_eq_true rfl) fun v11 s => ?_
    refine r_ifeq (off := 5) (tgt := 50) (by decide +kernel) (by decide) (fun h12 => ?_) (fun h12 => ?_)
    · refine r_p (pc' := 51) (p_aload_n 0 (k := 0) (by decide +kernel) rfl) ?_
      refine r_p (pc' := 52) (p_iload_n 3 (k := 3) (by decide +kernel) rfl) ?_
      refine r_p (pc' := 53) (p_iconst (n := -1) (v := -1) (by decide +kernel) rfl) ?_
      refine r_join 71 (fun (x14 : Int32) => [(0, vr a0), (1, vi a1), (2, vi a2), (3, vi a3)]) (fun (x14 : Int32) => [vi x14, vr a0]) (fun x14 s => ?_) (fun K15 hj16 => ?_)
      · refine r_p (pc' := 72) (p_iconst (n := 2) (v := 2) (by decide +kernel) rfl) ?_
        refine r_callVI mvX12_265 (ctX12_throwsIf a0 x14 2) (rcX12_throwsIf a0 x14 2) ⟨_, _, rfl⟩ (as := [vi x14, vi 2]) (st := []) rfl rfl (by decide +kernel) rfl (Nat.le_of_ble_eq_true rfl) (Nat.le_of_ble_eq_true rfl) fun v19 s => ?_
        refine r_ifeq (off := 5) (tgt := 80) (by decide +kernel) (by decide) (fun h20 => ?_) (fun h20 => ?_)
        · refine r_p (pc' := 81) (p_aload_n 0 (k := 0) (by decide +kernel) rfl) ?_
          refine r_p (pc' := 82) (p_iload_n 1 (k := 1) (by decide +kernel) rfl) ?_
          refine r_p (pc' := 83) (p_iload_n 2 (k := 2) (by decide +kernel) rfl) ?_
          refine r_callVI mvX12_149 (ctX12_inTool a0 a1 a2) (rcX12_inTool a0 a1 a2) ⟨_, _, rfl⟩ (as := [vi a1, vi a2]) (st := []) rfl rfl (by decide +kernel) rfl (Nat.le_of_ble_eq_true rfl) (Nat.le_of_ble_eq_true rfl) fun v21 s => ?_
          refine r_p (pc' := 88) (p_istore (i := 4) (lv' := [(4, vi v21), (0, vr a0), (1, vi a1), (2, vi a2), (3, vi a3)]) (by decide +kernel) (Nat.le_of_ble_eq_true rfl) rfl) ?_
          refine r_p (pc' := 90) (p_iload 0 (i := 4) (by decide +kernel) rfl) ?_
          refine r_join 119 (fun (x23 : Int32) => [(0, vr a0), (1, vi a1), (2, vi a2), (3, vi a3), (4, vi v21)]) (fun (x23 : Int32) => [vi x23]) (fun x23 s => ?_) (fun K24 hj25 => ?_)
          · refine r_p (pc' := 121) (p_istore (i := 5) (lv' := [(5, vi x23), (0, vr a0), (1, vi a1), (2, vi a2), (3, vi a3), (4, vi v21)]) (by decide +kernel) (Nat.le_of_ble_eq_true rfl) rfl) ?_
            refine r_p (pc' := 122) (p_aload_n 1 (k := 0) (by decide +kernel) rfl) ?_
            refine r_p (pc' := 124) (p_iload 0 (i := 5) (by decide +kernel) rfl) ?_
            refine r_join 144 (fun (x30 : Int32) => [(0, vr a0), (1, vi a1), (2, vi a2), (3, vi a3), (4, vi v21)]) (fun (x30 : Int32) => [vi x30, vr a0]) (fun x30 s => ?_) (fun K31 hj32 => ?_)
            · refine r_p (pc' := 145) (p_iconst (n := 3) (v := 3) (by decide +kernel) rfl) ?_
              refine r_callVI mvX12_265 (ctX12_throwsIf a0 x30 3) (rcX12_throwsIf a0 x30 3) ⟨_, _, rfl⟩ (as := [vi x30, vi 3]) (st := []) rfl rfl (by decide +kernel) rfl (Nat.le_of_ble_eq_true rfl) (Nat.le_of_ble_eq_true rfl) fun v36 s => ?_
              refine r_ifeq (off := 5) (tgt := 153) (by decide +kernel) (by decide) (fun h37 => ?_) (fun h37 => ?_)
              · refine r_p (pc' := 154) (p_aload_n 0 (k := 0) (by decide +kernel) rfl) ?_
                refine r_callVU mvX12_343 (ctX12_remembers a0) (rcX12_remembers a0) ⟨_, _, rfl⟩ (as := []) (st := []) rfl rfl (by decide +kernel) rfl (Nat.le_of_ble_eq_true rfl) (Nat.le_of_ble_eq_true rfl) fun s => ?_
                refine r_p (pc' := 159) (p_iload 4 (i := 4) (by decide +kernel) rfl) ?_
                refine r_join 176 (fun (x39 : Int32) => [(0, vr a0), (1, vi a1), (2, vi a2), (3, vi a3), (4, vi v21)]) (fun (x39 : Int32) => [vi x39]) (fun x39 s => ?_) (fun K40 hj41 => ?_)
                · refine r_p (pc' := 178) (p_istore (i := 6) (lv' := [(6, vi x39), (0, vr a0), (1, vi a1), (2, vi a2), (3, vi a3), (4, vi v21)]) (by decide +kernel) (Nat.le_of_ble_eq_true rfl) rfl) ?_
                  refine r_p (pc' := 180) (p_iload 5 (i := 4) (by decide +kernel) rfl) ?_
                  refine r_join 196 (fun (x45 : Unit) => [(0, vr a0), (1, vi a1), (2, vi a2), (3, vi a3), (4, vi v21), (6, vi x39)]) (fun (x45 : Unit) => []) (fun x45 s => ?_) (fun K46 hj47 => ?_)
                  · refine r_p (pc' := 197) (p_aload_n 0 (k := 0) (by decide +kernel) rfl) ?_
                    refine r_gR flX12_13_11 (by decide +kernel) fun v50 => ?_
                    refine r_p (pc' := 203) (p_sipush (n := 141) (v := 141) (by decide +kernel) (by decide +kernel)) ?_
                    refine r_p (pc' := 204) (p_iconst (n := 4) (v := 4) (by decide +kernel) rfl) ?_
                    refine r_p (pc' := 205) (p_iload_n 1 (k := 1) (by decide +kernel) rfl) ?_
                    refine r_p (pc' := 206) (p_imul (by decide +kernel)) ?_
                    refine r_p (pc' := 207) (p_iadd (by decide +kernel)) ?_
                    refine r_p (pc' := 208) (p_iload_n 2 (k := 2) (by decide +kernel) rfl) ?_
                    refine r_p (pc' := 209) (p_iadd (by decide +kernel)) ?_
                    refine r_p (pc' := 210) (p_iconst (n := -1) (v := -1) (by decide +kernel) rfl) ?_
                    refine r_stI0 (by decide +kernel) fun s => ?_
                    refine r_p (pc' := 212) (p_iload_n 3 (k := 3) (by decide +kernel) rfl) ?_
                    refine r_ifge (off := 5) (tgt := 217) (by decide +kernel) (by decide) (fun h51 => ?_) (fun h51 => ?_)
                    · refine r_p (pc' := 218) (p_aload_n 0 (k := 0) (by decide +kernel) rfl) ?_
                      refine r_p (pc' := 219) (p_iload_n 1 (k := 1) (by decide +kernel) rfl) ?_
                      refine r_p (pc' := 220) (p_iload_n 3 (k := 3) (by decide +kernel) rfl) ?_
                      refine r_callVU mvX12_152 (ctX12_puts a0 a1 a3) (rcX12_puts a0 a1 a3) ⟨_, _, rfl⟩ (as := [vi a1, vi a3]) (st := []) rfl rfl (by decide +kernel) rfl (Nat.le_of_ble_eq_true rfl) (Nat.le_of_ble_eq_true rfl) fun s => ?_
                      refine r_p (pc' := 225) (p_iload 4 (i := 4) (by decide +kernel) rfl) ?_
                      refine r_ifge (off := 5) (tgt := 230) (by decide +kernel) (by decide) (fun h52 => ?_) (fun h52 => ?_)
                      · refine r_p (pc' := 231) (p_aload_n 0 (k := 0) (by decide +kernel) rfl) ?_
                        refine r_gR flX12_13_11 (by decide +kernel) fun v53 => ?_
                        refine r_p (pc' := 236) (p_iload 4 (i := 4) (by decide +kernel) rfl) ?_
                        refine r_p (pc' := 237) (p_iconst (n := 3) (v := 3) (by decide +kernel) rfl) ?_
                        refine r_callSI msX12_61 (ctX12_partAt v21 3) (as := [vi v21, vi 3]) (st := [vr v53]) rfl rfl (by decide +kernel) rfl (Nat.le_of_ble_eq_true rfl) (Nat.le_of_ble_eq_true rfl) fun v54 s => ?_
                        refine r_p (pc' := 241) (p_dup2 rfl rfl (by decide +kernel)) ?_
                        refine r_ldI0 (by decide +kernel) fun v55 => ?_
                        refine r_p (pc' := 244) (p_iload 5 (i := 6) (by decide +kernel) rfl) ?_
                        refine r_p (pc' := 245) (p_isub (by decide +kernel)) ?_
                        refine r_stI0 (by decide +kernel) fun s => ?_
                        refine r_p (pc' := 247) (p_aload_n 0 (k := 0) (by decide +kernel) rfl) ?_
                        refine r_gR flX12_13_11 (by decide +kernel) fun v56 => ?_
                        refine r_p (pc' := 251) (p_iload_n 3 (k := 3) (by decide +kernel) rfl) ?_
                        refine r_p (pc' := 252) (p_iconst (n := 3) (v := 3) (by decide +kernel) rfl) ?_
                        refine r_callSI msX12_61 (ctX12_partAt a3 3) (as := [vi a3, vi 3]) (st := [vr v56]) rfl rfl (by decide +kernel) rfl (Nat.le_of_ble_eq_true rfl) (Nat.le_of_ble_eq_true rfl) fun v57 s => ?_
                        refine r_p (pc' := 256) (p_dup2 rfl rfl (by decide +kernel)) ?_
                        refine r_ldI0 (by decide +kernel) fun v58 => ?_
                        refine r_p (pc' := 259) (p_iload 5 (i := 6) (by decide +kernel) rfl) ?_
                        refine r_p (pc' := 260) (p_iadd (by decide +kernel)) ?_
                        refine r_stI0 (by decide +kernel) fun s => ?_
                        refine r_p (pc' := 262) (p_aload_n 0 (k := 0) (by decide +kernel) rfl) ?_
                        refine r_gR flX12_13_11 (by decide +kernel) fun v59 => ?_
                        refine r_p (pc' := 266) (p_iload_n 3 (k := 3) (by decide +kernel) rfl) ?_
                        refine r_p (pc' := 268) (p_bipush (n := 7) (v := 7) (by decide +kernel) (by decide +kernel)) ?_
                        refine r_callSI msX12_61 (ctX12_partAt a3 7) (as := [vi a3, vi 7]) (st := [vr v59]) rfl rfl (by decide +kernel) rfl (Nat.le_of_ble_eq_true rfl) (Nat.le_of_ble_eq_true rfl) fun v60 s => ?_
                        refine r_p (pc' := 272) (p_dup2 rfl rfl (by decide +kernel)) ?_
                        refine r_ldI0 (by decide +kernel) fun v61 => ?_
                        refine r_p (pc' := 275) (p_iload 5 (i := 6) (by decide +kernel) rfl) ?_
                        refine r_p (pc' := 276) (p_iadd (by decide +kernel)) ?_
                        refine r_stI0 (by decide +kernel) fun s => ?_
                        refine r_p (pc' := 278) (p_aload_n 0 (k := 0) (by decide +kernel) rfl) ?_
                        refine r_p (pc' := 279) (p_iload_n 3 (k := 3) (by decide +kernel) rfl) ?_
                        refine r_p (pc' := 281) (p_iload 5 (i := 6) (by decide +kernel) rfl) ?_
                        refine r_p (pc' := 282) (p_iconst (n := -1) (v := -1) (by decide +kernel) rfl) ?_
                        refine r_p (pc' := 284) (p_iload 4 (i := 4) (by decide +kernel) rfl) ?_
                        refine r_callVU mvX12_355 (ctX12_tells a0 a3 x39 (-1) v21) (rcX12_tells a0 a3 x39 (-1) v21) ⟨_, _, rfl⟩ (as := [vi a3, vi x39, vi (-1), vi v21]) (st := []) rfl rfl (by decide +kernel) rfl (Nat.le_of_ble_eq_true rfl) (Nat.le_of_ble_eq_true rfl) fun s => ?_
                        refine r_p (pc' := 289) (p_iload 5 (i := 6) (by decide +kernel) rfl) ?_
                        exact r_iret rfl rfl _ rfl rfl (by decide +kernel)
                      · refine r_p (pc' := 229) (p_iconst (n := 0) (v := 0) (by decide +kernel) rfl) ?_
                        exact r_iret rfl rfl _ rfl rfl (by decide +kernel)
                    · refine r_p (pc' := 216) (p_iconst (n := 0) (v := 0) (by decide +kernel) rfl) ?_
                      exact r_iret rfl rfl _ rfl rfl (by decide +kernel)
                  · refine r_iflt (off := 16) (tgt := 196) (by decide +kernel) (by decide) (fun h44 => ?_) (fun h44 => ?_)
                    · refine r_sub (lv' := [(0, vr a0), (1, vi a1), (2, vi a2), (3, vi a3), (4, vi v21), (6, vi x39)]) [1, 2, 3, 4, 5, 0] rfl ?_
                      exact hj47 () _
                    · refine r_p (pc' := 184) (p_aload_n 1 (k := 0) (by decide +kernel) rfl) ?_
                      refine r_gR flX12_13_11 (by decide +kernel) fun v48 => ?_
                      refine r_p (pc' := 189) (p_iload 5 (i := 4) (by decide +kernel) rfl) ?_
                      refine r_p (pc' := 191) (p_bipush (n := 6) (v := 6) (by decide +kernel) (by decide +kernel)) ?_
                      refine r_callSI msX12_61 (ctX12_partAt v21 6) (as := [vi v21, vi 6]) (st := [vr v48]) rfl rfl (by decide +kernel) rfl (Nat.le_of_ble_eq_true rfl) (Nat.le_of_ble_eq_true rfl) fun v49 s => ?_
                      refine r_p (pc' := 195) (p_iconst (n := -1) (v := -1) (by decide +kernel) rfl) ?_
                      refine r_stI0 (by decide +kernel) fun s => ?_
                      refine r_sub (lv' := [(0, vr a0), (1, vi a1), (2, vi a2), (3, vi a3), (4, vi v21), (6, vi x39)]) [1, 2, 3, 4, 5, 0] rfl ?_
                      exact hj47 () _
                · refine r_iflt (off := 7) (tgt := 166) (by decide +kernel) (by decide) (fun h38 => ?_) (fun h38 => ?_)
                  · refine r_p (pc' := 167) (p_iconst (n := 0) (v := 0) (by decide +kernel) rfl) ?_
                    refine r_p (pc' := 176) (p_goto (off := 9) (tgt := 176) (by decide +kernel) (by decide)) ?_
                    exact hj41 0 _
                  · refine r_p (pc' := 163) (p_iload_n 3 (k := 3) (by decide +kernel) rfl) ?_
                    refine r_ifge (off := 7) (tgt := 170) (by decide +kernel) (by decide) (fun h42 => ?_) (fun h42 => ?_)
                    · refine r_p (pc' := 171) (p_aload_n 0 (k := 0) (by decide +kernel) rfl) ?_
                      refine r_p (pc' := 173) (p_iload 4 (i := 4) (by decide +kernel) rfl) ?_
                      refine r_callVI mvX12_370 (ctX12_goesOver a0 v21) (rcX12_goesOver a0 v21) ⟨_, _, rfl⟩ (as := [vi v21]) (st := []) rfl rfl (by decide +kernel) rfl (Nat.le_of_ble_eq_true rfl) (Nat.le_of_ble_eq_true rfl) fun v43 s => ?_
                      exact hj41 v43 _
                    · refine r_p (pc' := 167) (p_iconst (n := 0) (v := 0) (by decide +kernel) rfl) ?_
                      refine r_p (pc' := 176) (p_goto (off := 9) (tgt := 176) (by decide +kernel) (by decide)) ?_
                      exact hj41 0 _
              · refine r_p (pc' := 152) (p_iconst (n := 0) (v := 0) (by decide +kernel) rfl) ?_
                exact r_iret rfl rfl _ rfl rfl (by decide +kernel)
            · refine r_ifeq (off := 15) (tgt := 139) (by decide +kernel) (by decide) (fun h29 => ?_) (fun h29 => ?_)
              · refine r_p (pc' := 140) (p_iconst (n := 1) (v := 1) (by decide +kernel) rfl) ?_
                refine r_p (pc' := 144) (p_goto (off := 4) (tgt := 144) (by decide +kernel) (by decide)) ?_
                refine r_sub (lv' := [(0, vr a0), (1, vi a1), (2, vi a2), (3, vi a3), (4, vi v21)]) [1, 2, 3, 4, 5] rfl ?_
                exact hj32 1 _
              · refine r_p (pc' := 128) (p_iload_n 4 (k := 3) (by decide +kernel) rfl) ?_
                refine r_iflt (off := 15) (tgt := 143) (by decide +kernel) (by decide) (fun h33 => ?_) (fun h33 => ?_)
                · refine r_p (pc' := 144) (p_iconst (n := 0) (v := 0) (by decide +kernel) rfl) ?_
                  refine r_sub (lv' := [(0, vr a0), (1, vi a1), (2, vi a2), (3, vi a3), (4, vi v21)]) [1, 2, 3, 4, 5] rfl ?_
                  exact hj32 0 _
                · refine r_p (pc' := 132) (p_aload_n 1 (k := 0) (by decide +kernel) rfl) ?_
                  refine r_p (pc' := 133) (p_iload_n 4 (k := 3) (by decide +kernel) rfl) ?_
                  refine r_callVI mvX12_145 (ctX12_isSpare a0 a3) (rcX12_isSpare a0 a3) ⟨_, _, rfl⟩ (as := [vi a3]) (st := [vr a0]) rfl rfl (by decide +kernel) rfl (Nat.le_of_ble_eq_true rfl) (Nat.le_of_ble_eq_true rfl) fun v34 s => ?_
                  refine r_ifne (off := 7) (tgt := 143) (by decide +kernel) (by decide) (fun h35 => ?_) (fun h35 => ?_)
                  · refine r_p (pc' := 140) (p_iconst (n := 1) (v := 1) (by decide +kernel) rfl) ?_
                    refine r_p (pc' := 144) (p_goto (off := 4) (tgt := 144) (by decide +kernel) (by decide)) ?_
                    refine r_sub (lv' := [(0, vr a0), (1, vi a1), (2, vi a2), (3, vi a3), (4, vi v21)]) [1, 2, 3, 4, 5] rfl ?_
                    exact hj32 1 _
                  · refine r_p (pc' := 144) (p_iconst (n := 0) (v := 0) (by decide +kernel) rfl) ?_
                    refine r_sub (lv' := [(0, vr a0), (1, vi a1), (2, vi a2), (3, vi a3), (4, vi v21)]) [1, 2, 3, 4, 5] rfl ?_
                    exact hj32 0 _
          · refine r_ifge (off := 15) (tgt := 105) (by decide +kernel) (by decide) (fun h22 => ?_) (fun h22 => ?_)
            · refine r_p (pc' := 106) (p_aload_n 1 (k := 0) (by decide +kernel) rfl) ?_
              refine r_p (pc' := 108) (p_iload 0 (i := 4) (by decide +kernel) rfl) ?_
              refine r_callVI mvX12_367 (ctX12_isNailed a0 v21) (rcX12_isNailed a0 v21) ⟨_, _, rfl⟩ (as := [vi v21]) (st := []) rfl rfl (by decide +kernel) rfl (Nat.le_of_ble_eq_true rfl) (Nat.le_of_ble_eq_true rfl) fun v26 s => ?_
              refine r_ifne (off := 7) (tgt := 118) (by decide +kernel) (by decide) (fun h27 => ?_) (fun h27 => ?_)
              · refine r_p (pc' := 115) (p_iconst (n := 1) (v := 1) (by decide +kernel) rfl) ?_
                refine r_p (pc' := 119) (p_goto (off := 4) (tgt := 119) (by decide +kernel) (by decide)) ?_
                refine r_sub (lv' := [(0, vr a0), (1, vi a1), (2, vi a2), (3, vi a3), (4, vi v21)]) [1, 2, 3, 4, 0] rfl ?_
                exact hj25 1 _
              · refine r_p (pc' := 119) (p_iconst (n := 0) (v := 0) (by decide +kernel) rfl) ?_
                refine r_sub (lv' := [(0, vr a0), (1, vi a1), (2, vi a2), (3, vi a3), (4, vi v21)]) [1, 2, 3, 4, 0] rfl ?_
                exact hj25 0 _
            · refine r_p (pc' := 94) (p_iload_n 4 (k := 3) (by decide +kernel) rfl) ?_
              refine r_iflt (off := 7) (tgt := 101) (by decide +kernel) (by decide) (fun h28 => ?_) (fun h28 => ?_)
              · refine r_p (pc' := 102) (p_iconst (n := 0) (v := 0) (by decide +kernel) rfl) ?_
                refine r_p (pc' := 119) (p_goto (off := 17) (tgt := 119) (by decide +kernel) (by decide)) ?_
                refine r_sub (lv' := [(0, vr a0), (1, vi a1), (2, vi a2), (3, vi a3), (4, vi v21)]) [1, 2, 3, 4, 0] rfl ?_
                exact hj25 0 _
              · refine r_p (pc' := 98) (p_iconst (n := 1) (v := 1) (by decide +kernel) rfl) ?_
                refine r_p (pc' := 119) (p_goto (off := 21) (tgt := 119) (by decide +kernel) (by decide)) ?_
                refine r_sub (lv' := [(0, vr a0), (1, vi a1), (2, vi a2), (3, vi a3), (4, vi v21)]) [1, 2, 3, 4, 0] rfl ?_
                exact hj25 1 _
        · refine r_p (pc' := 79) (p_iconst (n := 0) (v := 0) (by decide +kernel) rfl) ?_
          exact r_iret rfl rfl _ rfl rfl (by decide +kernel)
      · refine r_icmpeq (off := 17) (tgt := 70) (by decide +kernel) (by decide) (fun h13 => ?_) (fun h13 => ?_)
        · refine r_p (pc' := 71) (p_iconst (n := 0) (v := 0) (by decide +kernel) rfl) ?_
          exact hj16 0 _
        · refine r_p (pc' := 57) (p_aload_n 0 (k := 0) (by decide +kernel) rfl) ?_
          refine r_p (pc' := 58) (p_iload_n 3 (k := 3) (by decide +kernel) rfl) ?_
          refine r_p (pc' := 59) (p_iconst (n := 0) (v := 0) (by decide +kernel) rfl) ?_
          refine r_callVI mvX12_65 (ctX12_of a0 a3 0) (rcX12_of a0 a3 0) ⟨_, _, rfl⟩ (as := [vi a3, vi 0]) (st := [vr a0]) rfl rfl (by decide +kernel) rfl (Nat.le_of_ble_eq_true rfl) (Nat.le_of_ble_eq_true rfl) fun v17 s => ?_
          refine r_p (pc' := 63) (p_iload_n 2 (k := 2) (by decide +kernel) rfl) ?_
          refine r_icmpeq (off := 7) (tgt := 70) (by decide +kernel) (by decide) (fun h18 => ?_) (fun h18 => ?_)
          · refine r_p (pc' := 71) (p_iconst (n := 0) (v := 0) (by decide +kernel) rfl) ?_
            exact hj16 0 _
          · refine r_p (pc' := 67) (p_iconst (n := 1) (v := 1) (by decide +kernel) rfl) ?_
            refine r_p (pc' := 71) (p_goto (off := 4) (tgt := 71) (by decide +kernel) (by decide)) ?_
            exact hj16 1 _
    · refine r_p (pc' := 49) (p_iconst (n := 0) (v := 0) (by decide +kernel) rfl) ?_
      exact r_iret rfl rfl _ rfl rfl (by decide +kernel)
  · refine r_ifne (off := 25) (tgt := 36) (by decide +kernel) (by decide) (fun h2 => ?_) (fun h2 => ?_)
    · refine r_p (pc' := 15) (p_iload_n 2 (k := 2) (by decide +kernel) rfl) ?_
      refine r_p (pc' := 16) (p_iconst (n := 0) (v := 0) (by decide +kernel) rfl) ?_
      refine r_p (pc' := 17) (p_iconst (n := 2) (v := 2) (by decide +kernel) rfl) ?_
      refine r_callSI msX12_72 (ctX12_in a2 0 2) (as := [vi a2, vi 0, vi 2]) (st := [vr a0]) rfl rfl (by decide +kernel) rfl (Nat.le_of_ble_eq_true rfl) (Nat.le_of_ble_eq_true rfl) fun v6 s => ?_
      refine r_ifeq (off := 16) (tgt := 36) (by decide +kernel) (by decide) (fun h7 => ?_) (fun h7 => ?_)
      · refine r_p (pc' := 37) (p_iconst (n := 1) (v := 1) (by decide +kernel) rfl) ?_
        refine r_p (pc' := 41) (p_goto (off := 4) (tgt := 41) (by decide +kernel) (by decide)) ?_
        exact hj5 1 _
      · refine r_p (pc' := 24) (p_iload_n 3 (k := 3) (by decide +kernel) rfl) ?_
        refine r_p (pc' := 25) (p_iconst (n := -1) (v := -1) (by decide +kernel) rfl) ?_
        refine r_icmpeq (off := 15) (tgt := 40) (by decide +kernel) (by decide) (fun h8 => ?_) (fun h8 => ?_)
        · refine r_p (pc' := 41) (p_iconst (n := 0) (v := 0) (by decide +kernel) rfl) ?_
          exact hj5 0 _
        · refine r_p (pc' := 29) (p_aload_n 0 (k := 0) (by decide +kernel) rfl) ?_
          refine r_p (pc' := 30) (p_iload_n 3 (k := 3) (by decide +kernel) rfl) ?_
          refine r_callVI mvX12_313 (ctX12_noPart a0 a3) (rcX12_noPart a0 a3) ⟨_, _, rfl⟩ (as := [vi a3]) (st := [vr a0]) rfl rfl (by decide +kernel) rfl (Nat.le_of_ble_eq_true rfl) (Nat.le_of_ble_eq_true rfl) fun v9 s => ?_
          refine r_ifeq (off := 7) (tgt := 40) (by decide +kernel) (by decide) (fun h10 => ?_) (fun h10 => ?_)
          · refine r_p (pc' := 41) (p_iconst (n := 0) (v := 0) (by decide +kernel) rfl) ?_
            exact hj5 0 _
          · refine r_p (pc' := 37) (p_iconst (n := 1) (v := 1) (by decide +kernel) rfl) ?_
            refine r_p (pc' := 41) (p_goto (off := 4) (tgt := 41) (by decide +kernel) (by decide)) ?_
            exact hj5 1 _
    · refine r_p (pc' := 37) (p_iconst (n := 1) (v := 1) (by decide +kernel) rfl) ?_
      refine r_p (pc' := 41) (p_goto (off := 4) (tgt := 41) (by decide +kernel) (by decide)) ?_
      exact hj5 1 _
def aX12_serve : StA := (RX12, cX12_serve, 7, some .int, yX12_serve, 10, [])
noncomputable def mX12_serve_L55 (a0 : Nat) (a1 : Int32) (x12 : Int32 × Int32) : MM ((Int32 × Int32) ⊕ (Int32)) :=
  if 3 ≤ x12.2 then (
    mret (.inr x12.1)
  ) else (
    mbnd (mX12_inTool a0 a1 x12.2) fun (v17 : Int32) =>
    mbnd (α := Int32) (
      if 0 ≤ v17 then (
        mbnd (mX12_of a0 v17 3) fun (v22 : Int32) =>
        mret (imin x12.1 v22)
      ) else (
        mret 0
      )
    ) fun (x19 : Int32) =>
    mbnd (α := Unit) (
      if v17 < 0 then (
        mret ()
      ) else (
        mbnd (gR 11 1 a0) fun (v27 : Nat) =>
        mbnd (mX12_partAt v17 3) fun (v28 : Int32) =>
        mbnd (ldI 0 v27 v28) fun (v29 : Int32) =>
        mbnd (stI 0 v27 v28 (v29 - x19)) fun _ =>
        mret ()
      )
    ) fun (x24 : Unit) =>
    mbnd (mret (x12.1 - x19)) fun (v30 : Int32) =>
    mret (.inl (v30, x12.2 + 1))
  )
noncomputable def mX12_serve (a0 : Nat) (a1 : Int32) (a2 : Int32) : MM Int32 := onC 11 a0 (
  mbnd (pI 11 0 a0 0) fun _ =>
  mbnd (mX12_noTool a0 a1) fun (v1 : Int32) =>
  mbnd (mX12_throwsIf a0 v1 1) fun (v2 : Int32) =>
  if v2 = 0 then (
    mbnd (mX12_in a2 1 99) fun (v4 : Int32) =>
    mbnd (α := Int32) (
      if v4 = 0 then (
        mret 1
      ) else (
        mret 0
      )
    ) fun (x6 : Int32) =>
    mbnd (mX12_throwsIf a0 x6 2) fun (v9 : Int32) =>
    if v9 = 0 then (
      mbnd (mX12_remembers a0) fun _ =>
      mbnd (mret (10 * a2)) fun (v11 : Int32) =>
      mbnd (loopM (mX12_serve_L55 a0 a1) (v11, 0)) fun (e31 : Int32) =>
      mbnd (gR 11 1 a0) fun (v32 : Nat) =>
      mbnd (ldI 0 v32 9) fun (v33 : Int32) =>
      mbnd (stI 0 v32 9 (v33 + ((10 * a2) - e31))) fun _ =>
      mret ((10 * a2) - e31)
    ) else (
      mret 0
    )
  ) else (
    mret 0
  )
  )
theorem rcX12_serve (a0 : Nat) (a1 : Int32) (a2 : Int32) : Rcv 11 a0 (mX12_serve a0 a1 a2) := fun s r h => ⟨(onC_some h).1, (onC_some h).2.1⟩
set_option maxHeartbeats 4000000 in
set_option maxRecDepth 100000 in
theorem ctX12_serve (a0 : Nat) (a1 : Int32) (a2 : Int32) : Ct aX12_serve [vr a0, vi a1, vi a2] (mX12_serve a0 a1 a2) rI := by
  unfold mX12_serve
  refine ct_onC (ct_intro (by decide +kernel) rfl (Nat.le_of_ble_eq_true rfl) fun Y s => ?_)
  refine r_sub (lv' := [(0, vr a0), (1, vi a1), (2, vi a2)]) [0, 1, 2] rfl ?_
  refine r_p (pc' := 1) (p_aload_n 0 (k := 0) (by decide +kernel) rfl) ?_
  refine r_p (pc' := 2) (p_iconst (n := 0) (v := 0) (by decide +kernel) rfl) ?_
  refine r_pI fpX12_3_11 (fun h => by cases h) (by decide +kernel) fun s => ?_
  refine r_p (pc' := 6) (p_aload_n 0 (k := 0) (by decide +kernel) rfl) ?_
  refine r_p (pc' := 7) (p_aload_n 0 (k := 0) (by decide +kernel) rfl) ?_
  refine r_p (pc' := 8) (p_iload_n 1 (k := 1) (by decide +kernel) rfl) ?_
  refine r_callVI mvX12_319 (ctX12_noTool a0 a1) (rcX12_noTool a0 a1) ⟨_, _, rfl⟩ (as := [vi a1]) (st := [vr a0]) rfl rfl (by decide +kernel) rfl (Nat.le_of_ble_eq_true rfl) (Nat.le_of_ble_eq_true rfl) fun v1 s => ?_
  refine r_p (pc' := 12) (p_iconst (n := 1) (v := 1) (by decide +kernel) rfl) ?_
  refine r_callVI mvX12_265 (ctX12_throwsIf a0 v1 1) (rcX12_throwsIf a0 v1 1) ⟨_, _, rfl⟩ (as := [vi v1, vi 1]) (st := []) rfl rfl (by decide +kernel) rfl (Nat.le_of_ble_eq_true rfl) (Nat.le_of_ble_eq_true rfl) fun v2 s => ?_
  refine r_ifne (off := 26) (tgt := 41) (by decide +kernel) (by decide) (fun h3 => ?_) (fun h3 => ?_)
  · refine r_p (pc' := 19) (p_aload_n 0 (k := 0) (by decide +kernel) rfl) ?_
    refine r_p (pc' := 20) (p_iload_n 2 (k := 2) (by decide +kernel) rfl) ?_
    refine r_p (pc' := 21) (p_iconst (n := 1) (v := 1) (by decide +kernel) rfl) ?_
    refine r_p (pc' := 23) (p_bipush (n := 99) (v := 99) (by decide +kernel) (by decide +kernel)) ?_
    refine r_callSI msX12_72 (ctX12_in a2 1 99) (as := [vi a2, vi 1, vi 99]) (st := [vr a0]) rfl rfl (by decide +kernel) rfl (Nat.le_of_ble_eq_true rfl) (Nat.le_of_ble_eq_true rfl) fun v4 s => ?_
    refine r_join 34 (fun (x6 : Int32) => [(0, vr a0), (1, vi a1), (2, vi a2)]) (fun (x6 : Int32) => [vi x6, vr a0]) (fun x6 s => ?_) (fun K7 hj8 => ?_)
    · refine r_p (pc' := 35) (p_iconst (n := 2) (v := 2) (by decide +kernel) rfl) ?_
      refine r_callVI mvX12_265 (ctX12_throwsIf a0 x6 2) (rcX12_throwsIf a0 x6 2) ⟨_, _, rfl⟩ (as := [vi x6, vi 2]) (st := []) rfl rfl (by decide +kernel) rfl (Nat.le_of_ble_eq_true rfl) (Nat.le_of_ble_eq_true rfl) fun v9 s => ?_
      refine r_ifeq (off := 5) (tgt := 43) (by decide +kernel) (by decide) (fun h10 => ?_) (fun h10 => ?_)
      · refine r_p (pc' := 44) (p_aload_n 0 (k := 0) (by decide +kernel) rfl) ?_
        refine r_callVU mvX12_343 (ctX12_remembers a0) (rcX12_remembers a0) ⟨_, _, rfl⟩ (as := []) (st := []) rfl rfl (by decide +kernel) rfl (Nat.le_of_ble_eq_true rfl) (Nat.le_of_ble_eq_true rfl) fun s => ?_
        refine r_p (pc' := 49) (p_bipush (n := 10) (v := 10) (by decide +kernel) (by decide +kernel)) ?_
        refine r_p (pc' := 50) (p_iload_n 2 (k := 2) (by decide +kernel) rfl) ?_
        refine r_p (pc' := 51) (p_imul (by decide +kernel)) ?_
        refine r_letI fun v11 => ?_
        refine r_p (pc' := 52) (p_istore_n (k := 3) (lv' := [(3, vi v11), (0, vr a0), (1, vi a1), (2, vi a2)]) (by decide +kernel) (Nat.le_of_ble_eq_true rfl) rfl) ?_
        refine r_p (pc' := 53) (p_iconst (n := 0) (v := 0) (by decide +kernel) rfl) ?_
        refine r_p (pc' := 55) (p_istore (i := 4) (lv' := [(4, vi 0), (3, vi v11), (0, vr a0), (1, vi a1), (2, vi a2)]) (by decide +kernel) (Nat.le_of_ble_eq_true rfl) rfl) ?_
        refine r_sub (lv' := [(0, vr a0), (1, vi a1), (2, vi a2), (3, vi v11), (4, vi 0)]) [2, 3, 4, 1, 0] rfl ?_
        refine r_loop2 (fun _ => 124) (fun (e31 : Int32) => [(0, vr a0), (2, vi a2), (3, vi e31)]) (fun (x12 : Int32 × Int32) => [(0, vr a0), (1, vi a1), (2, vi a2), (3, vi x12.1), (4, vi x12.2)]) (fun e31 s => ?_) (fun K13 hb14 he15 x12 s => ?_) (v11, 0) _
        · refine r_p (pc' := 125) (p_aload_n 0 (k := 0) (by decide +kernel) rfl) ?_
          refine r_gR flX12_13_11 (by decide +kernel) fun v32 => ?_
          refine r_p (pc' := 130) (p_bipush (n := 9) (v := 9) (by decide +kernel) (by decide +kernel)) ?_
          refine r_p (pc' := 131) (p_dup2 rfl rfl (by decide +kernel)) ?_
          refine r_ldI0 (by decide +kernel) fun v33 => ?_
          refine r_p (pc' := 134) (p_bipush (n := 10) (v := 10) (by decide +kernel) (by decide +kernel)) ?_
          refine r_p (pc' := 135) (p_iload_n 1 (k := 2) (by decide +kernel) rfl) ?_
          refine r_p (pc' := 136) (p_imul (by decide +kernel)) ?_
          refine r_p (pc' := 137) (p_iload_n 2 (k := 3) (by decide +kernel) rfl) ?_
          refine r_p (pc' := 138) (p_isub (by decide +kernel)) ?_
          refine r_p (pc' := 139) (p_iadd (by decide +kernel)) ?_
          refine r_stI0 (by decide +kernel) fun s => ?_
          refine r_p (pc' := 142) (p_bipush (n := 10) (v := 10) (by decide +kernel) (by decide +kernel)) ?_
          refine r_p (pc' := 143) (p_iload_n 1 (k := 2) (by decide +kernel) rfl) ?_
          refine r_p (pc' := 144) (p_imul (by decide +kernel)) ?_
          refine r_p (pc' := 145) (p_iload_n 2 (k := 3) (by decide +kernel) rfl) ?_
          refine r_p (pc' := 146) (p_isub (by decide +kernel)) ?_
          exact r_iret rfl rfl _ rfl rfl (by decide +kernel)
        · unfold mX12_serve_L55
          refine r_p (pc' := 57) (p_iload 4 (i := 4) (by decide +kernel) rfl) ?_
          refine r_p (pc' := 58) (p_iconst (n := 3) (v := 3) (by decide +kernel) rfl) ?_
          refine r_icmpge (off := 66) (tgt := 124) (by decide +kernel) (by decide) (fun h16 => ?_) (fun h16 => ?_)
          · refine r_sub (lv' := [(0, vr a0), (2, vi a2), (3, vi x12.1)]) [0, 2, 3] rfl ?_
            exact he15 x12.1 _
          · refine r_p (pc' := 62) (p_aload_n 0 (k := 0) (by decide +kernel) rfl) ?_
            refine r_p (pc' := 63) (p_iload_n 1 (k := 1) (by decide +kernel) rfl) ?_
            refine r_p (pc' := 65) (p_iload 4 (i := 4) (by decide +kernel) rfl) ?_
            refine r_callVI mvX12_149 (ctX12_inTool a0 a1 x12.2) (rcX12_inTool a0 a1 x12.2) ⟨_, _, rfl⟩ (as := [vi a1, vi x12.2]) (st := []) rfl rfl (by decide +kernel) rfl (Nat.le_of_ble_eq_true rfl) (Nat.le_of_ble_eq_true rfl) fun v17 s => ?_
            refine r_p (pc' := 70) (p_istore (i := 5) (lv' := [(5, vi v17), (0, vr a0), (1, vi a1), (2, vi a2), (3, vi x12.1), (4, vi x12.2)]) (by decide +kernel) (Nat.le_of_ble_eq_true rfl) rfl) ?_
            refine r_p (pc' := 72) (p_iload 0 (i := 5) (by decide +kernel) rfl) ?_
            refine r_join 90 (fun (x19 : Int32) => [(0, vr a0), (1, vi a1), (2, vi a2), (3, vi x12.1), (4, vi x12.2), (5, vi v17)]) (fun (x19 : Int32) => [vi x19]) (fun x19 s => ?_) (fun K20 hj21 => ?_)
            · refine r_p (pc' := 92) (p_istore (i := 6) (lv' := [(6, vi x19), (0, vr a0), (1, vi a1), (2, vi a2), (3, vi x12.1), (4, vi x12.2), (5, vi v17)]) (by decide +kernel) (Nat.le_of_ble_eq_true rfl) rfl) ?_
              refine r_p (pc' := 94) (p_iload 6 (i := 5) (by decide +kernel) rfl) ?_
              refine r_join 113 (fun (x24 : Unit) => [(0, vr a0), (1, vi a1), (2, vi a2), (3, vi x12.1), (4, vi x12.2), (6, vi x19)]) (fun (x24 : Unit) => []) (fun x24 s => ?_) (fun K25 hj26 => ?_)
              · refine r_p (pc' := 114) (p_iload_n 3 (k := 3) (by decide +kernel) rfl) ?_
                refine r_p (pc' := 116) (p_iload 5 (i := 6) (by decide +kernel) rfl) ?_
                refine r_p (pc' := 117) (p_isub (by decide +kernel)) ?_
                refine r_letI fun v30 => ?_
                refine r_p (pc' := 118) (p_istore_n (k := 3) (lv' := [(3, vi v30), (0, vr a0), (1, vi a1), (2, vi a2), (4, vi x12.2), (6, vi x19)]) (by decide +kernel) (Nat.le_of_ble_eq_true rfl) rfl) ?_
                refine r_p (pc' := 121) (p_iinc 4 (i := 4) (n := 1) (x := x12.2) (v := x12.2 + 1) (lv' := [(4, vi (x12.2 + 1)), (3, vi v30), (0, vr a0), (1, vi a1), (2, vi a2), (6, vi x19)]) (by decide +kernel) rfl rfl (Nat.le_of_ble_eq_true rfl) rfl) ?_
                refine r_p (pc' := 55) (p_goto (off := -66) (tgt := 55) (by decide +kernel) (by decide)) ?_
                refine r_sub (lv' := [(0, vr a0), (1, vi a1), (2, vi a2), (3, vi v30), (4, vi (x12.2 + 1))]) [2, 3, 4, 1, 0] rfl ?_
                exact hb14 (v30, x12.2 + 1) _
              · refine r_iflt (off := 19) (tgt := 113) (by decide +kernel) (by decide) (fun h23 => ?_) (fun h23 => ?_)
                · refine r_sub (lv' := [(0, vr a0), (1, vi a1), (2, vi a2), (3, vi x12.1), (4, vi x12.2), (6, vi x19)]) [1, 2, 3, 4, 5, 0] rfl ?_
                  exact hj26 () _
                · refine r_p (pc' := 98) (p_aload_n 1 (k := 0) (by decide +kernel) rfl) ?_
                  refine r_gR flX12_13_11 (by decide +kernel) fun v27 => ?_
                  refine r_p (pc' := 103) (p_iload 6 (i := 5) (by decide +kernel) rfl) ?_
                  refine r_p (pc' := 104) (p_iconst (n := 3) (v := 3) (by decide +kernel) rfl) ?_
                  refine r_callSI msX12_61 (ctX12_partAt v17 3) (as := [vi v17, vi 3]) (st := [vr v27]) rfl rfl (by decide +kernel) rfl (Nat.le_of_ble_eq_true rfl) (Nat.le_of_ble_eq_true rfl) fun v28 s => ?_
                  refine r_p (pc' := 108) (p_dup2 rfl rfl (by decide +kernel)) ?_
                  refine r_ldI0 (by decide +kernel) fun v29 => ?_
                  refine r_p (pc' := 111) (p_iload 0 (i := 6) (by decide +kernel) rfl) ?_
                  refine r_p (pc' := 112) (p_isub (by decide +kernel)) ?_
                  refine r_stI0 (by decide +kernel) fun s => ?_
                  refine r_sub (lv' := [(0, vr a0), (1, vi a1), (2, vi a2), (3, vi x12.1), (4, vi x12.2), (6, vi x19)]) [1, 2, 3, 4, 5, 0] rfl ?_
                  exact hj26 () _
            · refine r_ifge (off := 7) (tgt := 79) (by decide +kernel) (by decide) (fun h18 => ?_) (fun h18 => ?_)
              · refine r_p (pc' := 80) (p_iload_n 4 (k := 3) (by decide +kernel) rfl) ?_
                refine r_p (pc' := 81) (p_aload_n 1 (k := 0) (by decide +kernel) rfl) ?_
                refine r_p (pc' := 83) (p_iload 0 (i := 5) (by decide +kernel) rfl) ?_
                refine r_p (pc' := 84) (p_iconst (n := 3) (v := 3) (by decide +kernel) rfl) ?_
                refine r_callVI mvX12_65 (ctX12_of a0 v17 3) (rcX12_of a0 v17 3) ⟨_, _, rfl⟩ (as := [vi v17, vi 3]) (st := [vi x12.1]) rfl rfl (by decide +kernel) rfl (Nat.le_of_ble_eq_true rfl) (Nat.le_of_ble_eq_true rfl) fun v22 s => ?_
                refine r_p (pc' := 90) (p_min (idx := 298) (tblG_of 2042 (by decide +kernel) (by decide +kernel)) (Nat.le_of_ble_eq_true rfl) (Nat.le_of_ble_eq_true rfl) (by decide +kernel)) ?_
                refine r_sub (lv' := [(0, vr a0), (1, vi a1), (2, vi a2), (3, vi x12.1), (4, vi x12.2), (5, vi v17)]) [1, 2, 3, 4, 5, 0] rfl ?_
                exact hj21 (imin x12.1 v22) _
              · refine r_p (pc' := 76) (p_iconst (n := 0) (v := 0) (by decide +kernel) rfl) ?_
                refine r_p (pc' := 90) (p_goto (off := 14) (tgt := 90) (by decide +kernel) (by decide)) ?_
                refine r_sub (lv' := [(0, vr a0), (1, vi a1), (2, vi a2), (3, vi x12.1), (4, vi x12.2), (5, vi v17)]) [1, 2, 3, 4, 5, 0] rfl ?_
                exact hj21 0 _
      · refine r_p (pc' := 42) (p_iconst (n := 0) (v := 0) (by decide +kernel) rfl) ?_
        exact r_iret rfl rfl _ rfl rfl (by decide +kernel)
    · refine r_ifne (off := 7) (tgt := 33) (by decide +kernel) (by decide) (fun h5 => ?_) (fun h5 => ?_)
      · refine r_p (pc' := 30) (p_iconst (n := 1) (v := 1) (by decide +kernel) rfl) ?_
        refine r_p (pc' := 34) (p_goto (off := 4) (tgt := 34) (by decide +kernel) (by decide)) ?_
        exact hj8 1 _
      · refine r_p (pc' := 34) (p_iconst (n := 0) (v := 0) (by decide +kernel) rfl) ?_
        exact hj8 0 _
  · refine r_p (pc' := 42) (p_iconst (n := 0) (v := 0) (by decide +kernel) rfl) ?_
    exact r_iret rfl rfl _ rfl rfl (by decide +kernel)
def aX12_grind : StA := (RX12, cX12_grind, 2, some .int, yX12_grind, 11, [])
noncomputable def mX12_grind (a0 : Nat) (a1 : Int32) : MM Int32 := onC 11 a0 (
  mbnd (pI 11 0 a0 0) fun _ =>
  mbnd (mX12_noPart a0 a1) fun (v1 : Int32) =>
  mbnd (mX12_throwsIf a0 v1 1) fun (v2 : Int32) =>
  if v2 = 0 then (
    mbnd (mX12_isHead a0 a1) fun (v4 : Int32) =>
    mbnd (α := Int32) (
      if v4 = 0 then (
        mret 1
      ) else (
        mret 0
      )
    ) fun (x6 : Int32) =>
    mbnd (mX12_throwsIf a0 x6 2) fun (v9 : Int32) =>
    if v9 = 0 then (
      mbnd (mX12_of a0 a1 5) fun (v11 : Int32) =>
      mbnd (α := Int32) (
        if v11 = 1 then (
          mret 1
        ) else (
          mret 0
        )
      ) fun (x13 : Int32) =>
      mbnd (mX12_throwsIf a0 x13 3) fun (v16 : Int32) =>
      if v16 = 0 then (
        mbnd (mX12_remembers a0) fun _ =>
        mbnd (gR 11 1 a0) fun (v18 : Nat) =>
        mbnd (mX12_partAt a1 2) fun (v19 : Int32) =>
        mbnd (mX12_of a0 a1 2) fun (v20 : Int32) =>
        mbnd (stI 0 v18 v19 (imax 0 (v20 - 30))) fun _ =>
        mbnd (gR 11 1 a0) fun (v21 : Nat) =>
        mbnd (mX12_partAt a1 5) fun (v22 : Int32) =>
        mbnd (stI 0 v21 v22 1) fun _ =>
        mbnd (mX12_of a0 a1 2) fun (v23 : Int32) =>
        mret v23
      ) else (
        mret 0
      )
    ) else (
      mret 0
    )
  ) else (
    mret 0
  )
  )
theorem rcX12_grind (a0 : Nat) (a1 : Int32) : Rcv 11 a0 (mX12_grind a0 a1) := fun s r h => ⟨(onC_some h).1, (onC_some h).2.1⟩
set_option maxHeartbeats 4000000 in
set_option maxRecDepth 100000 in
theorem ctX12_grind (a0 : Nat) (a1 : Int32) : Ct aX12_grind [vr a0, vi a1] (mX12_grind a0 a1) rI := by
  unfold mX12_grind
  refine ct_onC (ct_intro (by decide +kernel) rfl (Nat.le_of_ble_eq_true rfl) fun Y s => ?_)
  refine r_sub (lv' := [(0, vr a0), (1, vi a1)]) [0, 1] rfl ?_
  refine r_p (pc' := 1) (p_aload_n 0 (k := 0) (by decide +kernel) rfl) ?_
  refine r_p (pc' := 2) (p_iconst (n := 0) (v := 0) (by decide +kernel) rfl) ?_
  refine r_pI fpX12_3_11 (fun h => by cases h) (by decide +kernel) fun s => ?_
  refine r_p (pc' := 6) (p_aload_n 0 (k := 0) (by decide +kernel) rfl) ?_
  refine r_p (pc' := 7) (p_aload_n 0 (k := 0) (by decide +kernel) rfl) ?_
  refine r_p (pc' := 8) (p_iload_n 1 (k := 1) (by decide +kernel) rfl) ?_
  refine r_callVI mvX12_313 (ctX12_noPart a0 a1) (rcX12_noPart a0 a1) ⟨_, _, rfl⟩ (as := [vi a1]) (st := [vr a0]) rfl rfl (by decide +kernel) rfl (Nat.le_of_ble_eq_true rfl) (Nat.le_of_ble_eq_true rfl) fun v1 s => ?_
  refine r_p (pc' := 12) (p_iconst (n := 1) (v := 1) (by decide +kernel) rfl) ?_
  refine r_callVI mvX12_265 (ctX12_throwsIf a0 v1 1) (rcX12_throwsIf a0 v1 1) ⟨_, _, rfl⟩ (as := [vi v1, vi 1]) (st := []) rfl rfl (by decide +kernel) rfl (Nat.le_of_ble_eq_true rfl) (Nat.le_of_ble_eq_true rfl) fun v2 s => ?_
  refine r_ifne (off := 47) (tgt := 62) (by decide +kernel) (by decide) (fun h3 => ?_) (fun h3 => ?_)
  · refine r_p (pc' := 19) (p_aload_n 0 (k := 0) (by decide +kernel) rfl) ?_
    refine r_p (pc' := 20) (p_aload_n 0 (k := 0) (by decide +kernel) rfl) ?_
    refine r_p (pc' := 21) (p_iload_n 1 (k := 1) (by decide +kernel) rfl) ?_
    refine r_callVI mvX12_292 (ctX12_isHead a0 a1) (rcX12_isHead a0 a1) ⟨_, _, rfl⟩ (as := [vi a1]) (st := [vr a0]) rfl rfl (by decide +kernel) rfl (Nat.le_of_ble_eq_true rfl) (Nat.le_of_ble_eq_true rfl) fun v4 s => ?_
    refine r_join 32 (fun (x6 : Int32) => [(0, vr a0), (1, vi a1)]) (fun (x6 : Int32) => [vi x6, vr a0]) (fun x6 s => ?_) (fun K7 hj8 => ?_)
    · refine r_p (pc' := 33) (p_iconst (n := 2) (v := 2) (by decide +kernel) rfl) ?_
      refine r_callVI mvX12_265 (ctX12_throwsIf a0 x6 2) (rcX12_throwsIf a0 x6 2) ⟨_, _, rfl⟩ (as := [vi x6, vi 2]) (st := []) rfl rfl (by decide +kernel) rfl (Nat.le_of_ble_eq_true rfl) (Nat.le_of_ble_eq_true rfl) fun v9 s => ?_
      refine r_ifne (off := 26) (tgt := 62) (by decide +kernel) (by decide) (fun h10 => ?_) (fun h10 => ?_)
      · refine r_p (pc' := 40) (p_aload_n 0 (k := 0) (by decide +kernel) rfl) ?_
        refine r_p (pc' := 41) (p_aload_n 0 (k := 0) (by decide +kernel) rfl) ?_
        refine r_p (pc' := 42) (p_iload_n 1 (k := 1) (by decide +kernel) rfl) ?_
        refine r_p (pc' := 43) (p_iconst (n := 5) (v := 5) (by decide +kernel) rfl) ?_
        refine r_callVI mvX12_65 (ctX12_of a0 a1 5) (rcX12_of a0 a1 5) ⟨_, _, rfl⟩ (as := [vi a1, vi 5]) (st := [vr a0]) rfl rfl (by decide +kernel) rfl (Nat.le_of_ble_eq_true rfl) (Nat.le_of_ble_eq_true rfl) fun v11 s => ?_
        refine r_p (pc' := 47) (p_iconst (n := 1) (v := 1) (by decide +kernel) rfl) ?_
        refine r_join 55 (fun (x13 : Int32) => [(0, vr a0), (1, vi a1)]) (fun (x13 : Int32) => [vi x13, vr a0]) (fun x13 s => ?_) (fun K14 hj15 => ?_)
        · refine r_p (pc' := 56) (p_iconst (n := 3) (v := 3) (by decide +kernel) rfl) ?_
          refine r_callVI mvX12_265 (ctX12_throwsIf a0 x13 3) (rcX12_throwsIf a0 x13 3) ⟨_, _, rfl⟩ (as := [vi x13, vi 3]) (st := []) rfl rfl (by decide +kernel) rfl (Nat.le_of_ble_eq_true rfl) (Nat.le_of_ble_eq_true rfl) fun v16 s => ?_
          refine r_ifeq (off := 5) (tgt := 64) (by decide +kernel) (by decide) (fun h17 => ?_) (fun h17 => ?_)
          · refine r_p (pc' := 65) (p_aload_n 0 (k := 0) (by decide +kernel) rfl) ?_
            refine r_callVU mvX12_343 (ctX12_remembers a0) (rcX12_remembers a0) ⟨_, _, rfl⟩ (as := []) (st := []) rfl rfl (by decide +kernel) rfl (Nat.le_of_ble_eq_true rfl) (Nat.le_of_ble_eq_true rfl) fun s => ?_
            refine r_p (pc' := 69) (p_aload_n 0 (k := 0) (by decide +kernel) rfl) ?_
            refine r_gR flX12_13_11 (by decide +kernel) fun v18 => ?_
            refine r_p (pc' := 73) (p_iload_n 1 (k := 1) (by decide +kernel) rfl) ?_
            refine r_p (pc' := 74) (p_iconst (n := 2) (v := 2) (by decide +kernel) rfl) ?_
            refine r_callSI msX12_61 (ctX12_partAt a1 2) (as := [vi a1, vi 2]) (st := [vr v18]) rfl rfl (by decide +kernel) rfl (Nat.le_of_ble_eq_true rfl) (Nat.le_of_ble_eq_true rfl) fun v19 s => ?_
            refine r_p (pc' := 78) (p_iconst (n := 0) (v := 0) (by decide +kernel) rfl) ?_
            refine r_p (pc' := 79) (p_aload_n 0 (k := 0) (by decide +kernel) rfl) ?_
            refine r_p (pc' := 80) (p_iload_n 1 (k := 1) (by decide +kernel) rfl) ?_
            refine r_p (pc' := 81) (p_iconst (n := 2) (v := 2) (by decide +kernel) rfl) ?_
            refine r_callVI mvX12_65 (ctX12_of a0 a1 2) (rcX12_of a0 a1 2) ⟨_, _, rfl⟩ (as := [vi a1, vi 2]) (st := [vi 0, vi v19, vr v18]) rfl rfl (by decide +kernel) rfl (Nat.le_of_ble_eq_true rfl) (Nat.le_of_ble_eq_true rfl) fun v20 s => ?_
            refine r_p (pc' := 86) (p_bipush (n := 30) (v := 30) (by decide +kernel) (by decide +kernel)) ?_
            refine r_p (pc' := 87) (p_isub (by decide +kernel)) ?_
            refine r_p (pc' := 90) (p_max (idx := 284) (tblG_of 2041 (by decide +kernel) (by decide +kernel)) (Nat.le_of_ble_eq_true rfl) (Nat.le_of_ble_eq_true rfl) (by decide +kernel)) ?_
            refine r_stI0 (by decide +kernel) fun s => ?_
            refine r_p (pc' := 92) (p_aload_n 0 (k := 0) (by decide +kernel) rfl) ?_
            refine r_gR flX12_13_11 (by decide +kernel) fun v21 => ?_
            refine r_p (pc' := 96) (p_iload_n 1 (k := 1) (by decide +kernel) rfl) ?_
            refine r_p (pc' := 97) (p_iconst (n := 5) (v := 5) (by decide +kernel) rfl) ?_
            refine r_callSI msX12_61 (ctX12_partAt a1 5) (as := [vi a1, vi 5]) (st := [vr v21]) rfl rfl (by decide +kernel) rfl (Nat.le_of_ble_eq_true rfl) (Nat.le_of_ble_eq_true rfl) fun v22 s => ?_
            refine r_p (pc' := 101) (p_iconst (n := 1) (v := 1) (by decide +kernel) rfl) ?_
            refine r_stI0 (by decide +kernel) fun s => ?_
            refine r_p (pc' := 103) (p_aload_n 0 (k := 0) (by decide +kernel) rfl) ?_
            refine r_p (pc' := 104) (p_iload_n 1 (k := 1) (by decide +kernel) rfl) ?_
            refine r_p (pc' := 105) (p_iconst (n := 2) (v := 2) (by decide +kernel) rfl) ?_
            refine r_callVI mvX12_65 (ctX12_of a0 a1 2) (rcX12_of a0 a1 2) ⟨_, _, rfl⟩ (as := [vi a1, vi 2]) (st := []) rfl rfl (by decide +kernel) rfl (Nat.le_of_ble_eq_true rfl) (Nat.le_of_ble_eq_true rfl) fun v23 s => ?_
            exact r_iret rfl rfl _ rfl rfl (by decide +kernel)
          · refine r_p (pc' := 63) (p_iconst (n := 0) (v := 0) (by decide +kernel) rfl) ?_
            exact r_iret rfl rfl _ rfl rfl (by decide +kernel)
        · refine r_icmpne (off := 7) (tgt := 54) (by decide +kernel) (by decide) (fun h12 => ?_) (fun h12 => ?_)
          · refine r_p (pc' := 51) (p_iconst (n := 1) (v := 1) (by decide +kernel) rfl) ?_
            refine r_p (pc' := 55) (p_goto (off := 4) (tgt := 55) (by decide +kernel) (by decide)) ?_
            exact hj15 1 _
          · refine r_p (pc' := 55) (p_iconst (n := 0) (v := 0) (by decide +kernel) rfl) ?_
            exact hj15 0 _
      · refine r_p (pc' := 63) (p_iconst (n := 0) (v := 0) (by decide +kernel) rfl) ?_
        exact r_iret rfl rfl _ rfl rfl (by decide +kernel)
    · refine r_ifne (off := 7) (tgt := 31) (by decide +kernel) (by decide) (fun h5 => ?_) (fun h5 => ?_)
      · refine r_p (pc' := 28) (p_iconst (n := 1) (v := 1) (by decide +kernel) rfl) ?_
        refine r_p (pc' := 32) (p_goto (off := 4) (tgt := 32) (by decide +kernel) (by decide)) ?_
        exact hj8 1 _
      · refine r_p (pc' := 32) (p_iconst (n := 0) (v := 0) (by decide +kernel) rfl) ?_
        exact hj8 0 _
  · refine r_p (pc' := 63) (p_iconst (n := 0) (v := 0) (by decide +kernel) rfl) ?_
    exact r_iret rfl rfl _ rfl rfl (by decide +kernel)
def aX12_nail : StA := (RX12, cX12_nail, 4, some .boolean, yX12_nail, 11, [])
noncomputable def mX12_nail (a0 : Nat) (a1 : Int32) (a2 : Int32) : MM Int32 := onC 11 a0 (
  mbnd (pI 11 0 a0 0) fun _ =>
  mbnd (mX12_noPart a0 a1) fun (v1 : Int32) =>
  mbnd (mX12_throwsIf a0 v1 1) fun (v2 : Int32) =>
  if v2 = 0 then (
    mbnd (mX12_isSpare a0 a1) fun (v4 : Int32) =>
    mbnd (mX12_throwsIf a0 v4 2) fun (v5 : Int32) =>
    if v5 = 0 then (
      mbnd (mX12_remembers a0) fun _ =>
      mbnd (mX12_isNailed a0 a1) fun (v7 : Int32) =>
      mbnd (α := Int32) (
        if v7 = a2 then (
          mret 0
        ) else (
          mret 1
        )
      ) fun (x9 : Int32) =>
      mbnd (gR 11 1 a0) fun (v12 : Nat) =>
      mbnd (mX12_partAt a1 4) fun (v13 : Int32) =>
      mbnd (α := Int32) (
        if a2 = 0 then (
          mret 0
        ) else (
          mret 1
        )
      ) fun (x15 : Int32) =>
      mbnd (stI 0 v12 v13 x15) fun _ =>
      mbool x9
    ) else (
      mret 0
    )
  ) else (
    mret 0
  )
  )
theorem rcX12_nail (a0 : Nat) (a1 : Int32) (a2 : Int32) : Rcv 11 a0 (mX12_nail a0 a1 a2) := fun s r h => ⟨(onC_some h).1, (onC_some h).2.1⟩
set_option maxHeartbeats 4000000 in
set_option maxRecDepth 100000 in
theorem ctX12_nail (a0 : Nat) (a1 : Int32) (a2 : Int32) : Ct aX12_nail [vr a0, vi a1, vi a2] (mX12_nail a0 a1 a2) rI := by
  unfold mX12_nail
  refine ct_onC (ct_intro (by decide +kernel) rfl (Nat.le_of_ble_eq_true rfl) fun Y s => ?_)
  refine r_sub (lv' := [(0, vr a0), (1, vi a1), (2, vi a2)]) [0, 1, 2] rfl ?_
  refine r_p (pc' := 1) (p_aload_n 0 (k := 0) (by decide +kernel) rfl) ?_
  refine r_p (pc' := 2) (p_iconst (n := 0) (v := 0) (by decide +kernel) rfl) ?_
  refine r_pI fpX12_3_11 (fun h => by cases h) (by decide +kernel) fun s => ?_
  refine r_p (pc' := 6) (p_aload_n 0 (k := 0) (by decide +kernel) rfl) ?_
  refine r_p (pc' := 7) (p_aload_n 0 (k := 0) (by decide +kernel) rfl) ?_
  refine r_p (pc' := 8) (p_iload_n 1 (k := 1) (by decide +kernel) rfl) ?_
  refine r_callVI mvX12_313 (ctX12_noPart a0 a1) (rcX12_noPart a0 a1) ⟨_, _, rfl⟩ (as := [vi a1]) (st := [vr a0]) rfl rfl (by decide +kernel) rfl (Nat.le_of_ble_eq_true rfl) (Nat.le_of_ble_eq_true rfl) fun v1 s => ?_
  refine r_p (pc' := 12) (p_iconst (n := 1) (v := 1) (by decide +kernel) rfl) ?_
  refine r_callVI mvX12_265 (ctX12_throwsIf a0 v1 1) (rcX12_throwsIf a0 v1 1) ⟨_, _, rfl⟩ (as := [vi v1, vi 1]) (st := []) rfl rfl (by decide +kernel) rfl (Nat.le_of_ble_eq_true rfl) (Nat.le_of_ble_eq_true rfl) fun v2 s => ?_
  refine r_ifne (off := 16) (tgt := 31) (by decide +kernel) (by decide) (fun h3 => ?_) (fun h3 => ?_)
  · refine r_p (pc' := 19) (p_aload_n 0 (k := 0) (by decide +kernel) rfl) ?_
    refine r_p (pc' := 20) (p_aload_n 0 (k := 0) (by decide +kernel) rfl) ?_
    refine r_p (pc' := 21) (p_iload_n 1 (k := 1) (by decide +kernel) rfl) ?_
    refine r_callVI mvX12_145 (ctX12_isSpare a0 a1) (rcX12_isSpare a0 a1) ⟨_, _, rfl⟩ (as := [vi a1]) (st := [vr a0]) rfl rfl (by decide +kernel) rfl (Nat.le_of_ble_eq_true rfl) (Nat.le_of_ble_eq_true rfl) fun v4 s => ?_
    refine r_p (pc' := 25) (p_iconst (n := 2) (v := 2) (by decide +kernel) rfl) ?_
    refine r_callVI mvX12_265 (ctX12_throwsIf a0 v4 2) (rcX12_throwsIf a0 v4 2) ⟨_, _, rfl⟩ (as := [vi v4, vi 2]) (st := []) rfl rfl (by decide +kernel) rfl (Nat.le_of_ble_eq_true rfl) (Nat.le_of_ble_eq_true rfl) fun v5 s => ?_
    refine r_ifeq (off := 5) (tgt := 33) (by decide +kernel) (by decide) (fun h6 => ?_) (fun h6 => ?_)
    · refine r_p (pc' := 34) (p_aload_n 0 (k := 0) (by decide +kernel) rfl) ?_
      refine r_callVU mvX12_343 (ctX12_remembers a0) (rcX12_remembers a0) ⟨_, _, rfl⟩ (as := []) (st := []) rfl rfl (by decide +kernel) rfl (Nat.le_of_ble_eq_true rfl) (Nat.le_of_ble_eq_true rfl) fun s => ?_
      refine r_p (pc' := 38) (p_aload_n 0 (k := 0) (by decide +kernel) rfl) ?_
      refine r_p (pc' := 39) (p_iload_n 1 (k := 1) (by decide +kernel) rfl) ?_
      refine r_callVI mvX12_367 (ctX12_isNailed a0 a1) (rcX12_isNailed a0 a1) ⟨_, _, rfl⟩ (as := [vi a1]) (st := []) rfl rfl (by decide +kernel) rfl (Nat.le_of_ble_eq_true rfl) (Nat.le_of_ble_eq_true rfl) fun v7 s => ?_
      refine r_p (pc' := 43) (p_iload_n 2 (k := 2) (by decide +kernel) rfl) ?_
      refine r_join 51 (fun (x9 : Int32) => [(0, vr a0), (1, vi a1), (2, vi a2)]) (fun (x9 : Int32) => [vi x9]) (fun x9 s => ?_) (fun K10 hj11 => ?_)
      · refine r_p (pc' := 52) (p_istore_n (k := 3) (lv' := [(3, vi x9), (0, vr a0), (1, vi a1), (2, vi a2)]) (by decide +kernel) (Nat.le_of_ble_eq_true rfl) rfl) ?_
        refine r_p (pc' := 53) (p_aload_n 1 (k := 0) (by decide +kernel) rfl) ?_
        refine r_gR flX12_13_11 (by decide +kernel) fun v12 => ?_
        refine r_p (pc' := 57) (p_iload_n 2 (k := 1) (by decide +kernel) rfl) ?_
        refine r_p (pc' := 58) (p_iconst (n := 4) (v := 4) (by decide +kernel) rfl) ?_
        refine r_callSI msX12_61 (ctX12_partAt a1 4) (as := [vi a1, vi 4]) (st := [vr v12]) rfl rfl (by decide +kernel) rfl (Nat.le_of_ble_eq_true rfl) (Nat.le_of_ble_eq_true rfl) fun v13 s => ?_
        refine r_p (pc' := 62) (p_iload_n 3 (k := 2) (by decide +kernel) rfl) ?_
        refine r_join 70 (fun (x15 : Int32) => [(3, vi x9)]) (fun (x15 : Int32) => [vi x15, vi v13, vr v12]) (fun x15 s => ?_) (fun K16 hj17 => ?_)
        · refine r_stI0 (by decide +kernel) fun s => ?_
          refine r_p (pc' := 72) (p_iload_n 0 (k := 3) (by decide +kernel) rfl) ?_
          exact r_bret (y9 := fun v => v) (fun _ => rfl) (fun _ => rfl) rfl (by decide +kernel)
        · refine r_ifeq (off := 7) (tgt := 69) (by decide +kernel) (by decide) (fun h14 => ?_) (fun h14 => ?_)
          · refine r_p (pc' := 70) (p_iconst (n := 0) (v := 0) (by decide +kernel) rfl) ?_
            refine r_sub (lv' := [(3, vi x9)]) [0] rfl ?_
            exact hj17 0 _
          · refine r_p (pc' := 66) (p_iconst (n := 1) (v := 1) (by decide +kernel) rfl) ?_
            refine r_p (pc' := 70) (p_goto (off := 4) (tgt := 70) (by decide +kernel) (by decide)) ?_
            refine r_sub (lv' := [(3, vi x9)]) [0] rfl ?_
            exact hj17 1 _
      · refine r_icmpeq (off := 7) (tgt := 50) (by decide +kernel) (by decide) (fun h8 => ?_) (fun h8 => ?_)
        · refine r_p (pc' := 51) (p_iconst (n := 0) (v := 0) (by decide +kernel) rfl) ?_
          exact hj11 0 _
        · refine r_p (pc' := 47) (p_iconst (n := 1) (v := 1) (by decide +kernel) rfl) ?_
          refine r_p (pc' := 51) (p_goto (off := 4) (tgt := 51) (by decide +kernel) (by decide)) ?_
          exact hj11 1 _
    · refine r_p (pc' := 32) (p_iconst (n := 0) (v := 0) (by decide +kernel) rfl) ?_
      exact r_iret rfl rfl _ rfl rfl (by decide +kernel)
  · refine r_p (pc' := 32) (p_iconst (n := 0) (v := 0) (by decide +kernel) rfl) ?_
    exact r_iret rfl rfl _ rfl rfl (by decide +kernel)
def aX12_headsWear : StA := (RX12, cX12_headsWear, 3, some .int, yX12_headsWear, 11, [])
noncomputable def mX12_headsWear_L4 (a0 : Nat) (x1 : Int32 × Int32) : MM ((Int32 × Int32) ⊕ (Int32)) :=
  mbnd (mX12_parts a0) fun (v5 : Int32) =>
  if v5 ≤ x1.2 then (
    mret (.inr x1.1)
  ) else (
    mbnd (mX12_isHead a0 x1.2) fun (v7 : Int32) =>
    mbnd (α := Int32) (
      if v7 = 0 then (
        mret 0
      ) else (
        mbnd (mX12_of a0 x1.2 2) fun (v12 : Int32) =>
        mret v12
      )
    ) fun (x9 : Int32) =>
    mbnd (mret (x1.1 + x9)) fun (v13 : Int32) =>
    mret (.inl (v13, x1.2 + 1))
  )
noncomputable def mX12_headsWear (a0 : Nat) : MM Int32 := onC 11 a0 (
  mbnd (loopM (mX12_headsWear_L4 a0) (0, 0)) fun (e14 : Int32) =>
  mret e14
  )
theorem rcX12_headsWear (a0 : Nat) : Rcv 11 a0 (mX12_headsWear a0) := fun s r h => ⟨(onC_some h).1, (onC_some h).2.1⟩
set_option maxHeartbeats 4000000 in
set_option maxRecDepth 100000 in
theorem ctX12_headsWear (a0 : Nat) : Ct aX12_headsWear [vr a0] (mX12_headsWear a0) rI := by
  unfold mX12_headsWear
  refine ct_onC (ct_intro (by decide +kernel) rfl (Nat.le_of_ble_eq_true rfl) fun Y s => ?_)
  refine r_sub (lv' := [(0, vr a0)]) [0] rfl ?_
  refine r_p (pc' := 1) (p_iconst (n := 0) (v := 0) (by decide +kernel) rfl) ?_
  refine r_p (pc' := 2) (p_istore_n (k := 1) (lv' := [(1, vi 0), (0, vr a0)]) (by decide +kernel) (Nat.le_of_ble_eq_true rfl) rfl) ?_
  refine r_p (pc' := 3) (p_iconst (n := 0) (v := 0) (by decide +kernel) rfl) ?_
  refine r_p (pc' := 4) (p_istore_n (k := 2) (lv' := [(2, vi 0), (1, vi 0), (0, vr a0)]) (by decide +kernel) (Nat.le_of_ble_eq_true rfl) rfl) ?_
  refine r_sub (lv' := [(0, vr a0), (1, vi 0), (2, vi 0)]) [2, 1, 0] rfl ?_
  refine r_loop2 (fun _ => 39) (fun (e14 : Int32) => [(1, vi e14)]) (fun (x1 : Int32 × Int32) => [(0, vr a0), (1, vi x1.1), (2, vi x1.2)]) (fun e14 s => ?_) (fun K2 hb3 he4 x1 s => ?_) (0, 0) _
  · refine r_p (pc' := 40) (p_iload_n 0 (k := 1) (by decide +kernel) rfl) ?_
    exact r_iret rfl rfl _ rfl rfl (by decide +kernel)
  · unfold mX12_headsWear_L4
    refine r_p (pc' := 5) (p_iload_n 2 (k := 2) (by decide +kernel) rfl) ?_
    refine r_p (pc' := 6) (p_aload_n 0 (k := 0) (by decide +kernel) rfl) ?_
    refine r_callVI mvX12_68 (ctX12_parts a0) (rcX12_parts a0) ⟨_, _, rfl⟩ (as := []) (st := [vi x1.2]) rfl rfl (by decide +kernel) rfl (Nat.le_of_ble_eq_true rfl) (Nat.le_of_ble_eq_true rfl) fun v5 s => ?_
    refine r_icmpge (off := 30) (tgt := 39) (by decide +kernel) (by decide) (fun h6 => ?_) (fun h6 => ?_)
    · refine r_sub (lv' := [(1, vi x1.1)]) [1] rfl ?_
      exact he4 x1.1 _
    · refine r_p (pc' := 13) (p_iload_n 1 (k := 1) (by decide +kernel) rfl) ?_
      refine r_p (pc' := 14) (p_aload_n 0 (k := 0) (by decide +kernel) rfl) ?_
      refine r_p (pc' := 15) (p_iload_n 2 (k := 2) (by decide +kernel) rfl) ?_
      refine r_callVI mvX12_292 (ctX12_isHead a0 x1.2) (rcX12_isHead a0 x1.2) ⟨_, _, rfl⟩ (as := [vi x1.2]) (st := [vi x1.1]) rfl rfl (by decide +kernel) rfl (Nat.le_of_ble_eq_true rfl) (Nat.le_of_ble_eq_true rfl) fun v7 s => ?_
      refine r_join 31 (fun (x9 : Int32) => [(0, vr a0), (2, vi x1.2)]) (fun (x9 : Int32) => [vi x9, vi x1.1]) (fun x9 s => ?_) (fun K10 hj11 => ?_)
      · refine r_p (pc' := 32) (p_iadd (by decide +kernel)) ?_
        refine r_letI fun v13 => ?_
        refine r_p (pc' := 33) (p_istore_n (k := 1) (lv' := [(1, vi v13), (0, vr a0), (2, vi x1.2)]) (by decide +kernel) (Nat.le_of_ble_eq_true rfl) rfl) ?_
        refine r_p (pc' := 36) (p_iinc 2 (i := 2) (n := 1) (x := x1.2) (v := x1.2 + 1) (lv' := [(2, vi (x1.2 + 1)), (1, vi v13), (0, vr a0)]) (by decide +kernel) rfl rfl (Nat.le_of_ble_eq_true rfl) rfl) ?_
        refine r_p (pc' := 4) (p_goto (off := -32) (tgt := 4) (by decide +kernel) (by decide)) ?_
        refine r_sub (lv' := [(0, vr a0), (1, vi v13), (2, vi (x1.2 + 1))]) [2, 1, 0] rfl ?_
        exact hb3 (v13, x1.2 + 1) _
      · refine r_ifeq (off := 12) (tgt := 30) (by decide +kernel) (by decide) (fun h8 => ?_) (fun h8 => ?_)
        · refine r_p (pc' := 31) (p_iconst (n := 0) (v := 0) (by decide +kernel) rfl) ?_
          refine r_sub (lv' := [(0, vr a0), (2, vi x1.2)]) [0, 2] rfl ?_
          exact hj11 0 _
        · refine r_p (pc' := 22) (p_aload_n 0 (k := 0) (by decide +kernel) rfl) ?_
          refine r_p (pc' := 23) (p_iload_n 2 (k := 2) (by decide +kernel) rfl) ?_
          refine r_p (pc' := 24) (p_iconst (n := 2) (v := 2) (by decide +kernel) rfl) ?_
          refine r_callVI mvX12_65 (ctX12_of a0 x1.2 2) (rcX12_of a0 x1.2 2) ⟨_, _, rfl⟩ (as := [vi x1.2, vi 2]) (st := [vi x1.1]) rfl rfl (by decide +kernel) rfl (Nat.le_of_ble_eq_true rfl) (Nat.le_of_ble_eq_true rfl) fun v12 s => ?_
          refine r_p (pc' := 31) (p_goto (off := 4) (tgt := 31) (by decide +kernel) (by decide)) ?_
          refine r_sub (lv' := [(0, vr a0), (2, vi x1.2)]) [0, 2] rfl ?_
          exact hj11 v12 _
def aX12_keepsSheet : StA := (RX12, cX12_keepsSheet, 2, none, yX12_keepsSheet, 11, [])
noncomputable def mX12_keepsSheet_L4 (a0 : Nat) (x1 : Int32) : MM ((Int32) ⊕ (Unit)) :=
  if x1 < 6 then (
    mret (.inr ())
  ) else (
    mbnd (gR 11 1 a0) fun (v6 : Nat) =>
    mbnd (gR 11 1 a0) fun (v7 : Nat) =>
    mbnd (ldI 0 v7 ((591 + x1) - 6)) fun (v8 : Int32) =>
    mbnd (stI 0 v6 (591 + x1) v8) fun _ =>
    mret (.inl (x1 + (-1)))
  )
noncomputable def mX12_keepsSheet_L41 (a0 : Nat) (x10 : Int32) : MM ((Int32) ⊕ (Unit)) :=
  if 6 ≤ x10 then (
    mret (.inr ())
  ) else (
    mbnd (gR 11 1 a0) fun (v15 : Nat) =>
    mbnd (mX12_tools a0) fun (v16 : Int32) =>
    mbnd (α := Int32) (
      if v16 ≤ x10 then (
        mret (-1)
      ) else (
        mbnd (mX12_markNow a0 x10) fun (v21 : Int32) =>
        mret v21
      )
    ) fun (x18 : Int32) =>
    mbnd (stI 0 v15 (591 + x10) x18) fun _ =>
    mret (.inl (x10 + 1))
  )
noncomputable def mX12_keepsSheet (a0 : Nat) : MM Unit := onC 11 a0 (
  mbnd (loopM (mX12_keepsSheet_L4 a0) 179) fun (e9 : Unit) =>
  mbnd (loopM (mX12_keepsSheet_L41 a0) 0) fun (e22 : Unit) =>
  mbnd (gR 11 1 a0) fun (v23 : Nat) =>
  mbnd (gR 11 1 a0) fun (v24 : Nat) =>
  mbnd (ldI 0 v24 11) fun (v25 : Int32) =>
  mbnd (stI 0 v23 11 (imin 30 (v25 + 1))) fun _ =>
  mret ()
  )
theorem rcX12_keepsSheet (a0 : Nat) : Rcv 11 a0 (mX12_keepsSheet a0) := fun s r h => ⟨(onC_some h).1, (onC_some h).2.1⟩
set_option maxHeartbeats 4000000 in
set_option maxRecDepth 100000 in
theorem ctX12_keepsSheet (a0 : Nat) : Ct aX12_keepsSheet [vr a0] (mX12_keepsSheet a0) rU := by
  unfold mX12_keepsSheet
  refine ct_onC (ct_intro (by decide +kernel) rfl (Nat.le_of_ble_eq_true rfl) fun Y s => ?_)
  refine r_sub (lv' := [(0, vr a0)]) [0] rfl ?_
  refine r_p (pc' := 3) (p_sipush (n := 179) (v := 179) (by decide +kernel) (by decide +kernel)) ?_
  refine r_p (pc' := 4) (p_istore_n (k := 1) (lv' := [(1, vi 179), (0, vr a0)]) (by decide +kernel) (Nat.le_of_ble_eq_true rfl) rfl) ?_
  refine r_sub (lv' := [(0, vr a0), (1, vi 179)]) [1, 0] rfl ?_
  refine r_loop2 (fun _ => 39) (fun (e9 : Unit) => [(0, vr a0)]) (fun (x1 : Int32) => [(0, vr a0), (1, vi x1)]) (fun e9 s => ?_) (fun K2 hb3 he4 x1 s => ?_) 179 _
  · refine r_p (pc' := 40) (p_iconst (n := 0) (v := 0) (by decide +kernel) rfl) ?_
    refine r_p (pc' := 41) (p_istore_n (k := 1) (lv' := [(1, vi 0), (0, vr a0)]) (by decide +kernel) (Nat.le_of_ble_eq_true rfl) rfl) ?_
    refine r_sub (lv' := [(0, vr a0), (1, vi 0)]) [1, 0] rfl ?_
    refine r_loop2 (fun _ => 80) (fun (e22 : Unit) => [(0, vr a0)]) (fun (x10 : Int32) => [(0, vr a0), (1, vi x10)]) (fun e22 s => ?_) (fun K11 hb12 he13 x10 s => ?_) 0 _
    · refine r_p (pc' := 81) (p_aload_n 0 (k := 0) (by decide +kernel) rfl) ?_
      refine r_gR flX12_13_11 (by decide +kernel) fun v23 => ?_
      refine r_p (pc' := 86) (p_bipush (n := 11) (v := 11) (by decide +kernel) (by decide +kernel)) ?_
      refine r_p (pc' := 88) (p_bipush (n := 30) (v := 30) (by decide +kernel) (by decide +kernel)) ?_
      refine r_p (pc' := 89) (p_aload_n 0 (k := 0) (by decide +kernel) rfl) ?_
      refine r_gR flX12_13_11 (by decide +kernel) fun v24 => ?_
      refine r_p (pc' := 94) (p_bipush (n := 11) (v := 11) (by decide +kernel) (by decide +kernel)) ?_
      refine r_ldI0 (by decide +kernel) fun v25 => ?_
      refine r_p (pc' := 96) (p_iconst (n := 1) (v := 1) (by decide +kernel) rfl) ?_
      refine r_p (pc' := 97) (p_iadd (by decide +kernel)) ?_
      refine r_p (pc' := 100) (p_min (idx := 298) (tblG_of 2042 (by decide +kernel) (by decide +kernel)) (Nat.le_of_ble_eq_true rfl) (Nat.le_of_ble_eq_true rfl) (by decide +kernel)) ?_
      refine r_stI0 (by decide +kernel) fun s => ?_
      exact r_vret (y9 := ()) rfl rfl rfl (by decide +kernel)
    · unfold mX12_keepsSheet_L41
      refine r_p (pc' := 42) (p_iload_n 1 (k := 1) (by decide +kernel) rfl) ?_
      refine r_p (pc' := 44) (p_bipush (n := 6) (v := 6) (by decide +kernel) (by decide +kernel)) ?_
      refine r_icmpge (off := 36) (tgt := 80) (by decide +kernel) (by decide) (fun h14 => ?_) (fun h14 => ?_)
      · refine r_sub (lv' := [(0, vr a0)]) [0] rfl ?_
        exact he13 () _
      · refine r_p (pc' := 48) (p_aload_n 0 (k := 0) (by decide +kernel) rfl) ?_
        refine r_gR flX12_13_11 (by decide +kernel) fun v15 => ?_
        refine r_p (pc' := 54) (p_sipush (n := 591) (v := 591) (by decide +kernel) (by decide +kernel)) ?_
        refine r_p (pc' := 55) (p_iload_n 1 (k := 1) (by decide +kernel) rfl) ?_
        refine r_p (pc' := 56) (p_iadd (by decide +kernel)) ?_
        refine r_p (pc' := 57) (p_iload_n 1 (k := 1) (by decide +kernel) rfl) ?_
        refine r_p (pc' := 58) (p_aload_n 0 (k := 0) (by decide +kernel) rfl) ?_
        refine r_callVI mvX12_76 (ctX12_tools a0) (rcX12_tools a0) ⟨_, _, rfl⟩ (as := []) (st := [vi x10, vi (591 + x10), vr v15]) rfl rfl (by decide +kernel) rfl (Nat.le_of_ble_eq_true rfl) (Nat.le_of_ble_eq_true rfl) fun v16 s => ?_
        refine r_join 73 (fun (x18 : Int32) => [(0, vr a0), (1, vi x10)]) (fun (x18 : Int32) => [vi x18, vi (591 + x10), vr v15]) (fun x18 s => ?_) (fun K19 hj20 => ?_)
        · refine r_stI0 (by decide +kernel) fun s => ?_
          refine r_p (pc' := 77) (p_iinc 1 (i := 1) (n := 1) (x := x10) (v := x10 + 1) (lv' := [(1, vi (x10 + 1)), (0, vr a0)]) (by decide +kernel) rfl rfl (Nat.le_of_ble_eq_true rfl) rfl) ?_
          refine r_p (pc' := 41) (p_goto (off := -36) (tgt := 41) (by decide +kernel) (by decide)) ?_
          refine r_sub (lv' := [(0, vr a0), (1, vi (x10 + 1))]) [1, 0] rfl ?_
          exact hb12 (x10 + 1) _
        · refine r_icmpge (off := 11) (tgt := 72) (by decide +kernel) (by decide) (fun h17 => ?_) (fun h17 => ?_)
          · refine r_p (pc' := 73) (p_iconst (n := -1) (v := -1) (by decide +kernel) rfl) ?_
            exact hj20 (-1) _
          · refine r_p (pc' := 65) (p_aload_n 0 (k := 0) (by decide +kernel) rfl) ?_
            refine r_p (pc' := 66) (p_iload_n 1 (k := 1) (by decide +kernel) rfl) ?_
            refine r_callVI mvX12_352 (ctX12_markNow a0 x10) (rcX12_markNow a0 x10) ⟨_, _, rfl⟩ (as := [vi x10]) (st := [vi (591 + x10), vr v15]) rfl rfl (by decide +kernel) rfl (Nat.le_of_ble_eq_true rfl) (Nat.le_of_ble_eq_true rfl) fun v21 s => ?_
            refine r_p (pc' := 73) (p_goto (off := 4) (tgt := 73) (by decide +kernel) (by decide)) ?_
            exact hj20 v21 _
  · unfold mX12_keepsSheet_L4
    refine r_p (pc' := 5) (p_iload_n 1 (k := 1) (by decide +kernel) rfl) ?_
    refine r_p (pc' := 7) (p_bipush (n := 6) (v := 6) (by decide +kernel) (by decide +kernel)) ?_
    refine r_icmplt (off := 32) (tgt := 39) (by decide +kernel) (by decide) (fun h5 => ?_) (fun h5 => ?_)
    · refine r_sub (lv' := [(0, vr a0)]) [0] rfl ?_
      exact he4 () _
    · refine r_p (pc' := 11) (p_aload_n 0 (k := 0) (by decide +kernel) rfl) ?_
      refine r_gR flX12_13_11 (by decide +kernel) fun v6 => ?_
      refine r_p (pc' := 17) (p_sipush (n := 591) (v := 591) (by decide +kernel) (by decide +kernel)) ?_
      refine r_p (pc' := 18) (p_iload_n 1 (k := 1) (by decide +kernel) rfl) ?_
      refine r_p (pc' := 19) (p_iadd (by decide +kernel)) ?_
      refine r_p (pc' := 20) (p_aload_n 0 (k := 0) (by decide +kernel) rfl) ?_
      refine r_gR flX12_13_11 (by decide +kernel) fun v7 => ?_
      refine r_p (pc' := 26) (p_sipush (n := 591) (v := 591) (by decide +kernel) (by decide +kernel)) ?_
      refine r_p (pc' := 27) (p_iload_n 1 (k := 1) (by decide +kernel) rfl) ?_
      refine r_p (pc' := 28) (p_iadd (by decide +kernel)) ?_
      refine r_p (pc' := 30) (p_bipush (n := 6) (v := 6) (by decide +kernel) (by decide +kernel)) ?_
      refine r_p (pc' := 31) (p_isub (by decide +kernel)) ?_
      refine r_ldI0 (by decide +kernel) fun v8 => ?_
      refine r_stI0 (by decide +kernel) fun s => ?_
      refine r_p (pc' := 36) (p_iinc 1 (i := 1) (n := -1) (x := x1) (v := x1 + (-1)) (lv' := [(1, vi (x1 + (-1))), (0, vr a0)]) (by decide +kernel) rfl rfl (Nat.le_of_ble_eq_true rfl) rfl) ?_
      refine r_p (pc' := 4) (p_goto (off := -32) (tgt := 4) (by decide +kernel) (by decide)) ?_
      refine r_sub (lv' := [(0, vr a0), (1, vi (x1 + (-1)))]) [1, 0] rfl ?_
      exact hb3 (x1 + (-1)) _
def aX12_oneDay : StA := (RX12, cX12_oneDay, 3, none, yX12_oneDay, 12, [])
theorem mvX12_373 : MV RX12 373 aX12_keepsSheet 0 := ⟨tblG_of 2119 (by decide +kernel) (by decide +kernel), tblG_of 2121 (by decide +kernel) (by decide +kernel), tblG_of 116 (by decide +kernel) (by decide +kernel), tblG_of 157 (by decide +kernel) (by decide +kernel), tblG_of 2122 (by decide +kernel) (by decide +kernel), rfl, ⟨by decide, by decide⟩, by decide +kernel, by decide⟩
theorem mvX12_376 : MV RX12 376 aX12_draw 1 := ⟨tblG_of 2123 (by decide +kernel) (by decide +kernel), tblG_of 2125 (by decide +kernel) (by decide +kernel), tblG_of 117 (by decide +kernel) (by decide +kernel), tblG_of 157 (by decide +kernel) (by decide +kernel), tblG_of 2126 (by decide +kernel) (by decide +kernel), rfl, ⟨by decide, by decide⟩, by decide +kernel, by decide⟩
noncomputable def mX12_oneDay_L28 (a0 : Nat) (x5 : Int32) (x8 : Int32) : MM ((Int32) ⊕ (Unit)) :=
  mbnd (mX12_parts a0) fun (v12 : Int32) =>
  if v12 ≤ x8 then (
    mret (.inr ())
  ) else (
    if x5 = 0 then (
      mret (.inr ())
    ) else (
      mbnd (mX12_isHead a0 x8) fun (v15 : Int32) =>
      mbnd (α := Unit) (
        if v15 = 0 then (
          mret ()
        ) else (
          mbnd (mX12_wears a0 x8 1) fun _ =>
          mret ()
        )
      ) fun (x17 : Unit) =>
      mret (.inl (x8 + 1))
    )
  )
noncomputable def mX12_oneDay_L72 (a0 : Nat) (x23 : Int32) : MM ((Int32) ⊕ (Unit)) :=
  mbnd (mX12_tools a0) fun (v27 : Int32) =>
  if v27 ≤ x23 then (
    mret (.inr ())
  ) else (
    mbnd (gR 11 1 a0) fun (v29 : Nat) =>
    mbnd (mret ((141 + (4 * x23)) + 3)) fun (v30 : Int32) =>
    mbnd (ldI 0 v29 v30) fun (v31 : Int32) =>
    mbnd (stI 0 v29 v30 (iushr v31 1)) fun _ =>
    mret (.inl (x23 + 1))
  )
noncomputable def mX12_oneDay (a0 : Nat) : MM Unit := onC 11 a0 (
  mbnd (mX12_keepsSheet a0) fun _ =>
  mbnd (mX12_draw a0 100) fun (v1 : Int32) =>
  mbnd (gR 11 1 a0) fun (v2 : Nat) =>
  mbnd (ldI 0 v2 8) fun (v3 : Int32) =>
  mbnd (α := Int32) (
    if v3 ≤ v1 then (
      mret 0
    ) else (
      mret 1
    )
  ) fun (x5 : Int32) =>
  mbnd (loopM (mX12_oneDay_L28 a0 x5) 0) fun (e20 : Unit) =>
  mbnd (gR 11 1 a0) fun (v21 : Nat) =>
  mbnd (ldI 0 v21 5) fun (v22 : Int32) =>
  mbnd (stI 0 v21 5 (v22 + 1)) fun _ =>
  mbnd (loopM (mX12_oneDay_L72 a0) 0) fun (e32 : Unit) =>
  mret ()
  )
theorem rcX12_oneDay (a0 : Nat) : Rcv 11 a0 (mX12_oneDay a0) := fun s r h => ⟨(onC_some h).1, (onC_some h).2.1⟩
set_option maxHeartbeats 4000000 in
set_option maxRecDepth 100000 in
theorem ctX12_oneDay (a0 : Nat) : Ct aX12_oneDay [vr a0] (mX12_oneDay a0) rU := by
  unfold mX12_oneDay
  refine ct_onC (ct_intro (by decide +kernel) rfl (Nat.le_of_ble_eq_true rfl) fun Y s => ?_)
  refine r_sub (lv' := [(0, vr a0)]) [0] rfl ?_
  refine r_p (pc' := 1) (p_aload_n 0 (k := 0) (by decide +kernel) rfl) ?_
  refine r_callVU mvX12_373 (ctX12_keepsSheet a0) (rcX12_keepsSheet a0) ⟨_, _, rfl⟩ (as := []) (st := []) rfl rfl (by decide +kernel) rfl (Nat.le_of_ble_eq_true rfl) (Nat.le_of_ble_eq_true rfl) fun s => ?_
  refine r_p (pc' := 5) (p_aload_n 0 (k := 0) (by decide +kernel) rfl) ?_
  refine r_p (pc' := 7) (p_bipush (n := 100) (v := 100) (by decide +kernel) (by decide +kernel)) ?_
  refine r_callVI mvX12_376 (ctX12_draw a0 100) (rcX12_draw a0 100) ⟨_, _, rfl⟩ (as := [vi 100]) (st := []) rfl rfl (by decide +kernel) rfl (Nat.le_of_ble_eq_true rfl) (Nat.le_of_ble_eq_true rfl) fun v1 s => ?_
  refine r_p (pc' := 11) (p_aload_n 0 (k := 0) (by decide +kernel) rfl) ?_
  refine r_gR flX12_13_11 (by decide +kernel) fun v2 => ?_
  refine r_p (pc' := 16) (p_bipush (n := 8) (v := 8) (by decide +kernel) (by decide +kernel)) ?_
  refine r_ldI0 (by decide +kernel) fun v3 => ?_
  refine r_join 25 (fun (x5 : Int32) => [(0, vr a0)]) (fun (x5 : Int32) => [vi x5]) (fun x5 s => ?_) (fun K6 hj7 => ?_)
  · refine r_p (pc' := 26) (p_istore_n (k := 1) (lv' := [(1, vi x5), (0, vr a0)]) (by decide +kernel) (Nat.le_of_ble_eq_true rfl) rfl) ?_
    refine r_p (pc' := 27) (p_iconst (n := 0) (v := 0) (by decide +kernel) rfl) ?_
    refine r_p (pc' := 28) (p_istore_n (k := 2) (lv' := [(2, vi 0), (1, vi x5), (0, vr a0)]) (by decide +kernel) (Nat.le_of_ble_eq_true rfl) rfl) ?_
    refine r_sub (lv' := [(0, vr a0), (1, vi x5), (2, vi 0)]) [2, 1, 0] rfl ?_
    refine r_loop2 (fun _ => 60) (fun (e20 : Unit) => [(0, vr a0)]) (fun (x8 : Int32) => [(0, vr a0), (1, vi x5), (2, vi x8)]) (fun e20 s => ?_) (fun K9 hb10 he11 x8 s => ?_) 0 _
    · refine r_p (pc' := 61) (p_aload_n 0 (k := 0) (by decide +kernel) rfl) ?_
      refine r_gR flX12_13_11 (by decide +kernel) fun v21 => ?_
      refine r_p (pc' := 65) (p_iconst (n := 5) (v := 5) (by decide +kernel) rfl) ?_
      refine r_p (pc' := 66) (p_dup2 rfl rfl (by decide +kernel)) ?_
      refine r_ldI0 (by decide +kernel) fun v22 => ?_
      refine r_p (pc' := 68) (p_iconst (n := 1) (v := 1) (by decide +kernel) rfl) ?_
      refine r_p (pc' := 69) (p_iadd (by decide +kernel)) ?_
      refine r_stI0 (by decide +kernel) fun s => ?_
      refine r_p (pc' := 71) (p_iconst (n := 0) (v := 0) (by decide +kernel) rfl) ?_
      refine r_p (pc' := 72) (p_istore_n (k := 2) (lv' := [(2, vi 0), (0, vr a0)]) (by decide +kernel) (Nat.le_of_ble_eq_true rfl) rfl) ?_
      refine r_sub (lv' := [(0, vr a0), (2, vi 0)]) [1, 0] rfl ?_
      refine r_loop2 (fun _ => 104) (fun (e32 : Unit) => []) (fun (x23 : Int32) => [(0, vr a0), (2, vi x23)]) (fun e32 s => ?_) (fun K24 hb25 he26 x23 s => ?_) 0 _
      · exact r_vret (y9 := ()) rfl rfl rfl (by decide +kernel)
      · unfold mX12_oneDay_L72
        refine r_p (pc' := 73) (p_iload_n 1 (k := 2) (by decide +kernel) rfl) ?_
        refine r_p (pc' := 74) (p_aload_n 0 (k := 0) (by decide +kernel) rfl) ?_
        refine r_callVI mvX12_76 (ctX12_tools a0) (rcX12_tools a0) ⟨_, _, rfl⟩ (as := []) (st := [vi x23]) rfl rfl (by decide +kernel) rfl (Nat.le_of_ble_eq_true rfl) (Nat.le_of_ble_eq_true rfl) fun v27 s => ?_
        refine r_icmpge (off := 27) (tgt := 104) (by decide +kernel) (by decide) (fun h28 => ?_) (fun h28 => ?_)
        · refine r_sub (lv' := []) [] rfl ?_
          exact he26 () _
        · refine r_p (pc' := 81) (p_aload_n 0 (k := 0) (by decide +kernel) rfl) ?_
          refine r_gR flX12_13_11 (by decide +kernel) fun v29 => ?_
          refine r_p (pc' := 87) (p_sipush (n := 141) (v := 141) (by decide +kernel) (by decide +kernel)) ?_
          refine r_p (pc' := 88) (p_iconst (n := 4) (v := 4) (by decide +kernel) rfl) ?_
          refine r_p (pc' := 89) (p_iload_n 1 (k := 2) (by decide +kernel) rfl) ?_
          refine r_p (pc' := 90) (p_imul (by decide +kernel)) ?_
          refine r_p (pc' := 91) (p_iadd (by decide +kernel)) ?_
          refine r_p (pc' := 92) (p_iconst (n := 3) (v := 3) (by decide +kernel) rfl) ?_
          refine r_p (pc' := 93) (p_iadd (by decide +kernel)) ?_
          refine r_letI fun v30 => ?_
          refine r_p (pc' := 94) (p_dup2 rfl rfl (by decide +kernel)) ?_
          refine r_ldI0 (by decide +kernel) fun v31 => ?_
          refine r_p (pc' := 96) (p_iconst (n := 1) (v := 1) (by decide +kernel) rfl) ?_
          refine r_p (pc' := 97) (p_iushr (by decide +kernel)) ?_
          refine r_stI0 (by decide +kernel) fun s => ?_
          refine r_p (pc' := 101) (p_iinc 1 (i := 2) (n := 1) (x := x23) (v := x23 + 1) (lv' := [(2, vi (x23 + 1)), (0, vr a0)]) (by decide +kernel) rfl rfl (Nat.le_of_ble_eq_true rfl) rfl) ?_
          refine r_p (pc' := 72) (p_goto (off := -29) (tgt := 72) (by decide +kernel) (by decide)) ?_
          refine r_sub (lv' := [(0, vr a0), (2, vi (x23 + 1))]) [1, 0] rfl ?_
          exact hb25 (x23 + 1) _
    · unfold mX12_oneDay_L28
      refine r_p (pc' := 29) (p_iload_n 2 (k := 2) (by decide +kernel) rfl) ?_
      refine r_p (pc' := 30) (p_aload_n 0 (k := 0) (by decide +kernel) rfl) ?_
      refine r_callVI mvX12_68 (ctX12_parts a0) (rcX12_parts a0) ⟨_, _, rfl⟩ (as := []) (st := [vi x8]) rfl rfl (by decide +kernel) rfl (Nat.le_of_ble_eq_true rfl) (Nat.le_of_ble_eq_true rfl) fun v12 s => ?_
      refine r_icmpge (off := 27) (tgt := 60) (by decide +kernel) (by decide) (fun h13 => ?_) (fun h13 => ?_)
      · refine r_sub (lv' := [(0, vr a0)]) [0] rfl ?_
        exact he11 () _
      · refine r_p (pc' := 37) (p_iload_n 1 (k := 1) (by decide +kernel) rfl) ?_
        refine r_ifeq (off := 23) (tgt := 60) (by decide +kernel) (by decide) (fun h14 => ?_) (fun h14 => ?_)
        · refine r_sub (lv' := [(0, vr a0)]) [0] rfl ?_
          exact he11 () _
        · refine r_p (pc' := 41) (p_aload_n 0 (k := 0) (by decide +kernel) rfl) ?_
          refine r_p (pc' := 42) (p_iload_n 2 (k := 2) (by decide +kernel) rfl) ?_
          refine r_callVI mvX12_292 (ctX12_isHead a0 x8) (rcX12_isHead a0 x8) ⟨_, _, rfl⟩ (as := [vi x8]) (st := []) rfl rfl (by decide +kernel) rfl (Nat.le_of_ble_eq_true rfl) (Nat.le_of_ble_eq_true rfl) fun v15 s => ?_
          refine r_join 54 (fun (x17 : Unit) => [(0, vr a0), (1, vi x5), (2, vi x8)]) (fun (x17 : Unit) => []) (fun x17 s => ?_) (fun K18 hj19 => ?_)
          · refine r_p (pc' := 57) (p_iinc 2 (i := 2) (n := 1) (x := x8) (v := x8 + 1) (lv' := [(2, vi (x8 + 1)), (0, vr a0), (1, vi x5)]) (by decide +kernel) rfl rfl (Nat.le_of_ble_eq_true rfl) rfl) ?_
            refine r_p (pc' := 28) (p_goto (off := -29) (tgt := 28) (by decide +kernel) (by decide)) ?_
            refine r_sub (lv' := [(0, vr a0), (1, vi x5), (2, vi (x8 + 1))]) [1, 2, 0] rfl ?_
            exact hb10 (x8 + 1) _
          · refine r_ifeq (off := 9) (tgt := 54) (by decide +kernel) (by decide) (fun h16 => ?_) (fun h16 => ?_)
            · exact hj19 () _
            · refine r_p (pc' := 49) (p_aload_n 0 (k := 0) (by decide +kernel) rfl) ?_
              refine r_p (pc' := 50) (p_iload_n 2 (k := 2) (by decide +kernel) rfl) ?_
              refine r_p (pc' := 51) (p_iconst (n := 1) (v := 1) (by decide +kernel) rfl) ?_
              refine r_callVU mvX12_359 (ctX12_wears a0 x8 1) (rcX12_wears a0 x8 1) ⟨_, _, rfl⟩ (as := [vi x8, vi 1]) (st := []) rfl rfl (by decide +kernel) rfl (Nat.le_of_ble_eq_true rfl) (Nat.le_of_ble_eq_true rfl) fun s => ?_
              exact hj19 () _
  · refine r_icmpge (off := 7) (tgt := 24) (by decide +kernel) (by decide) (fun h4 => ?_) (fun h4 => ?_)
    · refine r_p (pc' := 25) (p_iconst (n := 0) (v := 0) (by decide +kernel) rfl) ?_
      exact hj7 0 _
    · refine r_p (pc' := 21) (p_iconst (n := 1) (v := 1) (by decide +kernel) rfl) ?_
      refine r_p (pc' := 25) (p_goto (off := 4) (tgt := 25) (by decide +kernel) (by decide)) ?_
      exact hj7 1 _
def aX12_days : StA := (RX12, cX12_days, 4, some .int, yX12_days, 13, [])
theorem mvX12_379 : MV RX12 379 aX12_headsWear 0 := ⟨tblG_of 2111 (by decide +kernel) (by decide +kernel), tblG_of 2113 (by decide +kernel) (by decide +kernel), tblG_of 114 (by decide +kernel) (by decide +kernel), tblG_of 157 (by decide +kernel) (by decide +kernel), tblG_of 2114 (by decide +kernel) (by decide +kernel), rfl, ⟨by decide, by decide⟩, by decide +kernel, by decide⟩
theorem mvX12_382 : MV RX12 382 aX12_oneDay 0 := ⟨tblG_of 2115 (by decide +kernel) (by decide +kernel), tblG_of 2117 (by decide +kernel) (by decide +kernel), tblG_of 115 (by decide +kernel) (by decide +kernel), tblG_of 157 (by decide +kernel) (by decide +kernel), tblG_of 2118 (by decide +kernel) (by decide +kernel), rfl, ⟨by decide, by decide⟩, by decide +kernel, by decide⟩
noncomputable def mX12_days_L41 (a0 : Nat) (a1 : Int32) (x9 : Int32) : MM ((Int32) ⊕ (Unit)) :=
  if a1 ≤ x9 then (
    mret (.inr ())
  ) else (
    mbnd (mX12_oneDay a0) fun _ =>
    mret (.inl (x9 + 1))
  )
noncomputable def mX12_days (a0 : Nat) (a1 : Int32) : MM Int32 := onC 11 a0 (
  mbnd (pI 11 0 a0 0) fun _ =>
  mbnd (mX12_in a1 1 60) fun (v1 : Int32) =>
  mbnd (α := Int32) (
    if v1 = 0 then (
      mret 1
    ) else (
      mret 0
    )
  ) fun (x3 : Int32) =>
  mbnd (mX12_throwsIf a0 x3 1) fun (v6 : Int32) =>
  if v6 = 0 then (
    mbnd (mX12_remembers a0) fun _ =>
    mbnd (mX12_headsWear a0) fun (v8 : Int32) =>
    mbnd (loopM (mX12_days_L41 a0 a1) 0) fun (e14 : Unit) =>
    mbnd (mX12_headsWear a0) fun (v15 : Int32) =>
    mret (v15 - v8)
  ) else (
    mret 0
  )
  )
theorem rcX12_days (a0 : Nat) (a1 : Int32) : Rcv 11 a0 (mX12_days a0 a1) := fun s r h => ⟨(onC_some h).1, (onC_some h).2.1⟩
set_option maxHeartbeats 4000000 in
set_option maxRecDepth 100000 in
theorem ctX12_days (a0 : Nat) (a1 : Int32) : Ct aX12_days [vr a0, vi a1] (mX12_days a0 a1) rI := by
  unfold mX12_days
  refine ct_onC (ct_intro (by decide +kernel) rfl (Nat.le_of_ble_eq_true rfl) fun Y s => ?_)
  refine r_sub (lv' := [(0, vr a0), (1, vi a1)]) [0, 1] rfl ?_
  refine r_p (pc' := 1) (p_aload_n 0 (k := 0) (by decide +kernel) rfl) ?_
  refine r_p (pc' := 2) (p_iconst (n := 0) (v := 0) (by decide +kernel) rfl) ?_
  refine r_pI fpX12_3_11 (fun h => by cases h) (by decide +kernel) fun s => ?_
  refine r_p (pc' := 6) (p_aload_n 0 (k := 0) (by decide +kernel) rfl) ?_
  refine r_p (pc' := 7) (p_iload_n 1 (k := 1) (by decide +kernel) rfl) ?_
  refine r_p (pc' := 8) (p_iconst (n := 1) (v := 1) (by decide +kernel) rfl) ?_
  refine r_p (pc' := 10) (p_bipush (n := 60) (v := 60) (by decide +kernel) (by decide +kernel)) ?_
  refine r_callSI msX12_72 (ctX12_in a1 1 60) (as := [vi a1, vi 1, vi 60]) (st := [vr a0]) rfl rfl (by decide +kernel) rfl (Nat.le_of_ble_eq_true rfl) (Nat.le_of_ble_eq_true rfl) fun v1 s => ?_
  refine r_join 21 (fun (x3 : Int32) => [(0, vr a0), (1, vi a1)]) (fun (x3 : Int32) => [vi x3, vr a0]) (fun x3 s => ?_) (fun K4 hj5 => ?_)
  · refine r_p (pc' := 22) (p_iconst (n := 1) (v := 1) (by decide +kernel) rfl) ?_
    refine r_callVI mvX12_265 (ctX12_throwsIf a0 x3 1) (rcX12_throwsIf a0 x3 1) ⟨_, _, rfl⟩ (as := [vi x3, vi 1]) (st := []) rfl rfl (by decide +kernel) rfl (Nat.le_of_ble_eq_true rfl) (Nat.le_of_ble_eq_true rfl) fun v6 s => ?_
    refine r_ifeq (off := 5) (tgt := 30) (by decide +kernel) (by decide) (fun h7 => ?_) (fun h7 => ?_)
    · refine r_p (pc' := 31) (p_aload_n 0 (k := 0) (by decide +kernel) rfl) ?_
      refine r_callVU mvX12_343 (ctX12_remembers a0) (rcX12_remembers a0) ⟨_, _, rfl⟩ (as := []) (st := []) rfl rfl (by decide +kernel) rfl (Nat.le_of_ble_eq_true rfl) (Nat.le_of_ble_eq_true rfl) fun s => ?_
      refine r_p (pc' := 35) (p_aload_n 0 (k := 0) (by decide +kernel) rfl) ?_
      refine r_callVI mvX12_379 (ctX12_headsWear a0) (rcX12_headsWear a0) ⟨_, _, rfl⟩ (as := []) (st := []) rfl rfl (by decide +kernel) rfl (Nat.le_of_ble_eq_true rfl) (Nat.le_of_ble_eq_true rfl) fun v8 s => ?_
      refine r_p (pc' := 39) (p_istore_n (k := 2) (lv' := [(2, vi v8), (0, vr a0), (1, vi a1)]) (by decide +kernel) (Nat.le_of_ble_eq_true rfl) rfl) ?_
      refine r_p (pc' := 40) (p_iconst (n := 0) (v := 0) (by decide +kernel) rfl) ?_
      refine r_p (pc' := 41) (p_istore_n (k := 3) (lv' := [(3, vi 0), (2, vi v8), (0, vr a0), (1, vi a1)]) (by decide +kernel) (Nat.le_of_ble_eq_true rfl) rfl) ?_
      refine r_sub (lv' := [(0, vr a0), (1, vi a1), (2, vi v8), (3, vi 0)]) [2, 3, 1, 0] rfl ?_
      refine r_loop2 (fun _ => 56) (fun (e14 : Unit) => [(0, vr a0), (2, vi v8)]) (fun (x9 : Int32) => [(0, vr a0), (1, vi a1), (2, vi v8), (3, vi x9)]) (fun e14 s => ?_) (fun K10 hb11 he12 x9 s => ?_) 0 _
      · refine r_p (pc' := 57) (p_aload_n 0 (k := 0) (by decide +kernel) rfl) ?_
        refine r_callVI mvX12_379 (ctX12_headsWear a0) (rcX12_headsWear a0) ⟨_, _, rfl⟩ (as := []) (st := []) rfl rfl (by decide +kernel) rfl (Nat.le_of_ble_eq_true rfl) (Nat.le_of_ble_eq_true rfl) fun v15 s => ?_
        refine r_p (pc' := 61) (p_iload_n 1 (k := 2) (by decide +kernel) rfl) ?_
        refine r_p (pc' := 62) (p_isub (by decide +kernel)) ?_
        exact r_iret rfl rfl _ rfl rfl (by decide +kernel)
      · unfold mX12_days_L41
        refine r_p (pc' := 42) (p_iload_n 3 (k := 3) (by decide +kernel) rfl) ?_
        refine r_p (pc' := 43) (p_iload_n 1 (k := 1) (by decide +kernel) rfl) ?_
        refine r_icmpge (off := 13) (tgt := 56) (by decide +kernel) (by decide) (fun h13 => ?_) (fun h13 => ?_)
        · refine r_sub (lv' := [(0, vr a0), (2, vi v8)]) [0, 2] rfl ?_
          exact he12 () _
        · refine r_p (pc' := 47) (p_aload_n 0 (k := 0) (by decide +kernel) rfl) ?_
          refine r_callVU mvX12_382 (ctX12_oneDay a0) (rcX12_oneDay a0) ⟨_, _, rfl⟩ (as := []) (st := []) rfl rfl (by decide +kernel) rfl (Nat.le_of_ble_eq_true rfl) (Nat.le_of_ble_eq_true rfl) fun s => ?_
          refine r_p (pc' := 53) (p_iinc 3 (i := 3) (n := 1) (x := x9) (v := x9 + 1) (lv' := [(3, vi (x9 + 1)), (0, vr a0), (1, vi a1), (2, vi v8)]) (by decide +kernel) rfl rfl (Nat.le_of_ble_eq_true rfl) rfl) ?_
          refine r_p (pc' := 41) (p_goto (off := -12) (tgt := 41) (by decide +kernel) (by decide)) ?_
          refine r_sub (lv' := [(0, vr a0), (1, vi a1), (2, vi v8), (3, vi (x9 + 1))]) [1, 2, 3, 0] rfl ?_
          exact hb11 (x9 + 1) _
    · refine r_p (pc' := 29) (p_iconst (n := 0) (v := 0) (by decide +kernel) rfl) ?_
      exact r_iret rfl rfl _ rfl rfl (by decide +kernel)
  · refine r_ifne (off := 7) (tgt := 20) (by decide +kernel) (by decide) (fun h2 => ?_) (fun h2 => ?_)
    · refine r_p (pc' := 17) (p_iconst (n := 1) (v := 1) (by decide +kernel) rfl) ?_
      refine r_p (pc' := 21) (p_goto (off := 4) (tgt := 21) (by decide +kernel) (by decide)) ?_
      exact hj5 1 _
    · refine r_p (pc' := 21) (p_iconst (n := 0) (v := 0) (by decide +kernel) rfl) ?_
      exact hj5 0 _
def aX12_isGuilty : StA := (RX12, cX12_isGuilty, 2, some .boolean, yX12_isGuilty, 11, [])
noncomputable def mX12_isGuilty (a0 : Nat) (a1 : Int32) : MM Int32 := onC 11 a0 (
  mbnd (mX12_answered a0 a1) fun (v1 : Int32) =>
  mbnd (gR 11 1 a0) fun (v2 : Nat) =>
  mbnd (ldI 0 v2 7) fun (v3 : Int32) =>
  if v1 ≤ v3 then (
    mret 0
  ) else (
    mret 1
  )
  )
theorem rcX12_isGuilty (a0 : Nat) (a1 : Int32) : Rcv 11 a0 (mX12_isGuilty a0 a1) := fun s r h => ⟨(onC_some h).1, (onC_some h).2.1⟩
set_option maxHeartbeats 4000000 in
set_option maxRecDepth 100000 in
theorem ctX12_isGuilty (a0 : Nat) (a1 : Int32) : Ct aX12_isGuilty [vr a0, vi a1] (mX12_isGuilty a0 a1) rI := by
  unfold mX12_isGuilty
  refine ct_onC (ct_intro (by decide +kernel) rfl (Nat.le_of_ble_eq_true rfl) fun Y s => ?_)
  refine r_sub (lv' := [(0, vr a0), (1, vi a1)]) [0, 1] rfl ?_
  refine r_p (pc' := 1) (p_aload_n 0 (k := 0) (by decide +kernel) rfl) ?_
  refine r_p (pc' := 2) (p_iload_n 1 (k := 1) (by decide +kernel) rfl) ?_
  refine r_callVI mvX12_307 (ctX12_answered a0 a1) (rcX12_answered a0 a1) ⟨_, _, rfl⟩ (as := [vi a1]) (st := []) rfl rfl (by decide +kernel) rfl (Nat.le_of_ble_eq_true rfl) (Nat.le_of_ble_eq_true rfl) fun v1 s => ?_
  refine r_p (pc' := 6) (p_aload_n 0 (k := 0) (by decide +kernel) rfl) ?_
  refine r_gR flX12_13_11 (by decide +kernel) fun v2 => ?_
  refine r_p (pc' := 11) (p_bipush (n := 7) (v := 7) (by decide +kernel) (by decide +kernel)) ?_
  refine r_ldI0 (by decide +kernel) fun v3 => ?_
  refine r_icmple (off := 7) (tgt := 19) (by decide +kernel) (by decide) (fun h4 => ?_) (fun h4 => ?_)
  · refine r_p (pc' := 20) (p_iconst (n := 0) (v := 0) (by decide +kernel) rfl) ?_
    exact r_iret rfl rfl _ rfl rfl (by decide +kernel)
  · refine r_p (pc' := 16) (p_iconst (n := 1) (v := 1) (by decide +kernel) rfl) ?_
    refine r_p (pc' := 20) (p_goto (off := 4) (tgt := 20) (by decide +kernel) (by decide)) ?_
    exact r_iret rfl rfl _ rfl rfl (by decide +kernel)
def aX12_allGuilty : StA := (RX12, cX12_allGuilty, 3, some .int, yX12_allGuilty, 12, [])
theorem mvX12_385 : MV RX12 385 aX12_isGuilty 1 := ⟨tblG_of 2136 (by decide +kernel) (by decide +kernel), tblG_of 2138 (by decide +kernel) (by decide +kernel), tblG_of 119 (by decide +kernel) (by decide +kernel), tblG_of 157 (by decide +kernel) (by decide +kernel), tblG_of 2139 (by decide +kernel) (by decide +kernel), rfl, ⟨by decide, by decide⟩, by decide +kernel, by decide⟩
noncomputable def mX12_allGuilty_L4 (a0 : Nat) (x1 : Int32 × Int32) : MM ((Int32 × Int32) ⊕ (Int32)) :=
  mbnd (mX12_tools a0) fun (v5 : Int32) =>
  if v5 ≤ x1.2 then (
    mret (.inr x1.1)
  ) else (
    mbnd (mX12_isGuilty a0 x1.2) fun (v7 : Int32) =>
    mbnd (α := Int32) (
      if v7 = 0 then (
        mret 0
      ) else (
        mret (1 <<< (x1.2 &&& (31 : Int32)))
      )
    ) fun (x9 : Int32) =>
    mbnd (mret (x1.1 ||| x9)) fun (v12 : Int32) =>
    mret (.inl (v12, x1.2 + 1))
  )
noncomputable def mX12_allGuilty (a0 : Nat) : MM Int32 := onC 11 a0 (
  mbnd (loopM (mX12_allGuilty_L4 a0) (0, 0)) fun (e13 : Int32) =>
  mret e13
  )
theorem rcX12_allGuilty (a0 : Nat) : Rcv 11 a0 (mX12_allGuilty a0) := fun s r h => ⟨(onC_some h).1, (onC_some h).2.1⟩
set_option maxHeartbeats 4000000 in
set_option maxRecDepth 100000 in
theorem ctX12_allGuilty (a0 : Nat) : Ct aX12_allGuilty [vr a0] (mX12_allGuilty a0) rI := by
  unfold mX12_allGuilty
  refine ct_onC (ct_intro (by decide +kernel) rfl (Nat.le_of_ble_eq_true rfl) fun Y s => ?_)
  refine r_sub (lv' := [(0, vr a0)]) [0] rfl ?_
  refine r_p (pc' := 1) (p_iconst (n := 0) (v := 0) (by decide +kernel) rfl) ?_
  refine r_p (pc' := 2) (p_istore_n (k := 1) (lv' := [(1, vi 0), (0, vr a0)]) (by decide +kernel) (Nat.le_of_ble_eq_true rfl) rfl) ?_
  refine r_p (pc' := 3) (p_iconst (n := 0) (v := 0) (by decide +kernel) rfl) ?_
  refine r_p (pc' := 4) (p_istore_n (k := 2) (lv' := [(2, vi 0), (1, vi 0), (0, vr a0)]) (by decide +kernel) (Nat.le_of_ble_eq_true rfl) rfl) ?_
  refine r_sub (lv' := [(0, vr a0), (1, vi 0), (2, vi 0)]) [2, 1, 0] rfl ?_
  refine r_loop2 (fun _ => 36) (fun (e13 : Int32) => [(1, vi e13)]) (fun (x1 : Int32 × Int32) => [(0, vr a0), (1, vi x1.1), (2, vi x1.2)]) (fun e13 s => ?_) (fun K2 hb3 he4 x1 s => ?_) (0, 0) _
  · refine r_p (pc' := 37) (p_iload_n 0 (k := 1) (by decide +kernel) rfl) ?_
    exact r_iret rfl rfl _ rfl rfl (by decide +kernel)
  · unfold mX12_allGuilty_L4
    refine r_p (pc' := 5) (p_iload_n 2 (k := 2) (by decide +kernel) rfl) ?_
    refine r_p (pc' := 6) (p_aload_n 0 (k := 0) (by decide +kernel) rfl) ?_
    refine r_callVI mvX12_76 (ctX12_tools a0) (rcX12_tools a0) ⟨_, _, rfl⟩ (as := []) (st := [vi x1.2]) rfl rfl (by decide +kernel) rfl (Nat.le_of_ble_eq_true rfl) (Nat.le_of_ble_eq_true rfl) fun v5 s => ?_
    refine r_icmpge (off := 27) (tgt := 36) (by decide +kernel) (by decide) (fun h6 => ?_) (fun h6 => ?_)
    · refine r_sub (lv' := [(1, vi x1.1)]) [1] rfl ?_
      exact he4 x1.1 _
    · refine r_p (pc' := 13) (p_iload_n 1 (k := 1) (by decide +kernel) rfl) ?_
      refine r_p (pc' := 14) (p_aload_n 0 (k := 0) (by decide +kernel) rfl) ?_
      refine r_p (pc' := 15) (p_iload_n 2 (k := 2) (by decide +kernel) rfl) ?_
      refine r_callVI mvX12_385 (ctX12_isGuilty a0 x1.2) (rcX12_isGuilty a0 x1.2) ⟨_, _, rfl⟩ (as := [vi x1.2]) (st := [vi x1.1]) rfl rfl (by decide +kernel) rfl (Nat.le_of_ble_eq_true rfl) (Nat.le_of_ble_eq_true rfl) fun v7 s => ?_
      refine r_join 28 (fun (x9 : Int32) => [(0, vr a0), (2, vi x1.2)]) (fun (x9 : Int32) => [vi x9, vi x1.1]) (fun x9 s => ?_) (fun K10 hj11 => ?_)
      · refine r_p (pc' := 29) (p_ior (by decide +kernel)) ?_
        refine r_letI fun v12 => ?_
        refine r_p (pc' := 30) (p_istore_n (k := 1) (lv' := [(1, vi v12), (0, vr a0), (2, vi x1.2)]) (by decide +kernel) (Nat.le_of_ble_eq_true rfl) rfl) ?_
        refine r_p (pc' := 33) (p_iinc 2 (i := 2) (n := 1) (x := x1.2) (v := x1.2 + 1) (lv' := [(2, vi (x1.2 + 1)), (1, vi v12), (0, vr a0)]) (by decide +kernel) rfl rfl (Nat.le_of_ble_eq_true rfl) rfl) ?_
        refine r_p (pc' := 4) (p_goto (off := -29) (tgt := 4) (by decide +kernel) (by decide)) ?_
        refine r_sub (lv' := [(0, vr a0), (1, vi v12), (2, vi (x1.2 + 1))]) [2, 1, 0] rfl ?_
        exact hb3 (v12, x1.2 + 1) _
      · refine r_ifeq (off := 9) (tgt := 27) (by decide +kernel) (by decide) (fun h8 => ?_) (fun h8 => ?_)
        · refine r_p (pc' := 28) (p_iconst (n := 0) (v := 0) (by decide +kernel) rfl) ?_
          refine r_sub (lv' := [(0, vr a0), (2, vi x1.2)]) [0, 2] rfl ?_
          exact hj11 0 _
        · refine r_p (pc' := 22) (p_iconst (n := 1) (v := 1) (by decide +kernel) rfl) ?_
          refine r_p (pc' := 23) (p_iload_n 2 (k := 2) (by decide +kernel) rfl) ?_
          refine r_p (pc' := 24) (p_ishl (by decide +kernel)) ?_
          refine r_p (pc' := 28) (p_goto (off := 4) (tgt := 28) (by decide +kernel) (by decide)) ?_
          refine r_sub (lv' := [(0, vr a0), (2, vi x1.2)]) [0, 2] rfl ?_
          exact hj11 (1 <<< (x1.2 &&& (31 : Int32))) _
