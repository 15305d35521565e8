/-! PRINTED BY wip/whole/gen.py -/
def aX0_init : StA := (RX0, cX0_init, 1, none, yX0_init, 8, [])
theorem fpX0_9_0 : FP RX0 9 0 0 (.array .int) true := ⟨_, TX0, 6, "ToolCourt$Cell", tyX0, rfl, by decide, Or.inl (tblG_of 248 (by decide +kernel) (by decide +kernel)), Or.inl rfl, tyX0_ok, nmX0, rfl, by decide, by decide +kernel⟩
theorem fpX0_15_0 : FP RX0 15 0 1 (.array .int) true := ⟨_, TX0, 6, "ToolCourt$Cell", tyX0, rfl, by decide, Or.inl (tblG_of 249 (by decide +kernel) (by decide +kernel)), Or.inl rfl, tyX0_ok, nmX0, rfl, by decide, by decide +kernel⟩
theorem fpX0_18_0 : FP RX0 18 0 2 (.array .int) true := ⟨_, TX0, 6, "ToolCourt$Cell", tyX0, rfl, by decide, Or.inl (tblG_of 250 (by decide +kernel) (by decide +kernel)), Or.inl rfl, tyX0_ok, nmX0, rfl, by decide, by decide +kernel⟩
theorem fpX0_21_0 : FP RX0 21 0 3 (.array .int) true := ⟨_, TX0, 6, "ToolCourt$Cell", tyX0, rfl, by decide, Or.inl (tblG_of 251 (by decide +kernel) (by decide +kernel)), Or.inl rfl, tyX0_ok, nmX0, rfl, by decide, by decide +kernel⟩
noncomputable def mX0_init (a0 : Nat) : MM Unit := onC 0 a0 (
  mbnd (nwI 0 6) fun (v1 : Nat) =>
  mbnd (pR 0 0 a0 v1) fun _ =>
  mbnd (nwI 0 6) fun (v2 : Nat) =>
  mbnd (pR 0 1 a0 v2) fun _ =>
  mbnd (nwI 0 6) fun (v3 : Nat) =>
  mbnd (pR 0 2 a0 v3) fun _ =>
  mbnd (nwI 0 6) fun (v4 : Nat) =>
  mbnd (pR 0 3 a0 v4) fun _ =>
  mret ()
  )
theorem rcX0_init (a0 : Nat) : Rcv 0 a0 (mX0_init a0) := fun s r h => ⟨(onC_some h).1, (onC_some h).2.1⟩
set_option maxHeartbeats 4000000 in
set_option maxRecDepth 100000 in
theorem ctX0_init (a0 : Nat) : Ct aX0_init [vr a0] (mX0_init a0) rU := by
  unfold mX0_init
  refine ct_onC (ct_intro (by decide +kernel) rfl (Nat.le_of_ble_eq_true rfl) fun Y s => ?_)
  refine r_sub (lv' := [(0, vr a0)]) [0] rfl ?_
  refine r_p (pc' := 1) (p_aload_n 0 (k := 0) (by decide +kernel) rfl) ?_
  refine r_p (pc' := 4) (p_obj (idx := 3) (tblG_of 247 (by decide +kernel) (by decide +kernel)) (Nat.le_of_ble_eq_true rfl) (Nat.le_of_ble_eq_true rfl) (by decide +kernel)) ?_
  refine r_p (pc' := 5) (p_aload_n 0 (k := 0) (by decide +kernel) rfl) ?_
  refine r_p (pc' := 7) (p_bipush (n := 6) (v := 6) (by decide +kernel) (by decide +kernel)) ?_
  refine r_nwI (at9 := .int) (ty := .int) rfl (by decide) (by decide +kernel) fun v1 s => ?_
  refine r_pR fpX0_9_0 (fun _ => rfl) (Or.inr ⟨_, rfl⟩) (by decide +kernel) fun s => ?_
  refine r_p (pc' := 13) (p_aload_n 0 (k := 0) (by decide +kernel) rfl) ?_
  refine r_p (pc' := 15) (p_bipush (n := 6) (v := 6) (by decide +kernel) (by decide +kernel)) ?_
  refine r_nwI (at9 := .int) (ty := .int) rfl (by decide) (by decide +kernel) fun v2 s => ?_
  refine r_pR fpX0_15_0 (fun _ => rfl) (Or.inr ⟨_, rfl⟩) (by decide +kernel) fun s => ?_
  refine r_p (pc' := 21) (p_aload_n 0 (k := 0) (by decide +kernel) rfl) ?_
  refine r_p (pc' := 23) (p_bipush (n := 6) (v := 6) (by decide +kernel) (by decide +kernel)) ?_
  refine r_nwI (at9 := .int) (ty := .int) rfl (by decide) (by decide +kernel) fun v3 s => ?_
  refine r_pR fpX0_18_0 (fun _ => rfl) (Or.inr ⟨_, rfl⟩) (by decide +kernel) fun s => ?_
  refine r_p (pc' := 29) (p_aload_n 0 (k := 0) (by decide +kernel) rfl) ?_
  refine r_p (pc' := 31) (p_bipush (n := 6) (v := 6) (by decide +kernel) (by decide +kernel)) ?_
  refine r_nwI (at9 := .int) (ty := .int) rfl (by decide) (by decide +kernel) fun v4 s => ?_
  refine r_pR fpX0_21_0 (fun _ => rfl) (Or.inr ⟨_, rfl⟩) (by decide +kernel) fun s => ?_
  exact r_vret (y9 := ()) rfl rfl rfl (by decide +kernel)
def aX0_callUp : StA := (RX0, cX0_callUp, 5, some .int, yX0_callUp, 12, [])
theorem mvX0_49 : MV RX0 49 aX1_guiltySet 0 := ⟨tblG_of 693 (by decide +kernel) (by decide +kernel), tblG_of 574 (by decide +kernel) (by decide +kernel), tblG_of 575 (by decide +kernel) (by decide +kernel), tblG_of 151 (by decide +kernel) (by decide +kernel), tblG_of 576 (by decide +kernel) (by decide +kernel), rfl, ⟨by decide, by decide⟩, by decide +kernel, by decide⟩
theorem fpX0_46_0 : FP RX0 46 0 4 .int false := ⟨_, TX0, 6, "ToolCourt$Cell", tyX0, rfl, by decide, Or.inl (tblG_of 252 (by decide +kernel) (by decide +kernel)), Or.inl rfl, tyX0_ok, nmX0, rfl, by decide, by decide +kernel⟩
theorem flX0_54_1 : FL RX0 54 1 1 := ⟨_, TX1, 13, "ToolCourt$Court", rfl, by decide, Or.inr ⟨"ToolCourt", List.mem_of_getElem? (i := 349) (by decide +kernel)⟩, Or.inl rfl⟩
theorem flX0_57_8 : FL RX0 57 8 3 := ⟨_, TX8, 4, "ToolCourt$Table", rfl, by decide, Or.inr ⟨"ToolCourt", List.mem_of_getElem? (i := 327) (by decide +kernel)⟩, Or.inl rfl⟩
theorem flX0_18_0 : FL RX0 18 0 2 := ⟨_, TX0, 6, "ToolCourt$Cell", rfl, by decide, Or.inl (tblG_of 250 (by decide +kernel) (by decide +kernel)), Or.inl rfl⟩
theorem mvX0_62 : MV RX0 62 aX1_sentence 1 := ⟨tblG_of 694 (by decide +kernel) (by decide +kernel), tblG_of 695 (by decide +kernel) (by decide +kernel), tblG_of 696 (by decide +kernel) (by decide +kernel), tblG_of 151 (by decide +kernel) (by decide +kernel), tblG_of 697 (by decide +kernel) (by decide +kernel), rfl, ⟨by decide, by decide⟩, by decide +kernel, by decide⟩
theorem flX0_21_0 : FL RX0 21 0 3 := ⟨_, TX0, 6, "ToolCourt$Cell", rfl, by decide, Or.inl (tblG_of 251 (by decide +kernel) (by decide +kernel)), Or.inl rfl⟩
theorem mvX0_66 : MV RX0 66 aX8_get 2 := ⟨tblG_of 698 (by decide +kernel) (by decide +kernel), tblG_of 582 (by decide +kernel) (by decide +kernel), tblG_of 583 (by decide +kernel) (by decide +kernel), tblG_of 152 (by decide +kernel) (by decide +kernel), tblG_of 584 (by decide +kernel) (by decide +kernel), rfl, ⟨by decide, by decide⟩, by decide +kernel, by decide⟩
theorem msX0_70 : MSN RX0 70 "ToolCourt" aX11_inSet 2 := ⟨List.mem_of_getElem? (i := 699) (by decide +kernel), tblG_of 614 (by decide +kernel) (by decide +kernel), tblG_of 144 (by decide +kernel) (by decide +kernel), tblG_of 615 (by decide +kernel) (by decide +kernel), rfl, ⟨by decide, by decide⟩, by decide +kernel, by decide⟩
theorem flX0_46_0 : FL RX0 46 0 4 := ⟨_, TX0, 6, "ToolCourt$Cell", rfl, by decide, Or.inl (tblG_of 252 (by decide +kernel) (by decide +kernel)), Or.inl rfl⟩
theorem flX0_9_0 : FL RX0 9 0 0 := ⟨_, TX0, 6, "ToolCourt$Cell", rfl, by decide, Or.inl (tblG_of 248 (by decide +kernel) (by decide +kernel)), Or.inl rfl⟩
noncomputable def mX0_callUp_L15 (a0 : Nat) (a1 : Nat) (v1 : Int32) (x2 : Int32 × Int32) : MM ((Int32 × Int32) ⊕ (Int32)) :=
  mbnd (gR 1 1 a1) fun (v6 : Nat) =>
  mbnd (gI 8 3 v6) fun (v7 : Int32) =>
  if v7 ≤ x2.2 then (
    mret (.inr x2.1)
  ) else (
    if 6 ≤ x2.2 then (
      mret (.inr x2.1)
    ) else (
      mbnd (gR 0 2 a0) fun (v10 : Nat) =>
      mbnd (mX1_sentence a1 x2.2) fun (v11 : Int32) =>
      mbnd (stI 0 v10 x2.2 v11) fun _ =>
      mbnd (gR 0 3 a0) fun (v12 : Nat) =>
      mbnd (gR 1 1 a1) fun (v13 : Nat) =>
      mbnd (mX8_get v13 x2.2 3) fun (v14 : Int32) =>
      mbnd (stI 0 v12 x2.2 v14) fun _ =>
      mbnd (nox (mX11_inSet v1 x2.2)) fun (v15 : Int32) =>
      mbnd (α := Int32) (
        if v15 = 0 then (
          mret x2.1
        ) else (
          mbnd (gI 0 4 a0) fun (v20 : Int32) =>
          mbnd (gR 0 0 a0) fun (v21 : Nat) =>
          mbnd (lenI 0 v21) fun (v22 : Int32) =>
          if v22 ≤ v20 then (
            mret x2.1
          ) else (
            mbnd (gR 0 0 a0) fun (v24 : Nat) =>
            mbnd (gI 0 4 a0) fun (v25 : Int32) =>
            mbnd (stI 0 v24 v25 x2.2) fun _ =>
            mbnd (gI 0 4 a0) fun (v26 : Int32) =>
            mbnd (pI 0 4 a0 (v26 + 1)) fun _ =>
            mbnd (gR 0 2 a0) fun (v27 : Nat) =>
            mbnd (ldI 0 v27 x2.2) fun (v28 : Int32) =>
            mbnd (mret (x2.1 + v28)) fun (v29 : Int32) =>
            mret v29
          )
        )
      ) fun (x17 : Int32) =>
      mret (.inl (x17, x2.2 + 1))
    )
  )
noncomputable def mX0_callUp (a0 : Nat) (a1 : Nat) : MM Int32 := onC 0 a0 (
  mbnd (mX1_guiltySet a1) fun (v1 : Int32) =>
  mbnd (pI 0 4 a0 0) fun _ =>
  mbnd (loopM (mX0_callUp_L15 a0 a1 v1) (0, 0)) fun (e30 : Int32) =>
  mret e30
  )
theorem rcX0_callUp (a0 : Nat) (a1 : Nat) : Rcv 0 a0 (mX0_callUp a0 a1) := fun s r h => ⟨(onC_some h).1, (onC_some h).2.1⟩
set_option maxHeartbeats 4000000 in
set_option maxRecDepth 100000 in
theorem ctX0_callUp (a0 : Nat) (a1 : Nat) : Ct aX0_callUp [vr a0, vr a1] (mX0_callUp a0 a1) rI := by
  unfold mX0_callUp
  refine ct_onC (ct_intro (by decide +kernel) rfl (Nat.le_of_ble_eq_true rfl) fun Y s => ?_)
  refine r_sub (lv' := [(0, vr a0), (1, vr a1)]) [0, 1] rfl ?_
  refine r_p (pc' := 1) (p_aload_n 1 (k := 1) (by decide +kernel) rfl) ?_
  refine r_callVI mvX0_49 (ctX1_guiltySet a1) (rcX1_guiltySet a1) ⟨_, _, rfl⟩ (as := []) (st := []) rfl rfl (by decide +kernel) rfl (Nat.le_of_ble_eq_true rfl) (Nat.le_of_ble_eq_true rfl) fun v1 s => ?_
  refine r_p (pc' := 5) (p_istore_n (k := 2) (lv' := [(2, vi v1), (0, vr a0), (1, vr a1)]) (by decide +kernel) (Nat.le_of_ble_eq_true rfl) rfl) ?_
  refine r_p (pc' := 6) (p_iconst (n := 0) (v := 0) (by decide +kernel) rfl) ?_
  refine r_p (pc' := 7) (p_istore_n (k := 3) (lv' := [(3, vi 0), (2, vi v1), (0, vr a0), (1, vr a1)]) (by decide +kernel) (Nat.le_of_ble_eq_true rfl) rfl) ?_
  refine r_p (pc' := 8) (p_aload_n 2 (k := 0) (by decide +kernel) rfl) ?_
  refine r_p (pc' := 9) (p_iconst (n := 0) (v := 0) (by decide +kernel) rfl) ?_
  refine r_pI fpX0_46_0 (fun h => by cases h) (by decide +kernel) fun s => ?_
  refine r_p (pc' := 13) (p_iconst (n := 0) (v := 0) (by decide +kernel) rfl) ?_
  refine r_p (pc' := 15) (p_istore (i := 4) (lv' := [(4, vi 0), (3, vi 0), (2, vi v1), (0, vr a0), (1, vr a1)]) (by decide +kernel) (Nat.le_of_ble_eq_true rfl) rfl) ?_
  refine r_sub (lv' := [(0, vr a0), (1, vr a1), (2, vi v1), (3, vi 0), (4, vi 0)]) [3, 4, 2, 1, 0] rfl ?_
  refine r_loop2 (fun _ => 122) (fun (e30 : Int32) => [(3, vi e30)]) (fun (x2 : Int32 × Int32) => [(0, vr a0), (1, vr a1), (2, vi v1), (3, vi x2.1), (4, vi x2.2)]) (fun e30 s => ?_) (fun K3 hb4 he5 x2 s => ?_) (0, 0) _
  · refine r_p (pc' := 123) (p_iload_n 0 (k := 3) (by decide +kernel) rfl) ?_
    exact r_iret rfl rfl _ rfl rfl (by decide +kernel)
  · unfold mX0_callUp_L15
    refine r_p (pc' := 17) (p_iload 4 (i := 4) (by decide +kernel) rfl) ?_
    refine r_p (pc' := 18) (p_aload_n 1 (k := 1) (by decide +kernel) rfl) ?_
    refine r_gR flX0_54_1 (by decide +kernel) fun v6 => ?_
    refine r_gI flX0_57_8 (by decide +kernel) fun v7 => ?_
    refine r_icmpge (off := 98) (tgt := 122) (by decide +kernel) (by decide) (fun h8 => ?_) (fun h8 => ?_)
    · refine r_sub (lv' := [(3, vi x2.1)]) [3] rfl ?_
      exact he5 x2.1 _
    · refine r_p (pc' := 29) (p_iload 4 (i := 4) (by decide +kernel) rfl) ?_
      refine r_p (pc' := 31) (p_bipush (n := 6) (v := 6) (by decide +kernel) (by decide +kernel)) ?_
      refine r_icmpge (off := 91) (tgt := 122) (by decide +kernel) (by decide) (fun h9 => ?_) (fun h9 => ?_)
      · refine r_sub (lv' := [(3, vi x2.1)]) [3] rfl ?_
        exact he5 x2.1 _
      · refine r_p (pc' := 35) (p_aload_n 0 (k := 0) (by decide +kernel) rfl) ?_
        refine r_gR flX0_18_0 (by decide +kernel) fun v10 => ?_
        refine r_p (pc' := 40) (p_iload 4 (i := 4) (by decide +kernel) rfl) ?_
        refine r_p (pc' := 41) (p_aload_n 1 (k := 1) (by decide +kernel) rfl) ?_
        refine r_p (pc' := 43) (p_iload 4 (i := 4) (by decide +kernel) rfl) ?_
        refine r_callVI mvX0_62 (ctX1_sentence a1 x2.2) (rcX1_sentence a1 x2.2) ⟨_, _, rfl⟩ (as := [vi x2.2]) (st := [vi x2.2, vr v10]) rfl rfl (by decide +kernel) rfl (Nat.le_of_ble_eq_true rfl) (Nat.le_of_ble_eq_true rfl) fun v11 s => ?_
        refine r_stI0 (by decide +kernel) fun s => ?_
        refine r_p (pc' := 48) (p_aload_n 0 (k := 0) (by decide +kernel) rfl) ?_
        refine r_gR flX0_21_0 (by decide +kernel) fun v12 => ?_
        refine r_p (pc' := 53) (p_iload 4 (i := 4) (by decide +kernel) rfl) ?_
        refine r_p (pc' := 54) (p_aload_n 1 (k := 1) (by decide +kernel) rfl) ?_
        refine r_gR flX0_54_1 (by decide +kernel) fun v13 => ?_
        refine r_p (pc' := 59) (p_iload 4 (i := 4) (by decide +kernel) rfl) ?_
        refine r_p (pc' := 60) (p_iconst (n := 3) (v := 3) (by decide +kernel) rfl) ?_
        refine r_callVI mvX0_66 (ctX8_get v13 x2.2 3) (rcX8_get v13 x2.2 3) ⟨_, _, rfl⟩ (as := [vi x2.2, vi 3]) (st := [vi x2.2, vr v12]) rfl rfl (by decide +kernel) rfl (Nat.le_of_ble_eq_true rfl) (Nat.le_of_ble_eq_true rfl) fun v14 s => ?_
        refine r_stI0 (by decide +kernel) fun s => ?_
        refine r_p (pc' := 65) (p_iload_n 2 (k := 2) (by decide +kernel) rfl) ?_
        refine r_p (pc' := 67) (p_iload 4 (i := 4) (by decide +kernel) rfl) ?_
        refine r_callSNI msX0_70 (ctX11_inSet v1 x2.2) (as := [vi v1, vi x2.2]) (st := []) rfl rfl (by decide +kernel) rfl (Nat.le_of_ble_eq_true rfl) (Nat.le_of_ble_eq_true rfl) fun v15 s => ?_
        refine r_join 116 (fun (x17 : Int32) => [(0, vr a0), (1, vr a1), (2, vi v1), (3, vi x17), (4, vi x2.2)]) (fun (x17 : Int32) => []) (fun x17 s => ?_) (fun K18 hj19 => ?_)
        · refine r_p (pc' := 119) (p_iinc 4 (i := 4) (n := 1) (x := x2.2) (v := x2.2 + 1) (lv' := [(4, vi (x2.2 + 1)), (0, vr a0), (1, vr a1), (2, vi v1), (3, vi x17)]) (by decide +kernel) rfl rfl (Nat.le_of_ble_eq_true rfl) rfl) ?_
          refine r_p (pc' := 15) (p_goto (off := -104) (tgt := 15) (by decide +kernel) (by decide)) ?_
          refine r_sub (lv' := [(0, vr a0), (1, vr a1), (2, vi v1), (3, vi x17), (4, vi (x2.2 + 1))]) [1, 2, 3, 4, 0] rfl ?_
          exact hb4 (x17, x2.2 + 1) _
        · refine r_ifeq (off := 46) (tgt := 116) (by decide +kernel) (by decide) (fun h16 => ?_) (fun h16 => ?_)
          · exact hj19 x2.1 _
          · refine r_p (pc' := 74) (p_aload_n 0 (k := 0) (by decide +kernel) rfl) ?_
            refine r_gI flX0_46_0 (by decide +kernel) fun v20 => ?_
            refine r_p (pc' := 78) (p_aload_n 0 (k := 0) (by decide +kernel) rfl) ?_
            refine r_gR flX0_9_0 (by decide +kernel) fun v21 => ?_
            refine r_lenI (by decide) (by decide +kernel) fun v22 => ?_
            refine r_icmpge (off := 34) (tgt := 116) (by decide +kernel) (by decide) (fun h23 => ?_) (fun h23 => ?_)
            · exact hj19 x2.1 _
            · refine r_p (pc' := 86) (p_aload_n 0 (k := 0) (by decide +kernel) rfl) ?_
              refine r_gR flX0_9_0 (by decide +kernel) fun v24 => ?_
              refine r_p (pc' := 90) (p_aload_n 0 (k := 0) (by decide +kernel) rfl) ?_
              refine r_gI flX0_46_0 (by decide +kernel) fun v25 => ?_
              refine r_p (pc' := 95) (p_iload 4 (i := 4) (by decide +kernel) rfl) ?_
              refine r_stI0 (by decide +kernel) fun s => ?_
              refine r_p (pc' := 97) (p_aload_n 0 (k := 0) (by decide +kernel) rfl) ?_
              refine r_p (pc' := 98) (p_dup rfl (by decide +kernel)) ?_
              refine r_gI flX0_46_0 (by decide +kernel) fun v26 => ?_
              refine r_p (pc' := 102) (p_iconst (n := 1) (v := 1) (by decide +kernel) rfl) ?_
              refine r_p (pc' := 103) (p_iadd (by decide +kernel)) ?_
              refine r_pI fpX0_46_0 (fun h => by cases h) (by decide +kernel) fun s => ?_
              refine r_p (pc' := 107) (p_iload_n 3 (k := 3) (by decide +kernel) rfl) ?_
              refine r_p (pc' := 108) (p_aload_n 0 (k := 0) (by decide +kernel) rfl) ?_
              refine r_gR flX0_18_0 (by decide +kernel) fun v27 => ?_
              refine r_p (pc' := 113) (p_iload 4 (i := 4) (by decide +kernel) rfl) ?_
              refine r_ldI0 (by decide +kernel) fun v28 => ?_
              refine r_p (pc' := 115) (p_iadd (by decide +kernel)) ?_
              refine r_letI fun v29 => ?_
              refine r_p (pc' := 116) (p_istore_n (k := 3) (lv' := [(3, vi v29), (0, vr a0), (1, vr a1), (2, vi v1), (4, vi x2.2)]) (by decide +kernel) (Nat.le_of_ble_eq_true rfl) rfl) ?_
              refine r_sub (lv' := [(0, vr a0), (1, vr a1), (2, vi v1), (3, vi v29), (4, vi x2.2)]) [1, 2, 3, 0, 4] rfl ?_
              exact hj19 v29 _
def aX0_toolAt : StA := (RX0, cX0_toolAt, 2, some .int, yX0_toolAt, 8, [])
noncomputable def mX0_toolAt (a0 : Nat) (a1 : Int32) : MM Int32 := onC 0 a0 (
  if a1 < 0 then (
    mret (-1)
  ) else (
    mbnd (gR 0 0 a0) fun (v2 : Nat) =>
    mbnd (lenI 0 v2) fun (v3 : Int32) =>
    if v3 ≤ a1 then (
      mret (-1)
    ) else (
      mbnd (gR 0 0 a0) fun (v5 : Nat) =>
      mbnd (ldI 0 v5 a1) fun (v6 : Int32) =>
      mret v6
    )
  )
  )
theorem rcX0_toolAt (a0 : Nat) (a1 : Int32) : Rcv 0 a0 (mX0_toolAt a0 a1) := fun s r h => ⟨(onC_some h).1, (onC_some h).2.1⟩
set_option maxHeartbeats 4000000 in
set_option maxRecDepth 100000 in
theorem ctX0_toolAt (a0 : Nat) (a1 : Int32) : Ct aX0_toolAt [vr a0, vi a1] (mX0_toolAt a0 a1) rI := by
  unfold mX0_toolAt
  refine ct_onC (ct_intro (by decide +kernel) rfl (Nat.le_of_ble_eq_true rfl) fun Y s => ?_)
  refine r_sub (lv' := [(0, vr a0), (1, vi a1)]) [0, 1] rfl ?_
  refine r_p (pc' := 1) (p_iload_n 1 (k := 1) (by decide +kernel) rfl) ?_
  refine r_iflt (off := 21) (tgt := 22) (by decide +kernel) (by decide) (fun h1 => ?_) (fun h1 => ?_)
  · refine r_p (pc' := 23) (p_iconst (n := -1) (v := -1) (by decide +kernel) rfl) ?_
    exact r_iret rfl rfl _ rfl rfl (by decide +kernel)
  · refine r_p (pc' := 5) (p_iload_n 1 (k := 1) (by decide +kernel) rfl) ?_
    refine r_p (pc' := 6) (p_aload_n 0 (k := 0) (by decide +kernel) rfl) ?_
    refine r_gR flX0_9_0 (by decide +kernel) fun v2 => ?_
    refine r_lenI (by decide) (by decide +kernel) fun v3 => ?_
    refine r_icmpge (off := 12) (tgt := 22) (by decide +kernel) (by decide) (fun h4 => ?_) (fun h4 => ?_)
    · refine r_p (pc' := 23) (p_iconst (n := -1) (v := -1) (by decide +kernel) rfl) ?_
      exact r_iret rfl rfl _ rfl rfl (by decide +kernel)
    · refine r_p (pc' := 14) (p_aload_n 0 (k := 0) (by decide +kernel) rfl) ?_
      refine r_gR flX0_9_0 (by decide +kernel) fun v5 => ?_
      refine r_p (pc' := 18) (p_iload_n 1 (k := 1) (by decide +kernel) rfl) ?_
      refine r_ldI0 (by decide +kernel) fun v6 => ?_
      refine r_p (pc' := 23) (p_goto (off := 4) (tgt := 23) (by decide +kernel) (by decide)) ?_
      exact r_iret rfl rfl _ rfl rfl (by decide +kernel)
def aX0_lasts : StA := (RX0, cX0_lasts, 7, some .int, yX0_lasts, 9, [])
theorem mvX0_74 : MV RX0 74 aX0_toolAt 1 := ⟨tblG_of 704 (by decide +kernel) (by decide +kernel), tblG_of 706 (by decide +kernel) (by decide +kernel), tblG_of 8 (by decide +kernel) (by decide +kernel), tblG_of 148 (by decide +kernel) (by decide +kernel), tblG_of 707 (by decide +kernel) (by decide +kernel), rfl, ⟨by decide, by decide⟩, by decide +kernel, by decide⟩
noncomputable def mX0_lasts_L69 (x20 : Int32) (x25 : Int32 × Int32) : MM ((Int32 × Int32) ⊕ (Int32)) :=
  if x25.2 ≤ 0 then (
    mret (.inr x25.1)
  ) else (
    if 64 < x25.1 then (
      mret (.inr x25.1)
    ) else (
      mbnd (α := Int32) (
        if 32 ≤ x25.1 then (
          mret 1
        ) else (
          if ((iushr x20 x25.1) &&& 1) = 0 then (
            mret 1
          ) else (
            mret 0
          )
        )
      ) fun (x32 : Int32) =>
      mbnd (mret (x25.2 - x32)) fun (v36 : Int32) =>
      mret (.inl (x25.1 + 1, v36))
    )
  )
noncomputable def mX0_lasts_L4 (a0 : Nat) (x1 : Int32 × Int32) : MM ((Int32 × Int32) ⊕ (Int32)) :=
  mbnd (gI 0 4 a0) fun (v5 : Int32) =>
  if v5 ≤ x1.2 then (
    mret (.inr x1.1)
  ) else (
    mbnd (mX0_toolAt a0 x1.2) fun (v7 : Int32) =>
    mbnd (α := Int32) (
      if v7 < 0 then (
        mret 0
      ) else (
        if 6 ≤ v7 then (
          mret 0
        ) else (
          mret 1
        )
      )
    ) fun (x9 : Int32) =>
    mbnd (α := Int32) (
      if x9 = 0 then (
        mret 0
      ) else (
        mbnd (gR 0 2 a0) fun (v17 : Nat) =>
        mbnd (ldI 0 v17 v7) fun (v18 : Int32) =>
        mret v18
      )
    ) fun (x14 : Int32) =>
    mbnd (α := Int32) (
      if x9 = 0 then (
        mret 0
      ) else (
        mbnd (gR 0 3 a0) fun (v23 : Nat) =>
        mbnd (ldI 0 v23 v7) fun (v24 : Int32) =>
        mret v24
      )
    ) fun (x20 : Int32) =>
    mbnd (loopM (mX0_lasts_L69 x20) (x1.1, x14)) fun (e37 : Int32) =>
    mret (.inl (e37, x1.2 + 1))
  )
noncomputable def mX0_lasts (a0 : Nat) : MM Int32 := onC 0 a0 (
  mbnd (loopM (mX0_lasts_L4 a0) (0, 0)) fun (e38 : Int32) =>
  mret e38
  )
theorem rcX0_lasts (a0 : Nat) : Rcv 0 a0 (mX0_lasts a0) := fun s r h => ⟨(onC_some h).1, (onC_some h).2.1⟩
set_option maxHeartbeats 4000000 in
set_option maxRecDepth 100000 in
theorem ctX0_lasts (a0 : Nat) : Ct aX0_lasts [vr a0] (mX0_lasts a0) rI := by
  unfold mX0_lasts
  refine ct_onC (ct_intro (by decide +kernel) rfl (Nat.le_of_ble_eq_true rfl) fun Y s => ?_)
  refine r_sub (lv' := [(0, vr a0)]) [0] rfl ?_
  refine r_p (pc' := 1) (p_iconst (n := 0) (v := 0) (by decide +kernel) rfl) ?_
  refine r_p (pc' := 2) (p_istore_n (k := 1) (lv' := [(1, vi 0), (0, vr a0)]) (by decide +kernel) (Nat.le_of_ble_eq_true rfl) rfl) ?_
  refine r_p (pc' := 3) (p_iconst (n := 0) (v := 0) (by decide +kernel) rfl) ?_
  refine r_p (pc' := 4) (p_istore_n (k := 2) (lv' := [(2, vi 0), (1, vi 0), (0, vr a0)]) (by decide +kernel) (Nat.le_of_ble_eq_true rfl) rfl) ?_
  refine r_sub (lv' := [(0, vr a0), (1, vi 0), (2, vi 0)]) [2, 1, 0] rfl ?_
  refine r_loop2 (fun _ => 117) (fun (e38 : Int32) => [(1, vi e38)]) (fun (x1 : Int32 × Int32) => [(0, vr a0), (1, vi x1.1), (2, vi x1.2)]) (fun e38 s => ?_) (fun K2 hb3 he4 x1 s => ?_) (0, 0) _
  · refine r_p (pc' := 118) (p_iload_n 0 (k := 1) (by decide +kernel) rfl) ?_
    exact r_iret rfl rfl _ rfl rfl (by decide +kernel)
  · unfold mX0_lasts_L4
    refine r_p (pc' := 5) (p_iload_n 2 (k := 2) (by decide +kernel) rfl) ?_
    refine r_p (pc' := 6) (p_aload_n 0 (k := 0) (by decide +kernel) rfl) ?_
    refine r_gI flX0_46_0 (by decide +kernel) fun v5 => ?_
    refine r_icmpge (off := 108) (tgt := 117) (by decide +kernel) (by decide) (fun h6 => ?_) (fun h6 => ?_)
    · refine r_sub (lv' := [(1, vi x1.1)]) [1] rfl ?_
      exact he4 x1.1 _
    · refine r_p (pc' := 13) (p_aload_n 0 (k := 0) (by decide +kernel) rfl) ?_
      refine r_p (pc' := 14) (p_iload_n 2 (k := 2) (by decide +kernel) rfl) ?_
      refine r_callVI mvX0_74 (ctX0_toolAt a0 x1.2) (rcX0_toolAt a0 x1.2) ⟨_, _, rfl⟩ (as := [vi x1.2]) (st := []) rfl rfl (by decide +kernel) rfl (Nat.le_of_ble_eq_true rfl) (Nat.le_of_ble_eq_true rfl) fun v7 s => ?_
      refine r_p (pc' := 18) (p_istore_n (k := 3) (lv' := [(3, vi v7), (0, vr a0), (1, vi x1.1), (2, vi x1.2)]) (by decide +kernel) (Nat.le_of_ble_eq_true rfl) rfl) ?_
      refine r_p (pc' := 19) (p_iload_n 0 (k := 3) (by decide +kernel) rfl) ?_
      refine r_join 33 (fun (x9 : Int32) => [(0, vr a0), (1, vi x1.1), (2, vi x1.2), (3, vi v7)]) (fun (x9 : Int32) => [vi x9]) (fun x9 s => ?_) (fun K10 hj11 => ?_)
      · refine r_p (pc' := 35) (p_istore (i := 4) (lv' := [(4, vi x9), (0, vr a0), (1, vi x1.1), (2, vi x1.2), (3, vi v7)]) (by decide +kernel) (Nat.le_of_ble_eq_true rfl) rfl) ?_
        refine r_p (pc' := 37) (p_iload 0 (i := 4) (by decide +kernel) rfl) ?_
        refine r_join 50 (fun (x14 : Int32) => [(0, vr a0), (1, vi x1.1), (2, vi x1.2), (3, vi v7), (4, vi x9)]) (fun (x14 : Int32) => [vi x14]) (fun x14 s => ?_) (fun K15 hj16 => ?_)
        · refine r_p (pc' := 52) (p_istore (i := 5) (lv' := [(5, vi x14), (0, vr a0), (1, vi x1.1), (2, vi x1.2), (3, vi v7), (4, vi x9)]) (by decide +kernel) (Nat.le_of_ble_eq_true rfl) rfl) ?_
          refine r_p (pc' := 54) (p_iload 5 (i := 4) (by decide +kernel) rfl) ?_
          refine r_join 67 (fun (x20 : Int32) => [(0, vr a0), (1, vi x1.1), (2, vi x1.2), (5, vi x14)]) (fun (x20 : Int32) => [vi x20]) (fun x20 s => ?_) (fun K21 hj22 => ?_)
          · refine r_p (pc' := 69) (p_istore (i := 6) (lv' := [(6, vi x20), (0, vr a0), (1, vi x1.1), (2, vi x1.2), (5, vi x14)]) (by decide +kernel) (Nat.le_of_ble_eq_true rfl) rfl) ?_
            refine r_sub (lv' := [(0, vr a0), (1, vi x1.1), (2, vi x1.2), (5, vi x14), (6, vi x20)]) [1, 2, 3, 4, 0] rfl ?_
            refine r_loop2 (fun _ => 111) (fun (e37 : Int32) => [(0, vr a0), (1, vi e37), (2, vi x1.2)]) (fun (x25 : Int32 × Int32) => [(0, vr a0), (1, vi x25.1), (2, vi x1.2), (5, vi x25.2), (6, vi x20)]) (fun e37 s => ?_) (fun K26 hb27 he28 x25 s => ?_) (x1.1, x14) _
            · refine r_p (pc' := 114) (p_iinc 2 (i := 2) (n := 1) (x := x1.2) (v := x1.2 + 1) (lv' := [(2, vi (x1.2 + 1)), (0, vr a0), (1, vi e37)]) (by decide +kernel) rfl rfl (Nat.le_of_ble_eq_true rfl) rfl) ?_
              refine r_p (pc' := 4) (p_goto (off := -110) (tgt := 4) (by decide +kernel) (by decide)) ?_
              refine r_sub (lv' := [(0, vr a0), (1, vi e37), (2, vi (x1.2 + 1))]) [1, 2, 0] rfl ?_
              exact hb3 (e37, x1.2 + 1) _
            · unfold mX0_lasts_L69
              refine r_p (pc' := 71) (p_iload 3 (i := 5) (by decide +kernel) rfl) ?_
              refine r_ifle (off := 40) (tgt := 111) (by decide +kernel) (by decide) (fun h29 => ?_) (fun h29 => ?_)
              · refine r_sub (lv' := [(0, vr a0), (1, vi x25.1), (2, vi x1.2)]) [0, 1, 2] rfl ?_
                exact he28 x25.1 _
              · refine r_p (pc' := 75) (p_iload_n 1 (k := 1) (by decide +kernel) rfl) ?_
                refine r_p (pc' := 77) (p_bipush (n := 64) (v := 64) (by decide +kernel) (by decide +kernel)) ?_
                refine r_icmpgt (off := 34) (tgt := 111) (by decide +kernel) (by decide) (fun h30 => ?_) (fun h30 => ?_)
                · refine r_sub (lv' := [(0, vr a0), (1, vi x25.1), (2, vi x1.2)]) [0, 1, 2] rfl ?_
                  exact he28 x25.1 _
                · refine r_p (pc' := 82) (p_iload 3 (i := 5) (by decide +kernel) rfl) ?_
                  refine r_p (pc' := 83) (p_iload_n 1 (k := 1) (by decide +kernel) rfl) ?_
                  refine r_p (pc' := 85) (p_bipush (n := 32) (v := 32) (by decide +kernel) (by decide +kernel)) ?_
                  refine r_join 102 (fun (x32 : Int32) => [(0, vr a0), (1, vi x25.1), (2, vi x1.2), (6, vi x20)]) (fun (x32 : Int32) => [vi x32, vi x25.2]) (fun x32 s => ?_) (fun K33 hj34 => ?_)
                  · refine r_p (pc' := 103) (p_isub (by decide +kernel)) ?_
                    refine r_letI fun v36 => ?_
                    refine r_p (pc' := 105) (p_istore (i := 5) (lv' := [(5, vi v36), (0, vr a0), (1, vi x25.1), (2, vi x1.2), (6, vi x20)]) (by decide +kernel) (Nat.le_of_ble_eq_true rfl) rfl) ?_
                    refine r_p (pc' := 108) (p_iinc 2 (i := 1) (n := 1) (x := x25.1) (v := x25.1 + 1) (lv' := [(1, vi (x25.1 + 1)), (5, vi v36), (0, vr a0), (2, vi x1.2), (6, vi x20)]) (by decide +kernel) rfl rfl (Nat.le_of_ble_eq_true rfl) rfl) ?_
                    refine r_p (pc' := 69) (p_goto (off := -39) (tgt := 69) (by decide +kernel) (by decide)) ?_
                    refine r_sub (lv' := [(0, vr a0), (1, vi (x25.1 + 1)), (2, vi x1.2), (5, vi v36), (6, vi x20)]) [2, 0, 3, 1, 4] rfl ?_
                    exact hb27 (x25.1 + 1, v36) _
                  · refine r_icmpge (off := 16) (tgt := 101) (by decide +kernel) (by decide) (fun h31 => ?_) (fun h31 => ?_)
                    · refine r_p (pc' := 102) (p_iconst (n := 1) (v := 1) (by decide +kernel) rfl) ?_
                      refine r_sub (lv' := [(0, vr a0), (1, vi x25.1), (2, vi x1.2), (6, vi x20)]) [0, 1, 2, 4] rfl ?_
                      exact hj34 1 _
                    · refine r_p (pc' := 90) (p_iload 4 (i := 6) (by decide +kernel) rfl) ?_
                      refine r_p (pc' := 91) (p_iload_n 1 (k := 1) (by decide +kernel) rfl) ?_
                      refine r_p (pc' := 92) (p_iushr (by decide +kernel)) ?_
                      refine r_p (pc' := 93) (p_iconst (n := 1) (v := 1) (by decide +kernel) rfl) ?_
                      refine r_p (pc' := 94) (p_iand (by decide +kernel)) ?_
                      refine r_ifeq (off := 7) (tgt := 101) (by decide +kernel) (by decide) (fun h35 => ?_) (fun h35 => ?_)
                      · refine r_p (pc' := 102) (p_iconst (n := 1) (v := 1) (by decide +kernel) rfl) ?_
                        refine r_sub (lv' := [(0, vr a0), (1, vi x25.1), (2, vi x1.2), (6, vi x20)]) [0, 1, 2, 4] rfl ?_
                        exact hj34 1 _
                      · refine r_p (pc' := 98) (p_iconst (n := 0) (v := 0) (by decide +kernel) rfl) ?_
                        refine r_p (pc' := 102) (p_goto (off := 4) (tgt := 102) (by decide +kernel) (by decide)) ?_
                        refine r_sub (lv' := [(0, vr a0), (1, vi x25.1), (2, vi x1.2), (6, vi x20)]) [0, 1, 2, 4] rfl ?_
                        exact hj34 0 _
          · refine r_ifeq (off := 12) (tgt := 66) (by decide +kernel) (by decide) (fun h19 => ?_) (fun h19 => ?_)
            · refine r_p (pc' := 67) (p_iconst (n := 0) (v := 0) (by decide +kernel) rfl) ?_
              refine r_sub (lv' := [(0, vr a0), (1, vi x1.1), (2, vi x1.2), (5, vi x14)]) [1, 2, 3, 0] rfl ?_
              exact hj22 0 _
            · refine r_p (pc' := 58) (p_aload_n 1 (k := 0) (by decide +kernel) rfl) ?_
              refine r_gR flX0_21_0 (by decide +kernel) fun v23 => ?_
              refine r_p (pc' := 62) (p_iload_n 4 (k := 3) (by decide +kernel) rfl) ?_
              refine r_ldI0 (by decide +kernel) fun v24 => ?_
              refine r_p (pc' := 67) (p_goto (off := 4) (tgt := 67) (by decide +kernel) (by decide)) ?_
              refine r_sub (lv' := [(0, vr a0), (1, vi x1.1), (2, vi x1.2), (5, vi x14)]) [1, 2, 3, 0] rfl ?_
              exact hj22 v24 _
        · refine r_ifeq (off := 12) (tgt := 49) (by decide +kernel) (by decide) (fun h13 => ?_) (fun h13 => ?_)
          · refine r_p (pc' := 50) (p_iconst (n := 0) (v := 0) (by decide +kernel) rfl) ?_
            refine r_sub (lv' := [(0, vr a0), (1, vi x1.1), (2, vi x1.2), (3, vi v7), (4, vi x9)]) [1, 2, 3, 4, 0] rfl ?_
            exact hj16 0 _
          · refine r_p (pc' := 41) (p_aload_n 1 (k := 0) (by decide +kernel) rfl) ?_
            refine r_gR flX0_18_0 (by decide +kernel) fun v17 => ?_
            refine r_p (pc' := 45) (p_iload_n 4 (k := 3) (by decide +kernel) rfl) ?_
            refine r_ldI0 (by decide +kernel) fun v18 => ?_
            refine r_p (pc' := 50) (p_goto (off := 4) (tgt := 50) (by decide +kernel) (by decide)) ?_
            refine r_sub (lv' := [(0, vr a0), (1, vi x1.1), (2, vi x1.2), (3, vi v7), (4, vi x9)]) [1, 2, 3, 4, 0] rfl ?_
            exact hj16 v18 _
      · refine r_iflt (off := 13) (tgt := 32) (by decide +kernel) (by decide) (fun h8 => ?_) (fun h8 => ?_)
        · refine r_p (pc' := 33) (p_iconst (n := 0) (v := 0) (by decide +kernel) rfl) ?_
          refine r_sub (lv' := [(0, vr a0), (1, vi x1.1), (2, vi x1.2), (3, vi v7)]) [1, 2, 3, 0] rfl ?_
          exact hj11 0 _
        · refine r_p (pc' := 23) (p_iload_n 0 (k := 3) (by decide +kernel) rfl) ?_
          refine r_p (pc' := 25) (p_bipush (n := 6) (v := 6) (by decide +kernel) (by decide +kernel)) ?_
          refine r_icmpge (off := 7) (tgt := 32) (by decide +kernel) (by decide) (fun h12 => ?_) (fun h12 => ?_)
          · refine r_p (pc' := 33) (p_iconst (n := 0) (v := 0) (by decide +kernel) rfl) ?_
            refine r_sub (lv' := [(0, vr a0), (1, vi x1.1), (2, vi x1.2), (3, vi v7)]) [1, 2, 3, 0] rfl ?_
            exact hj11 0 _
          · refine r_p (pc' := 29) (p_iconst (n := 1) (v := 1) (by decide +kernel) rfl) ?_
            refine r_p (pc' := 33) (p_goto (off := 4) (tgt := 33) (by decide +kernel) (by decide)) ?_
            refine r_sub (lv' := [(0, vr a0), (1, vi x1.1), (2, vi x1.2), (3, vi v7)]) [1, 2, 3, 0] rfl ?_
            exact hj11 1 _
def aX0_exchangeTurns : StA := (RX0, cX0_exchangeTurns, 4, none, yX0_exchangeTurns, 8, [])
noncomputable def mX0_exchangeTurns (a0 : Nat) (a1 : Int32) (a2 : Int32) : MM Unit := onC 0 a0 (
  if a1 < 0 then (
    mret ()
  ) else (
    mbnd (gR 0 0 a0) fun (v2 : Nat) =>
    mbnd (lenI 0 v2) fun (v3 : Int32) =>
    if v3 ≤ a1 then (
      mret ()
    ) else (
      if a2 < 0 then (
        mret ()
      ) else (
        mbnd (gR 0 0 a0) fun (v6 : Nat) =>
        mbnd (lenI 0 v6) fun (v7 : Int32) =>
        if v7 ≤ a2 then (
          mret ()
        ) else (
          mbnd (gR 0 0 a0) fun (v9 : Nat) =>
          mbnd (ldI 0 v9 a1) fun (v10 : Int32) =>
          mbnd (gR 0 0 a0) fun (v11 : Nat) =>
          mbnd (gR 0 0 a0) fun (v12 : Nat) =>
          mbnd (ldI 0 v12 a2) fun (v13 : Int32) =>
          mbnd (stI 0 v11 a1 v13) fun _ =>
          mbnd (gR 0 0 a0) fun (v14 : Nat) =>
          mbnd (stI 0 v14 a2 v10) fun _ =>
          mret ()
        )
      )
    )
  )
  )
theorem rcX0_exchangeTurns (a0 : Nat) (a1 : Int32) (a2 : Int32) : Rcv 0 a0 (mX0_exchangeTurns a0 a1 a2) := fun s r h => ⟨(onC_some h).1, (onC_some h).2.1⟩
set_option maxHeartbeats 4000000 in
set_option maxRecDepth 100000 in
theorem ctX0_exchangeTurns (a0 : Nat) (a1 : Int32) (a2 : Int32) : Ct aX0_exchangeTurns [vr a0, vi a1, vi a2] (mX0_exchangeTurns a0 a1 a2) rU := by
  unfold mX0_exchangeTurns
  refine ct_onC (ct_intro (by decide +kernel) rfl (Nat.le_of_ble_eq_true rfl) fun Y s => ?_)
  refine r_sub (lv' := [(0, vr a0), (1, vi a1), (2, vi a2)]) [0, 1, 2] rfl ?_
  refine r_p (pc' := 1) (p_iload_n 1 (k := 1) (by decide +kernel) rfl) ?_
  refine r_iflt (off := 51) (tgt := 52) (by decide +kernel) (by decide) (fun h1 => ?_) (fun h1 => ?_)
  · exact r_vret (y9 := ()) rfl rfl rfl (by decide +kernel)
  · refine r_p (pc' := 5) (p_iload_n 1 (k := 1) (by decide +kernel) rfl) ?_
    refine r_p (pc' := 6) (p_aload_n 0 (k := 0) (by decide +kernel) rfl) ?_
    refine r_gR flX0_9_0 (by decide +kernel) fun v2 => ?_
    refine r_lenI (by decide) (by decide +kernel) fun v3 => ?_
    refine r_icmpge (off := 42) (tgt := 52) (by decide +kernel) (by decide) (fun h4 => ?_) (fun h4 => ?_)
    · exact r_vret (y9 := ()) rfl rfl rfl (by decide +kernel)
    · refine r_p (pc' := 14) (p_iload_n 2 (k := 2) (by decide +kernel) rfl) ?_
      refine r_iflt (off := 38) (tgt := 52) (by decide +kernel) (by decide) (fun h5 => ?_) (fun h5 => ?_)
      · exact r_vret (y9 := ()) rfl rfl rfl (by decide +kernel)
      · refine r_p (pc' := 18) (p_iload_n 2 (k := 2) (by decide +kernel) rfl) ?_
        refine r_p (pc' := 19) (p_aload_n 0 (k := 0) (by decide +kernel) rfl) ?_
        refine r_gR flX0_9_0 (by decide +kernel) fun v6 => ?_
        refine r_lenI (by decide) (by decide +kernel) fun v7 => ?_
        refine r_icmpge (off := 29) (tgt := 52) (by decide +kernel) (by decide) (fun h8 => ?_) (fun h8 => ?_)
        · exact r_vret (y9 := ()) rfl rfl rfl (by decide +kernel)
        · refine r_p (pc' := 27) (p_aload_n 0 (k := 0) (by decide +kernel) rfl) ?_
          refine r_gR flX0_9_0 (by decide +kernel) fun v9 => ?_
          refine r_p (pc' := 31) (p_iload_n 1 (k := 1) (by decide +kernel) rfl) ?_
          refine r_ldI0 (by decide +kernel) fun v10 => ?_
          refine r_p (pc' := 33) (p_istore_n (k := 3) (lv' := [(3, vi v10), (0, vr a0), (1, vi a1), (2, vi a2)]) (by decide +kernel) (Nat.le_of_ble_eq_true rfl) rfl) ?_
          refine r_p (pc' := 34) (p_aload_n 1 (k := 0) (by decide +kernel) rfl) ?_
          refine r_gR flX0_9_0 (by decide +kernel) fun v11 => ?_
          refine r_p (pc' := 38) (p_iload_n 2 (k := 1) (by decide +kernel) rfl) ?_
          refine r_p (pc' := 39) (p_aload_n 1 (k := 0) (by decide +kernel) rfl) ?_
          refine r_gR flX0_9_0 (by decide +kernel) fun v12 => ?_
          refine r_p (pc' := 43) (p_iload_n 3 (k := 2) (by decide +kernel) rfl) ?_
          refine r_ldI0 (by decide +kernel) fun v13 => ?_
          refine r_stI0 (by decide +kernel) fun s => ?_
          refine r_p (pc' := 46) (p_aload_n 1 (k := 0) (by decide +kernel) rfl) ?_
          refine r_gR flX0_9_0 (by decide +kernel) fun v14 => ?_
          refine r_p (pc' := 50) (p_iload_n 3 (k := 2) (by decide +kernel) rfl) ?_
          refine r_p (pc' := 51) (p_iload_n 0 (k := 3) (by decide +kernel) rfl) ?_
          refine r_stI0 (by decide +kernel) fun s => ?_
          exact r_vret (y9 := ()) rfl rfl rfl (by decide +kernel)
def aX0_nextOrder : StA := (RX0, cX0_nextOrder, 5, some .boolean, yX0_nextOrder, 9, [])
theorem mvX0_77 : MV RX0 77 aX0_exchangeTurns 2 := ⟨tblG_of 715 (by decide +kernel) (by decide +kernel), tblG_of 717 (by decide +kernel) (by decide +kernel), tblG_of 10 (by decide +kernel) (by decide +kernel), tblG_of 148 (by decide +kernel) (by decide +kernel), tblG_of 718 (by decide +kernel) (by decide +kernel), rfl, ⟨by decide, by decide⟩, by decide +kernel, by decide⟩
noncomputable def mX0_nextOrder_L7 (a0 : Nat) (x3 : Int32) : MM ((Int32) ⊕ (Int32)) :=
  if x3 < 0 then (
    mret (.inr x3)
  ) else (
    mbnd (mX0_toolAt a0 x3) fun (v8 : Int32) =>
    mbnd (mX0_toolAt a0 (x3 + 1)) fun (v9 : Int32) =>
    if v8 ≤ v9 then (
      mret (.inr x3)
    ) else (
      mret (.inl (x3 + (-1)))
    )
  )
noncomputable def mX0_nextOrder_L45 (a0 : Nat) (e11 : Int32) (x15 : Int32) : MM ((Int32) ⊕ (Int32)) :=
  if x15 ≤ e11 then (
    mret (.inr x15)
  ) else (
    mbnd (mX0_toolAt a0 x15) fun (v20 : Int32) =>
    mbnd (mX0_toolAt a0 e11) fun (v21 : Int32) =>
    if v21 ≤ v20 then (
      mret (.inr x15)
    ) else (
      mret (.inl (x15 + (-1)))
    )
  )
noncomputable def mX0_nextOrder_L87 (a0 : Nat) (x27 : Int32 × Int32) : MM ((Int32 × Int32) ⊕ (Unit)) :=
  if x27.2 ≤ x27.1 then (
    mret (.inr ())
  ) else (
    mbnd (mX0_exchangeTurns a0 x27.1 x27.2) fun _ =>
    mret (.inl ((x27.1 + 1, x27.2 + (-1))))
  )
noncomputable def mX0_nextOrder (a0 : Nat) : MM Int32 := onC 0 a0 (
  mbnd (gI 0 4 a0) fun (v1 : Int32) =>
  mbnd (mret (v1 - 2)) fun (v2 : Int32) =>
  mbnd (loopM (mX0_nextOrder_L7 a0) v2) fun (e11 : Int32) =>
  if 0 ≤ e11 then (
    mbnd (gI 0 4 a0) fun (v13 : Int32) =>
    mbnd (mret (v13 - 1)) fun (v14 : Int32) =>
    mbnd (loopM (mX0_nextOrder_L45 a0 e11) v14) fun (e23 : Int32) =>
    mbnd (mX0_exchangeTurns a0 e11 e23) fun _ =>
    mbnd (mret (e11 + 1)) fun (v24 : Int32) =>
    mbnd (gI 0 4 a0) fun (v25 : Int32) =>
    mbnd (mret (v25 - 1)) fun (v26 : Int32) =>
    mbnd (loopM (mX0_nextOrder_L87 a0) (v24, v26)) fun (e32 : Unit) =>
    mret 1
  ) else (
    mret 0
  )
  )
theorem rcX0_nextOrder (a0 : Nat) : Rcv 0 a0 (mX0_nextOrder a0) := fun s r h => ⟨(onC_some h).1, (onC_some h).2.1⟩
set_option maxHeartbeats 4000000 in
set_option maxRecDepth 100000 in
theorem ctX0_nextOrder (a0 : Nat) : Ct aX0_nextOrder [vr a0] (mX0_nextOrder a0) rI := by
  unfold mX0_nextOrder
  refine ct_onC (ct_intro (by decide +kernel) rfl (Nat.le_of_ble_eq_true rfl) fun Y s => ?_)
  refine r_sub (lv' := [(0, vr a0)]) [0] rfl ?_
  refine r_p (pc' := 1) (p_aload_n 0 (k := 0) (by decide +kernel) rfl) ?_
  refine r_gI flX0_46_0 (by decide +kernel) fun v1 => ?_
  refine r_p (pc' := 5) (p_iconst (n := 2) (v := 2) (by decide +kernel) rfl) ?_
  refine r_p (pc' := 6) (p_isub (by decide +kernel)) ?_
  refine r_letI fun v2 => ?_
  refine r_p (pc' := 7) (p_istore_n (k := 1) (lv' := [(1, vi v2), (0, vr a0)]) (by decide +kernel) (Nat.le_of_ble_eq_true rfl) rfl) ?_
  refine r_sub (lv' := [(0, vr a0), (1, vi v2)]) [1, 0] rfl ?_
  refine r_loop2 (fun _ => 32) (fun (e11 : Int32) => [(0, vr a0), (1, vi e11)]) (fun (x3 : Int32) => [(0, vr a0), (1, vi x3)]) (fun e11 s => ?_) (fun K4 hb5 he6 x3 s => ?_) v2 _
  · refine r_p (pc' := 33) (p_iload_n 1 (k := 1) (by decide +kernel) rfl) ?_
    refine r_ifge (off := 5) (tgt := 38) (by decide +kernel) (by decide) (fun h12 => ?_) (fun h12 => ?_)
    · refine r_p (pc' := 39) (p_aload_n 0 (k := 0) (by decide +kernel) rfl) ?_
      refine r_gI flX0_46_0 (by decide +kernel) fun v13 => ?_
      refine r_p (pc' := 43) (p_iconst (n := 1) (v := 1) (by decide +kernel) rfl) ?_
      refine r_p (pc' := 44) (p_isub (by decide +kernel)) ?_
      refine r_letI fun v14 => ?_
      refine r_p (pc' := 45) (p_istore_n (k := 2) (lv' := [(2, vi v14), (0, vr a0), (1, vi e11)]) (by decide +kernel) (Nat.le_of_ble_eq_true rfl) rfl) ?_
      refine r_sub (lv' := [(0, vr a0), (1, vi e11), (2, vi v14)]) [1, 2, 0] rfl ?_
      refine r_loop2 (fun _ => 69) (fun (e23 : Int32) => [(0, vr a0), (1, vi e11), (2, vi e23)]) (fun (x15 : Int32) => [(0, vr a0), (1, vi e11), (2, vi x15)]) (fun e23 s => ?_) (fun K16 hb17 he18 x15 s => ?_) v14 _
      · refine r_p (pc' := 70) (p_aload_n 0 (k := 0) (by decide +kernel) rfl) ?_
        refine r_p (pc' := 71) (p_iload_n 1 (k := 1) (by decide +kernel) rfl) ?_
        refine r_p (pc' := 72) (p_iload_n 2 (k := 2) (by decide +kernel) rfl) ?_
        refine r_callVU mvX0_77 (ctX0_exchangeTurns a0 e11 e23) (rcX0_exchangeTurns a0 e11 e23) ⟨_, _, rfl⟩ (as := [vi e11, vi e23]) (st := []) rfl rfl (by decide +kernel) rfl (Nat.le_of_ble_eq_true rfl) (Nat.le_of_ble_eq_true rfl) fun s => ?_
        refine r_p (pc' := 76) (p_iload_n 1 (k := 1) (by decide +kernel) rfl) ?_
        refine r_p (pc' := 77) (p_iconst (n := 1) (v := 1) (by decide +kernel) rfl) ?_
        refine r_p (pc' := 78) (p_iadd (by decide +kernel)) ?_
        refine r_letI fun v24 => ?_
        refine r_p (pc' := 79) (p_istore_n (k := 3) (lv' := [(3, vi v24), (0, vr a0), (1, vi e11), (2, vi e23)]) (by decide +kernel) (Nat.le_of_ble_eq_true rfl) rfl) ?_
        refine r_p (pc' := 80) (p_aload_n 1 (k := 0) (by decide +kernel) rfl) ?_
        refine r_gI flX0_46_0 (by decide +kernel) fun v25 => ?_
        refine r_p (pc' := 84) (p_iconst (n := 1) (v := 1) (by decide +kernel) rfl) ?_
        refine r_p (pc' := 85) (p_isub (by decide +kernel)) ?_
        refine r_letI fun v26 => ?_
        refine r_p (pc' := 87) (p_istore (i := 4) (lv' := [(4, vi v26), (3, vi v24), (0, vr a0), (1, vi e11), (2, vi e23)]) (by decide +kernel) (Nat.le_of_ble_eq_true rfl) rfl) ?_
        refine r_sub (lv' := [(0, vr a0), (3, vi v24), (4, vi v26)]) [2, 1, 0] rfl ?_
        refine r_loop2 (fun _ => 109) (fun (e32 : Unit) => []) (fun (x27 : Int32 × Int32) => [(0, vr a0), (3, vi x27.1), (4, vi x27.2)]) (fun e32 s => ?_) (fun K28 hb29 he30 x27 s => ?_) (v24, v26) _
        · refine r_p (pc' := 110) (p_iconst (n := 1) (v := 1) (by decide +kernel) rfl) ?_
          exact r_iret rfl rfl _ rfl rfl (by decide +kernel)
        · unfold mX0_nextOrder_L87
          refine r_p (pc' := 88) (p_iload_n 1 (k := 3) (by decide +kernel) rfl) ?_
          refine r_p (pc' := 90) (p_iload 2 (i := 4) (by decide +kernel) rfl) ?_
          refine r_icmpge (off := 19) (tgt := 109) (by decide +kernel) (by decide) (fun h31 => ?_) (fun h31 => ?_)
          · refine r_sub (lv' := []) [] rfl ?_
            exact he30 () _
          · refine r_p (pc' := 94) (p_aload_n 0 (k := 0) (by decide +kernel) rfl) ?_
            refine r_p (pc' := 95) (p_iload_n 1 (k := 3) (by decide +kernel) rfl) ?_
            refine r_p (pc' := 97) (p_iload 2 (i := 4) (by decide +kernel) rfl) ?_
            refine r_callVU mvX0_77 (ctX0_exchangeTurns a0 x27.1 x27.2) (rcX0_exchangeTurns a0 x27.1 x27.2) ⟨_, _, rfl⟩ (as := [vi x27.1, vi x27.2]) (st := []) rfl rfl (by decide +kernel) rfl (Nat.le_of_ble_eq_true rfl) (Nat.le_of_ble_eq_true rfl) fun s => ?_
            refine r_p (pc' := 103) (p_iinc 1 (i := 3) (n := 1) (x := x27.1) (v := x27.1 + 1) (lv' := [(3, vi (x27.1 + 1)), (0, vr a0), (4, vi x27.2)]) (by decide +kernel) rfl rfl (Nat.le_of_ble_eq_true rfl) rfl) ?_
            refine r_p (pc' := 106) (p_iinc 2 (i := 4) (n := -1) (x := x27.2) (v := x27.2 + (-1)) (lv' := [(4, vi (x27.2 + (-1))), (3, vi (x27.1 + 1)), (0, vr a0)]) (by decide +kernel) rfl rfl (Nat.le_of_ble_eq_true rfl) rfl) ?_
            refine r_p (pc' := 87) (p_goto (off := -19) (tgt := 87) (by decide +kernel) (by decide)) ?_
            refine r_sub (lv' := [(0, vr a0), (3, vi (x27.1 + 1)), (4, vi (x27.2 + (-1)))]) [2, 1, 0] rfl ?_
            exact hb29 ((x27.1 + 1, x27.2 + (-1))) _
      · unfold mX0_nextOrder_L45
        refine r_p (pc' := 46) (p_iload_n 2 (k := 2) (by decide +kernel) rfl) ?_
        refine r_p (pc' := 47) (p_iload_n 1 (k := 1) (by decide +kernel) rfl) ?_
        refine r_icmple (off := 22) (tgt := 69) (by decide +kernel) (by decide) (fun h19 => ?_) (fun h19 => ?_)
        · exact he18 x15 _
        · refine r_p (pc' := 51) (p_aload_n 0 (k := 0) (by decide +kernel) rfl) ?_
          refine r_p (pc' := 52) (p_iload_n 2 (k := 2) (by decide +kernel) rfl) ?_
          refine r_callVI mvX0_74 (ctX0_toolAt a0 x15) (rcX0_toolAt a0 x15) ⟨_, _, rfl⟩ (as := [vi x15]) (st := []) rfl rfl (by decide +kernel) rfl (Nat.le_of_ble_eq_true rfl) (Nat.le_of_ble_eq_true rfl) fun v20 s => ?_
          refine r_p (pc' := 56) (p_aload_n 0 (k := 0) (by decide +kernel) rfl) ?_
          refine r_p (pc' := 57) (p_iload_n 1 (k := 1) (by decide +kernel) rfl) ?_
          refine r_callVI mvX0_74 (ctX0_toolAt a0 e11) (rcX0_toolAt a0 e11) ⟨_, _, rfl⟩ (as := [vi e11]) (st := [vi v20]) rfl rfl (by decide +kernel) rfl (Nat.le_of_ble_eq_true rfl) (Nat.le_of_ble_eq_true rfl) fun v21 s => ?_
          refine r_icmpge (off := 9) (tgt := 69) (by decide +kernel) (by decide) (fun h22 => ?_) (fun h22 => ?_)
          · exact he18 x15 _
          · refine r_p (pc' := 66) (p_iinc 2 (i := 2) (n := -1) (x := x15) (v := x15 + (-1)) (lv' := [(2, vi (x15 + (-1))), (0, vr a0), (1, vi e11)]) (by decide +kernel) rfl rfl (Nat.le_of_ble_eq_true rfl) rfl) ?_
            refine r_p (pc' := 45) (p_goto (off := -21) (tgt := 45) (by decide +kernel) (by decide)) ?_
            refine r_sub (lv' := [(0, vr a0), (1, vi e11), (2, vi (x15 + (-1)))]) [1, 2, 0] rfl ?_
            exact hb17 (x15 + (-1)) _
    · refine r_p (pc' := 37) (p_iconst (n := 0) (v := 0) (by decide +kernel) rfl) ?_
      exact r_iret rfl rfl _ rfl rfl (by decide +kernel)
  · unfold mX0_nextOrder_L7
    refine r_p (pc' := 8) (p_iload_n 1 (k := 1) (by decide +kernel) rfl) ?_
    refine r_iflt (off := 24) (tgt := 32) (by decide +kernel) (by decide) (fun h7 => ?_) (fun h7 => ?_)
    · exact he6 x3 _
    · refine r_p (pc' := 12) (p_aload_n 0 (k := 0) (by decide +kernel) rfl) ?_
      refine r_p (pc' := 13) (p_iload_n 1 (k := 1) (by decide +kernel) rfl) ?_
      refine r_callVI mvX0_74 (ctX0_toolAt a0 x3) (rcX0_toolAt a0 x3) ⟨_, _, rfl⟩ (as := [vi x3]) (st := []) rfl rfl (by decide +kernel) rfl (Nat.le_of_ble_eq_true rfl) (Nat.le_of_ble_eq_true rfl) fun v8 s => ?_
      refine r_p (pc' := 17) (p_aload_n 0 (k := 0) (by decide +kernel) rfl) ?_
      refine r_p (pc' := 18) (p_iload_n 1 (k := 1) (by decide +kernel) rfl) ?_
      refine r_p (pc' := 19) (p_iconst (n := 1) (v := 1) (by decide +kernel) rfl) ?_
      refine r_p (pc' := 20) (p_iadd (by decide +kernel)) ?_
      refine r_callVI mvX0_74 (ctX0_toolAt a0 (x3 + 1)) (rcX0_toolAt a0 (x3 + 1)) ⟨_, _, rfl⟩ (as := [vi (x3 + 1)]) (st := [vi v8]) rfl rfl (by decide +kernel) rfl (Nat.le_of_ble_eq_true rfl) (Nat.le_of_ble_eq_true rfl) fun v9 s => ?_
      refine r_icmple (off := 9) (tgt := 32) (by decide +kernel) (by decide) (fun h10 => ?_) (fun h10 => ?_)
      · exact he6 x3 _
      · refine r_p (pc' := 29) (p_iinc 1 (i := 1) (n := -1) (x := x3) (v := x3 + (-1)) (lv' := [(1, vi (x3 + (-1))), (0, vr a0)]) (by decide +kernel) rfl rfl (Nat.le_of_ble_eq_true rfl) rfl) ?_
        refine r_p (pc' := 7) (p_goto (off := -22) (tgt := 7) (by decide +kernel) (by decide)) ?_
        refine r_sub (lv' := [(0, vr a0), (1, vi (x3 + (-1)))]) [1, 0] rfl ?_
        exact hb5 (x3 + (-1)) _
def aX0_arrange : StA := (RX0, cX0_arrange, 6, none, yX0_arrange, 13, [])
theorem mvX0_24 : MV RX0 24 aX0_callUp 1 := ⟨tblG_of 689 (by decide +kernel) (by decide +kernel), tblG_of 691 (by decide +kernel) (by decide +kernel), tblG_of 6 (by decide +kernel) (by decide +kernel), tblG_of 148 (by decide +kernel) (by decide +kernel), tblG_of 692 (by decide +kernel) (by decide +kernel), rfl, ⟨by decide, by decide⟩, by decide +kernel, by decide⟩
theorem fpX0_28_0 : FP RX0 28 0 5 .int false := ⟨_, TX0, 6, "ToolCourt$Cell", tyX0, rfl, by decide, Or.inl (tblG_of 253 (by decide +kernel) (by decide +kernel)), Or.inl rfl, tyX0_ok, nmX0, rfl, by decide, by decide +kernel⟩
theorem mvX0_32 : MV RX0 32 aX0_lasts 0 := ⟨tblG_of 700 (by decide +kernel) (by decide +kernel), tblG_of 702 (by decide +kernel) (by decide +kernel), tblG_of 7 (by decide +kernel) (by decide +kernel), tblG_of 148 (by decide +kernel) (by decide +kernel), tblG_of 703 (by decide +kernel) (by decide +kernel), rfl, ⟨by decide, by decide⟩, by decide +kernel, by decide⟩
theorem flX0_28_0 : FL RX0 28 0 5 := ⟨_, TX0, 6, "ToolCourt$Cell", rfl, by decide, Or.inl (tblG_of 253 (by decide +kernel) (by decide +kernel)), Or.inl rfl⟩
theorem flX0_15_0 : FL RX0 15 0 1 := ⟨_, TX0, 6, "ToolCourt$Cell", rfl, by decide, Or.inl (tblG_of 249 (by decide +kernel) (by decide +kernel)), Or.inl rfl⟩
theorem mvX0_42 : MV RX0 42 aX0_nextOrder 0 := ⟨tblG_of 711 (by decide +kernel) (by decide +kernel), tblG_of 713 (by decide +kernel) (by decide +kernel), tblG_of 9 (by decide +kernel) (by decide +kernel), tblG_of 148 (by decide +kernel) (by decide +kernel), tblG_of 714 (by decide +kernel) (by decide +kernel), rfl, ⟨by decide, by decide⟩, by decide +kernel, by decide⟩
noncomputable def mX0_arrange_L27 (a0 : Nat) (v1 : Int32) (x6 : Int32 × Int32) : MM ((Int32 × Int32) ⊕ (Unit)) :=
  if 720 ≤ x6.2 then (
    mret (.inr ())
  ) else (
    if x6.1 = 0 then (
      mret (.inr ())
    ) else (
      mbnd (mX0_lasts a0) fun (v12 : Int32) =>
      mbnd (gI 0 5 a0) fun (v13 : Int32) =>
      mbnd (α := Unit) (
        if v13 ≤ v12 then (
          mret ()
        ) else (
          mbnd (pI 0 5 a0 v12) fun _ =>
          mbnd (gR 0 0 a0) fun (v18 : Nat) =>
          mbnd (gR 0 1 a0) fun (v19 : Nat) =>
          mbnd (gR 0 0 a0) fun (v20 : Nat) =>
          mbnd (lenI 0 v20) fun (v21 : Int32) =>
          mbnd (cpI 0 v18 0 v19 0 v21) fun _ =>
          mret ()
        )
      ) fun (x15 : Unit) =>
      mbnd (gI 0 5 a0) fun (v22 : Int32) =>
      mbnd (α := Int32) (
        if v22 ≤ v1 then (
          mret 0
        ) else (
          mbnd (mX0_nextOrder a0) fun (v27 : Int32) =>
          if v27 = 0 then (
            mret 0
          ) else (
            mret 1
          )
        )
      ) fun (x24 : Int32) =>
      mret (.inl (x24, x6.2 + 1))
    )
  )
noncomputable def mX0_arrange (a0 : Nat) (a1 : Nat) : MM Unit := onC 0 a0 (
  mbnd (mX0_callUp a0 a1) fun (v1 : Int32) =>
  mbnd (pI 0 5 a0 65) fun _ =>
  mbnd (α := Int32) (
    if 64 < v1 then (
      mret 0
    ) else (
      mret 1
    )
  ) fun (x3 : Int32) =>
  mbnd (loopM (mX0_arrange_L27 a0 v1) (x3, 0)) fun (e29 : Unit) =>
  mret ()
  )
theorem rcX0_arrange (a0 : Nat) (a1 : Nat) : Rcv 0 a0 (mX0_arrange a0 a1) := fun s r h => ⟨(onC_some h).1, (onC_some h).2.1⟩
set_option maxHeartbeats 4000000 in
set_option maxRecDepth 100000 in
theorem ctX0_arrange (a0 : Nat) (a1 : Nat) : Ct aX0_arrange [vr a0, vr a1] (mX0_arrange a0 a1) rU := by
  unfold mX0_arrange
  refine ct_onC (ct_intro (by decide +kernel) rfl (Nat.le_of_ble_eq_true rfl) fun Y s => ?_)
  refine r_sub (lv' := [(0, vr a0), (1, vr a1)]) [0, 1] rfl ?_
  refine r_p (pc' := 1) (p_aload_n 0 (k := 0) (by decide +kernel) rfl) ?_
  refine r_p (pc' := 2) (p_aload_n 1 (k := 1) (by decide +kernel) rfl) ?_
  refine r_callVI mvX0_24 (ctX0_callUp a0 a1) (rcX0_callUp a0 a1) ⟨_, _, rfl⟩ (as := [vr a1]) (st := []) rfl rfl (by decide +kernel) rfl (Nat.le_of_ble_eq_true rfl) (Nat.le_of_ble_eq_true rfl) fun v1 s => ?_
  refine r_p (pc' := 6) (p_istore_n (k := 2) (lv' := [(2, vi v1), (0, vr a0), (1, vr a1)]) (by decide +kernel) (Nat.le_of_ble_eq_true rfl) rfl) ?_
  refine r_p (pc' := 7) (p_aload_n 1 (k := 0) (by decide +kernel) rfl) ?_
  refine r_p (pc' := 9) (p_bipush (n := 65) (v := 65) (by decide +kernel) (by decide +kernel)) ?_
  refine r_pI fpX0_28_0 (fun h => by cases h) (by decide +kernel) fun s => ?_
  refine r_p (pc' := 13) (p_iload_n 0 (k := 2) (by decide +kernel) rfl) ?_
  refine r_p (pc' := 15) (p_bipush (n := 64) (v := 64) (by decide +kernel) (by decide +kernel)) ?_
  refine r_join 23 (fun (x3 : Int32) => [(0, vr a0), (2, vi v1)]) (fun (x3 : Int32) => [vi x3]) (fun x3 s => ?_) (fun K4 hj5 => ?_)
  · refine r_p (pc' := 24) (p_istore_n (k := 3) (lv' := [(3, vi x3), (0, vr a0), (2, vi v1)]) (by decide +kernel) (Nat.le_of_ble_eq_true rfl) rfl) ?_
    refine r_p (pc' := 25) (p_iconst (n := 0) (v := 0) (by decide +kernel) rfl) ?_
    refine r_p (pc' := 27) (p_istore (i := 4) (lv' := [(4, vi 0), (3, vi x3), (0, vr a0), (2, vi v1)]) (by decide +kernel) (Nat.le_of_ble_eq_true rfl) rfl) ?_
    refine r_sub (lv' := [(0, vr a0), (2, vi v1), (3, vi x3), (4, vi 0)]) [2, 3, 1, 0] rfl ?_
    refine r_loop2 (fun _ => 105) (fun (e29 : Unit) => []) (fun (x6 : Int32 × Int32) => [(0, vr a0), (2, vi v1), (3, vi x6.1), (4, vi x6.2)]) (fun e29 s => ?_) (fun K7 hb8 he9 x6 s => ?_) (x3, 0) _
    · exact r_vret (y9 := ()) rfl rfl rfl (by decide +kernel)
    · unfold mX0_arrange_L27
      refine r_p (pc' := 29) (p_iload 3 (i := 4) (by decide +kernel) rfl) ?_
      refine r_p (pc' := 32) (p_sipush (n := 720) (v := 720) (by decide +kernel) (by decide +kernel)) ?_
      refine r_icmpge (off := 73) (tgt := 105) (by decide +kernel) (by decide) (fun h10 => ?_) (fun h10 => ?_)
      · refine r_sub (lv' := []) [] rfl ?_
        exact he9 () _
      · refine r_p (pc' := 36) (p_iload_n 2 (k := 3) (by decide +kernel) rfl) ?_
        refine r_ifeq (off := 69) (tgt := 105) (by decide +kernel) (by decide) (fun h11 => ?_) (fun h11 => ?_)
        · refine r_sub (lv' := []) [] rfl ?_
          exact he9 () _
        · refine r_p (pc' := 40) (p_aload_n 0 (k := 0) (by decide +kernel) rfl) ?_
          refine r_callVI mvX0_32 (ctX0_lasts a0) (rcX0_lasts a0) ⟨_, _, rfl⟩ (as := []) (st := []) rfl rfl (by decide +kernel) rfl (Nat.le_of_ble_eq_true rfl) (Nat.le_of_ble_eq_true rfl) fun v12 s => ?_
          refine r_p (pc' := 45) (p_istore (i := 5) (lv' := [(5, vi v12), (0, vr a0), (2, vi v1), (3, vi x6.1), (4, vi x6.2)]) (by decide +kernel) (Nat.le_of_ble_eq_true rfl) rfl) ?_
          refine r_p (pc' := 47) (p_iload 0 (i := 5) (by decide +kernel) rfl) ?_
          refine r_p (pc' := 48) (p_aload_n 1 (k := 0) (by decide +kernel) rfl) ?_
          refine r_gI flX0_28_0 (by decide +kernel) fun v13 => ?_
          refine r_join 78 (fun (x15 : Unit) => [(0, vr a0), (2, vi v1), (4, vi x6.2)]) (fun (x15 : Unit) => []) (fun x15 s => ?_) (fun K16 hj17 => ?_)
          · refine r_p (pc' := 79) (p_aload_n 0 (k := 0) (by decide +kernel) rfl) ?_
            refine r_gI flX0_28_0 (by decide +kernel) fun v22 => ?_
            refine r_p (pc' := 83) (p_iload_n 1 (k := 2) (by decide +kernel) rfl) ?_
            refine r_join 98 (fun (x24 : Int32) => [(0, vr a0), (2, vi v1), (4, vi x6.2)]) (fun (x24 : Int32) => [vi x24]) (fun x24 s => ?_) (fun K25 hj26 => ?_)
            · refine r_p (pc' := 99) (p_istore_n (k := 3) (lv' := [(3, vi x24), (0, vr a0), (2, vi v1), (4, vi x6.2)]) (by decide +kernel) (Nat.le_of_ble_eq_true rfl) rfl) ?_
              refine r_p (pc' := 102) (p_iinc 3 (i := 4) (n := 1) (x := x6.2) (v := x6.2 + 1) (lv' := [(4, vi (x6.2 + 1)), (3, vi x24), (0, vr a0), (2, vi v1)]) (by decide +kernel) rfl rfl (Nat.le_of_ble_eq_true rfl) rfl) ?_
              refine r_p (pc' := 27) (p_goto (off := -75) (tgt := 27) (by decide +kernel) (by decide)) ?_
              refine r_sub (lv' := [(0, vr a0), (2, vi v1), (3, vi x24), (4, vi (x6.2 + 1))]) [2, 3, 1, 0] rfl ?_
              exact hb8 (x24, x6.2 + 1) _
            · refine r_icmple (off := 14) (tgt := 97) (by decide +kernel) (by decide) (fun h23 => ?_) (fun h23 => ?_)
              · refine r_p (pc' := 98) (p_iconst (n := 0) (v := 0) (by decide +kernel) rfl) ?_
                exact hj26 0 _
              · refine r_p (pc' := 87) (p_aload_n 0 (k := 0) (by decide +kernel) rfl) ?_
                refine r_callVI mvX0_42 (ctX0_nextOrder a0) (rcX0_nextOrder a0) ⟨_, _, rfl⟩ (as := []) (st := []) rfl rfl (by decide +kernel) rfl (Nat.le_of_ble_eq_true rfl) (Nat.le_of_ble_eq_true rfl) fun v27 s => ?_
                refine r_ifeq (off := 7) (tgt := 97) (by decide +kernel) (by decide) (fun h28 => ?_) (fun h28 => ?_)
                · refine r_p (pc' := 98) (p_iconst (n := 0) (v := 0) (by decide +kernel) rfl) ?_
                  exact hj26 0 _
                · refine r_p (pc' := 94) (p_iconst (n := 1) (v := 1) (by decide +kernel) rfl) ?_
                  refine r_p (pc' := 98) (p_goto (off := 4) (tgt := 98) (by decide +kernel) (by decide)) ?_
                  exact hj26 1 _
          · refine r_icmpge (off := 27) (tgt := 78) (by decide +kernel) (by decide) (fun h14 => ?_) (fun h14 => ?_)
            · refine r_sub (lv' := [(0, vr a0), (2, vi v1), (4, vi x6.2)]) [1, 2, 4] rfl ?_
              exact hj17 () _
            · refine r_p (pc' := 55) (p_aload_n 1 (k := 0) (by decide +kernel) rfl) ?_
              refine r_p (pc' := 57) (p_iload 0 (i := 5) (by decide +kernel) rfl) ?_
              refine r_pI fpX0_28_0 (fun h => by cases h) (by decide +kernel) fun s => ?_
              refine r_p (pc' := 61) (p_aload_n 1 (k := 0) (by decide +kernel) rfl) ?_
              refine r_gR flX0_9_0 (by decide +kernel) fun v18 => ?_
              refine r_p (pc' := 65) (p_iconst (n := 0) (v := 0) (by decide +kernel) rfl) ?_
              refine r_p (pc' := 66) (p_aload_n 1 (k := 0) (by decide +kernel) rfl) ?_
              refine r_gR flX0_15_0 (by decide +kernel) fun v19 => ?_
              refine r_p (pc' := 70) (p_iconst (n := 0) (v := 0) (by decide +kernel) rfl) ?_
              refine r_p (pc' := 71) (p_aload_n 1 (k := 0) (by decide +kernel) rfl) ?_
              refine r_gR flX0_9_0 (by decide +kernel) fun v20 => ?_
              refine r_lenI (by decide) (by decide +kernel) fun v21 => ?_
              refine r_cp (idx := 36) (tblG_of 708 (by decide +kernel) (by decide +kernel)) (Nat.le_of_ble_eq_true rfl) (Nat.le_of_ble_eq_true rfl) (by decide +kernel) fun s => ?_
              refine r_sub (lv' := [(0, vr a0), (2, vi v1), (4, vi x6.2)]) [1, 2, 4] rfl ?_
              exact hj17 () _
  · refine r_icmpgt (off := 7) (tgt := 22) (by decide +kernel) (by decide) (fun h2 => ?_) (fun h2 => ?_)
    · refine r_p (pc' := 23) (p_iconst (n := 0) (v := 0) (by decide +kernel) rfl) ?_
      refine r_sub (lv' := [(0, vr a0), (2, vi v1)]) [1, 0] rfl ?_
      exact hj5 0 _
    · refine r_p (pc' := 19) (p_iconst (n := 1) (v := 1) (by decide +kernel) rfl) ?_
      refine r_p (pc' := 23) (p_goto (off := 4) (tgt := 23) (by decide +kernel) (by decide)) ?_
      refine r_sub (lv' := [(0, vr a0), (2, vi v1)]) [1, 0] rfl ?_
      exact hj5 1 _
def aX0_turn : StA := (RX0, cX0_turn, 2, some .int, yX0_turn, 8, [])
noncomputable def mX0_turn (a0 : Nat) (a1 : Int32) : MM Int32 := onC 0 a0 (
  if a1 < 0 then (
    mret (-1)
  ) else (
    mbnd (gI 0 4 a0) fun (v2 : Int32) =>
    if v2 ≤ a1 then (
      mret (-1)
    ) else (
      mbnd (gR 0 1 a0) fun (v4 : Nat) =>
      mbnd (lenI 0 v4) fun (v5 : Int32) =>
      if v5 ≤ a1 then (
        mret (-1)
      ) else (
        mbnd (gR 0 1 a0) fun (v7 : Nat) =>
        mbnd (ldI 0 v7 a1) fun (v8 : Int32) =>
        mret v8
      )
    )
  )
  )
theorem rcX0_turn (a0 : Nat) (a1 : Int32) : Rcv 0 a0 (mX0_turn a0 a1) := fun s r h => ⟨(onC_some h).1, (onC_some h).2.1⟩
set_option maxHeartbeats 4000000 in
set_option maxRecDepth 100000 in
theorem ctX0_turn (a0 : Nat) (a1 : Int32) : Ct aX0_turn [vr a0, vi a1] (mX0_turn a0 a1) rI := by
  unfold mX0_turn
  refine ct_onC (ct_intro (by decide +kernel) rfl (Nat.le_of_ble_eq_true rfl) fun Y s => ?_)
  refine r_sub (lv' := [(0, vr a0), (1, vi a1)]) [0, 1] rfl ?_
  refine r_p (pc' := 1) (p_iload_n 1 (k := 1) (by decide +kernel) rfl) ?_
  refine r_iflt (off := 29) (tgt := 30) (by decide +kernel) (by decide) (fun h1 => ?_) (fun h1 => ?_)
  · refine r_p (pc' := 31) (p_iconst (n := -1) (v := -1) (by decide +kernel) rfl) ?_
    exact r_iret rfl rfl _ rfl rfl (by decide +kernel)
  · refine r_p (pc' := 5) (p_iload_n 1 (k := 1) (by decide +kernel) rfl) ?_
    refine r_p (pc' := 6) (p_aload_n 0 (k := 0) (by decide +kernel) rfl) ?_
    refine r_gI flX0_46_0 (by decide +kernel) fun v2 => ?_
    refine r_icmpge (off := 21) (tgt := 30) (by decide +kernel) (by decide) (fun h3 => ?_) (fun h3 => ?_)
    · refine r_p (pc' := 31) (p_iconst (n := -1) (v := -1) (by decide +kernel) rfl) ?_
      exact r_iret rfl rfl _ rfl rfl (by decide +kernel)
    · refine r_p (pc' := 13) (p_iload_n 1 (k := 1) (by decide +kernel) rfl) ?_
      refine r_p (pc' := 14) (p_aload_n 0 (k := 0) (by decide +kernel) rfl) ?_
      refine r_gR flX0_15_0 (by decide +kernel) fun v4 => ?_
      refine r_lenI (by decide) (by decide +kernel) fun v5 => ?_
      refine r_icmpge (off := 12) (tgt := 30) (by decide +kernel) (by decide) (fun h6 => ?_) (fun h6 => ?_)
      · refine r_p (pc' := 31) (p_iconst (n := -1) (v := -1) (by decide +kernel) rfl) ?_
        exact r_iret rfl rfl _ rfl rfl (by decide +kernel)
      · refine r_p (pc' := 22) (p_aload_n 0 (k := 0) (by decide +kernel) rfl) ?_
        refine r_gR flX0_15_0 (by decide +kernel) fun v7 => ?_
        refine r_p (pc' := 26) (p_iload_n 1 (k := 1) (by decide +kernel) rfl) ?_
        refine r_ldI0 (by decide +kernel) fun v8 => ?_
        refine r_p (pc' := 31) (p_goto (off := 4) (tgt := 31) (by decide +kernel) (by decide)) ?_
        exact r_iret rfl rfl _ rfl rfl (by decide +kernel)
