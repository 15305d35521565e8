/-! PRINTED BY wip/whole/gen.py -/
def aX12_readMaster : StA := (RX12, cX12_readMaster, 2, some .boolean, yX12_readMaster, 12, [])
noncomputable def mX12_readMaster (a0 : Nat) : MM Int32 := onC 11 a0 (
  mbnd (mX12_masters a0) fun (v1 : Int32) =>
  if v1 = 6 then (
    mret 0
  ) else (
    mbnd (mX12_number a0 0 9) fun (v3 : Int32) =>
    if 0 ≤ v3 then (
      mbnd (gR 11 1 a0) fun (v5 : Nat) =>
      mbnd (mX12_masters a0) fun (v6 : Int32) =>
      mbnd (stI 0 v5 (165 + v6) v3) fun _ =>
      mbnd (gR 11 1 a0) fun (v7 : Nat) =>
      mbnd (ldI 0 v7 2) fun (v8 : Int32) =>
      mbnd (stI 0 v7 2 (v8 + 1)) fun _ =>
      mret 1
    ) else (
      mret 0
    )
  )
  )
theorem rcX12_readMaster (a0 : Nat) : Rcv 11 a0 (mX12_readMaster a0) := fun s r h => ⟨(onC_some h).1, (onC_some h).2.1⟩
set_option maxHeartbeats 4000000 in
set_option maxRecDepth 100000 in
theorem ctX12_readMaster (a0 : Nat) : Ct aX12_readMaster [vr a0] (mX12_readMaster a0) rI := by
  unfold mX12_readMaster
  refine ct_onC (ct_intro (by decide +kernel) rfl (Nat.le_of_ble_eq_true rfl) fun Y s => ?_)
  refine r_sub (lv' := [(0, vr a0)]) [0] rfl ?_
  refine r_p (pc' := 1) (p_aload_n 0 (k := 0) (by decide +kernel) rfl) ?_
  refine r_callVI mvX12_79 (ctX12_masters a0) (rcX12_masters a0) ⟨_, _, rfl⟩ (as := []) (st := []) rfl rfl (by decide +kernel) rfl (Nat.le_of_ble_eq_true rfl) (Nat.le_of_ble_eq_true rfl) fun v1 s => ?_
  refine r_p (pc' := 6) (p_bipush (n := 6) (v := 6) (by decide +kernel) (by decide +kernel)) ?_
  refine r_icmpne (off := 5) (tgt := 11) (by decide +kernel) (by decide) (fun h2 => ?_) (fun h2 => ?_)
  · refine r_p (pc' := 10) (p_iconst (n := 0) (v := 0) (by decide +kernel) rfl) ?_
    exact r_iret rfl rfl _ rfl rfl (by decide +kernel)
  · refine r_p (pc' := 12) (p_aload_n 0 (k := 0) (by decide +kernel) rfl) ?_
    refine r_p (pc' := 13) (p_iconst (n := 0) (v := 0) (by decide +kernel) rfl) ?_
    refine r_p (pc' := 15) (p_bipush (n := 9) (v := 9) (by decide +kernel) (by decide +kernel)) ?_
    refine r_callVI mvX12_122 (ctX12_number a0 0 9) (rcX12_number a0 0 9) ⟨_, _, rfl⟩ (as := [vi 0, vi 9]) (st := []) rfl rfl (by decide +kernel) rfl (Nat.le_of_ble_eq_true rfl) (Nat.le_of_ble_eq_true rfl) fun v3 s => ?_
    refine r_p (pc' := 19) (p_istore_n (k := 1) (lv' := [(1, vi v3), (0, vr a0)]) (by decide +kernel) (Nat.le_of_ble_eq_true rfl) rfl) ?_
    refine r_p (pc' := 20) (p_iload_n 0 (k := 1) (by decide +kernel) rfl) ?_
    refine r_ifge (off := 5) (tgt := 25) (by decide +kernel) (by decide) (fun h4 => ?_) (fun h4 => ?_)
    · refine r_p (pc' := 26) (p_aload_n 1 (k := 0) (by decide +kernel) rfl) ?_
      refine r_gR flX12_13_11 (by decide +kernel) fun v5 => ?_
      refine r_p (pc' := 32) (p_sipush (n := 165) (v := 165) (by decide +kernel) (by decide +kernel)) ?_
      refine r_p (pc' := 33) (p_aload_n 1 (k := 0) (by decide +kernel) rfl) ?_
      refine r_callVI mvX12_79 (ctX12_masters a0) (rcX12_masters a0) ⟨_, _, rfl⟩ (as := []) (st := [vi 165, vr v5]) rfl rfl (by decide +kernel) rfl (Nat.le_of_ble_eq_true rfl) (Nat.le_of_ble_eq_true rfl) fun v6 s => ?_
      refine r_p (pc' := 37) (p_iadd (by decide +kernel)) ?_
      refine r_p (pc' := 38) (p_iload_n 0 (k := 1) (by decide +kernel) rfl) ?_
      refine r_stI0 (by decide +kernel) fun s => ?_
      refine r_p (pc' := 40) (p_aload_n 1 (k := 0) (by decide +kernel) rfl) ?_
      refine r_gR flX12_13_11 (by decide +kernel) fun v7 => ?_
      refine r_p (pc' := 44) (p_iconst (n := 2) (v := 2) (by decide +kernel) rfl) ?_
      refine r_p (pc' := 45) (p_dup2 rfl rfl (by decide +kernel)) ?_
      refine r_ldI0 (by decide +kernel) fun v8 => ?_
      refine r_p (pc' := 47) (p_iconst (n := 1) (v := 1) (by decide +kernel) rfl) ?_
      refine r_p (pc' := 48) (p_iadd (by decide +kernel)) ?_
      refine r_stI0 (by decide +kernel) fun s => ?_
      refine r_p (pc' := 50) (p_iconst (n := 1) (v := 1) (by decide +kernel) rfl) ?_
      exact r_iret rfl rfl _ rfl rfl (by decide +kernel)
    · refine r_p (pc' := 24) (p_iconst (n := 0) (v := 0) (by decide +kernel) rfl) ?_
      exact r_iret rfl rfl _ rfl rfl (by decide +kernel)
def aX12_readNail : StA := (RX12, cX12_readNail, 2, some .boolean, yX12_readNail, 13, [])
noncomputable def mX12_readNail (a0 : Nat) : MM Int32 := onC 11 a0 (
  mbnd (mX12_partTold a0) fun (v1 : Int32) =>
  if v1 < 0 then (
    mret 0
  ) else (
    mbnd (mX12_isSpare a0 v1) fun (v3 : Int32) =>
    if v3 = 0 then (
      mbnd (gR 11 1 a0) fun (v5 : Nat) =>
      mbnd (mX12_partAt v1 4) fun (v6 : Int32) =>
      mbnd (stI 0 v5 v6 1) fun _ =>
      mret 1
    ) else (
      mret 0
    )
  )
  )
theorem rcX12_readNail (a0 : Nat) : Rcv 11 a0 (mX12_readNail a0) := fun s r h => ⟨(onC_some h).1, (onC_some h).2.1⟩
set_option maxHeartbeats 4000000 in
set_option maxRecDepth 100000 in
theorem ctX12_readNail (a0 : Nat) : Ct aX12_readNail [vr a0] (mX12_readNail a0) rI := by
  unfold mX12_readNail
  refine ct_onC (ct_intro (by decide +kernel) rfl (Nat.le_of_ble_eq_true rfl) fun Y s => ?_)
  refine r_sub (lv' := [(0, vr a0)]) [0] rfl ?_
  refine r_p (pc' := 1) (p_aload_n 0 (k := 0) (by decide +kernel) rfl) ?_
  refine r_callVI mvX12_142 (ctX12_partTold a0) (rcX12_partTold a0) ⟨_, _, rfl⟩ (as := []) (st := []) rfl rfl (by decide +kernel) rfl (Nat.le_of_ble_eq_true rfl) (Nat.le_of_ble_eq_true rfl) fun v1 s => ?_
  refine r_p (pc' := 5) (p_istore_n (k := 1) (lv' := [(1, vi v1), (0, vr a0)]) (by decide +kernel) (Nat.le_of_ble_eq_true rfl) rfl) ?_
  refine r_p (pc' := 6) (p_iload_n 0 (k := 1) (by decide +kernel) rfl) ?_
  refine r_iflt (off := 11) (tgt := 17) (by decide +kernel) (by decide) (fun h2 => ?_) (fun h2 => ?_)
  · refine r_p (pc' := 18) (p_iconst (n := 0) (v := 0) (by decide +kernel) rfl) ?_
    exact r_iret rfl rfl _ rfl rfl (by decide +kernel)
  · refine r_p (pc' := 10) (p_aload_n 1 (k := 0) (by decide +kernel) rfl) ?_
    refine r_p (pc' := 11) (p_iload_n 0 (k := 1) (by decide +kernel) rfl) ?_
    refine r_callVI mvX12_145 (ctX12_isSpare a0 v1) (rcX12_isSpare a0 v1) ⟨_, _, rfl⟩ (as := [vi v1]) (st := []) rfl rfl (by decide +kernel) rfl (Nat.le_of_ble_eq_true rfl) (Nat.le_of_ble_eq_true rfl) fun v3 s => ?_
    refine r_ifeq (off := 5) (tgt := 19) (by decide +kernel) (by decide) (fun h4 => ?_) (fun h4 => ?_)
    · refine r_p (pc' := 20) (p_aload_n 1 (k := 0) (by decide +kernel) rfl) ?_
      refine r_gR flX12_13_11 (by decide +kernel) fun v5 => ?_
      refine r_p (pc' := 24) (p_iload_n 0 (k := 1) (by decide +kernel) rfl) ?_
      refine r_p (pc' := 25) (p_iconst (n := 4) (v := 4) (by decide +kernel) rfl) ?_
      refine r_callSI msX12_61 (ctX12_partAt v1 4) (as := [vi v1, vi 4]) (st := [vr v5]) rfl rfl (by decide +kernel) rfl (Nat.le_of_ble_eq_true rfl) (Nat.le_of_ble_eq_true rfl) fun v6 s => ?_
      refine r_p (pc' := 29) (p_iconst (n := 1) (v := 1) (by decide +kernel) rfl) ?_
      refine r_stI0 (by decide +kernel) fun s => ?_
      refine r_p (pc' := 31) (p_iconst (n := 1) (v := 1) (by decide +kernel) rfl) ?_
      exact r_iret rfl rfl _ rfl rfl (by decide +kernel)
    · refine r_p (pc' := 18) (p_iconst (n := 0) (v := 0) (by decide +kernel) rfl) ?_
      exact r_iret rfl rfl _ rfl rfl (by decide +kernel)
def aX12_readNeed : StA := (RX12, cX12_readNeed, 3, some .boolean, yX12_readNeed, 12, [])
noncomputable def mX12_readNeed (a0 : Nat) : MM Int32 := onC 11 a0 (
  mbnd (mX12_number a0 0 31) fun (v1 : Int32) =>
  mbnd (α := Int32) (
    if 0 ≤ v1 then (
      mbnd (mX12_tools a0) fun (v6 : Int32) =>
      mbnd (mX12_number a0 0 (v6 - 1)) fun (v7 : Int32) =>
      mret v7
    ) else (
      mret (-1)
    )
  ) fun (x3 : Int32) =>
  mbnd (α := Unit) (
    if x3 < 0 then (
      mret ()
    ) else (
      mbnd (gR 11 1 a0) fun (v12 : Nat) =>
      mbnd (mret ((141 + (4 * x3)) + 3)) fun (v13 : Int32) =>
      mbnd (ldI 0 v12 v13) fun (v14 : Int32) =>
      mbnd (stI 0 v12 v13 (v14 ||| (1 <<< (v1 &&& (31 : Int32))))) fun _ =>
      mret ()
    )
  ) fun (x9 : Unit) =>
  if x3 < 0 then (
    mret 0
  ) else (
    mret 1
  )
  )
theorem rcX12_readNeed (a0 : Nat) : Rcv 11 a0 (mX12_readNeed a0) := fun s r h => ⟨(onC_some h).1, (onC_some h).2.1⟩
set_option maxHeartbeats 4000000 in
set_option maxRecDepth 100000 in
theorem ctX12_readNeed (a0 : Nat) : Ct aX12_readNeed [vr a0] (mX12_readNeed a0) rI := by
  unfold mX12_readNeed
  refine ct_onC (ct_intro (by decide +kernel) rfl (Nat.le_of_ble_eq_true rfl) fun Y s => ?_)
  refine r_sub (lv' := [(0, vr a0)]) [0] rfl ?_
  refine r_p (pc' := 1) (p_aload_n 0 (k := 0) (by decide +kernel) rfl) ?_
  refine r_p (pc' := 2) (p_iconst (n := 0) (v := 0) (by decide +kernel) rfl) ?_
  refine r_p (pc' := 4) (p_bipush (n := 31) (v := 31) (by decide +kernel) (by decide +kernel)) ?_
  refine r_callVI mvX12_122 (ctX12_number a0 0 31) (rcX12_number a0 0 31) ⟨_, _, rfl⟩ (as := [vi 0, vi 31]) (st := []) rfl rfl (by decide +kernel) rfl (Nat.le_of_ble_eq_true rfl) (Nat.le_of_ble_eq_true rfl) fun v1 s => ?_
  refine r_p (pc' := 8) (p_istore_n (k := 1) (lv' := [(1, vi v1), (0, vr a0)]) (by decide +kernel) (Nat.le_of_ble_eq_true rfl) rfl) ?_
  refine r_p (pc' := 9) (p_iload_n 0 (k := 1) (by decide +kernel) rfl) ?_
  refine r_join 27 (fun (x3 : Int32) => [(0, vr a0), (1, vi v1)]) (fun (x3 : Int32) => [vi x3]) (fun x3 s => ?_) (fun K4 hj5 => ?_)
  · refine r_p (pc' := 28) (p_istore_n (k := 2) (lv' := [(2, vi x3), (0, vr a0), (1, vi v1)]) (by decide +kernel) (Nat.le_of_ble_eq_true rfl) rfl) ?_
    refine r_p (pc' := 29) (p_iload_n 0 (k := 2) (by decide +kernel) rfl) ?_
    refine r_join 52 (fun (x9 : Unit) => [(2, vi x3)]) (fun (x9 : Unit) => []) (fun x9 s => ?_) (fun K10 hj11 => ?_)
    · refine r_p (pc' := 53) (p_iload_n 0 (k := 2) (by decide +kernel) rfl) ?_
      refine r_iflt (off := 7) (tgt := 60) (by decide +kernel) (by decide) (fun h15 => ?_) (fun h15 => ?_)
      · refine r_p (pc' := 61) (p_iconst (n := 0) (v := 0) (by decide +kernel) rfl) ?_
        exact r_iret rfl rfl _ rfl rfl (by decide +kernel)
      · refine r_p (pc' := 57) (p_iconst (n := 1) (v := 1) (by decide +kernel) rfl) ?_
        refine r_p (pc' := 61) (p_goto (off := 4) (tgt := 61) (by decide +kernel) (by decide)) ?_
        exact r_iret rfl rfl _ rfl rfl (by decide +kernel)
    · refine r_iflt (off := 23) (tgt := 52) (by decide +kernel) (by decide) (fun h8 => ?_) (fun h8 => ?_)
      · refine r_sub (lv' := [(2, vi x3)]) [0] rfl ?_
        exact hj11 () _
      · refine r_p (pc' := 33) (p_aload_n 1 (k := 0) (by decide +kernel) rfl) ?_
        refine r_gR flX12_13_11 (by decide +kernel) fun v12 => ?_
        refine r_p (pc' := 39) (p_sipush (n := 141) (v := 141) (by decide +kernel) (by decide +kernel)) ?_
        refine r_p (pc' := 40) (p_iconst (n := 4) (v := 4) (by decide +kernel) rfl) ?_
        refine r_p (pc' := 41) (p_iload_n 0 (k := 2) (by decide +kernel) rfl) ?_
        refine r_p (pc' := 42) (p_imul (by decide +kernel)) ?_
        refine r_p (pc' := 43) (p_iadd (by decide +kernel)) ?_
        refine r_p (pc' := 44) (p_iconst (n := 3) (v := 3) (by decide +kernel) rfl) ?_
        refine r_p (pc' := 45) (p_iadd (by decide +kernel)) ?_
        refine r_letI fun v13 => ?_
        refine r_p (pc' := 46) (p_dup2 rfl rfl (by decide +kernel)) ?_
        refine r_ldI0 (by decide +kernel) fun v14 => ?_
        refine r_p (pc' := 48) (p_iconst (n := 1) (v := 1) (by decide +kernel) rfl) ?_
        refine r_p (pc' := 49) (p_iload_n 2 (k := 1) (by decide +kernel) rfl) ?_
        refine r_p (pc' := 50) (p_ishl (by decide +kernel)) ?_
        refine r_p (pc' := 51) (p_ior (by decide +kernel)) ?_
        refine r_stI0 (by decide +kernel) fun s => ?_
        refine r_sub (lv' := [(2, vi x3)]) [0] rfl ?_
        exact hj11 () _
  · refine r_ifge (off := 7) (tgt := 16) (by decide +kernel) (by decide) (fun h2 => ?_) (fun h2 => ?_)
    · refine r_p (pc' := 17) (p_aload_n 1 (k := 0) (by decide +kernel) rfl) ?_
      refine r_p (pc' := 18) (p_iconst (n := 0) (v := 0) (by decide +kernel) rfl) ?_
      refine r_p (pc' := 19) (p_aload_n 1 (k := 0) (by decide +kernel) rfl) ?_
      refine r_callVI mvX12_76 (ctX12_tools a0) (rcX12_tools a0) ⟨_, _, rfl⟩ (as := []) (st := [vi 0, vr a0]) rfl rfl (by decide +kernel) rfl (Nat.le_of_ble_eq_true rfl) (Nat.le_of_ble_eq_true rfl) fun v6 s => ?_
      refine r_p (pc' := 23) (p_iconst (n := 1) (v := 1) (by decide +kernel) rfl) ?_
      refine r_p (pc' := 24) (p_isub (by decide +kernel)) ?_
      refine r_callVI mvX12_122 (ctX12_number a0 0 (v6 - 1)) (rcX12_number a0 0 (v6 - 1)) ⟨_, _, rfl⟩ (as := [vi 0, vi (v6 - 1)]) (st := []) rfl rfl (by decide +kernel) rfl (Nat.le_of_ble_eq_true rfl) (Nat.le_of_ble_eq_true rfl) fun v7 s => ?_
      refine r_sub (lv' := [(0, vr a0), (1, vi v1)]) [1, 0] rfl ?_
      exact hj5 v7 _
    · refine r_p (pc' := 13) (p_iconst (n := -1) (v := -1) (by decide +kernel) rfl) ?_
      refine r_p (pc' := 27) (p_goto (off := 14) (tgt := 27) (by decide +kernel) (by decide)) ?_
      refine r_sub (lv' := [(0, vr a0), (1, vi v1)]) [1, 0] rfl ?_
      exact hj5 (-1) _
def aX12_readShopLine : StA := (RX12, cX12_readShopLine, 3, some .boolean, yX12_readShopLine, 14, [])
theorem mvX12_182 : MV RX12 182 aX12_readNeed 0 := ⟨tblG_of 1890 (by decide +kernel) (by decide +kernel), tblG_of 1892 (by decide +kernel) (by decide +kernel), tblG_of 76 (by decide +kernel) (by decide +kernel), tblG_of 157 (by decide +kernel) (by decide +kernel), tblG_of 1893 (by decide +kernel) (by decide +kernel), rfl, ⟨by decide, by decide⟩, by decide +kernel, by decide⟩
theorem mvX12_177 : MV RX12 177 aX12_readNail 0 := ⟨tblG_of 1885 (by decide +kernel) (by decide +kernel), tblG_of 1887 (by decide +kernel) (by decide +kernel), tblG_of 75 (by decide +kernel) (by decide +kernel), tblG_of 157 (by decide +kernel) (by decide +kernel), tblG_of 1888 (by decide +kernel) (by decide +kernel), rfl, ⟨by decide, by decide⟩, by decide +kernel, by decide⟩
theorem mvX12_172 : MV RX12 172 aX12_readMaster 0 := ⟨tblG_of 1876 (by decide +kernel) (by decide +kernel), tblG_of 1878 (by decide +kernel) (by decide +kernel), tblG_of 73 (by decide +kernel) (by decide +kernel), tblG_of 157 (by decide +kernel) (by decide +kernel), tblG_of 1879 (by decide +kernel) (by decide +kernel), rfl, ⟨by decide, by decide⟩, by decide +kernel, by decide⟩
theorem mvX12_167 : MV RX12 167 aX12_readTool 0 := ⟨tblG_of 1843 (by decide +kernel) (by decide +kernel), tblG_of 1845 (by decide +kernel) (by decide +kernel), tblG_of 65 (by decide +kernel) (by decide +kernel), tblG_of 157 (by decide +kernel) (by decide +kernel), tblG_of 1846 (by decide +kernel) (by decide +kernel), rfl, ⟨by decide, by decide⟩, by decide +kernel, by decide⟩
theorem mvX12_162 : MV RX12 162 aX12_readPart 0 := ⟨tblG_of 1810 (by decide +kernel) (by decide +kernel), tblG_of 1812 (by decide +kernel) (by decide +kernel), tblG_of 59 (by decide +kernel) (by decide +kernel), tblG_of 157 (by decide +kernel) (by decide +kernel), tblG_of 1813 (by decide +kernel) (by decide +kernel), rfl, ⟨by decide, by decide⟩, by decide +kernel, by decide⟩
noncomputable def mX12_readShopLine (a0 : Nat) : MM Int32 := onC 11 a0 (
  mbnd (mX12_isWord a0 27) fun (v1 : Int32) =>
  if v1 = 0 then (
    mbnd (mX12_isWord a0 33) fun (v3 : Int32) =>
    if v3 = 0 then (
      mbnd (mX12_isWord a0 34) fun (v5 : Int32) =>
      if v5 = 0 then (
        mbnd (mX12_isWord a0 35) fun (v7 : Int32) =>
        if v7 = 0 then (
          mbnd (mX12_isWord a0 36) fun (v9 : Int32) =>
          if v9 = 0 then (
            mbnd (mX12_isWord a0 37) fun (v11 : Int32) =>
            if v11 = 0 then (
              mbnd (mX12_isWord a0 38) fun (v13 : Int32) =>
              if v13 = 0 then (
                mret 0
              ) else (
                mbnd (α := Int32) (
                  if v11 = 0 then (
                    mret 100
                  ) else (
                    mret 9999
                  )
                ) fun (x16 : Int32) =>
                mbnd (mX12_number a0 0 x16) fun (v19 : Int32) =>
                mbnd (gR 11 1 a0) fun (v20 : Nat) =>
                mbnd (α := Int32) (
                  if v11 = 0 then (
                    mret 8
                  ) else (
                    mret 7
                  )
                ) fun (x22 : Int32) =>
                mbnd (stI 0 v20 x22 v19) fun _ =>
                if v19 < 0 then (
                  mret 0
                ) else (
                  mret 1
                )
              )
            ) else (
              mbnd (α := Int32) (
                if v11 = 0 then (
                  mret 100
                ) else (
                  mret 9999
                )
              ) fun (x27 : Int32) =>
              mbnd (mX12_number a0 0 x27) fun (v30 : Int32) =>
              mbnd (gR 11 1 a0) fun (v31 : Nat) =>
              mbnd (α := Int32) (
                if v11 = 0 then (
                  mret 8
                ) else (
                  mret 7
                )
              ) fun (x33 : Int32) =>
              mbnd (stI 0 v31 x33 v30) fun _ =>
              if v30 < 0 then (
                mret 0
              ) else (
                mret 1
              )
            )
          ) else (
            mbnd (mX12_readNeed a0) fun (v37 : Int32) =>
            mbool v37
          )
        ) else (
          mbnd (mX12_readNail a0) fun (v38 : Int32) =>
          mbool v38
        )
      ) else (
        mbnd (mX12_readMaster a0) fun (v39 : Int32) =>
        mbool v39
      )
    ) else (
      mbnd (mX12_readTool a0) fun (v40 : Int32) =>
      mbool v40
    )
  ) else (
    mbnd (mX12_readPart a0) fun (v41 : Int32) =>
    mbool v41
  )
  )
theorem rcX12_readShopLine (a0 : Nat) : Rcv 11 a0 (mX12_readShopLine a0) := fun s r h => ⟨(onC_some h).1, (onC_some h).2.1⟩
set_option maxHeartbeats 4000000 in
set_option maxRecDepth 100000 in
theorem ctX12_readShopLine (a0 : Nat) : Ct aX12_readShopLine [vr a0] (mX12_readShopLine a0) rI := by
  unfold mX12_readShopLine
  refine ct_onC (ct_intro (by decide +kernel) rfl (Nat.le_of_ble_eq_true rfl) fun Y s => ?_)
  refine r_sub (lv' := [(0, vr a0)]) [0] rfl ?_
  refine r_p (pc' := 1) (p_aload_n 0 (k := 0) (by decide +kernel) rfl) ?_
  refine r_p (pc' := 3) (p_ldcS (i := 160) (j := 27) (text := "part") (by decide +kernel) (by decide +kernel)) ?_
  refine r_callVI mvX12_114 (ctX12_isWord a0 27) (rcX12_isWord a0 27) ⟨_, _, rfl⟩ (as := [vt 27]) (st := []) rfl rfl (by decide +kernel) rfl (Nat.le_of_ble_eq_true rfl) (Nat.le_of_ble_eq_true rfl) fun v1 s => ?_
  refine r_ifeq (off := 8) (tgt := 14) (by decide +kernel) (by decide) (fun h2 => ?_) (fun h2 => ?_)
  · refine r_p (pc' := 15) (p_aload_n 0 (k := 0) (by decide +kernel) rfl) ?_
    refine r_p (pc' := 17) (p_ldcS (i := 165) (j := 33) (text := "tool") (by decide +kernel) (by decide +kernel)) ?_
    refine r_callVI mvX12_114 (ctX12_isWord a0 33) (rcX12_isWord a0 33) ⟨_, _, rfl⟩ (as := [vt 33]) (st := []) rfl rfl (by decide +kernel) rfl (Nat.le_of_ble_eq_true rfl) (Nat.le_of_ble_eq_true rfl) fun v3 s => ?_
    refine r_ifeq (off := 8) (tgt := 28) (by decide +kernel) (by decide) (fun h4 => ?_) (fun h4 => ?_)
    · refine r_p (pc' := 29) (p_aload_n 0 (k := 0) (by decide +kernel) rfl) ?_
      refine r_p (pc' := 31) (p_ldcS (i := 170) (j := 34) (text := "master") (by decide +kernel) (by decide +kernel)) ?_
      refine r_callVI mvX12_114 (ctX12_isWord a0 34) (rcX12_isWord a0 34) ⟨_, _, rfl⟩ (as := [vt 34]) (st := []) rfl rfl (by decide +kernel) rfl (Nat.le_of_ble_eq_true rfl) (Nat.le_of_ble_eq_true rfl) fun v5 s => ?_
      refine r_ifeq (off := 8) (tgt := 42) (by decide +kernel) (by decide) (fun h6 => ?_) (fun h6 => ?_)
      · refine r_p (pc' := 43) (p_aload_n 0 (k := 0) (by decide +kernel) rfl) ?_
        refine r_p (pc' := 45) (p_ldcS (i := 175) (j := 35) (text := "nail") (by decide +kernel) (by decide +kernel)) ?_
        refine r_callVI mvX12_114 (ctX12_isWord a0 35) (rcX12_isWord a0 35) ⟨_, _, rfl⟩ (as := [vt 35]) (st := []) rfl rfl (by decide +kernel) rfl (Nat.le_of_ble_eq_true rfl) (Nat.le_of_ble_eq_true rfl) fun v7 s => ?_
        refine r_ifeq (off := 8) (tgt := 56) (by decide +kernel) (by decide) (fun h8 => ?_) (fun h8 => ?_)
        · refine r_p (pc' := 57) (p_aload_n 0 (k := 0) (by decide +kernel) rfl) ?_
          refine r_p (pc' := 59) (p_ldcS (i := 180) (j := 36) (text := "need") (by decide +kernel) (by decide +kernel)) ?_
          refine r_callVI mvX12_114 (ctX12_isWord a0 36) (rcX12_isWord a0 36) ⟨_, _, rfl⟩ (as := [vt 36]) (st := []) rfl rfl (by decide +kernel) rfl (Nat.le_of_ble_eq_true rfl) (Nat.le_of_ble_eq_true rfl) fun v9 s => ?_
          refine r_ifeq (off := 8) (tgt := 70) (by decide +kernel) (by decide) (fun h10 => ?_) (fun h10 => ?_)
          · refine r_p (pc' := 71) (p_aload_n 0 (k := 0) (by decide +kernel) rfl) ?_
            refine r_p (pc' := 73) (p_ldcS (i := 185) (j := 37) (text := "limit") (by decide +kernel) (by decide +kernel)) ?_
            refine r_callVI mvX12_114 (ctX12_isWord a0 37) (rcX12_isWord a0 37) ⟨_, _, rfl⟩ (as := [vt 37]) (st := []) rfl rfl (by decide +kernel) rfl (Nat.le_of_ble_eq_true rfl) (Nat.le_of_ble_eq_true rfl) fun v11 s => ?_
            refine r_p (pc' := 77) (p_istore_n (k := 1) (lv' := [(1, vi v11), (0, vr a0)]) (by decide +kernel) (Nat.le_of_ble_eq_true rfl) rfl) ?_
            refine r_p (pc' := 78) (p_iload_n 0 (k := 1) (by decide +kernel) rfl) ?_
            refine r_ifne (off := 14) (tgt := 92) (by decide +kernel) (by decide) (fun h12 => ?_) (fun h12 => ?_)
            · refine r_p (pc' := 82) (p_aload_n 1 (k := 0) (by decide +kernel) rfl) ?_
              refine r_p (pc' := 84) (p_ldcS (i := 187) (j := 38) (text := "damp") (by decide +kernel) (by decide +kernel)) ?_
              refine r_callVI mvX12_114 (ctX12_isWord a0 38) (rcX12_isWord a0 38) ⟨_, _, rfl⟩ (as := [vt 38]) (st := []) rfl rfl (by decide +kernel) rfl (Nat.le_of_ble_eq_true rfl) (Nat.le_of_ble_eq_true rfl) fun v13 s => ?_
              refine r_ifne (off := 5) (tgt := 92) (by decide +kernel) (by decide) (fun h14 => ?_) (fun h14 => ?_)
              · refine r_p (pc' := 91) (p_iconst (n := 0) (v := 0) (by decide +kernel) rfl) ?_
                exact r_iret rfl rfl _ rfl rfl (by decide +kernel)
              · refine r_p (pc' := 93) (p_aload_n 1 (k := 0) (by decide +kernel) rfl) ?_
                refine r_p (pc' := 94) (p_iconst (n := 0) (v := 0) (by decide +kernel) rfl) ?_
                refine r_p (pc' := 95) (p_iload_n 0 (k := 1) (by decide +kernel) rfl) ?_
                refine r_join 106 (fun (x16 : Int32) => [(0, vr a0), (1, vi v11)]) (fun (x16 : Int32) => [vi x16, vi 0, vr a0]) (fun x16 s => ?_) (fun K17 hj18 => ?_)
                · refine r_callVI mvX12_122 (ctX12_number a0 0 x16) (rcX12_number a0 0 x16) ⟨_, _, rfl⟩ (as := [vi 0, vi x16]) (st := []) rfl rfl (by decide +kernel) rfl (Nat.le_of_ble_eq_true rfl) (Nat.le_of_ble_eq_true rfl) fun v19 s => ?_
                  refine r_p (pc' := 110) (p_istore_n (k := 2) (lv' := [(2, vi v19), (0, vr a0), (1, vi v11)]) (by decide +kernel) (Nat.le_of_ble_eq_true rfl) rfl) ?_
                  refine r_p (pc' := 111) (p_aload_n 1 (k := 0) (by decide +kernel) rfl) ?_
                  refine r_gR flX12_13_11 (by decide +kernel) fun v20 => ?_
                  refine r_p (pc' := 115) (p_iload_n 2 (k := 1) (by decide +kernel) rfl) ?_
                  refine r_join 125 (fun (x22 : Int32) => [(2, vi v19)]) (fun (x22 : Int32) => [vi x22, vr v20]) (fun x22 s => ?_) (fun K23 hj24 => ?_)
                  · refine r_p (pc' := 126) (p_iload_n 0 (k := 2) (by decide +kernel) rfl) ?_
                    refine r_stI0 (by decide +kernel) fun s => ?_
                    refine r_p (pc' := 128) (p_iload_n 0 (k := 2) (by decide +kernel) rfl) ?_
                    refine r_iflt (off := 7) (tgt := 135) (by decide +kernel) (by decide) (fun h25 => ?_) (fun h25 => ?_)
                    · refine r_p (pc' := 136) (p_iconst (n := 0) (v := 0) (by decide +kernel) rfl) ?_
                      exact r_iret rfl rfl _ rfl rfl (by decide +kernel)
                    · refine r_p (pc' := 132) (p_iconst (n := 1) (v := 1) (by decide +kernel) rfl) ?_
                      refine r_p (pc' := 136) (p_goto (off := 4) (tgt := 136) (by decide +kernel) (by decide)) ?_
                      exact r_iret rfl rfl _ rfl rfl (by decide +kernel)
                  · refine r_ifeq (off := 8) (tgt := 123) (by decide +kernel) (by decide) (fun h21 => ?_) (fun h21 => ?_)
                    · refine r_p (pc' := 125) (p_bipush (n := 8) (v := 8) (by decide +kernel) (by decide +kernel)) ?_
                      refine r_sub (lv' := [(2, vi v19)]) [0] rfl ?_
                      exact hj24 8 _
                    · refine r_p (pc' := 120) (p_bipush (n := 7) (v := 7) (by decide +kernel) (by decide +kernel)) ?_
                      refine r_p (pc' := 125) (p_goto (off := 5) (tgt := 125) (by decide +kernel) (by decide)) ?_
                      refine r_sub (lv' := [(2, vi v19)]) [0] rfl ?_
                      exact hj24 7 _
                · refine r_ifeq (off := 9) (tgt := 104) (by decide +kernel) (by decide) (fun h15 => ?_) (fun h15 => ?_)
                  · refine r_p (pc' := 106) (p_bipush (n := 100) (v := 100) (by decide +kernel) (by decide +kernel)) ?_
                    refine r_sub (lv' := [(0, vr a0), (1, vi v11)]) [1, 0] rfl ?_
                    exact hj18 100 _
                  · refine r_p (pc' := 101) (p_sipush (n := 9999) (v := 9999) (by decide +kernel) (by decide +kernel)) ?_
                    refine r_p (pc' := 106) (p_goto (off := 5) (tgt := 106) (by decide +kernel) (by decide)) ?_
                    refine r_sub (lv' := [(0, vr a0), (1, vi v11)]) [1, 0] rfl ?_
                    exact hj18 9999 _
            · refine r_p (pc' := 93) (p_aload_n 1 (k := 0) (by decide +kernel) rfl) ?_
              refine r_p (pc' := 94) (p_iconst (n := 0) (v := 0) (by decide +kernel) rfl) ?_
              refine r_p (pc' := 95) (p_iload_n 0 (k := 1) (by decide +kernel) rfl) ?_
              refine r_join 106 (fun (x27 : Int32) => [(0, vr a0), (1, vi v11)]) (fun (x27 : Int32) => [vi x27, vi 0, vr a0]) (fun x27 s => ?_) (fun K28 hj29 => ?_)
              · refine r_callVI mvX12_122 (ctX12_number a0 0 x27) (rcX12_number a0 0 x27) ⟨_, _, rfl⟩ (as := [vi 0, vi x27]) (st := []) rfl rfl (by decide +kernel) rfl (Nat.le_of_ble_eq_true rfl) (Nat.le_of_ble_eq_true rfl) fun v30 s => ?_
                refine r_p (pc' := 110) (p_istore_n (k := 2) (lv' := [(2, vi v30), (0, vr a0), (1, vi v11)]) (by decide +kernel) (Nat.le_of_ble_eq_true rfl) rfl) ?_
                refine r_p (pc' := 111) (p_aload_n 1 (k := 0) (by decide +kernel) rfl) ?_
                refine r_gR flX12_13_11 (by decide +kernel) fun v31 => ?_
                refine r_p (pc' := 115) (p_iload_n 2 (k := 1) (by decide +kernel) rfl) ?_
                refine r_join 125 (fun (x33 : Int32) => [(2, vi v30)]) (fun (x33 : Int32) => [vi x33, vr v31]) (fun x33 s => ?_) (fun K34 hj35 => ?_)
                · refine r_p (pc' := 126) (p_iload_n 0 (k := 2) (by decide +kernel) rfl) ?_
                  refine r_stI0 (by decide +kernel) fun s => ?_
                  refine r_p (pc' := 128) (p_iload_n 0 (k := 2) (by decide +kernel) rfl) ?_
                  refine r_iflt (off := 7) (tgt := 135) (by decide +kernel) (by decide) (fun h36 => ?_) (fun h36 => ?_)
                  · refine r_p (pc' := 136) (p_iconst (n := 0) (v := 0) (by decide +kernel) rfl) ?_
                    exact r_iret rfl rfl _ rfl rfl (by decide +kernel)
                  · refine r_p (pc' := 132) (p_iconst (n := 1) (v := 1) (by decide +kernel) rfl) ?_
                    refine r_p (pc' := 136) (p_goto (off := 4) (tgt := 136) (by decide +kernel) (by decide)) ?_
                    exact r_iret rfl rfl _ rfl rfl (by decide +kernel)
                · refine r_ifeq (off := 8) (tgt := 123) (by decide +kernel) (by decide) (fun h32 => ?_) (fun h32 => ?_)
                  · refine r_p (pc' := 125) (p_bipush (n := 8) (v := 8) (by decide +kernel) (by decide +kernel)) ?_
                    refine r_sub (lv' := [(2, vi v30)]) [0] rfl ?_
                    exact hj35 8 _
                  · refine r_p (pc' := 120) (p_bipush (n := 7) (v := 7) (by decide +kernel) (by decide +kernel)) ?_
                    refine r_p (pc' := 125) (p_goto (off := 5) (tgt := 125) (by decide +kernel) (by decide)) ?_
                    refine r_sub (lv' := [(2, vi v30)]) [0] rfl ?_
                    exact hj35 7 _
              · refine r_ifeq (off := 9) (tgt := 104) (by decide +kernel) (by decide) (fun h26 => ?_) (fun h26 => ?_)
                · refine r_p (pc' := 106) (p_bipush (n := 100) (v := 100) (by decide +kernel) (by decide +kernel)) ?_
                  refine r_sub (lv' := [(0, vr a0), (1, vi v11)]) [1, 0] rfl ?_
                  exact hj29 100 _
                · refine r_p (pc' := 101) (p_sipush (n := 9999) (v := 9999) (by decide +kernel) (by decide +kernel)) ?_
                  refine r_p (pc' := 106) (p_goto (off := 5) (tgt := 106) (by decide +kernel) (by decide)) ?_
                  refine r_sub (lv' := [(0, vr a0), (1, vi v11)]) [1, 0] rfl ?_
                  exact hj29 9999 _
          · refine r_p (pc' := 66) (p_aload_n 0 (k := 0) (by decide +kernel) rfl) ?_
            refine r_callVI mvX12_182 (ctX12_readNeed a0) (rcX12_readNeed a0) ⟨_, _, rfl⟩ (as := []) (st := []) rfl rfl (by decide +kernel) rfl (Nat.le_of_ble_eq_true rfl) (Nat.le_of_ble_eq_true rfl) fun v37 s => ?_
            exact r_bret (y9 := fun v => v) (fun _ => rfl) (fun _ => rfl) rfl (by decide +kernel)
        · refine r_p (pc' := 52) (p_aload_n 0 (k := 0) (by decide +kernel) rfl) ?_
          refine r_callVI mvX12_177 (ctX12_readNail a0) (rcX12_readNail a0) ⟨_, _, rfl⟩ (as := []) (st := []) rfl rfl (by decide +kernel) rfl (Nat.le_of_ble_eq_true rfl) (Nat.le_of_ble_eq_true rfl) fun v38 s => ?_
          exact r_bret (y9 := fun v => v) (fun _ => rfl) (fun _ => rfl) rfl (by decide +kernel)
      · refine r_p (pc' := 38) (p_aload_n 0 (k := 0) (by decide +kernel) rfl) ?_
        refine r_callVI mvX12_172 (ctX12_readMaster a0) (rcX12_readMaster a0) ⟨_, _, rfl⟩ (as := []) (st := []) rfl rfl (by decide +kernel) rfl (Nat.le_of_ble_eq_true rfl) (Nat.le_of_ble_eq_true rfl) fun v39 s => ?_
        exact r_bret (y9 := fun v => v) (fun _ => rfl) (fun _ => rfl) rfl (by decide +kernel)
    · refine r_p (pc' := 24) (p_aload_n 0 (k := 0) (by decide +kernel) rfl) ?_
      refine r_callVI mvX12_167 (ctX12_readTool a0) (rcX12_readTool a0) ⟨_, _, rfl⟩ (as := []) (st := []) rfl rfl (by decide +kernel) rfl (Nat.le_of_ble_eq_true rfl) (Nat.le_of_ble_eq_true rfl) fun v40 s => ?_
      exact r_bret (y9 := fun v => v) (fun _ => rfl) (fun _ => rfl) rfl (by decide +kernel)
  · refine r_p (pc' := 10) (p_aload_n 0 (k := 0) (by decide +kernel) rfl) ?_
    refine r_callVI mvX12_162 (ctX12_readPart a0) (rcX12_readPart a0) ⟨_, _, rfl⟩ (as := []) (st := []) rfl rfl (by decide +kernel) rfl (Nat.le_of_ble_eq_true rfl) (Nat.le_of_ble_eq_true rfl) fun v41 s => ?_
    exact r_bret (y9 := fun v => v) (fun _ => rfl) (fun _ => rfl) rfl (by decide +kernel)
def aX12_emits : StA := (RX12, cX12_emits, 3, none, yX12_emits, 8, [])
theorem flX12_189_11 : FL RX12 189 11 16 := ⟨_, TX12, 27, "ToolCourtModel", rfl, by decide, Or.inl (tblG_of 1681 (by decide +kernel) (by decide +kernel)), Or.inl rfl⟩
theorem fpX12_189_11 : FP RX12 189 11 16 .int false := ⟨_, TX12, 27, "ToolCourtModel", tyX12, rfl, by decide, Or.inl (tblG_of 1681 (by decide +kernel) (by decide +kernel)), Or.inl rfl, tyX12_ok, nmX12, rfl, by decide, by decide +kernel⟩
noncomputable def mX12_emits (a0 : Nat) (a1 : Int32) (a2 : Int32) : MM Unit := onC 11 a0 (
  mbnd (gR 11 1 a0) fun (v1 : Nat) =>
  mbnd (gI 11 16 a0) fun (v2 : Int32) =>
  mbnd (stI 0 v1 (1969 + (2 * v2)) a1) fun _ =>
  mbnd (gR 11 1 a0) fun (v3 : Nat) =>
  mbnd (gI 11 16 a0) fun (v4 : Int32) =>
  mbnd (stI 0 v3 ((1969 + (2 * v4)) + 1) a2) fun _ =>
  mbnd (gI 11 16 a0) fun (v5 : Int32) =>
  mbnd (pI 11 16 a0 (v5 + 1)) fun _ =>
  mret ()
  )
theorem rcX12_emits (a0 : Nat) (a1 : Int32) (a2 : Int32) : Rcv 11 a0 (mX12_emits a0 a1 a2) := fun s r h => ⟨(onC_some h).1, (onC_some h).2.1⟩
set_option maxHeartbeats 4000000 in
set_option maxRecDepth 100000 in
theorem ctX12_emits (a0 : Nat) (a1 : Int32) (a2 : Int32) : Ct aX12_emits [vr a0, vi a1, vi a2] (mX12_emits a0 a1 a2) rU := by
  unfold mX12_emits
  refine ct_onC (ct_intro (by decide +kernel) rfl (Nat.le_of_ble_eq_true rfl) fun Y s => ?_)
  refine r_sub (lv' := [(0, vr a0), (1, vi a1), (2, vi a2)]) [0, 1, 2] rfl ?_
  refine r_p (pc' := 1) (p_aload_n 0 (k := 0) (by decide +kernel) rfl) ?_
  refine r_gR flX12_13_11 (by decide +kernel) fun v1 => ?_
  refine r_p (pc' := 7) (p_sipush (n := 1969) (v := 1969) (by decide +kernel) (by decide +kernel)) ?_
  refine r_p (pc' := 8) (p_iconst (n := 2) (v := 2) (by decide +kernel) rfl) ?_
  refine r_p (pc' := 9) (p_aload_n 0 (k := 0) (by decide +kernel) rfl) ?_
  refine r_gI flX12_189_11 (by decide +kernel) fun v2 => ?_
  refine r_p (pc' := 13) (p_imul (by decide +kernel)) ?_
  refine r_p (pc' := 14) (p_iadd (by decide +kernel)) ?_
  refine r_p (pc' := 15) (p_iload_n 1 (k := 1) (by decide +kernel) rfl) ?_
  refine r_stI0 (by decide +kernel) fun s => ?_
  refine r_p (pc' := 17) (p_aload_n 0 (k := 0) (by decide +kernel) rfl) ?_
  refine r_gR flX12_13_11 (by decide +kernel) fun v3 => ?_
  refine r_p (pc' := 23) (p_sipush (n := 1969) (v := 1969) (by decide +kernel) (by decide +kernel)) ?_
  refine r_p (pc' := 24) (p_iconst (n := 2) (v := 2) (by decide +kernel) rfl) ?_
  refine r_p (pc' := 25) (p_aload_n 0 (k := 0) (by decide +kernel) rfl) ?_
  refine r_gI flX12_189_11 (by decide +kernel) fun v4 => ?_
  refine r_p (pc' := 29) (p_imul (by decide +kernel)) ?_
  refine r_p (pc' := 30) (p_iadd (by decide +kernel)) ?_
  refine r_p (pc' := 31) (p_iconst (n := 1) (v := 1) (by decide +kernel) rfl) ?_
  refine r_p (pc' := 32) (p_iadd (by decide +kernel)) ?_
  refine r_p (pc' := 33) (p_iload_n 2 (k := 2) (by decide +kernel) rfl) ?_
  refine r_stI0 (by decide +kernel) fun s => ?_
  refine r_p (pc' := 35) (p_aload_n 0 (k := 0) (by decide +kernel) rfl) ?_
  refine r_p (pc' := 36) (p_dup rfl (by decide +kernel)) ?_
  refine r_gI flX12_189_11 (by decide +kernel) fun v5 => ?_
  refine r_p (pc' := 40) (p_iconst (n := 1) (v := 1) (by decide +kernel) rfl) ?_
  refine r_p (pc' := 41) (p_iadd (by decide +kernel)) ?_
  refine r_pI fpX12_189_11 (fun h => by cases h) (by decide +kernel) fun s => ?_
  exact r_vret (y9 := ()) rfl rfl rfl (by decide +kernel)
def aX12_readPiece : StA := (RX12, cX12_readPiece, 2, some .boolean, yX12_readPiece, 11, [])
theorem mvX12_192 : MV RX12 192 aX12_emits 2 := ⟨tblG_of 1926 (by decide +kernel) (by decide +kernel), tblG_of 1928 (by decide +kernel) (by decide +kernel), tblG_of 83 (by decide +kernel) (by decide +kernel), tblG_of 157 (by decide +kernel) (by decide +kernel), tblG_of 1929 (by decide +kernel) (by decide +kernel), rfl, ⟨by decide, by decide⟩, by decide +kernel, by decide⟩
noncomputable def mX12_readPiece (a0 : Nat) : MM Int32 := onC 11 a0 (
  mbnd (mX12_letters a0) fun _ =>
  mbnd (gI 11 10 a0) fun (v1 : Int32) =>
  mbnd (gI 11 12 a0) fun (v2 : Int32) =>
  mbnd (α := Int32) (
    if v1 = v2 then (
      mbnd (mX12_figures a0 0 999 3) fun (v7 : Int32) =>
      mbnd (mX12_emits a0 10 v7) fun _ =>
      mret v7
    ) else (
      mbnd (mX12_isWord a0 31) fun (v8 : Int32) =>
      mbnd (α := Int32) (
        if v8 = 0 then (
          mbnd (mX12_isWord a0 32) fun (v13 : Int32) =>
          if v13 = 0 then (
            mbnd (mX12_isWord a0 46) fun (v15 : Int32) =>
            if v15 = 0 then (
              mbnd (mX12_isWord a0 47) fun (v17 : Int32) =>
              if v17 = 0 then (
                mbnd (mX12_isWord a0 48) fun (v19 : Int32) =>
                if v19 = 0 then (
                  mbnd (mX12_isWord a0 34) fun (v21 : Int32) =>
                  if v21 = 0 then (
                    mbnd (mX12_isWord a0 49) fun (v23 : Int32) =>
                    if v23 = 0 then (
                      mbnd (mX12_isWord a0 33) fun (v25 : Int32) =>
                      if v25 = 0 then (
                        mret (-1)
                      ) else (
                        mret 7
                      )
                    ) else (
                      mret 6
                    )
                  ) else (
                    mret 5
                  )
                ) else (
                  mret 4
                )
              ) else (
                mret 3
              )
            ) else (
              mret 2
            )
          ) else (
            mret 1
          )
        ) else (
          mret 0
        )
      ) fun (x10 : Int32) =>
      mbnd (mX12_emits a0 x10 0) fun _ =>
      mret x10
    )
  ) fun (x4 : Int32) =>
  if x4 < 0 then (
    mret 0
  ) else (
    mret 1
  )
  )
theorem rcX12_readPiece (a0 : Nat) : Rcv 11 a0 (mX12_readPiece a0) := fun s r h => ⟨(onC_some h).1, (onC_some h).2.1⟩
set_option maxHeartbeats 4000000 in
set_option maxRecDepth 100000 in
theorem ctX12_readPiece (a0 : Nat) : Ct aX12_readPiece [vr a0] (mX12_readPiece a0) rI := by
  unfold mX12_readPiece
  refine ct_onC (ct_intro (by decide +kernel) rfl (Nat.le_of_ble_eq_true rfl) fun Y s => ?_)
  refine r_sub (lv' := [(0, vr a0)]) [0] rfl ?_
  refine r_p (pc' := 1) (p_aload_n 0 (k := 0) (by decide +kernel) rfl) ?_
  refine r_callVU mvX12_111 (ctX12_letters a0) (rcX12_letters a0) ⟨_, _, rfl⟩ (as := []) (st := []) rfl rfl (by decide +kernel) rfl (Nat.le_of_ble_eq_true rfl) (Nat.le_of_ble_eq_true rfl) fun s => ?_
  refine r_p (pc' := 5) (p_aload_n 0 (k := 0) (by decide +kernel) rfl) ?_
  refine r_gI flX12_86_11 (by decide +kernel) fun v1 => ?_
  refine r_p (pc' := 9) (p_aload_n 0 (k := 0) (by decide +kernel) rfl) ?_
  refine r_gI flX12_96_11 (by decide +kernel) fun v2 => ?_
  refine r_join 149 (fun (x4 : Int32) => [(1, vi x4)]) (fun (x4 : Int32) => []) (fun x4 s => ?_) (fun K5 hj6 => ?_)
  · refine r_p (pc' := 150) (p_iload_n 0 (k := 1) (by decide +kernel) rfl) ?_
    refine r_iflt (off := 7) (tgt := 157) (by decide +kernel) (by decide) (fun h27 => ?_) (fun h27 => ?_)
    · refine r_p (pc' := 158) (p_iconst (n := 0) (v := 0) (by decide +kernel) rfl) ?_
      exact r_iret rfl rfl _ rfl rfl (by decide +kernel)
    · refine r_p (pc' := 154) (p_iconst (n := 1) (v := 1) (by decide +kernel) rfl) ?_
      refine r_p (pc' := 158) (p_goto (off := 4) (tgt := 158) (by decide +kernel) (by decide)) ?_
      exact r_iret rfl rfl _ rfl rfl (by decide +kernel)
  · refine r_icmpne (off := 23) (tgt := 35) (by decide +kernel) (by decide) (fun h3 => ?_) (fun h3 => ?_)
    · refine r_p (pc' := 16) (p_aload_n 0 (k := 0) (by decide +kernel) rfl) ?_
      refine r_p (pc' := 17) (p_iconst (n := 0) (v := 0) (by decide +kernel) rfl) ?_
      refine r_p (pc' := 20) (p_sipush (n := 999) (v := 999) (by decide +kernel) (by decide +kernel)) ?_
      refine r_p (pc' := 21) (p_iconst (n := 3) (v := 3) (by decide +kernel) rfl) ?_
      refine r_callVI mvX12_118 (ctX12_figures a0 0 999 3) (rcX12_figures a0 0 999 3) ⟨_, _, rfl⟩ (as := [vi 0, vi 999, vi 3]) (st := []) rfl rfl (by decide +kernel) rfl (Nat.le_of_ble_eq_true rfl) (Nat.le_of_ble_eq_true rfl) fun v7 s => ?_
      refine r_p (pc' := 25) (p_istore_n (k := 1) (lv' := [(1, vi v7), (0, vr a0)]) (by decide +kernel) (Nat.le_of_ble_eq_true rfl) rfl) ?_
      refine r_p (pc' := 26) (p_aload_n 1 (k := 0) (by decide +kernel) rfl) ?_
      refine r_p (pc' := 28) (p_bipush (n := 10) (v := 10) (by decide +kernel) (by decide +kernel)) ?_
      refine r_p (pc' := 29) (p_iload_n 0 (k := 1) (by decide +kernel) rfl) ?_
      refine r_callVU mvX12_192 (ctX12_emits a0 10 v7) (rcX12_emits a0 10 v7) ⟨_, _, rfl⟩ (as := [vi 10, vi v7]) (st := []) rfl rfl (by decide +kernel) rfl (Nat.le_of_ble_eq_true rfl) (Nat.le_of_ble_eq_true rfl) fun s => ?_
      refine r_p (pc' := 149) (p_goto (off := 117) (tgt := 149) (by decide +kernel) (by decide)) ?_
      refine r_sub (lv' := [(1, vi v7)]) [0] rfl ?_
      exact hj6 v7 _
    · refine r_p (pc' := 36) (p_aload_n 0 (k := 0) (by decide +kernel) rfl) ?_
      refine r_p (pc' := 38) (p_ldcS (i := 134) (j := 31) (text := "edge") (by decide +kernel) (by decide +kernel)) ?_
      refine r_callVI mvX12_114 (ctX12_isWord a0 31) (rcX12_isWord a0 31) ⟨_, _, rfl⟩ (as := [vt 31]) (st := []) rfl rfl (by decide +kernel) rfl (Nat.le_of_ble_eq_true rfl) (Nat.le_of_ble_eq_true rfl) fun v8 s => ?_
      refine r_join 142 (fun (x10 : Int32) => [(0, vr a0)]) (fun (x10 : Int32) => [vi x10]) (fun x10 s => ?_) (fun K11 hj12 => ?_)
      · refine r_p (pc' := 143) (p_istore_n (k := 1) (lv' := [(1, vi x10), (0, vr a0)]) (by decide +kernel) (Nat.le_of_ble_eq_true rfl) rfl) ?_
        refine r_p (pc' := 144) (p_aload_n 1 (k := 0) (by decide +kernel) rfl) ?_
        refine r_p (pc' := 145) (p_iload_n 0 (k := 1) (by decide +kernel) rfl) ?_
        refine r_p (pc' := 146) (p_iconst (n := 0) (v := 0) (by decide +kernel) rfl) ?_
        refine r_callVU mvX12_192 (ctX12_emits a0 x10 0) (rcX12_emits a0 x10 0) ⟨_, _, rfl⟩ (as := [vi x10, vi 0]) (st := []) rfl rfl (by decide +kernel) rfl (Nat.le_of_ble_eq_true rfl) (Nat.le_of_ble_eq_true rfl) fun s => ?_
        refine r_sub (lv' := [(1, vi x10)]) [0] rfl ?_
        exact hj6 x10 _
      · refine r_ifeq (off := 7) (tgt := 48) (by decide +kernel) (by decide) (fun h9 => ?_) (fun h9 => ?_)
        · refine r_p (pc' := 49) (p_aload_n 0 (k := 0) (by decide +kernel) rfl) ?_
          refine r_p (pc' := 51) (p_ldcS (i := 140) (j := 32) (text := "wear") (by decide +kernel) (by decide +kernel)) ?_
          refine r_callVI mvX12_114 (ctX12_isWord a0 32) (rcX12_isWord a0 32) ⟨_, _, rfl⟩ (as := [vt 32]) (st := []) rfl rfl (by decide +kernel) rfl (Nat.le_of_ble_eq_true rfl) (Nat.le_of_ble_eq_true rfl) fun v13 s => ?_
          refine r_ifeq (off := 7) (tgt := 61) (by decide +kernel) (by decide) (fun h14 => ?_) (fun h14 => ?_)
          · refine r_p (pc' := 62) (p_aload_n 0 (k := 0) (by decide +kernel) rfl) ?_
            refine r_p (pc' := 64) (p_ldcS (i := 195) (j := 46) (text := "guilt") (by decide +kernel) (by decide +kernel)) ?_
            refine r_callVI mvX12_114 (ctX12_isWord a0 46) (rcX12_isWord a0 46) ⟨_, _, rfl⟩ (as := [vt 46]) (st := []) rfl rfl (by decide +kernel) rfl (Nat.le_of_ble_eq_true rfl) (Nat.le_of_ble_eq_true rfl) fun v15 s => ?_
            refine r_ifeq (off := 7) (tgt := 74) (by decide +kernel) (by decide) (fun h16 => ?_) (fun h16 => ?_)
            · refine r_p (pc' := 75) (p_aload_n 0 (k := 0) (by decide +kernel) rfl) ?_
              refine r_p (pc' := 77) (p_ldcS (i := 197) (j := 47) (text := "harm") (by decide +kernel) (by decide +kernel)) ?_
              refine r_callVI mvX12_114 (ctX12_isWord a0 47) (rcX12_isWord a0 47) ⟨_, _, rfl⟩ (as := [vt 47]) (st := []) rfl rfl (by decide +kernel) rfl (Nat.le_of_ble_eq_true rfl) (Nat.le_of_ble_eq_true rfl) fun v17 s => ?_
              refine r_ifeq (off := 7) (tgt := 87) (by decide +kernel) (by decide) (fun h18 => ?_) (fun h18 => ?_)
              · refine r_p (pc' := 88) (p_aload_n 0 (k := 0) (by decide +kernel) rfl) ?_
                refine r_p (pc' := 90) (p_ldcS (i := 199) (j := 48) (text := "hard") (by decide +kernel) (by decide +kernel)) ?_
                refine r_callVI mvX12_114 (ctX12_isWord a0 48) (rcX12_isWord a0 48) ⟨_, _, rfl⟩ (as := [vt 48]) (st := []) rfl rfl (by decide +kernel) rfl (Nat.le_of_ble_eq_true rfl) (Nat.le_of_ble_eq_true rfl) fun v19 s => ?_
                refine r_ifeq (off := 7) (tgt := 100) (by decide +kernel) (by decide) (fun h20 => ?_) (fun h20 => ?_)
                · refine r_p (pc' := 101) (p_aload_n 0 (k := 0) (by decide +kernel) rfl) ?_
                  refine r_p (pc' := 103) (p_ldcS (i := 170) (j := 34) (text := "master") (by decide +kernel) (by decide +kernel)) ?_
                  refine r_callVI mvX12_114 (ctX12_isWord a0 34) (rcX12_isWord a0 34) ⟨_, _, rfl⟩ (as := [vt 34]) (st := []) rfl rfl (by decide +kernel) rfl (Nat.le_of_ble_eq_true rfl) (Nat.le_of_ble_eq_true rfl) fun v21 s => ?_
                  refine r_ifeq (off := 7) (tgt := 113) (by decide +kernel) (by decide) (fun h22 => ?_) (fun h22 => ?_)
                  · refine r_p (pc' := 114) (p_aload_n 0 (k := 0) (by decide +kernel) rfl) ?_
                    refine r_p (pc' := 116) (p_ldcS (i := 201) (j := 49) (text := "day") (by decide +kernel) (by decide +kernel)) ?_
                    refine r_callVI mvX12_114 (ctX12_isWord a0 49) (rcX12_isWord a0 49) ⟨_, _, rfl⟩ (as := [vt 49]) (st := []) rfl rfl (by decide +kernel) rfl (Nat.le_of_ble_eq_true rfl) (Nat.le_of_ble_eq_true rfl) fun v23 s => ?_
                    refine r_ifeq (off := 8) (tgt := 127) (by decide +kernel) (by decide) (fun h24 => ?_) (fun h24 => ?_)
                    · refine r_p (pc' := 128) (p_aload_n 0 (k := 0) (by decide +kernel) rfl) ?_
                      refine r_p (pc' := 130) (p_ldcS (i := 165) (j := 33) (text := "tool") (by decide +kernel) (by decide +kernel)) ?_
                      refine r_callVI mvX12_114 (ctX12_isWord a0 33) (rcX12_isWord a0 33) ⟨_, _, rfl⟩ (as := [vt 33]) (st := []) rfl rfl (by decide +kernel) rfl (Nat.le_of_ble_eq_true rfl) (Nat.le_of_ble_eq_true rfl) fun v25 s => ?_
                      refine r_ifeq (off := 8) (tgt := 141) (by decide +kernel) (by decide) (fun h26 => ?_) (fun h26 => ?_)
                      · refine r_p (pc' := 142) (p_iconst (n := -1) (v := -1) (by decide +kernel) rfl) ?_
                        exact hj12 (-1) _
                      · refine r_p (pc' := 138) (p_bipush (n := 7) (v := 7) (by decide +kernel) (by decide +kernel)) ?_
                        refine r_p (pc' := 142) (p_goto (off := 4) (tgt := 142) (by decide +kernel) (by decide)) ?_
                        exact hj12 7 _
                    · refine r_p (pc' := 124) (p_bipush (n := 6) (v := 6) (by decide +kernel) (by decide +kernel)) ?_
                      refine r_p (pc' := 142) (p_goto (off := 18) (tgt := 142) (by decide +kernel) (by decide)) ?_
                      exact hj12 6 _
                  · refine r_p (pc' := 110) (p_iconst (n := 5) (v := 5) (by decide +kernel) rfl) ?_
                    refine r_p (pc' := 142) (p_goto (off := 32) (tgt := 142) (by decide +kernel) (by decide)) ?_
                    exact hj12 5 _
                · refine r_p (pc' := 97) (p_iconst (n := 4) (v := 4) (by decide +kernel) rfl) ?_
                  refine r_p (pc' := 142) (p_goto (off := 45) (tgt := 142) (by decide +kernel) (by decide)) ?_
                  exact hj12 4 _
              · refine r_p (pc' := 84) (p_iconst (n := 3) (v := 3) (by decide +kernel) rfl) ?_
                refine r_p (pc' := 142) (p_goto (off := 58) (tgt := 142) (by decide +kernel) (by decide)) ?_
                exact hj12 3 _
            · refine r_p (pc' := 71) (p_iconst (n := 2) (v := 2) (by decide +kernel) rfl) ?_
              refine r_p (pc' := 142) (p_goto (off := 71) (tgt := 142) (by decide +kernel) (by decide)) ?_
              exact hj12 2 _
          · refine r_p (pc' := 58) (p_iconst (n := 1) (v := 1) (by decide +kernel) rfl) ?_
            refine r_p (pc' := 142) (p_goto (off := 84) (tgt := 142) (by decide +kernel) (by decide)) ?_
            exact hj12 1 _
        · refine r_p (pc' := 45) (p_iconst (n := 0) (v := 0) (by decide +kernel) rfl) ?_
          refine r_p (pc' := 142) (p_goto (off := 97) (tgt := 142) (by decide +kernel) (by decide)) ?_
          exact hj12 0 _
def aX12_readSum : StA := (RX12, cX12_readSum, 1, some .boolean, yX12_readSum, 12, [])
theorem mvX12_203 : MV RX12 203 aX12_readPiece 0 := ⟨tblG_of 1939 (by decide +kernel) (by decide +kernel), tblG_of 1941 (by decide +kernel) (by decide +kernel), tblG_of 86 (by decide +kernel) (by decide +kernel), tblG_of 157 (by decide +kernel) (by decide +kernel), tblG_of 1942 (by decide +kernel) (by decide +kernel), rfl, ⟨by decide, by decide⟩, by decide +kernel, by decide⟩
theorem mvX12_206 : MV RX12 206 aX12_sign 1 := ⟨tblG_of 1921 (by decide +kernel) (by decide +kernel), tblG_of 1923 (by decide +kernel) (by decide +kernel), tblG_of 82 (by decide +kernel) (by decide +kernel), tblG_of 157 (by decide +kernel) (by decide +kernel), tblG_of 1924 (by decide +kernel) (by decide +kernel), rfl, ⟨by decide, by decide⟩, by decide +kernel, by decide⟩
noncomputable def mX12_readSum_L9 (a0 : Nat) (x3 : Unit) : MM ((Unit) ⊕ (Unit ⊕ Unit)) :=
  mbnd (mX12_sign a0 43) fun (v7 : Int32) =>
  if v7 = 0 then (
    mret (.inr ((.inr ())))
  ) else (
    mbnd (mX12_readPiece a0) fun (v9 : Int32) =>
    if v9 = 0 then (
      mret (.inr ((.inl ())))
    ) else (
      mbnd (mX12_emits a0 11 0) fun _ =>
      mret (.inl ())
    )
  )
noncomputable def mX12_readSum (a0 : Nat) : MM Int32 := onC 11 a0 (
  mbnd (mX12_readPiece a0) fun (v1 : Int32) =>
  if v1 = 0 then (
    mret 0
  ) else (
    mbnd (loopM (mX12_readSum_L9 a0) ()) fun (e11 : Unit ⊕ Unit) => match e11 with
      | .inl e11 => (
        mret 0
        )
      | .inr e11 => (
        mret 1
        )
  )
  )
theorem rcX12_readSum (a0 : Nat) : Rcv 11 a0 (mX12_readSum a0) := fun s r h => ⟨(onC_some h).1, (onC_some h).2.1⟩
set_option maxHeartbeats 4000000 in
set_option maxRecDepth 100000 in
theorem ctX12_readSum (a0 : Nat) : Ct aX12_readSum [vr a0] (mX12_readSum a0) rI := by
  unfold mX12_readSum
  refine ct_onC (ct_intro (by decide +kernel) rfl (Nat.le_of_ble_eq_true rfl) fun Y s => ?_)
  refine r_sub (lv' := [(0, vr a0)]) [0] rfl ?_
  refine r_p (pc' := 1) (p_aload_n 0 (k := 0) (by decide +kernel) rfl) ?_
  refine r_callVI mvX12_203 (ctX12_readPiece a0) (rcX12_readPiece a0) ⟨_, _, rfl⟩ (as := []) (st := []) rfl rfl (by decide +kernel) rfl (Nat.le_of_ble_eq_true rfl) (Nat.le_of_ble_eq_true rfl) fun v1 s => ?_
  refine r_ifne (off := 5) (tgt := 9) (by decide +kernel) (by decide) (fun h2 => ?_) (fun h2 => ?_)
  · refine r_p (pc' := 8) (p_iconst (n := 0) (v := 0) (by decide +kernel) rfl) ?_
    exact r_iret rfl rfl _ rfl rfl (by decide +kernel)
  · refine r_loop2 (fun (e11 : Unit ⊕ Unit) => match e11 with | .inl _ => 25 | .inr _ => 37) (fun (e11 : Unit ⊕ Unit) => match e11 with | .inl e11 => [] | .inr e11 => []) (fun (x3 : Unit) => [(0, vr a0)]) (fun e11 s => ?_) (fun K4 hb5 he6 x3 s => ?_) () _
    · rcases e11 with e11 | e11
      · show Rr _ _ 25 [] [] _ _ _ _
        refine r_p (pc' := 26) (p_iconst (n := 0) (v := 0) (by decide +kernel) rfl) ?_
        exact r_iret rfl rfl _ rfl rfl (by decide +kernel)
      · show Rr _ _ 37 [] [] _ _ _ _
        refine r_p (pc' := 38) (p_iconst (n := 1) (v := 1) (by decide +kernel) rfl) ?_
        exact r_iret rfl rfl _ rfl rfl (by decide +kernel)
    · unfold mX12_readSum_L9
      refine r_p (pc' := 10) (p_aload_n 0 (k := 0) (by decide +kernel) rfl) ?_
      refine r_p (pc' := 12) (p_bipush (n := 43) (v := 43) (by decide +kernel) (by decide +kernel)) ?_
      refine r_callVI mvX12_206 (ctX12_sign a0 43) (rcX12_sign a0 43) ⟨_, _, rfl⟩ (as := [vi 43]) (st := []) rfl rfl (by decide +kernel) rfl (Nat.le_of_ble_eq_true rfl) (Nat.le_of_ble_eq_true rfl) fun v7 s => ?_
      refine r_ifeq (off := 22) (tgt := 37) (by decide +kernel) (by decide) (fun h8 => ?_) (fun h8 => ?_)
      · refine r_sub (lv' := []) [] rfl ?_
        exact he6 ((.inr ())) _
      · refine r_p (pc' := 19) (p_aload_n 0 (k := 0) (by decide +kernel) rfl) ?_
        refine r_callVI mvX12_203 (ctX12_readPiece a0) (rcX12_readPiece a0) ⟨_, _, rfl⟩ (as := []) (st := []) rfl rfl (by decide +kernel) rfl (Nat.le_of_ble_eq_true rfl) (Nat.le_of_ble_eq_true rfl) fun v9 s => ?_
        refine r_ifne (off := 5) (tgt := 27) (by decide +kernel) (by decide) (fun h10 => ?_) (fun h10 => ?_)
        · refine r_sub (lv' := []) [] rfl ?_
          exact he6 ((.inl ())) _
        · refine r_p (pc' := 28) (p_aload_n 0 (k := 0) (by decide +kernel) rfl) ?_
          refine r_p (pc' := 30) (p_bipush (n := 11) (v := 11) (by decide +kernel) (by decide +kernel)) ?_
          refine r_p (pc' := 31) (p_iconst (n := 0) (v := 0) (by decide +kernel) rfl) ?_
          refine r_callVU mvX12_192 (ctX12_emits a0 11 0) (rcX12_emits a0 11 0) ⟨_, _, rfl⟩ (as := [vi 11, vi 0]) (st := []) rfl rfl (by decide +kernel) rfl (Nat.le_of_ble_eq_true rfl) (Nat.le_of_ble_eq_true rfl) fun s => ?_
          refine r_p (pc' := 9) (p_goto (off := -25) (tgt := 9) (by decide +kernel) (by decide)) ?_
          exact hb5 () _
def aX12_readTag : StA := (RX12, cX12_readTag, 3, some .boolean, yX12_readTag, 11, [])
noncomputable def mX12_readTag (a0 : Nat) : MM Int32 := onC 11 a0 (
  mbnd (mX12_letters a0) fun _ =>
  mbnd (mX12_sortTold a0) fun (v1 : Int32) =>
  mbnd (α := Int32) (
    if v1 < 0 then (
      mbnd (mX12_isWord a0 45) fun (v6 : Int32) =>
      if v6 = 0 then (
        mret (-1)
      ) else (
        mret 9
      )
    ) else (
      mret 8
    )
  ) fun (x3 : Int32) =>
  mbnd (α := Unit) (
    if x3 < 0 then (
      mbnd (gI 11 12 a0) fun (v12 : Int32) =>
      mbnd (pI 11 10 a0 v12) fun _ =>
      mret ()
    ) else (
      mbnd (mX12_emits a0 x3 v1) fun _ =>
      mret ()
    )
  ) fun (x9 : Unit) =>
  if x3 < 0 then (
    mret 0
  ) else (
    mret 1
  )
  )
theorem rcX12_readTag (a0 : Nat) : Rcv 11 a0 (mX12_readTag a0) := fun s r h => ⟨(onC_some h).1, (onC_some h).2.1⟩
set_option maxHeartbeats 4000000 in
set_option maxRecDepth 100000 in
theorem ctX12_readTag (a0 : Nat) : Ct aX12_readTag [vr a0] (mX12_readTag a0) rI := by
  unfold mX12_readTag
  refine ct_onC (ct_intro (by decide +kernel) rfl (Nat.le_of_ble_eq_true rfl) fun Y s => ?_)
  refine r_sub (lv' := [(0, vr a0)]) [0] rfl ?_
  refine r_p (pc' := 1) (p_aload_n 0 (k := 0) (by decide +kernel) rfl) ?_
  refine r_callVU mvX12_111 (ctX12_letters a0) (rcX12_letters a0) ⟨_, _, rfl⟩ (as := []) (st := []) rfl rfl (by decide +kernel) rfl (Nat.le_of_ble_eq_true rfl) (Nat.le_of_ble_eq_true rfl) fun s => ?_
  refine r_p (pc' := 5) (p_aload_n 0 (k := 0) (by decide +kernel) rfl) ?_
  refine r_callVI mvX12_131 (ctX12_sortTold a0) (rcX12_sortTold a0) ⟨_, _, rfl⟩ (as := []) (st := []) rfl rfl (by decide +kernel) rfl (Nat.le_of_ble_eq_true rfl) (Nat.le_of_ble_eq_true rfl) fun v1 s => ?_
  refine r_p (pc' := 9) (p_istore_n (k := 1) (lv' := [(1, vi v1), (0, vr a0)]) (by decide +kernel) (Nat.le_of_ble_eq_true rfl) rfl) ?_
  refine r_p (pc' := 10) (p_iload_n 0 (k := 1) (by decide +kernel) rfl) ?_
  refine r_join 33 (fun (x3 : Int32) => [(0, vr a0), (1, vi v1)]) (fun (x3 : Int32) => [vi x3]) (fun x3 s => ?_) (fun K4 hj5 => ?_)
  · refine r_p (pc' := 34) (p_istore_n (k := 2) (lv' := [(2, vi x3), (0, vr a0), (1, vi v1)]) (by decide +kernel) (Nat.le_of_ble_eq_true rfl) rfl) ?_
    refine r_p (pc' := 35) (p_iload_n 0 (k := 2) (by decide +kernel) rfl) ?_
    refine r_join 55 (fun (x9 : Unit) => [(2, vi x3)]) (fun (x9 : Unit) => []) (fun x9 s => ?_) (fun K10 hj11 => ?_)
    · refine r_p (pc' := 56) (p_iload_n 0 (k := 2) (by decide +kernel) rfl) ?_
      refine r_iflt (off := 7) (tgt := 63) (by decide +kernel) (by decide) (fun h13 => ?_) (fun h13 => ?_)
      · refine r_p (pc' := 64) (p_iconst (n := 0) (v := 0) (by decide +kernel) rfl) ?_
        exact r_iret rfl rfl _ rfl rfl (by decide +kernel)
      · refine r_p (pc' := 60) (p_iconst (n := 1) (v := 1) (by decide +kernel) rfl) ?_
        refine r_p (pc' := 64) (p_goto (off := 4) (tgt := 64) (by decide +kernel) (by decide)) ?_
        exact r_iret rfl rfl _ rfl rfl (by decide +kernel)
    · refine r_iflt (off := 12) (tgt := 47) (by decide +kernel) (by decide) (fun h8 => ?_) (fun h8 => ?_)
      · refine r_p (pc' := 48) (p_aload_n 1 (k := 0) (by decide +kernel) rfl) ?_
        refine r_p (pc' := 49) (p_aload_n 1 (k := 0) (by decide +kernel) rfl) ?_
        refine r_gI flX12_96_11 (by decide +kernel) fun v12 => ?_
        refine r_pI fpX12_86_11 (fun h => by cases h) (by decide +kernel) fun s => ?_
        refine r_sub (lv' := [(2, vi x3)]) [0] rfl ?_
        exact hj11 () _
      · refine r_p (pc' := 39) (p_aload_n 1 (k := 0) (by decide +kernel) rfl) ?_
        refine r_p (pc' := 40) (p_iload_n 0 (k := 2) (by decide +kernel) rfl) ?_
        refine r_p (pc' := 41) (p_iload_n 2 (k := 1) (by decide +kernel) rfl) ?_
        refine r_callVU mvX12_192 (ctX12_emits a0 x3 v1) (rcX12_emits a0 x3 v1) ⟨_, _, rfl⟩ (as := [vi x3, vi v1]) (st := []) rfl rfl (by decide +kernel) rfl (Nat.le_of_ble_eq_true rfl) (Nat.le_of_ble_eq_true rfl) fun s => ?_
        refine r_p (pc' := 55) (p_goto (off := 11) (tgt := 55) (by decide +kernel) (by decide)) ?_
        refine r_sub (lv' := [(2, vi x3)]) [0] rfl ?_
        exact hj11 () _
  · refine r_iflt (off := 8) (tgt := 18) (by decide +kernel) (by decide) (fun h2 => ?_) (fun h2 => ?_)
    · refine r_p (pc' := 19) (p_aload_n 1 (k := 0) (by decide +kernel) rfl) ?_
      refine r_p (pc' := 21) (p_ldcS (i := 209) (j := 45) (text := "nailed") (by decide +kernel) (by decide +kernel)) ?_
      refine r_callVI mvX12_114 (ctX12_isWord a0 45) (rcX12_isWord a0 45) ⟨_, _, rfl⟩ (as := [vt 45]) (st := []) rfl rfl (by decide +kernel) rfl (Nat.le_of_ble_eq_true rfl) (Nat.le_of_ble_eq_true rfl) fun v6 s => ?_
      refine r_ifeq (off := 8) (tgt := 32) (by decide +kernel) (by decide) (fun h7 => ?_) (fun h7 => ?_)
      · refine r_p (pc' := 33) (p_iconst (n := -1) (v := -1) (by decide +kernel) rfl) ?_
        refine r_sub (lv' := [(0, vr a0), (1, vi v1)]) [1, 0] rfl ?_
        exact hj5 (-1) _
      · refine r_p (pc' := 29) (p_bipush (n := 9) (v := 9) (by decide +kernel) (by decide +kernel)) ?_
        refine r_p (pc' := 33) (p_goto (off := 4) (tgt := 33) (by decide +kernel) (by decide)) ?_
        refine r_sub (lv' := [(0, vr a0), (1, vi v1)]) [1, 0] rfl ?_
        exact hj5 9 _
    · refine r_p (pc' := 15) (p_bipush (n := 8) (v := 8) (by decide +kernel) (by decide +kernel)) ?_
      refine r_p (pc' := 33) (p_goto (off := 18) (tgt := 33) (by decide +kernel) (by decide)) ?_
      refine r_sub (lv' := [(0, vr a0), (1, vi v1)]) [1, 0] rfl ?_
      exact hj5 8 _
def aX12_ofDeed : StA := (RX12, cX12_ofDeed, 4, none, yX12_ofDeed, 8, [])
theorem fpX12_272_11 : FP RX12 272 11 20 .int false := ⟨_, TX12, 27, "ToolCourtModel", tyX12, rfl, by decide, Or.inl (tblG_of 1685 (by decide +kernel) (by decide +kernel)), Or.inl rfl, tyX12_ok, nmX12, rfl, by decide, by decide +kernel⟩
theorem fpX12_275_11 : FP RX12 275 11 18 .int false := ⟨_, TX12, 27, "ToolCourtModel", tyX12, rfl, by decide, Or.inl (tblG_of 1683 (by decide +kernel) (by decide +kernel)), Or.inl rfl, tyX12_ok, nmX12, rfl, by decide, by decide +kernel⟩
theorem fpX12_278_11 : FP RX12 278 11 19 .int false := ⟨_, TX12, 27, "ToolCourtModel", tyX12, rfl, by decide, Or.inl (tblG_of 1684 (by decide +kernel) (by decide +kernel)), Or.inl rfl, tyX12_ok, nmX12, rfl, by decide, by decide +kernel⟩
noncomputable def mX12_ofDeed (a0 : Nat) (a1 : Int32) (a2 : Int32) (a3 : Int32) : MM Unit := onC 11 a0 (
  mbnd (pI 11 20 a0 a1) fun _ =>
  mbnd (pI 11 18 a0 a2) fun _ =>
  mbnd (pI 11 19 a0 a3) fun _ =>
  mret ()
  )
theorem rcX12_ofDeed (a0 : Nat) (a1 : Int32) (a2 : Int32) (a3 : Int32) : Rcv 11 a0 (mX12_ofDeed a0 a1 a2 a3) := fun s r h => ⟨(onC_some h).1, (onC_some h).2.1⟩
set_option maxHeartbeats 4000000 in
set_option maxRecDepth 100000 in
theorem ctX12_ofDeed (a0 : Nat) (a1 : Int32) (a2 : Int32) (a3 : Int32) : Ct aX12_ofDeed [vr a0, vi a1, vi a2, vi a3] (mX12_ofDeed a0 a1 a2 a3) rU := by
  unfold mX12_ofDeed
  refine ct_onC (ct_intro (by decide +kernel) rfl (Nat.le_of_ble_eq_true rfl) fun Y s => ?_)
  refine r_sub (lv' := [(0, vr a0), (1, vi a1), (2, vi a2), (3, vi a3)]) [0, 1, 2, 3] rfl ?_
  refine r_p (pc' := 1) (p_aload_n 0 (k := 0) (by decide +kernel) rfl) ?_
  refine r_p (pc' := 2) (p_iload_n 1 (k := 1) (by decide +kernel) rfl) ?_
  refine r_pI fpX12_272_11 (fun h => by cases h) (by decide +kernel) fun s => ?_
  refine r_p (pc' := 6) (p_aload_n 0 (k := 0) (by decide +kernel) rfl) ?_
  refine r_p (pc' := 7) (p_iload_n 2 (k := 2) (by decide +kernel) rfl) ?_
  refine r_pI fpX12_275_11 (fun h => by cases h) (by decide +kernel) fun s => ?_
  refine r_p (pc' := 11) (p_aload_n 0 (k := 0) (by decide +kernel) rfl) ?_
  refine r_p (pc' := 12) (p_iload_n 3 (k := 3) (by decide +kernel) rfl) ?_
  refine r_pI fpX12_278_11 (fun h => by cases h) (by decide +kernel) fun s => ?_
  exact r_vret (y9 := ()) rfl rfl rfl (by decide +kernel)
def aX12_ofNoDeed : StA := (RX12, cX12_ofNoDeed, 1, none, yX12_ofNoDeed, 9, [])
theorem mvX12_268 : MV RX12 268 aX12_ofDeed 3 := ⟨tblG_of 2017 (by decide +kernel) (by decide +kernel), tblG_of 2019 (by decide +kernel) (by decide +kernel), tblG_of 98 (by decide +kernel) (by decide +kernel), tblG_of 157 (by decide +kernel) (by decide +kernel), tblG_of 2020 (by decide +kernel) (by decide +kernel), rfl, ⟨by decide, by decide⟩, by decide +kernel, by decide⟩
noncomputable def mX12_ofNoDeed (a0 : Nat) : MM Unit := onC 11 a0 (
  mbnd (mX12_ofDeed a0 0 0 0) fun _ =>
  mret ()
  )
theorem rcX12_ofNoDeed (a0 : Nat) : Rcv 11 a0 (mX12_ofNoDeed a0) := fun s r h => ⟨(onC_some h).1, (onC_some h).2.1⟩
set_option maxHeartbeats 4000000 in
set_option maxRecDepth 100000 in
theorem ctX12_ofNoDeed (a0 : Nat) : Ct aX12_ofNoDeed [vr a0] (mX12_ofNoDeed a0) rU := by
  unfold mX12_ofNoDeed
  refine ct_onC (ct_intro (by decide +kernel) rfl (Nat.le_of_ble_eq_true rfl) fun Y s => ?_)
  refine r_sub (lv' := [(0, vr a0)]) [0] rfl ?_
  refine r_p (pc' := 1) (p_aload_n 0 (k := 0) (by decide +kernel) rfl) ?_
  refine r_p (pc' := 2) (p_iconst (n := 0) (v := 0) (by decide +kernel) rfl) ?_
  refine r_p (pc' := 3) (p_iconst (n := 0) (v := 0) (by decide +kernel) rfl) ?_
  refine r_p (pc' := 4) (p_iconst (n := 0) (v := 0) (by decide +kernel) rfl) ?_
  refine r_callVU mvX12_268 (ctX12_ofDeed a0 0 0 0) (rcX12_ofDeed a0 0 0 0) ⟨_, _, rfl⟩ (as := [vi 0, vi 0, vi 0]) (st := []) rfl rfl (by decide +kernel) rfl (Nat.le_of_ble_eq_true rfl) (Nat.le_of_ble_eq_true rfl) fun s => ?_
  exact r_vret (y9 := ()) rfl rfl rfl (by decide +kernel)
def aX12_factOf : StA := (RX12, cX12_factOf, 4, some .int, yX12_factOf, 10, [])
theorem flX12_275_11 : FL RX12 275 11 18 := ⟨_, TX12, 27, "ToolCourtModel", rfl, by decide, Or.inl (tblG_of 1683 (by decide +kernel) (by decide +kernel)), Or.inl rfl⟩
theorem flX12_278_11 : FL RX12 278 11 19 := ⟨_, TX12, 27, "ToolCourtModel", rfl, by decide, Or.inl (tblG_of 1684 (by decide +kernel) (by decide +kernel)), Or.inl rfl⟩
theorem flX12_272_11 : FL RX12 272 11 20 := ⟨_, TX12, 27, "ToolCourtModel", rfl, by decide, Or.inl (tblG_of 1685 (by decide +kernel) (by decide +kernel)), Or.inl rfl⟩
theorem mvX12_281 : MV RX12 281 aX12_today 0 := ⟨tblG_of 2037 (by decide +kernel) (by decide +kernel), tblG_of 2039 (by decide +kernel) (by decide +kernel), tblG_of 103 (by decide +kernel) (by decide +kernel), tblG_of 157 (by decide +kernel) (by decide +kernel), tblG_of 2040 (by decide +kernel) (by decide +kernel), rfl, ⟨by decide, by decide⟩, by decide +kernel, by decide⟩
noncomputable def mX12_factOf (a0 : Nat) (a1 : Int32) (a2 : Int32) (a3 : Int32) : MM Int32 := onC 11 a0 (
  if a1 = 0 then (
    mbnd (mX12_of a0 a3 1) fun (v2 : Int32) =>
    mret v2
  ) else (
    if a1 = 1 then (
      mbnd (mX12_of a0 a3 2) fun (v4 : Int32) =>
      mret v4
    ) else (
      if a1 = 2 then (
        mbnd (mX12_of a0 a3 3) fun (v6 : Int32) =>
        mret v6
      ) else (
        if a1 = 3 then (
          mbnd (gI 11 18 a0) fun (v8 : Int32) =>
          mret v8
        ) else (
          if a1 = 4 then (
            mbnd (gI 11 19 a0) fun (v10 : Int32) =>
            mret v10
          ) else (
            if a1 = 5 then (
              mbnd (gI 11 20 a0) fun (v12 : Int32) =>
              mret v12
            ) else (
              if a1 = 6 then (
                mbnd (mX12_today a0) fun (v14 : Int32) =>
                mret v14
              ) else (
                if a1 = 7 then (
                  mbnd (mX12_of a0 a3 6) fun (v16 : Int32) =>
                  mret (imax 0 v16)
                ) else (
                  if a1 = 8 then (
                    mbnd (mX12_of a0 a3 0) fun (v18 : Int32) =>
                    if v18 = a2 then (
                      mret 1
                    ) else (
                      mret 0
                    )
                  ) else (
                    if a1 = 9 then (
                      mbnd (mX12_of a0 a3 4) fun (v21 : Int32) =>
                      mret v21
                    ) else (
                      mret a2
                    )
                  )
                )
              )
            )
          )
        )
      )
    )
  )
  )
theorem rcX12_factOf (a0 : Nat) (a1 : Int32) (a2 : Int32) (a3 : Int32) : Rcv 11 a0 (mX12_factOf a0 a1 a2 a3) := fun s r h => ⟨(onC_some h).1, (onC_some h).2.1⟩
set_option maxHeartbeats 4000000 in
set_option maxRecDepth 100000 in
theorem ctX12_factOf (a0 : Nat) (a1 : Int32) (a2 : Int32) (a3 : Int32) : Ct aX12_factOf [vr a0, vi a1, vi a2, vi a3] (mX12_factOf a0 a1 a2 a3) rI := by
  unfold mX12_factOf
  refine ct_onC (ct_intro (by decide +kernel) rfl (Nat.le_of_ble_eq_true rfl) fun Y s => ?_)
  refine r_sub (lv' := [(0, vr a0), (1, vi a1), (2, vi a2), (3, vi a3)]) [0, 1, 2, 3] rfl ?_
  refine r_p (pc' := 1) (p_iload_n 1 (k := 1) (by decide +kernel) rfl) ?_
  refine r_tcase (fun h1 => ?_) (fun h1 => ?_)
  · refine r_tsin (tgt := 56) (lo := 0) (hi := 9) (dflt := 131) (offs := #[55, 62, 69, 76, 81, 86, 91, 96, 108, 124]) (len := 55) (off := 55) (by decide +kernel) (by rw [h1]; decide) (by rw [h1]; decide) (by rw [h1]; rfl) (by decide) ?_
    refine r_p (pc' := 57) (p_aload_n 0 (k := 0) (by decide +kernel) rfl) ?_
    refine r_p (pc' := 58) (p_iload_n 3 (k := 3) (by decide +kernel) rfl) ?_
    refine r_p (pc' := 59) (p_iconst (n := 1) (v := 1) (by decide +kernel) rfl) ?_
    refine r_callVI mvX12_65 (ctX12_of a0 a3 1) (rcX12_of a0 a3 1) ⟨_, _, rfl⟩ (as := [vi a3, vi 1]) (st := []) rfl rfl (by decide +kernel) rfl (Nat.le_of_ble_eq_true rfl) (Nat.le_of_ble_eq_true rfl) fun v2 s => ?_
    exact r_iret rfl rfl _ rfl rfl (by decide +kernel)
  · refine r_tcase (fun h3 => ?_) (fun h3 => ?_)
    · refine r_tsin (tgt := 63) (lo := 0) (hi := 9) (dflt := 131) (offs := #[55, 62, 69, 76, 81, 86, 91, 96, 108, 124]) (len := 55) (off := 62) (by decide +kernel) (by rw [h3]; decide) (by rw [h3]; decide) (by rw [h3]; rfl) (by decide) ?_
      refine r_p (pc' := 64) (p_aload_n 0 (k := 0) (by decide +kernel) rfl) ?_
      refine r_p (pc' := 65) (p_iload_n 3 (k := 3) (by decide +kernel) rfl) ?_
      refine r_p (pc' := 66) (p_iconst (n := 2) (v := 2) (by decide +kernel) rfl) ?_
      refine r_callVI mvX12_65 (ctX12_of a0 a3 2) (rcX12_of a0 a3 2) ⟨_, _, rfl⟩ (as := [vi a3, vi 2]) (st := []) rfl rfl (by decide +kernel) rfl (Nat.le_of_ble_eq_true rfl) (Nat.le_of_ble_eq_true rfl) fun v4 s => ?_
      exact r_iret rfl rfl _ rfl rfl (by decide +kernel)
    · refine r_tcase (fun h5 => ?_) (fun h5 => ?_)
      · refine r_tsin (tgt := 70) (lo := 0) (hi := 9) (dflt := 131) (offs := #[55, 62, 69, 76, 81, 86, 91, 96, 108, 124]) (len := 55) (off := 69) (by decide +kernel) (by rw [h5]; decide) (by rw [h5]; decide) (by rw [h5]; rfl) (by decide) ?_
        refine r_p (pc' := 71) (p_aload_n 0 (k := 0) (by decide +kernel) rfl) ?_
        refine r_p (pc' := 72) (p_iload_n 3 (k := 3) (by decide +kernel) rfl) ?_
        refine r_p (pc' := 73) (p_iconst (n := 3) (v := 3) (by decide +kernel) rfl) ?_
        refine r_callVI mvX12_65 (ctX12_of a0 a3 3) (rcX12_of a0 a3 3) ⟨_, _, rfl⟩ (as := [vi a3, vi 3]) (st := []) rfl rfl (by decide +kernel) rfl (Nat.le_of_ble_eq_true rfl) (Nat.le_of_ble_eq_true rfl) fun v6 s => ?_
        exact r_iret rfl rfl _ rfl rfl (by decide +kernel)
      · refine r_tcase (fun h7 => ?_) (fun h7 => ?_)
        · refine r_tsin (tgt := 77) (lo := 0) (hi := 9) (dflt := 131) (offs := #[55, 62, 69, 76, 81, 86, 91, 96, 108, 124]) (len := 55) (off := 76) (by decide +kernel) (by rw [h7]; decide) (by rw [h7]; decide) (by rw [h7]; rfl) (by decide) ?_
          refine r_p (pc' := 78) (p_aload_n 0 (k := 0) (by decide +kernel) rfl) ?_
          refine r_gI flX12_275_11 (by decide +kernel) fun v8 => ?_
          exact r_iret rfl rfl _ rfl rfl (by decide +kernel)
        · refine r_tcase (fun h9 => ?_) (fun h9 => ?_)
          · refine r_tsin (tgt := 82) (lo := 0) (hi := 9) (dflt := 131) (offs := #[55, 62, 69, 76, 81, 86, 91, 96, 108, 124]) (len := 55) (off := 81) (by decide +kernel) (by rw [h9]; decide) (by rw [h9]; decide) (by rw [h9]; rfl) (by decide) ?_
            refine r_p (pc' := 83) (p_aload_n 0 (k := 0) (by decide +kernel) rfl) ?_
            refine r_gI flX12_278_11 (by decide +kernel) fun v10 => ?_
            exact r_iret rfl rfl _ rfl rfl (by decide +kernel)
          · refine r_tcase (fun h11 => ?_) (fun h11 => ?_)
            · refine r_tsin (tgt := 87) (lo := 0) (hi := 9) (dflt := 131) (offs := #[55, 62, 69, 76, 81, 86, 91, 96, 108, 124]) (len := 55) (off := 86) (by decide +kernel) (by rw [h11]; decide) (by rw [h11]; decide) (by rw [h11]; rfl) (by decide) ?_
              refine r_p (pc' := 88) (p_aload_n 0 (k := 0) (by decide +kernel) rfl) ?_
              refine r_gI flX12_272_11 (by decide +kernel) fun v12 => ?_
              exact r_iret rfl rfl _ rfl rfl (by decide +kernel)
            · refine r_tcase (fun h13 => ?_) (fun h13 => ?_)
              · refine r_tsin (tgt := 92) (lo := 0) (hi := 9) (dflt := 131) (offs := #[55, 62, 69, 76, 81, 86, 91, 96, 108, 124]) (len := 55) (off := 91) (by decide +kernel) (by rw [h13]; decide) (by rw [h13]; decide) (by rw [h13]; rfl) (by decide) ?_
                refine r_p (pc' := 93) (p_aload_n 0 (k := 0) (by decide +kernel) rfl) ?_
                refine r_callVI mvX12_281 (ctX12_today a0) (rcX12_today a0) ⟨_, _, rfl⟩ (as := []) (st := []) rfl rfl (by decide +kernel) rfl (Nat.le_of_ble_eq_true rfl) (Nat.le_of_ble_eq_true rfl) fun v14 s => ?_
                exact r_iret rfl rfl _ rfl rfl (by decide +kernel)
              · refine r_tcase (fun h15 => ?_) (fun h15 => ?_)
                · refine r_tsin (tgt := 97) (lo := 0) (hi := 9) (dflt := 131) (offs := #[55, 62, 69, 76, 81, 86, 91, 96, 108, 124]) (len := 55) (off := 96) (by decide +kernel) (by rw [h15]; decide) (by rw [h15]; decide) (by rw [h15]; rfl) (by decide) ?_
                  refine r_p (pc' := 98) (p_iconst (n := 0) (v := 0) (by decide +kernel) rfl) ?_
                  refine r_p (pc' := 99) (p_aload_n 0 (k := 0) (by decide +kernel) rfl) ?_
                  refine r_p (pc' := 100) (p_iload_n 3 (k := 3) (by decide +kernel) rfl) ?_
                  refine r_p (pc' := 102) (p_bipush (n := 6) (v := 6) (by decide +kernel) (by decide +kernel)) ?_
                  refine r_callVI mvX12_65 (ctX12_of a0 a3 6) (rcX12_of a0 a3 6) ⟨_, _, rfl⟩ (as := [vi a3, vi 6]) (st := [vi 0]) rfl rfl (by decide +kernel) rfl (Nat.le_of_ble_eq_true rfl) (Nat.le_of_ble_eq_true rfl) fun v16 s => ?_
                  refine r_p (pc' := 108) (p_max (idx := 284) (tblG_of 2041 (by decide +kernel) (by decide +kernel)) (Nat.le_of_ble_eq_true rfl) (Nat.le_of_ble_eq_true rfl) (by decide +kernel)) ?_
                  exact r_iret rfl rfl _ rfl rfl (by decide +kernel)
                · refine r_tcase (fun h17 => ?_) (fun h17 => ?_)
                  · refine r_tsin (tgt := 109) (lo := 0) (hi := 9) (dflt := 131) (offs := #[55, 62, 69, 76, 81, 86, 91, 96, 108, 124]) (len := 55) (off := 108) (by decide +kernel) (by rw [h17]; decide) (by rw [h17]; decide) (by rw [h17]; rfl) (by decide) ?_
                    refine r_p (pc' := 110) (p_aload_n 0 (k := 0) (by decide +kernel) rfl) ?_
                    refine r_p (pc' := 111) (p_iload_n 3 (k := 3) (by decide +kernel) rfl) ?_
                    refine r_p (pc' := 112) (p_iconst (n := 0) (v := 0) (by decide +kernel) rfl) ?_
                    refine r_callVI mvX12_65 (ctX12_of a0 a3 0) (rcX12_of a0 a3 0) ⟨_, _, rfl⟩ (as := [vi a3, vi 0]) (st := []) rfl rfl (by decide +kernel) rfl (Nat.le_of_ble_eq_true rfl) (Nat.le_of_ble_eq_true rfl) fun v18 s => ?_
                    refine r_p (pc' := 116) (p_iload_n 2 (k := 2) (by decide +kernel) rfl) ?_
                    refine r_icmpne (off := 7) (tgt := 123) (by decide +kernel) (by decide) (fun h19 => ?_) (fun h19 => ?_)
                    · refine r_p (pc' := 120) (p_iconst (n := 1) (v := 1) (by decide +kernel) rfl) ?_
                      refine r_p (pc' := 124) (p_goto (off := 4) (tgt := 124) (by decide +kernel) (by decide)) ?_
                      exact r_iret rfl rfl _ rfl rfl (by decide +kernel)
                    · refine r_p (pc' := 124) (p_iconst (n := 0) (v := 0) (by decide +kernel) rfl) ?_
                      exact r_iret rfl rfl _ rfl rfl (by decide +kernel)
                  · refine r_tcase (fun h20 => ?_) (fun h20 => ?_)
                    · refine r_tsin (tgt := 125) (lo := 0) (hi := 9) (dflt := 131) (offs := #[55, 62, 69, 76, 81, 86, 91, 96, 108, 124]) (len := 55) (off := 124) (by decide +kernel) (by rw [h20]; decide) (by rw [h20]; decide) (by rw [h20]; rfl) (by decide) ?_
                      refine r_p (pc' := 126) (p_aload_n 0 (k := 0) (by decide +kernel) rfl) ?_
                      refine r_p (pc' := 127) (p_iload_n 3 (k := 3) (by decide +kernel) rfl) ?_
                      refine r_p (pc' := 128) (p_iconst (n := 4) (v := 4) (by decide +kernel) rfl) ?_
                      refine r_callVI mvX12_65 (ctX12_of a0 a3 4) (rcX12_of a0 a3 4) ⟨_, _, rfl⟩ (as := [vi a3, vi 4]) (st := []) rfl rfl (by decide +kernel) rfl (Nat.le_of_ble_eq_true rfl) (Nat.le_of_ble_eq_true rfl) fun v21 s => ?_
                      exact r_iret rfl rfl _ rfl rfl (by decide +kernel)
                    · have h1i := lv_neT (a := 0) h1 rfl
                      have h3i := lv_neT (a := 1) h3 rfl
                      have h5i := lv_neT (a := 2) h5 rfl
                      have h7i := lv_neT (a := 3) h7 rfl
                      have h9i := lv_neT (a := 4) h9 rfl
                      have h11i := lv_neT (a := 5) h11 rfl
                      have h13i := lv_neT (a := 6) h13 rfl
                      have h15i := lv_neT (a := 7) h15 rfl
                      have h17i := lv_neT (a := 8) h17 rfl
                      have h20i := lv_neT (a := 9) h20 rfl
                      refine r_tsout (tgt := 132) (lo := 0) (hi := 9) (dflt := 131) (offs := #[55, 62, 69, 76, 81, 86, 91, 96, 108, 124]) (len := 55) (by decide +kernel) (by omega) (by decide) ?_
                      refine r_p (pc' := 133) (p_iload_n 2 (k := 2) (by decide +kernel) rfl) ?_
                      exact r_iret rfl rfl _ rfl rfl (by decide +kernel)
def aX12_holdsLine : StA := (RX12, cX12_holdsLine, 10, some .boolean, yX12_holdsLine, 11, [])
theorem flX12_39_11 : FL RX12 39 11 17 := ⟨_, TX12, 27, "ToolCourtModel", rfl, by decide, Or.inl (tblG_of 1682 (by decide +kernel) (by decide +kernel)), Or.inl rfl⟩
theorem mvX12_289 : MV RX12 289 aX12_factOf 3 := ⟨tblG_of 2033 (by decide +kernel) (by decide +kernel), tblG_of 2035 (by decide +kernel) (by decide +kernel), tblG_of 102 (by decide +kernel) (by decide +kernel), tblG_of 157 (by decide +kernel) (by decide +kernel), tblG_of 2036 (by decide +kernel) (by decide +kernel), rfl, ⟨by decide, by decide⟩, by decide +kernel, by decide⟩
noncomputable def mX12_holdsLine_L22 (a0 : Nat) (a2 : Int32) (v1 : Int32) (x4 : Int32 × Int32) : MM ((Int32 × Int32) ⊕ (Int32)) :=
  mbnd (gR 11 1 a0) fun (v8 : Nat) =>
  mbnd (ldI 0 v8 (v1 + 3)) fun (v9 : Int32) =>
  if v9 ≤ x4.2 then (
    mret (.inr x4.1)
  ) else (
    mbnd (gR 11 1 a0) fun (v11 : Nat) =>
    mbnd (ldI 0 v11 (1120 + (2 * x4.2))) fun (v12 : Int32) =>
    mbnd (α := Int32) (
      if 10 < v12 then (
        if v12 = 14 then (
          mbnd (gR 11 17 a0) fun (v18 : Nat) =>
          mbnd (gR 11 17 a0) fun (v19 : Nat) =>
          mbnd (ldI 0 v19 (x4.1 - 1)) fun (v20 : Int32) =>
          mbnd (stI 0 v18 (x4.1 - 1) (1 - v20)) fun _ =>
          mret x4.1
        ) else (
          mbnd (gR 11 17 a0) fun (v21 : Nat) =>
          mbnd (ldI 0 v21 ((x4.1 + (-1)) - 1)) fun (v22 : Int32) =>
          mbnd (gR 11 17 a0) fun (v23 : Nat) =>
          mbnd (ldI 0 v23 (x4.1 + (-1))) fun (v24 : Int32) =>
          mbnd (α := Int32) (
            if v12 = 12 then (
              if v24 ≤ v22 then (
                mret 0
              ) else (
                mret 1
              )
            ) else (
              if v12 = 13 then (
                if v22 ≤ v24 then (
                  mret 0
                ) else (
                  mret 1
                )
              ) else (
                if v12 = 15 then (
                  if (v22 + v24) = 2 then (
                    mret 1
                  ) else (
                    mret 0
                  )
                ) else (
                  if (v22 + v24) ≤ 0 then (
                    mret 0
                  ) else (
                    mret 1
                  )
                )
              )
            )
          ) fun (x26 : Int32) =>
          mbnd (gR 11 17 a0) fun (v35 : Nat) =>
          mbnd (α := Int32) (
            if v12 = 11 then (
              mret (v22 + v24)
            ) else (
              if x26 = 0 then (
                mret 0
              ) else (
                mret 1
              )
            )
          ) fun (x37 : Int32) =>
          mbnd (stI 0 v35 ((x4.1 + (-1)) - 1) x37) fun _ =>
          mret (x4.1 + (-1))
        )
      ) else (
        mbnd (gR 11 17 a0) fun (v41 : Nat) =>
        mbnd (gR 11 1 a0) fun (v42 : Nat) =>
        mbnd (ldI 0 v42 ((1120 + (2 * x4.2)) + 1)) fun (v43 : Int32) =>
        mbnd (mX12_factOf a0 v12 v43 a2) fun (v44 : Int32) =>
        mbnd (stI 0 v41 x4.1 v44) fun _ =>
        mret (x4.1 + 1)
      )
    ) fun (x14 : Int32) =>
    mret (.inl (x14, x4.2 + 1))
  )
noncomputable def mX12_holdsLine (a0 : Nat) (a1 : Int32) (a2 : Int32) : MM Int32 := onC 11 a0 (
  mbnd (mret (1072 + (4 * a1))) fun (v1 : Int32) =>
  mbnd (gR 11 1 a0) fun (v2 : Nat) =>
  mbnd (ldI 0 v2 (v1 + 2)) fun (v3 : Int32) =>
  mbnd (loopM (mX12_holdsLine_L22 a0 a2 v1) (0, v3)) fun (e45 : Int32) =>
  if e45 = 0 then (
    mret 1
  ) else (
    mbnd (gR 11 17 a0) fun (v47 : Nat) =>
    mbnd (ldI 0 v47 0) fun (v48 : Int32) =>
    if v48 = 1 then (
      mret 1
    ) else (
      mret 0
    )
  )
  )
theorem rcX12_holdsLine (a0 : Nat) (a1 : Int32) (a2 : Int32) : Rcv 11 a0 (mX12_holdsLine a0 a1 a2) := fun s r h => ⟨(onC_some h).1, (onC_some h).2.1⟩
set_option maxHeartbeats 4000000 in
set_option maxRecDepth 100000 in
theorem ctX12_holdsLine (a0 : Nat) (a1 : Int32) (a2 : Int32) : Ct aX12_holdsLine [vr a0, vi a1, vi a2] (mX12_holdsLine a0 a1 a2) rI := by
  unfold mX12_holdsLine
  refine ct_onC (ct_intro (by decide +kernel) rfl (Nat.le_of_ble_eq_true rfl) fun Y s => ?_)
  refine r_sub (lv' := [(0, vr a0), (1, vi a1), (2, vi a2)]) [0, 1, 2] rfl ?_
  refine r_p (pc' := 1) (p_iconst (n := 0) (v := 0) (by decide +kernel) rfl) ?_
  refine r_p (pc' := 2) (p_istore_n (k := 3) (lv' := [(3, vi 0), (0, vr a0), (1, vi a1), (2, vi a2)]) (by decide +kernel) (Nat.le_of_ble_eq_true rfl) rfl) ?_
  refine r_p (pc' := 5) (p_sipush (n := 1072) (v := 1072) (by decide +kernel) (by decide +kernel)) ?_
  refine r_p (pc' := 6) (p_iconst (n := 4) (v := 4) (by decide +kernel) rfl) ?_
  refine r_p (pc' := 7) (p_iload_n 2 (k := 1) (by decide +kernel) rfl) ?_
  refine r_p (pc' := 8) (p_imul (by decide +kernel)) ?_
  refine r_p (pc' := 9) (p_iadd (by decide +kernel)) ?_
  refine r_letI fun v1 => ?_
  refine r_p (pc' := 11) (p_istore (i := 4) (lv' := [(4, vi v1), (3, vi 0), (0, vr a0), (1, vi a1), (2, vi a2)]) (by decide +kernel) (Nat.le_of_ble_eq_true rfl) rfl) ?_
  refine r_p (pc' := 12) (p_aload_n 2 (k := 0) (by decide +kernel) rfl) ?_
  refine r_gR flX12_13_11 (by decide +kernel) fun v2 => ?_
  refine r_p (pc' := 17) (p_iload 0 (i := 4) (by decide +kernel) rfl) ?_
  refine r_p (pc' := 18) (p_iconst (n := 2) (v := 2) (by decide +kernel) rfl) ?_
  refine r_p (pc' := 19) (p_iadd (by decide +kernel)) ?_
  refine r_ldI0 (by decide +kernel) fun v3 => ?_
  refine r_p (pc' := 22) (p_istore (i := 5) (lv' := [(5, vi v3), (4, vi v1), (3, vi 0), (0, vr a0), (1, vi a1), (2, vi a2)]) (by decide +kernel) (Nat.le_of_ble_eq_true rfl) rfl) ?_
  refine r_sub (lv' := [(0, vr a0), (2, vi a2), (3, vi 0), (4, vi v1), (5, vi v3)]) [3, 5, 2, 1, 0] rfl ?_
  refine r_loop2 (fun _ => 263) (fun (e45 : Int32) => [(0, vr a0), (3, vi e45)]) (fun (x4 : Int32 × Int32) => [(0, vr a0), (2, vi a2), (3, vi x4.1), (4, vi v1), (5, vi x4.2)]) (fun e45 s => ?_) (fun K5 hb6 he7 x4 s => ?_) (0, v3) _
  · refine r_p (pc' := 264) (p_iload_n 1 (k := 3) (by decide +kernel) rfl) ?_
    refine r_ifeq (off := 13) (tgt := 277) (by decide +kernel) (by decide) (fun h46 => ?_) (fun h46 => ?_)
    · refine r_p (pc' := 278) (p_iconst (n := 1) (v := 1) (by decide +kernel) rfl) ?_
      refine r_p (pc' := 282) (p_goto (off := 4) (tgt := 282) (by decide +kernel) (by decide)) ?_
      exact r_iret rfl rfl _ rfl rfl (by decide +kernel)
    · refine r_p (pc' := 268) (p_aload_n 0 (k := 0) (by decide +kernel) rfl) ?_
      refine r_gR flX12_39_11 (by decide +kernel) fun v47 => ?_
      refine r_p (pc' := 272) (p_iconst (n := 0) (v := 0) (by decide +kernel) rfl) ?_
      refine r_ldI0 (by decide +kernel) fun v48 => ?_
      refine r_p (pc' := 274) (p_iconst (n := 1) (v := 1) (by decide +kernel) rfl) ?_
      refine r_icmpne (off := 7) (tgt := 281) (by decide +kernel) (by decide) (fun h49 => ?_) (fun h49 => ?_)
      · refine r_p (pc' := 278) (p_iconst (n := 1) (v := 1) (by decide +kernel) rfl) ?_
        refine r_p (pc' := 282) (p_goto (off := 4) (tgt := 282) (by decide +kernel) (by decide)) ?_
        exact r_iret rfl rfl _ rfl rfl (by decide +kernel)
      · refine r_p (pc' := 282) (p_iconst (n := 0) (v := 0) (by decide +kernel) rfl) ?_
        exact r_iret rfl rfl _ rfl rfl (by decide +kernel)
  · unfold mX12_holdsLine_L22
    refine r_p (pc' := 24) (p_iload 4 (i := 5) (by decide +kernel) rfl) ?_
    refine r_p (pc' := 25) (p_aload_n 0 (k := 0) (by decide +kernel) rfl) ?_
    refine r_gR flX12_13_11 (by decide +kernel) fun v8 => ?_
    refine r_p (pc' := 30) (p_iload 3 (i := 4) (by decide +kernel) rfl) ?_
    refine r_p (pc' := 31) (p_iconst (n := 3) (v := 3) (by decide +kernel) rfl) ?_
    refine r_p (pc' := 32) (p_iadd (by decide +kernel)) ?_
    refine r_ldI0 (by decide +kernel) fun v9 => ?_
    refine r_icmpge (off := 230) (tgt := 263) (by decide +kernel) (by decide) (fun h10 => ?_) (fun h10 => ?_)
    · refine r_sub (lv' := [(0, vr a0), (3, vi x4.1)]) [0, 2] rfl ?_
      exact he7 x4.1 _
    · refine r_p (pc' := 37) (p_aload_n 0 (k := 0) (by decide +kernel) rfl) ?_
      refine r_gR flX12_13_11 (by decide +kernel) fun v11 => ?_
      refine r_p (pc' := 43) (p_sipush (n := 1120) (v := 1120) (by decide +kernel) (by decide +kernel)) ?_
      refine r_p (pc' := 44) (p_iconst (n := 2) (v := 2) (by decide +kernel) rfl) ?_
      refine r_p (pc' := 46) (p_iload 4 (i := 5) (by decide +kernel) rfl) ?_
      refine r_p (pc' := 47) (p_imul (by decide +kernel)) ?_
      refine r_p (pc' := 48) (p_iadd (by decide +kernel)) ?_
      refine r_ldI0 (by decide +kernel) fun v12 => ?_
      refine r_p (pc' := 51) (p_istore (i := 6) (lv' := [(6, vi v12), (0, vr a0), (2, vi a2), (3, vi x4.1), (4, vi v1), (5, vi x4.2)]) (by decide +kernel) (Nat.le_of_ble_eq_true rfl) rfl) ?_
      refine r_p (pc' := 53) (p_iload 0 (i := 6) (by decide +kernel) rfl) ?_
      refine r_p (pc' := 55) (p_bipush (n := 10) (v := 10) (by decide +kernel) (by decide +kernel)) ?_
      refine r_join 257 (fun (x14 : Int32) => [(0, vr a0), (2, vi a2), (3, vi x14), (4, vi v1), (5, vi x4.2)]) (fun (x14 : Int32) => []) (fun x14 s => ?_) (fun K15 hj16 => ?_)
      · refine r_p (pc' := 260) (p_iinc 4 (i := 5) (n := 1) (x := x4.2) (v := x4.2 + 1) (lv' := [(5, vi (x4.2 + 1)), (0, vr a0), (2, vi a2), (3, vi x14), (4, vi v1)]) (by decide +kernel) rfl rfl (Nat.le_of_ble_eq_true rfl) rfl) ?_
        refine r_p (pc' := 22) (p_goto (off := -238) (tgt := 22) (by decide +kernel) (by decide)) ?_
        refine r_sub (lv' := [(0, vr a0), (2, vi a2), (3, vi x14), (4, vi v1), (5, vi (x4.2 + 1))]) [1, 2, 3, 4, 0] rfl ?_
        exact hb6 (x14, x4.2 + 1) _
      · refine r_icmpgt (off := 37) (tgt := 92) (by decide +kernel) (by decide) (fun h13 => ?_) (fun h13 => ?_)
        · refine r_p (pc' := 94) (p_iload 0 (i := 6) (by decide +kernel) rfl) ?_
          refine r_p (pc' := 96) (p_bipush (n := 14) (v := 14) (by decide +kernel) (by decide +kernel)) ?_
          refine r_icmpne (off := 24) (tgt := 120) (by decide +kernel) (by decide) (fun h17 => ?_) (fun h17 => ?_)
          · refine r_p (pc' := 100) (p_aload_n 1 (k := 0) (by decide +kernel) rfl) ?_
            refine r_gR flX12_39_11 (by decide +kernel) fun v18 => ?_
            refine r_p (pc' := 104) (p_iload_n 3 (k := 3) (by decide +kernel) rfl) ?_
            refine r_p (pc' := 105) (p_iconst (n := 1) (v := 1) (by decide +kernel) rfl) ?_
            refine r_p (pc' := 106) (p_isub (by decide +kernel)) ?_
            refine r_p (pc' := 107) (p_iconst (n := 1) (v := 1) (by decide +kernel) rfl) ?_
            refine r_p (pc' := 108) (p_aload_n 1 (k := 0) (by decide +kernel) rfl) ?_
            refine r_gR flX12_39_11 (by decide +kernel) fun v19 => ?_
            refine r_p (pc' := 112) (p_iload_n 3 (k := 3) (by decide +kernel) rfl) ?_
            refine r_p (pc' := 113) (p_iconst (n := 1) (v := 1) (by decide +kernel) rfl) ?_
            refine r_p (pc' := 114) (p_isub (by decide +kernel)) ?_
            refine r_ldI0 (by decide +kernel) fun v20 => ?_
            refine r_p (pc' := 116) (p_isub (by decide +kernel)) ?_
            refine r_stI0 (by decide +kernel) fun s => ?_
            refine r_p (pc' := 257) (p_goto (off := 140) (tgt := 257) (by decide +kernel) (by decide)) ?_
            refine r_sub (lv' := [(0, vr a0), (2, vi a2), (3, vi x4.1), (4, vi v1), (5, vi x4.2)]) [1, 2, 3, 4, 5] rfl ?_
            exact hj16 x4.1 _
          · refine r_p (pc' := 123) (p_iinc 3 (i := 3) (n := -1) (x := x4.1) (v := x4.1 + (-1)) (lv' := [(3, vi (x4.1 + (-1))), (6, vi v12), (0, vr a0), (2, vi a2), (4, vi v1), (5, vi x4.2)]) (by decide +kernel) rfl rfl (Nat.le_of_ble_eq_true rfl) rfl) ?_
            refine r_p (pc' := 124) (p_aload_n 2 (k := 0) (by decide +kernel) rfl) ?_
            refine r_gR flX12_39_11 (by decide +kernel) fun v21 => ?_
            refine r_p (pc' := 128) (p_iload_n 0 (k := 3) (by decide +kernel) rfl) ?_
            refine r_p (pc' := 129) (p_iconst (n := 1) (v := 1) (by decide +kernel) rfl) ?_
            refine r_p (pc' := 130) (p_isub (by decide +kernel)) ?_
            refine r_ldI0 (by decide +kernel) fun v22 => ?_
            refine r_p (pc' := 133) (p_istore (i := 7) (lv' := [(7, vi v22), (3, vi (x4.1 + (-1))), (6, vi v12), (0, vr a0), (2, vi a2), (4, vi v1), (5, vi x4.2)]) (by decide +kernel) (Nat.le_of_ble_eq_true rfl) rfl) ?_
            refine r_p (pc' := 134) (p_aload_n 3 (k := 0) (by decide +kernel) rfl) ?_
            refine r_gR flX12_39_11 (by decide +kernel) fun v23 => ?_
            refine r_p (pc' := 138) (p_iload_n 1 (k := 3) (by decide +kernel) rfl) ?_
            refine r_ldI0 (by decide +kernel) fun v24 => ?_
            refine r_p (pc' := 141) (p_istore (i := 8) (lv' := [(8, vi v24), (7, vi v22), (3, vi (x4.1 + (-1))), (6, vi v12), (0, vr a0), (2, vi a2), (4, vi v1), (5, vi x4.2)]) (by decide +kernel) (Nat.le_of_ble_eq_true rfl) rfl) ?_
            refine r_p (pc' := 143) (p_iload 3 (i := 6) (by decide +kernel) rfl) ?_
            refine r_p (pc' := 145) (p_bipush (n := 12) (v := 12) (by decide +kernel) (by decide +kernel)) ?_
            refine r_join 222 (fun (x26 : Int32) => [(0, vr a0), (2, vi a2), (3, vi (x4.1 + (-1))), (4, vi v1), (5, vi x4.2), (6, vi v12), (7, vi v22), (8, vi v24)]) (fun (x26 : Int32) => [vi x26]) (fun x26 s => ?_) (fun K27 hj28 => ?_)
            · refine r_p (pc' := 224) (p_istore (i := 9) (lv' := [(9, vi x26), (0, vr a0), (2, vi a2), (3, vi (x4.1 + (-1))), (4, vi v1), (5, vi x4.2), (6, vi v12), (7, vi v22), (8, vi v24)]) (by decide +kernel) (Nat.le_of_ble_eq_true rfl) rfl) ?_
              refine r_p (pc' := 225) (p_aload_n 1 (k := 0) (by decide +kernel) rfl) ?_
              refine r_gR flX12_39_11 (by decide +kernel) fun v35 => ?_
              refine r_p (pc' := 229) (p_iload_n 3 (k := 3) (by decide +kernel) rfl) ?_
              refine r_p (pc' := 230) (p_iconst (n := 1) (v := 1) (by decide +kernel) rfl) ?_
              refine r_p (pc' := 231) (p_isub (by decide +kernel)) ?_
              refine r_p (pc' := 233) (p_iload 6 (i := 6) (by decide +kernel) rfl) ?_
              refine r_p (pc' := 235) (p_bipush (n := 11) (v := 11) (by decide +kernel) (by decide +kernel)) ?_
              refine r_join 256 (fun (x37 : Int32) => [(0, vr a0), (2, vi a2), (3, vi (x4.1 + (-1))), (4, vi v1), (5, vi x4.2)]) (fun (x37 : Int32) => [vi x37, vi ((x4.1 + (-1)) - 1), vr v35]) (fun x37 s => ?_) (fun K38 hj39 => ?_)
              · refine r_stI0 (by decide +kernel) fun s => ?_
                exact hj16 (x4.1 + (-1)) _
              · refine r_icmpne (off := 11) (tgt := 246) (by decide +kernel) (by decide) (fun h36 => ?_) (fun h36 => ?_)
                · refine r_p (pc' := 240) (p_iload 7 (i := 7) (by decide +kernel) rfl) ?_
                  refine r_p (pc' := 242) (p_iload 8 (i := 8) (by decide +kernel) rfl) ?_
                  refine r_p (pc' := 243) (p_iadd (by decide +kernel)) ?_
                  refine r_p (pc' := 256) (p_goto (off := 13) (tgt := 256) (by decide +kernel) (by decide)) ?_
                  refine r_sub (lv' := [(0, vr a0), (2, vi a2), (3, vi (x4.1 + (-1))), (4, vi v1), (5, vi x4.2)]) [1, 2, 3, 4, 5] rfl ?_
                  exact hj39 (v22 + v24) _
                · refine r_p (pc' := 248) (p_iload 0 (i := 9) (by decide +kernel) rfl) ?_
                  refine r_ifeq (off := 7) (tgt := 255) (by decide +kernel) (by decide) (fun h40 => ?_) (fun h40 => ?_)
                  · refine r_p (pc' := 256) (p_iconst (n := 0) (v := 0) (by decide +kernel) rfl) ?_
                    refine r_sub (lv' := [(0, vr a0), (2, vi a2), (3, vi (x4.1 + (-1))), (4, vi v1), (5, vi x4.2)]) [1, 2, 3, 4, 5] rfl ?_
                    exact hj39 0 _
                  · refine r_p (pc' := 252) (p_iconst (n := 1) (v := 1) (by decide +kernel) rfl) ?_
                    refine r_p (pc' := 256) (p_goto (off := 4) (tgt := 256) (by decide +kernel) (by decide)) ?_
                    refine r_sub (lv' := [(0, vr a0), (2, vi a2), (3, vi (x4.1 + (-1))), (4, vi v1), (5, vi x4.2)]) [1, 2, 3, 4, 5] rfl ?_
                    exact hj39 1 _
            · refine r_icmpne (off := 18) (tgt := 163) (by decide +kernel) (by decide) (fun h25 => ?_) (fun h25 => ?_)
              · refine r_p (pc' := 150) (p_iload 1 (i := 7) (by decide +kernel) rfl) ?_
                refine r_p (pc' := 152) (p_iload 0 (i := 8) (by decide +kernel) rfl) ?_
                refine r_icmpge (off := 7) (tgt := 159) (by decide +kernel) (by decide) (fun h29 => ?_) (fun h29 => ?_)
                · refine r_p (pc' := 160) (p_iconst (n := 0) (v := 0) (by decide +kernel) rfl) ?_
                  refine r_p (pc' := 222) (p_goto (off := 62) (tgt := 222) (by decide +kernel) (by decide)) ?_
                  refine r_sub (lv' := [(0, vr a0), (2, vi a2), (3, vi (x4.1 + (-1))), (4, vi v1), (5, vi x4.2), (6, vi v12), (7, vi v22), (8, vi v24)]) [4, 5, 2, 6, 7, 3, 1, 0] rfl ?_
                  exact hj28 0 _
                · refine r_p (pc' := 156) (p_iconst (n := 1) (v := 1) (by decide +kernel) rfl) ?_
                  refine r_p (pc' := 222) (p_goto (off := 66) (tgt := 222) (by decide +kernel) (by decide)) ?_
                  refine r_sub (lv' := [(0, vr a0), (2, vi a2), (3, vi (x4.1 + (-1))), (4, vi v1), (5, vi x4.2), (6, vi v12), (7, vi v22), (8, vi v24)]) [4, 5, 2, 6, 7, 3, 1, 0] rfl ?_
                  exact hj28 1 _
              · refine r_p (pc' := 165) (p_iload 3 (i := 6) (by decide +kernel) rfl) ?_
                refine r_p (pc' := 167) (p_bipush (n := 13) (v := 13) (by decide +kernel) (by decide +kernel)) ?_
                refine r_icmpne (off := 18) (tgt := 185) (by decide +kernel) (by decide) (fun h30 => ?_) (fun h30 => ?_)
                · refine r_p (pc' := 172) (p_iload 1 (i := 7) (by decide +kernel) rfl) ?_
                  refine r_p (pc' := 174) (p_iload 0 (i := 8) (by decide +kernel) rfl) ?_
                  refine r_icmple (off := 7) (tgt := 181) (by decide +kernel) (by decide) (fun h31 => ?_) (fun h31 => ?_)
                  · refine r_p (pc' := 182) (p_iconst (n := 0) (v := 0) (by decide +kernel) rfl) ?_
                    refine r_p (pc' := 222) (p_goto (off := 40) (tgt := 222) (by decide +kernel) (by decide)) ?_
                    refine r_sub (lv' := [(0, vr a0), (2, vi a2), (3, vi (x4.1 + (-1))), (4, vi v1), (5, vi x4.2), (6, vi v12), (7, vi v22), (8, vi v24)]) [4, 5, 2, 6, 7, 3, 1, 0] rfl ?_
                    exact hj28 0 _
                  · refine r_p (pc' := 178) (p_iconst (n := 1) (v := 1) (by decide +kernel) rfl) ?_
                    refine r_p (pc' := 222) (p_goto (off := 44) (tgt := 222) (by decide +kernel) (by decide)) ?_
                    refine r_sub (lv' := [(0, vr a0), (2, vi a2), (3, vi (x4.1 + (-1))), (4, vi v1), (5, vi x4.2), (6, vi v12), (7, vi v22), (8, vi v24)]) [4, 5, 2, 6, 7, 3, 1, 0] rfl ?_
                    exact hj28 1 _
                · refine r_p (pc' := 187) (p_iload 3 (i := 6) (by decide +kernel) rfl) ?_
                  refine r_p (pc' := 189) (p_bipush (n := 15) (v := 15) (by decide +kernel) (by decide +kernel)) ?_
                  refine r_icmpne (off := 20) (tgt := 209) (by decide +kernel) (by decide) (fun h32 => ?_) (fun h32 => ?_)
                  · refine r_p (pc' := 194) (p_iload 1 (i := 7) (by decide +kernel) rfl) ?_
                    refine r_p (pc' := 196) (p_iload 0 (i := 8) (by decide +kernel) rfl) ?_
                    refine r_p (pc' := 197) (p_iadd (by decide +kernel)) ?_
                    refine r_p (pc' := 198) (p_iconst (n := 2) (v := 2) (by decide +kernel) rfl) ?_
                    refine r_icmpne (off := 7) (tgt := 205) (by decide +kernel) (by decide) (fun h33 => ?_) (fun h33 => ?_)
                    · refine r_p (pc' := 202) (p_iconst (n := 1) (v := 1) (by decide +kernel) rfl) ?_
                      refine r_p (pc' := 222) (p_goto (off := 20) (tgt := 222) (by decide +kernel) (by decide)) ?_
                      refine r_sub (lv' := [(0, vr a0), (2, vi a2), (3, vi (x4.1 + (-1))), (4, vi v1), (5, vi x4.2), (6, vi v12), (7, vi v22), (8, vi v24)]) [4, 5, 2, 6, 7, 3, 1, 0] rfl ?_
                      exact hj28 1 _
                    · refine r_p (pc' := 206) (p_iconst (n := 0) (v := 0) (by decide +kernel) rfl) ?_
                      refine r_p (pc' := 222) (p_goto (off := 16) (tgt := 222) (by decide +kernel) (by decide)) ?_
                      refine r_sub (lv' := [(0, vr a0), (2, vi a2), (3, vi (x4.1 + (-1))), (4, vi v1), (5, vi x4.2), (6, vi v12), (7, vi v22), (8, vi v24)]) [4, 5, 2, 6, 7, 3, 1, 0] rfl ?_
                      exact hj28 0 _
                  · refine r_p (pc' := 211) (p_iload 1 (i := 7) (by decide +kernel) rfl) ?_
                    refine r_p (pc' := 213) (p_iload 0 (i := 8) (by decide +kernel) rfl) ?_
                    refine r_p (pc' := 214) (p_iadd (by decide +kernel)) ?_
                    refine r_ifle (off := 7) (tgt := 221) (by decide +kernel) (by decide) (fun h34 => ?_) (fun h34 => ?_)
                    · refine r_p (pc' := 222) (p_iconst (n := 0) (v := 0) (by decide +kernel) rfl) ?_
                      refine r_sub (lv' := [(0, vr a0), (2, vi a2), (3, vi (x4.1 + (-1))), (4, vi v1), (5, vi x4.2), (6, vi v12), (7, vi v22), (8, vi v24)]) [4, 5, 2, 6, 7, 3, 1, 0] rfl ?_
                      exact hj28 0 _
                    · refine r_p (pc' := 218) (p_iconst (n := 1) (v := 1) (by decide +kernel) rfl) ?_
                      refine r_p (pc' := 222) (p_goto (off := 4) (tgt := 222) (by decide +kernel) (by decide)) ?_
                      refine r_sub (lv' := [(0, vr a0), (2, vi a2), (3, vi (x4.1 + (-1))), (4, vi v1), (5, vi x4.2), (6, vi v12), (7, vi v22), (8, vi v24)]) [4, 5, 2, 6, 7, 3, 1, 0] rfl ?_
                      exact hj28 1 _
        · refine r_p (pc' := 59) (p_aload_n 1 (k := 0) (by decide +kernel) rfl) ?_
          refine r_gR flX12_39_11 (by decide +kernel) fun v41 => ?_
          refine r_p (pc' := 63) (p_iload_n 3 (k := 3) (by decide +kernel) rfl) ?_
          refine r_p (pc' := 64) (p_aload_n 1 (k := 0) (by decide +kernel) rfl) ?_
          refine r_p (pc' := 66) (p_iload 0 (i := 6) (by decide +kernel) rfl) ?_
          refine r_p (pc' := 67) (p_aload_n 1 (k := 0) (by decide +kernel) rfl) ?_
          refine r_gR flX12_13_11 (by decide +kernel) fun v42 => ?_
          refine r_p (pc' := 73) (p_sipush (n := 1120) (v := 1120) (by decide +kernel) (by decide +kernel)) ?_
          refine r_p (pc' := 74) (p_iconst (n := 2) (v := 2) (by decide +kernel) rfl) ?_
          refine r_p (pc' := 76) (p_iload 5 (i := 5) (by decide +kernel) rfl) ?_
          refine r_p (pc' := 77) (p_imul (by decide +kernel)) ?_
          refine r_p (pc' := 78) (p_iadd (by decide +kernel)) ?_
          refine r_p (pc' := 79) (p_iconst (n := 1) (v := 1) (by decide +kernel) rfl) ?_
          refine r_p (pc' := 80) (p_iadd (by decide +kernel)) ?_
          refine r_ldI0 (by decide +kernel) fun v43 => ?_
          refine r_p (pc' := 82) (p_iload_n 2 (k := 2) (by decide +kernel) rfl) ?_
          refine r_callVI mvX12_289 (ctX12_factOf a0 v12 v43 a2) (rcX12_factOf a0 v12 v43 a2) ⟨_, _, rfl⟩ (as := [vi v12, vi v43, vi a2]) (st := [vi x4.1, vr v41]) rfl rfl (by decide +kernel) rfl (Nat.le_of_ble_eq_true rfl) (Nat.le_of_ble_eq_true rfl) fun v44 s => ?_
          refine r_stI0 (by decide +kernel) fun s => ?_
          refine r_p (pc' := 89) (p_iinc 3 (i := 3) (n := 1) (x := x4.1) (v := x4.1 + 1) (lv' := [(3, vi (x4.1 + 1)), (6, vi v12), (0, vr a0), (2, vi a2), (4, vi v1), (5, vi x4.2)]) (by decide +kernel) rfl rfl (Nat.le_of_ble_eq_true rfl) rfl) ?_
          refine r_p (pc' := 257) (p_goto (off := 168) (tgt := 257) (by decide +kernel) (by decide)) ?_
          refine r_sub (lv' := [(0, vr a0), (2, vi a2), (3, vi (x4.1 + 1)), (4, vi v1), (5, vi x4.2)]) [2, 3, 0, 4, 5] rfl ?_
          exact hj16 (x4.1 + 1) _
def aX12_says : StA := (RX12, cX12_says, 5, some .int, yX12_says, 12, [])
theorem mvX12_292 : MV RX12 292 aX12_isHead 1 := ⟨tblG_of 2025 (by decide +kernel) (by decide +kernel), tblG_of 2027 (by decide +kernel) (by decide +kernel), tblG_of 100 (by decide +kernel) (by decide +kernel), tblG_of 157 (by decide +kernel) (by decide +kernel), tblG_of 2028 (by decide +kernel) (by decide +kernel), rfl, ⟨by decide, by decide⟩, by decide +kernel, by decide⟩
theorem mvX12_295 : MV RX12 295 aX12_holdsLine 2 := ⟨tblG_of 2029 (by decide +kernel) (by decide +kernel), tblG_of 2031 (by decide +kernel) (by decide +kernel), tblG_of 101 (by decide +kernel) (by decide +kernel), tblG_of 157 (by decide +kernel) (by decide +kernel), tblG_of 2032 (by decide +kernel) (by decide +kernel), rfl, ⟨by decide, by decide⟩, by decide +kernel, by decide⟩
noncomputable def mX12_says_L46 (a0 : Nat) (a1 : Int32) (a2 : Int32) (x8 : Int32 × Int32) : MM ((Int32 × Int32) ⊕ (Int32)) :=
  mbnd (gR 11 1 a0) fun (v12 : Nat) =>
  mbnd (ldI 0 v12 1071) fun (v13 : Int32) =>
  if v13 ≤ x8.2 then (
    mret (.inr x8.1)
  ) else (
    mbnd (gR 11 1 a0) fun (v15 : Nat) =>
    mbnd (ldI 0 v15 (1072 + (4 * x8.2))) fun (v16 : Int32) =>
    mbnd (α := Int32) (
      if v16 = a1 then (
        mbnd (mX12_holdsLine a0 x8.2 a2) fun (v21 : Int32) =>
        if v21 = 0 then (
          mret 0
        ) else (
          mbnd (gR 11 1 a0) fun (v23 : Nat) =>
          mbnd (ldI 0 v23 ((1072 + (4 * x8.2)) + 1)) fun (v24 : Int32) =>
          mret v24
        )
      ) else (
        mret 0
      )
    ) fun (x18 : Int32) =>
    mbnd (mret (x8.1 + x18)) fun (v25 : Int32) =>
    mret (.inl (v25, x8.2 + 1))
  )
noncomputable def mX12_says (a0 : Nat) (a1 : Int32) (a2 : Int32) : MM Int32 := onC 11 a0 (
  mbnd (gR 11 1 a0) fun (v1 : Nat) =>
  mbnd (ldI 0 v1 4) fun (v2 : Int32) =>
  if v2 = 0 then (
    mbnd (mX12_isHead a0 a2) fun (v4 : Int32) =>
    if v4 = 0 then (
      mret 0
    ) else (
      if a1 = 0 then (
        mret 100
      ) else (
        if a1 = 3 then (
          mret 1
        ) else (
          mret 0
        )
      )
    )
  ) else (
    mbnd (loopM (mX12_says_L46 a0 a1 a2) (0, 0)) fun (e26 : Int32) =>
    mbnd (α := Int32) (
      if a1 = 3 then (
        mret 99
      ) else (
        mret 100
      )
    ) fun (x28 : Int32) =>
    mret (imin x28 e26)
  )
  )
theorem rcX12_says (a0 : Nat) (a1 : Int32) (a2 : Int32) : Rcv 11 a0 (mX12_says a0 a1 a2) := fun s r h => ⟨(onC_some h).1, (onC_some h).2.1⟩
set_option maxHeartbeats 4000000 in
set_option maxRecDepth 100000 in
theorem ctX12_says (a0 : Nat) (a1 : Int32) (a2 : Int32) : Ct aX12_says [vr a0, vi a1, vi a2] (mX12_says a0 a1 a2) rI := by
  unfold mX12_says
  refine ct_onC (ct_intro (by decide +kernel) rfl (Nat.le_of_ble_eq_true rfl) fun Y s => ?_)
  refine r_sub (lv' := [(0, vr a0), (1, vi a1), (2, vi a2)]) [0, 1, 2] rfl ?_
  refine r_p (pc' := 1) (p_aload_n 0 (k := 0) (by decide +kernel) rfl) ?_
  refine r_gR flX12_13_11 (by decide +kernel) fun v1 => ?_
  refine r_p (pc' := 5) (p_iconst (n := 4) (v := 4) (by decide +kernel) rfl) ?_
  refine r_ldI0 (by decide +kernel) fun v2 => ?_
  refine r_ifne (off := 35) (tgt := 41) (by decide +kernel) (by decide) (fun h3 => ?_) (fun h3 => ?_)
  · refine r_p (pc' := 10) (p_aload_n 0 (k := 0) (by decide +kernel) rfl) ?_
    refine r_p (pc' := 11) (p_iload_n 2 (k := 2) (by decide +kernel) rfl) ?_
    refine r_callVI mvX12_292 (ctX12_isHead a0 a2) (rcX12_isHead a0 a2) ⟨_, _, rfl⟩ (as := [vi a2]) (st := []) rfl rfl (by decide +kernel) rfl (Nat.le_of_ble_eq_true rfl) (Nat.le_of_ble_eq_true rfl) fun v4 s => ?_
    refine r_ifne (off := 7) (tgt := 21) (by decide +kernel) (by decide) (fun h5 => ?_) (fun h5 => ?_)
    · refine r_p (pc' := 18) (p_iconst (n := 0) (v := 0) (by decide +kernel) rfl) ?_
      refine r_p (pc' := 40) (p_goto (off := 22) (tgt := 40) (by decide +kernel) (by decide)) ?_
      exact r_iret rfl rfl _ rfl rfl (by decide +kernel)
    · refine r_p (pc' := 22) (p_iload_n 1 (k := 1) (by decide +kernel) rfl) ?_
      refine r_ifne (off := 8) (tgt := 30) (by decide +kernel) (by decide) (fun h6 => ?_) (fun h6 => ?_)
      · refine r_p (pc' := 27) (p_bipush (n := 100) (v := 100) (by decide +kernel) (by decide +kernel)) ?_
        refine r_p (pc' := 40) (p_goto (off := 13) (tgt := 40) (by decide +kernel) (by decide)) ?_
        exact r_iret rfl rfl _ rfl rfl (by decide +kernel)
      · refine r_p (pc' := 31) (p_iload_n 1 (k := 1) (by decide +kernel) rfl) ?_
        refine r_p (pc' := 32) (p_iconst (n := 3) (v := 3) (by decide +kernel) rfl) ?_
        refine r_icmpne (off := 7) (tgt := 39) (by decide +kernel) (by decide) (fun h7 => ?_) (fun h7 => ?_)
        · refine r_p (pc' := 36) (p_iconst (n := 1) (v := 1) (by decide +kernel) rfl) ?_
          refine r_p (pc' := 40) (p_goto (off := 4) (tgt := 40) (by decide +kernel) (by decide)) ?_
          exact r_iret rfl rfl _ rfl rfl (by decide +kernel)
        · refine r_p (pc' := 40) (p_iconst (n := 0) (v := 0) (by decide +kernel) rfl) ?_
          exact r_iret rfl rfl _ rfl rfl (by decide +kernel)
  · refine r_p (pc' := 42) (p_iconst (n := 0) (v := 0) (by decide +kernel) rfl) ?_
    refine r_p (pc' := 43) (p_istore_n (k := 3) (lv' := [(3, vi 0), (0, vr a0), (1, vi a1), (2, vi a2)]) (by decide +kernel) (Nat.le_of_ble_eq_true rfl) rfl) ?_
    refine r_p (pc' := 44) (p_iconst (n := 0) (v := 0) (by decide +kernel) rfl) ?_
    refine r_p (pc' := 46) (p_istore (i := 4) (lv' := [(4, vi 0), (3, vi 0), (0, vr a0), (1, vi a1), (2, vi a2)]) (by decide +kernel) (Nat.le_of_ble_eq_true rfl) rfl) ?_
    refine r_sub (lv' := [(0, vr a0), (1, vi a1), (2, vi a2), (3, vi 0), (4, vi 0)]) [2, 3, 4, 1, 0] rfl ?_
    refine r_loop2 (fun _ => 114) (fun (e26 : Int32) => [(1, vi a1), (3, vi e26)]) (fun (x8 : Int32 × Int32) => [(0, vr a0), (1, vi a1), (2, vi a2), (3, vi x8.1), (4, vi x8.2)]) (fun e26 s => ?_) (fun K9 hb10 he11 x8 s => ?_) (0, 0) _
    · refine r_p (pc' := 115) (p_iload_n 0 (k := 1) (by decide +kernel) rfl) ?_
      refine r_p (pc' := 116) (p_iconst (n := 3) (v := 3) (by decide +kernel) rfl) ?_
      refine r_join 126 (fun (x28 : Int32) => [(3, vi e26)]) (fun (x28 : Int32) => [vi x28]) (fun x28 s => ?_) (fun K29 hj30 => ?_)
      · refine r_p (pc' := 127) (p_iload_n 0 (k := 3) (by decide +kernel) rfl) ?_
        refine r_p (pc' := 130) (p_min (idx := 298) (tblG_of 2042 (by decide +kernel) (by decide +kernel)) (Nat.le_of_ble_eq_true rfl) (Nat.le_of_ble_eq_true rfl) (by decide +kernel)) ?_
        exact r_iret rfl rfl _ rfl rfl (by decide +kernel)
      · refine r_icmpne (off := 8) (tgt := 124) (by decide +kernel) (by decide) (fun h27 => ?_) (fun h27 => ?_)
        · refine r_p (pc' := 121) (p_bipush (n := 99) (v := 99) (by decide +kernel) (by decide +kernel)) ?_
          refine r_p (pc' := 126) (p_goto (off := 5) (tgt := 126) (by decide +kernel) (by decide)) ?_
          refine r_sub (lv' := [(3, vi e26)]) [1] rfl ?_
          exact hj30 99 _
        · refine r_p (pc' := 126) (p_bipush (n := 100) (v := 100) (by decide +kernel) (by decide +kernel)) ?_
          refine r_sub (lv' := [(3, vi e26)]) [1] rfl ?_
          exact hj30 100 _
    · unfold mX12_says_L46
      refine r_p (pc' := 48) (p_iload 4 (i := 4) (by decide +kernel) rfl) ?_
      refine r_p (pc' := 49) (p_aload_n 0 (k := 0) (by decide +kernel) rfl) ?_
      refine r_gR flX12_13_11 (by decide +kernel) fun v12 => ?_
      refine r_p (pc' := 55) (p_sipush (n := 1071) (v := 1071) (by decide +kernel) (by decide +kernel)) ?_
      refine r_ldI0 (by decide +kernel) fun v13 => ?_
      refine r_icmpge (off := 58) (tgt := 114) (by decide +kernel) (by decide) (fun h14 => ?_) (fun h14 => ?_)
      · refine r_sub (lv' := [(1, vi a1), (3, vi x8.1)]) [1, 3] rfl ?_
        exact he11 x8.1 _
      · refine r_p (pc' := 60) (p_iload_n 3 (k := 3) (by decide +kernel) rfl) ?_
        refine r_p (pc' := 61) (p_aload_n 0 (k := 0) (by decide +kernel) rfl) ?_
        refine r_gR flX12_13_11 (by decide +kernel) fun v15 => ?_
        refine r_p (pc' := 67) (p_sipush (n := 1072) (v := 1072) (by decide +kernel) (by decide +kernel)) ?_
        refine r_p (pc' := 68) (p_iconst (n := 4) (v := 4) (by decide +kernel) rfl) ?_
        refine r_p (pc' := 70) (p_iload 4 (i := 4) (by decide +kernel) rfl) ?_
        refine r_p (pc' := 71) (p_imul (by decide +kernel)) ?_
        refine r_p (pc' := 72) (p_iadd (by decide +kernel)) ?_
        refine r_ldI0 (by decide +kernel) fun v16 => ?_
        refine r_p (pc' := 74) (p_iload_n 1 (k := 1) (by decide +kernel) rfl) ?_
        refine r_join 106 (fun (x18 : Int32) => [(0, vr a0), (1, vi a1), (2, vi a2), (4, vi x8.2)]) (fun (x18 : Int32) => [vi x18, vi x8.1]) (fun x18 s => ?_) (fun K19 hj20 => ?_)
        · refine r_p (pc' := 107) (p_iadd (by decide +kernel)) ?_
          refine r_letI fun v25 => ?_
          refine r_p (pc' := 108) (p_istore_n (k := 3) (lv' := [(3, vi v25), (0, vr a0), (1, vi a1), (2, vi a2), (4, vi x8.2)]) (by decide +kernel) (Nat.le_of_ble_eq_true rfl) rfl) ?_
          refine r_p (pc' := 111) (p_iinc 4 (i := 4) (n := 1) (x := x8.2) (v := x8.2 + 1) (lv' := [(4, vi (x8.2 + 1)), (3, vi v25), (0, vr a0), (1, vi a1), (2, vi a2)]) (by decide +kernel) rfl rfl (Nat.le_of_ble_eq_true rfl) rfl) ?_
          refine r_p (pc' := 46) (p_goto (off := -65) (tgt := 46) (by decide +kernel) (by decide)) ?_
          refine r_sub (lv' := [(0, vr a0), (1, vi a1), (2, vi a2), (3, vi v25), (4, vi (x8.2 + 1))]) [2, 3, 4, 1, 0] rfl ?_
          exact hb10 (v25, x8.2 + 1) _
        · refine r_icmpne (off := 31) (tgt := 105) (by decide +kernel) (by decide) (fun h17 => ?_) (fun h17 => ?_)
          · refine r_p (pc' := 78) (p_aload_n 0 (k := 0) (by decide +kernel) rfl) ?_
            refine r_p (pc' := 80) (p_iload 4 (i := 4) (by decide +kernel) rfl) ?_
            refine r_p (pc' := 81) (p_iload_n 2 (k := 2) (by decide +kernel) rfl) ?_
            refine r_callVI mvX12_295 (ctX12_holdsLine a0 x8.2 a2) (rcX12_holdsLine a0 x8.2 a2) ⟨_, _, rfl⟩ (as := [vi x8.2, vi a2]) (st := [vi x8.1]) rfl rfl (by decide +kernel) rfl (Nat.le_of_ble_eq_true rfl) (Nat.le_of_ble_eq_true rfl) fun v21 s => ?_
            refine r_ifeq (off := 21) (tgt := 105) (by decide +kernel) (by decide) (fun h22 => ?_) (fun h22 => ?_)
            · refine r_p (pc' := 106) (p_iconst (n := 0) (v := 0) (by decide +kernel) rfl) ?_
              refine r_sub (lv' := [(0, vr a0), (1, vi a1), (2, vi a2), (4, vi x8.2)]) [0, 1, 2, 4] rfl ?_
              exact hj20 0 _
            · refine r_p (pc' := 88) (p_aload_n 0 (k := 0) (by decide +kernel) rfl) ?_
              refine r_gR flX12_13_11 (by decide +kernel) fun v23 => ?_
              refine r_p (pc' := 94) (p_sipush (n := 1072) (v := 1072) (by decide +kernel) (by decide +kernel)) ?_
              refine r_p (pc' := 95) (p_iconst (n := 4) (v := 4) (by decide +kernel) rfl) ?_
              refine r_p (pc' := 97) (p_iload 4 (i := 4) (by decide +kernel) rfl) ?_
              refine r_p (pc' := 98) (p_imul (by decide +kernel)) ?_
              refine r_p (pc' := 99) (p_iadd (by decide +kernel)) ?_
              refine r_p (pc' := 100) (p_iconst (n := 1) (v := 1) (by decide +kernel) rfl) ?_
              refine r_p (pc' := 101) (p_iadd (by decide +kernel)) ?_
              refine r_ldI0 (by decide +kernel) fun v24 => ?_
              refine r_p (pc' := 106) (p_goto (off := 4) (tgt := 106) (by decide +kernel) (by decide)) ?_
              refine r_sub (lv' := [(0, vr a0), (1, vi a1), (2, vi a2), (4, vi x8.2)]) [0, 1, 2, 4] rfl ?_
              exact hj20 v24 _
          · refine r_p (pc' := 106) (p_iconst (n := 0) (v := 0) (by decide +kernel) rfl) ?_
            refine r_sub (lv' := [(0, vr a0), (1, vi a1), (2, vi a2), (4, vi x8.2)]) [0, 1, 2, 4] rfl ?_
            exact hj20 0 _
def aX12_gain : StA := (RX12, cX12_gain, 2, some .int, yX12_gain, 13, [])
theorem mvX12_301 : MV RX12 301 aX12_says 2 := ⟨tblG_of 2021 (by decide +kernel) (by decide +kernel), tblG_of 2023 (by decide +kernel) (by decide +kernel), tblG_of 99 (by decide +kernel) (by decide +kernel), tblG_of 157 (by decide +kernel) (by decide +kernel), tblG_of 2024 (by decide +kernel) (by decide +kernel), rfl, ⟨by decide, by decide⟩, by decide +kernel, by decide⟩
noncomputable def mX12_gain (a0 : Nat) (a1 : Int32) : MM Int32 := onC 11 a0 (
  mbnd (gI 11 18 a0) fun (v1 : Int32) =>
  mbnd (mX12_says a0 0 a1) fun (v2 : Int32) =>
  mbnd (mX12_says a0 1 a1) fun (v3 : Int32) =>
  mret ((((v1 * v2) / 100) * (100 - v3)) / 100)
  )
theorem rcX12_gain (a0 : Nat) (a1 : Int32) : Rcv 11 a0 (mX12_gain a0 a1) := fun s r h => ⟨(onC_some h).1, (onC_some h).2.1⟩
set_option maxHeartbeats 4000000 in
set_option maxRecDepth 100000 in
theorem ctX12_gain (a0 : Nat) (a1 : Int32) : Ct aX12_gain [vr a0, vi a1] (mX12_gain a0 a1) rI := by
  unfold mX12_gain
  refine ct_onC (ct_intro (by decide +kernel) rfl (Nat.le_of_ble_eq_true rfl) fun Y s => ?_)
  refine r_sub (lv' := [(0, vr a0), (1, vi a1)]) [0, 1] rfl ?_
  refine r_p (pc' := 1) (p_aload_n 0 (k := 0) (by decide +kernel) rfl) ?_
  refine r_gI flX12_275_11 (by decide +kernel) fun v1 => ?_
  refine r_p (pc' := 5) (p_aload_n 0 (k := 0) (by decide +kernel) rfl) ?_
  refine r_p (pc' := 6) (p_iconst (n := 0) (v := 0) (by decide +kernel) rfl) ?_
  refine r_p (pc' := 7) (p_iload_n 1 (k := 1) (by decide +kernel) rfl) ?_
  refine r_callVI mvX12_301 (ctX12_says a0 0 a1) (rcX12_says a0 0 a1) ⟨_, _, rfl⟩ (as := [vi 0, vi a1]) (st := [vi v1]) rfl rfl (by decide +kernel) rfl (Nat.le_of_ble_eq_true rfl) (Nat.le_of_ble_eq_true rfl) fun v2 s => ?_
  refine r_p (pc' := 11) (p_imul (by decide +kernel)) ?_
  refine r_p (pc' := 13) (p_bipush (n := 100) (v := 100) (by decide +kernel) (by decide +kernel)) ?_
  refine r_p (pc' := 14) (p_idiv (by decide +kernel) (by decide)) ?_
  refine r_p (pc' := 16) (p_bipush (n := 100) (v := 100) (by decide +kernel) (by decide +kernel)) ?_
  refine r_p (pc' := 17) (p_aload_n 0 (k := 0) (by decide +kernel) rfl) ?_
  refine r_p (pc' := 18) (p_iconst (n := 1) (v := 1) (by decide +kernel) rfl) ?_
  refine r_p (pc' := 19) (p_iload_n 1 (k := 1) (by decide +kernel) rfl) ?_
  refine r_callVI mvX12_301 (ctX12_says a0 1 a1) (rcX12_says a0 1 a1) ⟨_, _, rfl⟩ (as := [vi 1, vi a1]) (st := [vi 100, vi ((v1 * v2) / 100)]) rfl rfl (by decide +kernel) rfl (Nat.le_of_ble_eq_true rfl) (Nat.le_of_ble_eq_true rfl) fun v3 s => ?_
  refine r_p (pc' := 23) (p_isub (by decide +kernel)) ?_
  refine r_p (pc' := 24) (p_imul (by decide +kernel)) ?_
  refine r_p (pc' := 26) (p_bipush (n := 100) (v := 100) (by decide +kernel) (by decide +kernel)) ?_
  refine r_p (pc' := 27) (p_idiv (by decide +kernel) (by decide)) ?_
  exact r_iret rfl rfl _ rfl rfl (by decide +kernel)
def aX12_heirs : StA := (RX12, cX12_heirs, 2, some .int, yX12_heirs, 13, [])
theorem mvX12_304 : MV RX12 304 aX12_ofNoDeed 0 := ⟨tblG_of 2013 (by decide +kernel) (by decide +kernel), tblG_of 2015 (by decide +kernel) (by decide +kernel), tblG_of 97 (by decide +kernel) (by decide +kernel), tblG_of 157 (by decide +kernel) (by decide +kernel), tblG_of 2016 (by decide +kernel) (by decide +kernel), rfl, ⟨by decide, by decide⟩, by decide +kernel, by decide⟩
noncomputable def mX12_heirs (a0 : Nat) (a1 : Int32) : MM Int32 := onC 11 a0 (
  mbnd (mX12_ofNoDeed a0) fun _ =>
  mbnd (mX12_says a0 2 a1) fun (v1 : Int32) =>
  mret v1
  )
theorem rcX12_heirs (a0 : Nat) (a1 : Int32) : Rcv 11 a0 (mX12_heirs a0 a1) := fun s r h => ⟨(onC_some h).1, (onC_some h).2.1⟩
set_option maxHeartbeats 4000000 in
set_option maxRecDepth 100000 in
theorem ctX12_heirs (a0 : Nat) (a1 : Int32) : Ct aX12_heirs [vr a0, vi a1] (mX12_heirs a0 a1) rI := by
  unfold mX12_heirs
  refine ct_onC (ct_intro (by decide +kernel) rfl (Nat.le_of_ble_eq_true rfl) fun Y s => ?_)
  refine r_sub (lv' := [(0, vr a0), (1, vi a1)]) [0, 1] rfl ?_
  refine r_p (pc' := 1) (p_aload_n 0 (k := 0) (by decide +kernel) rfl) ?_
  refine r_callVU mvX12_304 (ctX12_ofNoDeed a0) (rcX12_ofNoDeed a0) ⟨_, _, rfl⟩ (as := []) (st := []) rfl rfl (by decide +kernel) rfl (Nat.le_of_ble_eq_true rfl) (Nat.le_of_ble_eq_true rfl) fun s => ?_
  refine r_p (pc' := 5) (p_aload_n 0 (k := 0) (by decide +kernel) rfl) ?_
  refine r_p (pc' := 6) (p_iconst (n := 2) (v := 2) (by decide +kernel) rfl) ?_
  refine r_p (pc' := 7) (p_iload_n 1 (k := 1) (by decide +kernel) rfl) ?_
  refine r_callVI mvX12_301 (ctX12_says a0 2 a1) (rcX12_says a0 2 a1) ⟨_, _, rfl⟩ (as := [vi 2, vi a1]) (st := []) rfl rfl (by decide +kernel) rfl (Nat.le_of_ble_eq_true rfl) (Nat.le_of_ble_eq_true rfl) fun v1 s => ?_
  exact r_iret rfl rfl _ rfl rfl (by decide +kernel)
def aX12_answered : StA := (RX12, cX12_answered, 4, some .int, yX12_answered, 10, [])
noncomputable def mX12_answered_L4 (a0 : Nat) (a1 : Int32) (x1 : Int32 × Int32) : MM ((Int32 × Int32) ⊕ (Int32)) :=
  if 3 ≤ x1.2 then (
    mret (.inr x1.1)
  ) else (
    mbnd (mX12_inTool a0 a1 x1.2) fun (v6 : Int32) =>
    mbnd (α := Int32) (
      if 0 ≤ v6 then (
        mbnd (mX12_inTool a0 a1 x1.2) fun (v11 : Int32) =>
        mbnd (mX12_of a0 v11 3) fun (v12 : Int32) =>
        mret v12
      ) else (
        mret 0
      )
    ) fun (x8 : Int32) =>
    mbnd (mret (x1.1 + x8)) fun (v13 : Int32) =>
    mret (.inl (v13, x1.2 + 1))
  )
noncomputable def mX12_answered (a0 : Nat) (a1 : Int32) : MM Int32 := onC 11 a0 (
  mbnd (loopM (mX12_answered_L4 a0 a1) (0, 0)) fun (e14 : Int32) =>
  mret e14
  )
theorem rcX12_answered (a0 : Nat) (a1 : Int32) : Rcv 11 a0 (mX12_answered a0 a1) := fun s r h => ⟨(onC_some h).1, (onC_some h).2.1⟩
set_option maxHeartbeats 4000000 in
set_option maxRecDepth 100000 in
theorem ctX12_answered (a0 : Nat) (a1 : Int32) : Ct aX12_answered [vr a0, vi a1] (mX12_answered a0 a1) rI := by
  unfold mX12_answered
  refine ct_onC (ct_intro (by decide +kernel) rfl (Nat.le_of_ble_eq_true rfl) fun Y s => ?_)
  refine r_sub (lv' := [(0, vr a0), (1, vi a1)]) [0, 1] rfl ?_
  refine r_p (pc' := 1) (p_iconst (n := 0) (v := 0) (by decide +kernel) rfl) ?_
  refine r_p (pc' := 2) (p_istore_n (k := 2) (lv' := [(2, vi 0), (0, vr a0), (1, vi a1)]) (by decide +kernel) (Nat.le_of_ble_eq_true rfl) rfl) ?_
  refine r_p (pc' := 3) (p_iconst (n := 0) (v := 0) (by decide +kernel) rfl) ?_
  refine r_p (pc' := 4) (p_istore_n (k := 3) (lv' := [(3, vi 0), (2, vi 0), (0, vr a0), (1, vi a1)]) (by decide +kernel) (Nat.le_of_ble_eq_true rfl) rfl) ?_
  refine r_sub (lv' := [(0, vr a0), (1, vi a1), (2, vi 0), (3, vi 0)]) [2, 3, 1, 0] rfl ?_
  refine r_loop2 (fun _ => 42) (fun (e14 : Int32) => [(2, vi e14)]) (fun (x1 : Int32 × Int32) => [(0, vr a0), (1, vi a1), (2, vi x1.1), (3, vi x1.2)]) (fun e14 s => ?_) (fun K2 hb3 he4 x1 s => ?_) (0, 0) _
  · refine r_p (pc' := 43) (p_iload_n 0 (k := 2) (by decide +kernel) rfl) ?_
    exact r_iret rfl rfl _ rfl rfl (by decide +kernel)
  · unfold mX12_answered_L4
    refine r_p (pc' := 5) (p_iload_n 3 (k := 3) (by decide +kernel) rfl) ?_
    refine r_p (pc' := 6) (p_iconst (n := 3) (v := 3) (by decide +kernel) rfl) ?_
    refine r_icmpge (off := 36) (tgt := 42) (by decide +kernel) (by decide) (fun h5 => ?_) (fun h5 => ?_)
    · refine r_sub (lv' := [(2, vi x1.1)]) [2] rfl ?_
      exact he4 x1.1 _
    · refine r_p (pc' := 10) (p_iload_n 2 (k := 2) (by decide +kernel) rfl) ?_
      refine r_p (pc' := 11) (p_aload_n 0 (k := 0) (by decide +kernel) rfl) ?_
      refine r_p (pc' := 12) (p_iload_n 1 (k := 1) (by decide +kernel) rfl) ?_
      refine r_p (pc' := 13) (p_iload_n 3 (k := 3) (by decide +kernel) rfl) ?_
      refine r_callVI mvX12_149 (ctX12_inTool a0 a1 x1.2) (rcX12_inTool a0 a1 x1.2) ⟨_, _, rfl⟩ (as := [vi a1, vi x1.2]) (st := [vi x1.1]) rfl rfl (by decide +kernel) rfl (Nat.le_of_ble_eq_true rfl) (Nat.le_of_ble_eq_true rfl) fun v6 s => ?_
      refine r_join 34 (fun (x8 : Int32) => [(0, vr a0), (1, vi a1), (3, vi x1.2)]) (fun (x8 : Int32) => [vi x8, vi x1.1]) (fun x8 s => ?_) (fun K9 hj10 => ?_)
      · refine r_p (pc' := 35) (p_iadd (by decide +kernel)) ?_
        refine r_letI fun v13 => ?_
        refine r_p (pc' := 36) (p_istore_n (k := 2) (lv' := [(2, vi v13), (0, vr a0), (1, vi a1), (3, vi x1.2)]) (by decide +kernel) (Nat.le_of_ble_eq_true rfl) rfl) ?_
        refine r_p (pc' := 39) (p_iinc 3 (i := 3) (n := 1) (x := x1.2) (v := x1.2 + 1) (lv' := [(3, vi (x1.2 + 1)), (2, vi v13), (0, vr a0), (1, vi a1)]) (by decide +kernel) rfl rfl (Nat.le_of_ble_eq_true rfl) rfl) ?_
        refine r_p (pc' := 4) (p_goto (off := -35) (tgt := 4) (by decide +kernel) (by decide)) ?_
        refine r_sub (lv' := [(0, vr a0), (1, vi a1), (2, vi v13), (3, vi (x1.2 + 1))]) [2, 3, 1, 0] rfl ?_
        exact hb3 (v13, x1.2 + 1) _
      · refine r_ifge (off := 7) (tgt := 23) (by decide +kernel) (by decide) (fun h7 => ?_) (fun h7 => ?_)
        · refine r_p (pc' := 24) (p_aload_n 0 (k := 0) (by decide +kernel) rfl) ?_
          refine r_p (pc' := 25) (p_aload_n 0 (k := 0) (by decide +kernel) rfl) ?_
          refine r_p (pc' := 26) (p_iload_n 1 (k := 1) (by decide +kernel) rfl) ?_
          refine r_p (pc' := 27) (p_iload_n 3 (k := 3) (by decide +kernel) rfl) ?_
          refine r_callVI mvX12_149 (ctX12_inTool a0 a1 x1.2) (rcX12_inTool a0 a1 x1.2) ⟨_, _, rfl⟩ (as := [vi a1, vi x1.2]) (st := [vr a0, vi x1.1]) rfl rfl (by decide +kernel) rfl (Nat.le_of_ble_eq_true rfl) (Nat.le_of_ble_eq_true rfl) fun v11 s => ?_
          refine r_p (pc' := 31) (p_iconst (n := 3) (v := 3) (by decide +kernel) rfl) ?_
          refine r_callVI mvX12_65 (ctX12_of a0 v11 3) (rcX12_of a0 v11 3) ⟨_, _, rfl⟩ (as := [vi v11, vi 3]) (st := [vi x1.1]) rfl rfl (by decide +kernel) rfl (Nat.le_of_ble_eq_true rfl) (Nat.le_of_ble_eq_true rfl) fun v12 s => ?_
          refine r_sub (lv' := [(0, vr a0), (1, vi a1), (3, vi x1.2)]) [0, 1, 3] rfl ?_
          exact hj10 v12 _
        · refine r_p (pc' := 20) (p_iconst (n := 0) (v := 0) (by decide +kernel) rfl) ?_
          refine r_p (pc' := 34) (p_goto (off := 14) (tgt := 34) (by decide +kernel) (by decide)) ?_
          refine r_sub (lv' := [(0, vr a0), (1, vi a1), (3, vi x1.2)]) [0, 1, 3] rfl ?_
          exact hj10 0 _
def aX12_sentence : StA := (RX12, cX12_sentence, 2, some .int, yX12_sentence, 11, [])
theorem mvX12_307 : MV RX12 307 aX12_answered 1 := ⟨tblG_of 1972 (by decide +kernel) (by decide +kernel), tblG_of 1974 (by decide +kernel) (by decide +kernel), tblG_of 90 (by decide +kernel) (by decide +kernel), tblG_of 157 (by decide +kernel) (by decide +kernel), tblG_of 1975 (by decide +kernel) (by decide +kernel), rfl, ⟨by decide, by decide⟩, by decide +kernel, by decide⟩
noncomputable def mX12_sentence (a0 : Nat) (a1 : Int32) : MM Int32 := onC 11 a0 (
  mbnd (mX12_answered a0 a1) fun (v1 : Int32) =>
  mret (((v1 + 10) - 1) / 10)
  )
theorem rcX12_sentence (a0 : Nat) (a1 : Int32) : Rcv 11 a0 (mX12_sentence a0 a1) := fun s r h => ⟨(onC_some h).1, (onC_some h).2.1⟩
set_option maxHeartbeats 4000000 in
set_option maxRecDepth 100000 in
theorem ctX12_sentence (a0 : Nat) (a1 : Int32) : Ct aX12_sentence [vr a0, vi a1] (mX12_sentence a0 a1) rI := by
  unfold mX12_sentence
  refine ct_onC (ct_intro (by decide +kernel) rfl (Nat.le_of_ble_eq_true rfl) fun Y s => ?_)
  refine r_sub (lv' := [(0, vr a0), (1, vi a1)]) [0, 1] rfl ?_
  refine r_p (pc' := 1) (p_aload_n 0 (k := 0) (by decide +kernel) rfl) ?_
  refine r_p (pc' := 2) (p_iload_n 1 (k := 1) (by decide +kernel) rfl) ?_
  refine r_callVI mvX12_307 (ctX12_answered a0 a1) (rcX12_answered a0 a1) ⟨_, _, rfl⟩ (as := [vi a1]) (st := []) rfl rfl (by decide +kernel) rfl (Nat.le_of_ble_eq_true rfl) (Nat.le_of_ble_eq_true rfl) fun v1 s => ?_
  refine r_p (pc' := 7) (p_bipush (n := 10) (v := 10) (by decide +kernel) (by decide +kernel)) ?_
  refine r_p (pc' := 8) (p_iadd (by decide +kernel)) ?_
  refine r_p (pc' := 9) (p_iconst (n := 1) (v := 1) (by decide +kernel) rfl) ?_
  refine r_p (pc' := 10) (p_isub (by decide +kernel)) ?_
  refine r_p (pc' := 12) (p_bipush (n := 10) (v := 10) (by decide +kernel) (by decide +kernel)) ?_
  refine r_p (pc' := 13) (p_idiv (by decide +kernel) (by decide)) ?_
  exact r_iret rfl rfl _ rfl rfl (by decide +kernel)
def aX12_shareOf : StA := (RX12, cX12_shareOf, 3, some .int, yX12_shareOf, 11, [])
noncomputable def mX12_shareOf (a0 : Nat) (a1 : Int32) : MM Int32 := onC 11 a0 (
  mbnd (mX12_isSpare a0 a1) fun (v1 : Int32) =>
  mbnd (α := Int32) (
    if v1 = 0 then (
      mbnd (mX12_of a0 a1 6) fun (v6 : Int32) =>
      mbnd (mX12_answered a0 v6) fun (v7 : Int32) =>
      mret v7
    ) else (
      mret 0
    )
  ) fun (x3 : Int32) =>
  if x3 = 0 then (
    mret 0
  ) else (
    mbnd (mX12_of a0 a1 3) fun (v9 : Int32) =>
    mbnd (nzL (x3.toInt64)) fun _ =>
    mret (((10000 * (v9.toInt64)) / (x3.toInt64)).toInt32)
  )
  )
theorem rcX12_shareOf (a0 : Nat) (a1 : Int32) : Rcv 11 a0 (mX12_shareOf a0 a1) := fun s r h => ⟨(onC_some h).1, (onC_some h).2.1⟩
set_option maxHeartbeats 4000000 in
set_option maxRecDepth 100000 in
theorem ctX12_shareOf (a0 : Nat) (a1 : Int32) : Ct aX12_shareOf [vr a0, vi a1] (mX12_shareOf a0 a1) rI := by
  unfold mX12_shareOf
  refine ct_onC (ct_intro (by decide +kernel) rfl (Nat.le_of_ble_eq_true rfl) fun Y s => ?_)
  refine r_sub (lv' := [(0, vr a0), (1, vi a1)]) [0, 1] rfl ?_
  refine r_p (pc' := 1) (p_aload_n 0 (k := 0) (by decide +kernel) rfl) ?_
  refine r_p (pc' := 2) (p_iload_n 1 (k := 1) (by decide +kernel) rfl) ?_
  refine r_callVI mvX12_145 (ctX12_isSpare a0 a1) (rcX12_isSpare a0 a1) ⟨_, _, rfl⟩ (as := [vi a1]) (st := []) rfl rfl (by decide +kernel) rfl (Nat.le_of_ble_eq_true rfl) (Nat.le_of_ble_eq_true rfl) fun v1 s => ?_
  refine r_join 23 (fun (x3 : Int32) => [(0, vr a0), (1, vi a1)]) (fun (x3 : Int32) => [vi x3]) (fun x3 s => ?_) (fun K4 hj5 => ?_)
  · refine r_p (pc' := 24) (p_istore_n (k := 2) (lv' := [(2, vi x3), (0, vr a0), (1, vi a1)]) (by decide +kernel) (Nat.le_of_ble_eq_true rfl) rfl) ?_
    refine r_p (pc' := 25) (p_iload_n 0 (k := 2) (by decide +kernel) rfl) ?_
    refine r_ifne (off := 7) (tgt := 32) (by decide +kernel) (by decide) (fun h8 => ?_) (fun h8 => ?_)
    · refine r_p (pc' := 29) (p_iconst (n := 0) (v := 0) (by decide +kernel) rfl) ?_
      refine r_p (pc' := 47) (p_goto (off := 18) (tgt := 47) (by decide +kernel) (by decide)) ?_
      exact r_iret rfl rfl _ rfl rfl (by decide +kernel)
    · refine r_p (pc' := 35) (p_ldc2 (i := 311) (v := 10000) (by decide +kernel) (tblG_of 1976 (by decide +kernel) (by decide +kernel))) ?_
      refine r_p (pc' := 36) (p_aload_n 1 (k := 0) (by decide +kernel) rfl) ?_
      refine r_p (pc' := 37) (p_iload_n 2 (k := 1) (by decide +kernel) rfl) ?_
      refine r_p (pc' := 38) (p_iconst (n := 3) (v := 3) (by decide +kernel) rfl) ?_
      refine r_callVI mvX12_65 (ctX12_of a0 a1 3) (rcX12_of a0 a1 3) ⟨_, _, rfl⟩ (as := [vi a1, vi 3]) (st := [vl 10000]) rfl rfl (by decide +kernel) rfl (Nat.le_of_ble_eq_true rfl) (Nat.le_of_ble_eq_true rfl) fun v9 s => ?_
      refine r_p (pc' := 42) (p_i2l (by decide +kernel)) ?_
      refine r_p (pc' := 43) (p_lmul (by decide +kernel)) ?_
      refine r_p (pc' := 44) (p_iload_n 0 (k := 2) (by decide +kernel) rfl) ?_
      refine r_p (pc' := 45) (p_i2l (by decide +kernel)) ?_
      refine r_nzL (fun h10 => ?_)
      refine r_p (pc' := 46) (p_ldiv (by decide +kernel) h10) ?_
      refine r_p (pc' := 47) (p_l2i (by decide +kernel)) ?_
      exact r_iret rfl rfl _ rfl rfl (by decide +kernel)
  · refine r_ifeq (off := 7) (tgt := 12) (by decide +kernel) (by decide) (fun h2 => ?_) (fun h2 => ?_)
    · refine r_p (pc' := 13) (p_aload_n 0 (k := 0) (by decide +kernel) rfl) ?_
      refine r_p (pc' := 14) (p_aload_n 0 (k := 0) (by decide +kernel) rfl) ?_
      refine r_p (pc' := 15) (p_iload_n 1 (k := 1) (by decide +kernel) rfl) ?_
      refine r_p (pc' := 17) (p_bipush (n := 6) (v := 6) (by decide +kernel) (by decide +kernel)) ?_
      refine r_callVI mvX12_65 (ctX12_of a0 a1 6) (rcX12_of a0 a1 6) ⟨_, _, rfl⟩ (as := [vi a1, vi 6]) (st := [vr a0]) rfl rfl (by decide +kernel) rfl (Nat.le_of_ble_eq_true rfl) (Nat.le_of_ble_eq_true rfl) fun v6 s => ?_
      refine r_callVI mvX12_307 (ctX12_answered a0 v6) (rcX12_answered a0 v6) ⟨_, _, rfl⟩ (as := [vi v6]) (st := []) rfl rfl (by decide +kernel) rfl (Nat.le_of_ble_eq_true rfl) (Nat.le_of_ble_eq_true rfl) fun v7 s => ?_
      exact hj5 v7 _
    · refine r_p (pc' := 9) (p_iconst (n := 0) (v := 0) (by decide +kernel) rfl) ?_
      refine r_p (pc' := 23) (p_goto (off := 14) (tgt := 23) (by decide +kernel) (by decide)) ?_
      exact hj5 0 _
def aX12_part : StA := (RX12, cX12_part, 3, some .int, yX12_part, 12, [])
theorem mvX12_265 : MV RX12 265 aX12_throwsIf 2 := ⟨tblG_of 1949 (by decide +kernel) (by decide +kernel), tblG_of 1951 (by decide +kernel) (by decide +kernel), tblG_of 87 (by decide +kernel) (by decide +kernel), tblG_of 157 (by decide +kernel) (by decide +kernel), tblG_of 1952 (by decide +kernel) (by decide +kernel), rfl, ⟨by decide, by decide⟩, by decide +kernel, by decide⟩
theorem mvX12_313 : MV RX12 313 aX12_noPart 1 := ⟨tblG_of 1961 (by decide +kernel) (by decide +kernel), tblG_of 1963 (by decide +kernel) (by decide +kernel), tblG_of 88 (by decide +kernel) (by decide +kernel), tblG_of 157 (by decide +kernel) (by decide +kernel), tblG_of 1964 (by decide +kernel) (by decide +kernel), rfl, ⟨by decide, by decide⟩, by decide +kernel, by decide⟩
theorem mvX12_316 : MV RX12 316 aX12_shareOf 1 := ⟨tblG_of 1968 (by decide +kernel) (by decide +kernel), tblG_of 1970 (by decide +kernel) (by decide +kernel), tblG_of 89 (by decide +kernel) (by decide +kernel), tblG_of 157 (by decide +kernel) (by decide +kernel), tblG_of 1971 (by decide +kernel) (by decide +kernel), rfl, ⟨by decide, by decide⟩, by decide +kernel, by decide⟩
noncomputable def mX12_part (a0 : Nat) (a1 : Int32) (a2 : Int32) : MM Int32 := onC 11 a0 (
  mbnd (pI 11 0 a0 0) fun _ =>
  mbnd (mX12_noPart a0 a1) fun (v1 : Int32) =>
  mbnd (mX12_throwsIf a0 v1 1) fun (v2 : Int32) =>
  if v2 = 0 then (
    mbnd (mX12_in a2 0 8) fun (v4 : Int32) =>
    mbnd (α := Int32) (
      if v4 = 0 then (
        mret 1
      ) else (
        mret 0
      )
    ) fun (x6 : Int32) =>
    mbnd (mX12_throwsIf a0 x6 2) fun (v9 : Int32) =>
    if v9 = 0 then (
      if a2 = 8 then (
        mbnd (mX12_shareOf a0 a1) fun (v12 : Int32) =>
        mret v12
      ) else (
        mbnd (mX12_of a0 a1 a2) fun (v13 : Int32) =>
        mret v13
      )
    ) else (
      mret 0
    )
  ) else (
    mret 0
  )
  )
theorem rcX12_part (a0 : Nat) (a1 : Int32) (a2 : Int32) : Rcv 11 a0 (mX12_part a0 a1 a2) := fun s r h => ⟨(onC_some h).1, (onC_some h).2.1⟩
set_option maxHeartbeats 4000000 in
set_option maxRecDepth 100000 in
theorem ctX12_part (a0 : Nat) (a1 : Int32) (a2 : Int32) : Ct aX12_part [vr a0, vi a1, vi a2] (mX12_part a0 a1 a2) rI := by
  unfold mX12_part
  refine ct_onC (ct_intro (by decide +kernel) rfl (Nat.le_of_ble_eq_true rfl) fun Y s => ?_)
  refine r_sub (lv' := [(0, vr a0), (1, vi a1), (2, vi a2)]) [0, 1, 2] rfl ?_
  refine r_p (pc' := 1) (p_aload_n 0 (k := 0) (by decide +kernel) rfl) ?_
  refine r_p (pc' := 2) (p_iconst (n := 0) (v := 0) (by decide +kernel) rfl) ?_
  refine r_pI fpX12_3_11 (fun h => by cases h) (by decide +kernel) fun s => ?_
  refine r_p (pc' := 6) (p_aload_n 0 (k := 0) (by decide +kernel) rfl) ?_
  refine r_p (pc' := 7) (p_aload_n 0 (k := 0) (by decide +kernel) rfl) ?_
  refine r_p (pc' := 8) (p_iload_n 1 (k := 1) (by decide +kernel) rfl) ?_
  refine r_callVI mvX12_313 (ctX12_noPart a0 a1) (rcX12_noPart a0 a1) ⟨_, _, rfl⟩ (as := [vi a1]) (st := [vr a0]) rfl rfl (by decide +kernel) rfl (Nat.le_of_ble_eq_true rfl) (Nat.le_of_ble_eq_true rfl) fun v1 s => ?_
  refine r_p (pc' := 12) (p_iconst (n := 1) (v := 1) (by decide +kernel) rfl) ?_
  refine r_callVI mvX12_265 (ctX12_throwsIf a0 v1 1) (rcX12_throwsIf a0 v1 1) ⟨_, _, rfl⟩ (as := [vi v1, vi 1]) (st := []) rfl rfl (by decide +kernel) rfl (Nat.le_of_ble_eq_true rfl) (Nat.le_of_ble_eq_true rfl) fun v2 s => ?_
  refine r_ifne (off := 26) (tgt := 41) (by decide +kernel) (by decide) (fun h3 => ?_) (fun h3 => ?_)
  · refine r_p (pc' := 19) (p_aload_n 0 (k := 0) (by decide +kernel) rfl) ?_
    refine r_p (pc' := 20) (p_iload_n 2 (k := 2) (by decide +kernel) rfl) ?_
    refine r_p (pc' := 21) (p_iconst (n := 0) (v := 0) (by decide +kernel) rfl) ?_
    refine r_p (pc' := 23) (p_bipush (n := 8) (v := 8) (by decide +kernel) (by decide +kernel)) ?_
    refine r_callSI msX12_72 (ctX12_in a2 0 8) (as := [vi a2, vi 0, vi 8]) (st := [vr a0]) rfl rfl (by decide +kernel) rfl (Nat.le_of_ble_eq_true rfl) (Nat.le_of_ble_eq_true rfl) fun v4 s => ?_
    refine r_join 34 (fun (x6 : Int32) => [(0, vr a0), (1, vi a1), (2, vi a2)]) (fun (x6 : Int32) => [vi x6, vr a0]) (fun x6 s => ?_) (fun K7 hj8 => ?_)
    · refine r_p (pc' := 35) (p_iconst (n := 2) (v := 2) (by decide +kernel) rfl) ?_
      refine r_callVI mvX12_265 (ctX12_throwsIf a0 x6 2) (rcX12_throwsIf a0 x6 2) ⟨_, _, rfl⟩ (as := [vi x6, vi 2]) (st := []) rfl rfl (by decide +kernel) rfl (Nat.le_of_ble_eq_true rfl) (Nat.le_of_ble_eq_true rfl) fun v9 s => ?_
      refine r_ifeq (off := 5) (tgt := 43) (by decide +kernel) (by decide) (fun h10 => ?_) (fun h10 => ?_)
      · refine r_p (pc' := 44) (p_iload_n 2 (k := 2) (by decide +kernel) rfl) ?_
        refine r_p (pc' := 46) (p_bipush (n := 8) (v := 8) (by decide +kernel) (by decide +kernel)) ?_
        refine r_icmpne (off := 11) (tgt := 57) (by decide +kernel) (by decide) (fun h11 => ?_) (fun h11 => ?_)
        · refine r_p (pc' := 50) (p_aload_n 0 (k := 0) (by decide +kernel) rfl) ?_
          refine r_p (pc' := 51) (p_iload_n 1 (k := 1) (by decide +kernel) rfl) ?_
          refine r_callVI mvX12_316 (ctX12_shareOf a0 a1) (rcX12_shareOf a0 a1) ⟨_, _, rfl⟩ (as := [vi a1]) (st := []) rfl rfl (by decide +kernel) rfl (Nat.le_of_ble_eq_true rfl) (Nat.le_of_ble_eq_true rfl) fun v12 s => ?_
          refine r_p (pc' := 63) (p_goto (off := 9) (tgt := 63) (by decide +kernel) (by decide)) ?_
          exact r_iret rfl rfl _ rfl rfl (by decide +kernel)
        · refine r_p (pc' := 58) (p_aload_n 0 (k := 0) (by decide +kernel) rfl) ?_
          refine r_p (pc' := 59) (p_iload_n 1 (k := 1) (by decide +kernel) rfl) ?_
          refine r_p (pc' := 60) (p_iload_n 2 (k := 2) (by decide +kernel) rfl) ?_
          refine r_callVI mvX12_65 (ctX12_of a0 a1 a2) (rcX12_of a0 a1 a2) ⟨_, _, rfl⟩ (as := [vi a1, vi a2]) (st := []) rfl rfl (by decide +kernel) rfl (Nat.le_of_ble_eq_true rfl) (Nat.le_of_ble_eq_true rfl) fun v13 s => ?_
          exact r_iret rfl rfl _ rfl rfl (by decide +kernel)
      · refine r_p (pc' := 42) (p_iconst (n := 0) (v := 0) (by decide +kernel) rfl) ?_
        exact r_iret rfl rfl _ rfl rfl (by decide +kernel)
    · refine r_ifne (off := 7) (tgt := 33) (by decide +kernel) (by decide) (fun h5 => ?_) (fun h5 => ?_)
      · refine r_p (pc' := 30) (p_iconst (n := 1) (v := 1) (by decide +kernel) rfl) ?_
        refine r_p (pc' := 34) (p_goto (off := 4) (tgt := 34) (by decide +kernel) (by decide)) ?_
        exact hj8 1 _
      · refine r_p (pc' := 34) (p_iconst (n := 0) (v := 0) (by decide +kernel) rfl) ?_
        exact hj8 0 _
  · refine r_p (pc' := 42) (p_iconst (n := 0) (v := 0) (by decide +kernel) rfl) ?_
    exact r_iret rfl rfl _ rfl rfl (by decide +kernel)
def aX12_tool : StA := (RX12, cX12_tool, 3, some .int, yX12_tool, 12, [])
theorem mvX12_319 : MV RX12 319 aX12_noTool 1 := ⟨tblG_of 1981 (by decide +kernel) (by decide +kernel), tblG_of 1983 (by decide +kernel) (by decide +kernel), tblG_of 91 (by decide +kernel) (by decide +kernel), tblG_of 157 (by decide +kernel) (by decide +kernel), tblG_of 1984 (by decide +kernel) (by decide +kernel), rfl, ⟨by decide, by decide⟩, by decide +kernel, by decide⟩
theorem mvX12_322 : MV RX12 322 aX12_sentence 1 := ⟨tblG_of 1985 (by decide +kernel) (by decide +kernel), tblG_of 1987 (by decide +kernel) (by decide +kernel), tblG_of 92 (by decide +kernel) (by decide +kernel), tblG_of 157 (by decide +kernel) (by decide +kernel), tblG_of 1988 (by decide +kernel) (by decide +kernel), rfl, ⟨by decide, by decide⟩, by decide +kernel, by decide⟩
noncomputable def mX12_tool (a0 : Nat) (a1 : Int32) (a2 : Int32) : MM Int32 := onC 11 a0 (
  mbnd (pI 11 0 a0 0) fun _ =>
  mbnd (mX12_noTool a0 a1) fun (v1 : Int32) =>
  mbnd (mX12_throwsIf a0 v1 1) fun (v2 : Int32) =>
  if v2 = 0 then (
    mbnd (mX12_in a2 0 5) fun (v4 : Int32) =>
    mbnd (α := Int32) (
      if v4 = 0 then (
        mret 1
      ) else (
        mret 0
      )
    ) fun (x6 : Int32) =>
    mbnd (mX12_throwsIf a0 x6 2) fun (v9 : Int32) =>
    if v9 = 0 then (
      if a2 = 3 then (
        mbnd (mX12_answered a0 a1) fun (v12 : Int32) =>
        mret v12
      ) else (
        if a2 = 4 then (
          mbnd (mX12_sentence a0 a1) fun (v14 : Int32) =>
          mret v14
        ) else (
          if a2 = 5 then (
            mbnd (mX12_inTool a0 a1 3) fun (v16 : Int32) =>
            mret v16
          ) else (
            mbnd (mX12_inTool a0 a1 a2) fun (v17 : Int32) =>
            mret v17
          )
        )
      )
    ) else (
      mret 0
    )
  ) else (
    mret 0
  )
  )
theorem rcX12_tool (a0 : Nat) (a1 : Int32) (a2 : Int32) : Rcv 11 a0 (mX12_tool a0 a1 a2) := fun s r h => ⟨(onC_some h).1, (onC_some h).2.1⟩
set_option maxHeartbeats 4000000 in
set_option maxRecDepth 100000 in
theorem ctX12_tool (a0 : Nat) (a1 : Int32) (a2 : Int32) : Ct aX12_tool [vr a0, vi a1, vi a2] (mX12_tool a0 a1 a2) rI := by
  unfold mX12_tool
  refine ct_onC (ct_intro (by decide +kernel) rfl (Nat.le_of_ble_eq_true rfl) fun Y s => ?_)
  refine r_sub (lv' := [(0, vr a0), (1, vi a1), (2, vi a2)]) [0, 1, 2] rfl ?_
  refine r_p (pc' := 1) (p_aload_n 0 (k := 0) (by decide +kernel) rfl) ?_
  refine r_p (pc' := 2) (p_iconst (n := 0) (v := 0) (by decide +kernel) rfl) ?_
  refine r_pI fpX12_3_11 (fun h => by cases h) (by decide +kernel) fun s => ?_
  refine r_p (pc' := 6) (p_aload_n 0 (k := 0) (by decide +kernel) rfl) ?_
  refine r_p (pc' := 7) (p_aload_n 0 (k := 0) (by decide +kernel) rfl) ?_
  refine r_p (pc' := 8) (p_iload_n 1 (k := 1) (by decide +kernel) rfl) ?_
  refine r_callVI mvX12_319 (ctX12_noTool a0 a1) (rcX12_noTool a0 a1) ⟨_, _, rfl⟩ (as := [vi a1]) (st := [vr a0]) rfl rfl (by decide +kernel) rfl (Nat.le_of_ble_eq_true rfl) (Nat.le_of_ble_eq_true rfl) fun v1 s => ?_
  refine r_p (pc' := 12) (p_iconst (n := 1) (v := 1) (by decide +kernel) rfl) ?_
  refine r_callVI mvX12_265 (ctX12_throwsIf a0 v1 1) (rcX12_throwsIf a0 v1 1) ⟨_, _, rfl⟩ (as := [vi v1, vi 1]) (st := []) rfl rfl (by decide +kernel) rfl (Nat.le_of_ble_eq_true rfl) (Nat.le_of_ble_eq_true rfl) fun v2 s => ?_
  refine r_ifne (off := 25) (tgt := 40) (by decide +kernel) (by decide) (fun h3 => ?_) (fun h3 => ?_)
  · refine r_p (pc' := 19) (p_aload_n 0 (k := 0) (by decide +kernel) rfl) ?_
    refine r_p (pc' := 20) (p_iload_n 2 (k := 2) (by decide +kernel) rfl) ?_
    refine r_p (pc' := 21) (p_iconst (n := 0) (v := 0) (by decide +kernel) rfl) ?_
    refine r_p (pc' := 22) (p_iconst (n := 5) (v := 5) (by decide +kernel) rfl) ?_
    refine r_callSI msX12_72 (ctX12_in a2 0 5) (as := [vi a2, vi 0, vi 5]) (st := [vr a0]) rfl rfl (by decide +kernel) rfl (Nat.le_of_ble_eq_true rfl) (Nat.le_of_ble_eq_true rfl) fun v4 s => ?_
    refine r_join 33 (fun (x6 : Int32) => [(0, vr a0), (1, vi a1), (2, vi a2)]) (fun (x6 : Int32) => [vi x6, vr a0]) (fun x6 s => ?_) (fun K7 hj8 => ?_)
    · refine r_p (pc' := 34) (p_iconst (n := 2) (v := 2) (by decide +kernel) rfl) ?_
      refine r_callVI mvX12_265 (ctX12_throwsIf a0 x6 2) (rcX12_throwsIf a0 x6 2) ⟨_, _, rfl⟩ (as := [vi x6, vi 2]) (st := []) rfl rfl (by decide +kernel) rfl (Nat.le_of_ble_eq_true rfl) (Nat.le_of_ble_eq_true rfl) fun v9 s => ?_
      refine r_ifeq (off := 5) (tgt := 42) (by decide +kernel) (by decide) (fun h10 => ?_) (fun h10 => ?_)
      · refine r_p (pc' := 43) (p_iload_n 2 (k := 2) (by decide +kernel) rfl) ?_
        refine r_tcase (fun h11 => ?_) (fun h11 => ?_)
        · refine r_tsin (tgt := 68) (lo := 3) (hi := 5) (dflt := 44) (offs := #[25, 31, 37]) (len := 25) (off := 25) (by decide +kernel) (by rw [h11]; decide) (by rw [h11]; decide) (by rw [h11]; rfl) (by decide) ?_
          refine r_p (pc' := 69) (p_aload_n 0 (k := 0) (by decide +kernel) rfl) ?_
          refine r_p (pc' := 70) (p_iload_n 1 (k := 1) (by decide +kernel) rfl) ?_
          refine r_callVI mvX12_307 (ctX12_answered a0 a1) (rcX12_answered a0 a1) ⟨_, _, rfl⟩ (as := [vi a1]) (st := []) rfl rfl (by decide +kernel) rfl (Nat.le_of_ble_eq_true rfl) (Nat.le_of_ble_eq_true rfl) fun v12 s => ?_
          exact r_iret rfl rfl _ rfl rfl (by decide +kernel)
        · refine r_tcase (fun h13 => ?_) (fun h13 => ?_)
          · refine r_tsin (tgt := 74) (lo := 3) (hi := 5) (dflt := 44) (offs := #[25, 31, 37]) (len := 25) (off := 31) (by decide +kernel) (by rw [h13]; decide) (by rw [h13]; decide) (by rw [h13]; rfl) (by decide) ?_
            refine r_p (pc' := 75) (p_aload_n 0 (k := 0) (by decide +kernel) rfl) ?_
            refine r_p (pc' := 76) (p_iload_n 1 (k := 1) (by decide +kernel) rfl) ?_
            refine r_callVI mvX12_322 (ctX12_sentence a0 a1) (rcX12_sentence a0 a1) ⟨_, _, rfl⟩ (as := [vi a1]) (st := []) rfl rfl (by decide +kernel) rfl (Nat.le_of_ble_eq_true rfl) (Nat.le_of_ble_eq_true rfl) fun v14 s => ?_
            exact r_iret rfl rfl _ rfl rfl (by decide +kernel)
          · refine r_tcase (fun h15 => ?_) (fun h15 => ?_)
            · refine r_tsin (tgt := 80) (lo := 3) (hi := 5) (dflt := 44) (offs := #[25, 31, 37]) (len := 25) (off := 37) (by decide +kernel) (by rw [h15]; decide) (by rw [h15]; decide) (by rw [h15]; rfl) (by decide) ?_
              refine r_p (pc' := 81) (p_aload_n 0 (k := 0) (by decide +kernel) rfl) ?_
              refine r_p (pc' := 82) (p_iload_n 1 (k := 1) (by decide +kernel) rfl) ?_
              refine r_p (pc' := 83) (p_iconst (n := 3) (v := 3) (by decide +kernel) rfl) ?_
              refine r_callVI mvX12_149 (ctX12_inTool a0 a1 3) (rcX12_inTool a0 a1 3) ⟨_, _, rfl⟩ (as := [vi a1, vi 3]) (st := []) rfl rfl (by decide +kernel) rfl (Nat.le_of_ble_eq_true rfl) (Nat.le_of_ble_eq_true rfl) fun v16 s => ?_
              exact r_iret rfl rfl _ rfl rfl (by decide +kernel)
            · have h11i := lv_neT (a := 3) h11 rfl
              have h13i := lv_neT (a := 4) h13 rfl
              have h15i := lv_neT (a := 5) h15 rfl
              refine r_tsout (tgt := 87) (lo := 3) (hi := 5) (dflt := 44) (offs := #[25, 31, 37]) (len := 25) (by decide +kernel) (by omega) (by decide) ?_
              refine r_p (pc' := 88) (p_aload_n 0 (k := 0) (by decide +kernel) rfl) ?_
              refine r_p (pc' := 89) (p_iload_n 1 (k := 1) (by decide +kernel) rfl) ?_
              refine r_p (pc' := 90) (p_iload_n 2 (k := 2) (by decide +kernel) rfl) ?_
              refine r_callVI mvX12_149 (ctX12_inTool a0 a1 a2) (rcX12_inTool a0 a1 a2) ⟨_, _, rfl⟩ (as := [vi a1, vi a2]) (st := []) rfl rfl (by decide +kernel) rfl (Nat.le_of_ble_eq_true rfl) (Nat.le_of_ble_eq_true rfl) fun v17 s => ?_
              exact r_iret rfl rfl _ rfl rfl (by decide +kernel)
      · refine r_p (pc' := 41) (p_iconst (n := 0) (v := 0) (by decide +kernel) rfl) ?_
        exact r_iret rfl rfl _ rfl rfl (by decide +kernel)
    · refine r_ifne (off := 7) (tgt := 32) (by decide +kernel) (by decide) (fun h5 => ?_) (fun h5 => ?_)
      · refine r_p (pc' := 29) (p_iconst (n := 1) (v := 1) (by decide +kernel) rfl) ?_
        refine r_p (pc' := 33) (p_goto (off := 4) (tgt := 33) (by decide +kernel) (by decide)) ?_
        exact hj8 1 _
      · refine r_p (pc' := 33) (p_iconst (n := 0) (v := 0) (by decide +kernel) rfl) ?_
        exact hj8 0 _
  · refine r_p (pc' := 41) (p_iconst (n := 0) (v := 0) (by decide +kernel) rfl) ?_
    exact r_iret rfl rfl _ rfl rfl (by decide +kernel)
def aX12_harmBy : StA := (RX12, cX12_harmBy, 4, some .int, yX12_harmBy, 9, [])
theorem mvX12_325 : MV RX12 325 aX12_deeds 0 := ⟨tblG_of 2001 (by decide +kernel) (by decide +kernel), tblG_of 2003 (by decide +kernel) (by decide +kernel), tblG_of 95 (by decide +kernel) (by decide +kernel), tblG_of 157 (by decide +kernel) (by decide +kernel), tblG_of 2004 (by decide +kernel) (by decide +kernel), rfl, ⟨by decide, by decide⟩, by decide +kernel, by decide⟩
theorem mvX12_328 : MV RX12 328 aX12_ofTruth 2 := ⟨tblG_of 2005 (by decide +kernel) (by decide +kernel), tblG_of 2007 (by decide +kernel) (by decide +kernel), tblG_of 96 (by decide +kernel) (by decide +kernel), tblG_of 157 (by decide +kernel) (by decide +kernel), tblG_of 2008 (by decide +kernel) (by decide +kernel), rfl, ⟨by decide, by decide⟩, by decide +kernel, by decide⟩
noncomputable def mX12_harmBy_L4 (a0 : Nat) (a1 : Int32) (x1 : Int32 × Int32) : MM ((Int32 × Int32) ⊕ (Int32)) :=
  mbnd (mX12_deeds a0) fun (v5 : Int32) =>
  if v5 ≤ x1.2 then (
    mret (.inr x1.1)
  ) else (
    mbnd (mX12_ofTruth a0 x1.2 2) fun (v7 : Int32) =>
    mbnd (α := Int32) (
      if v7 = a1 then (
        mbnd (mX12_ofTruth a0 x1.2 3) fun (v12 : Int32) =>
        mret v12
      ) else (
        mret 0
      )
    ) fun (x9 : Int32) =>
    mbnd (mret (x1.1 + x9)) fun (v13 : Int32) =>
    mret (.inl (v13, x1.2 + 1))
  )
noncomputable def mX12_harmBy (a0 : Nat) (a1 : Int32) : MM Int32 := onC 11 a0 (
  mbnd (loopM (mX12_harmBy_L4 a0 a1) (0, 0)) fun (e14 : Int32) =>
  mret e14
  )
theorem rcX12_harmBy (a0 : Nat) (a1 : Int32) : Rcv 11 a0 (mX12_harmBy a0 a1) := fun s r h => ⟨(onC_some h).1, (onC_some h).2.1⟩
set_option maxHeartbeats 4000000 in
set_option maxRecDepth 100000 in
theorem ctX12_harmBy (a0 : Nat) (a1 : Int32) : Ct aX12_harmBy [vr a0, vi a1] (mX12_harmBy a0 a1) rI := by
  unfold mX12_harmBy
  refine ct_onC (ct_intro (by decide +kernel) rfl (Nat.le_of_ble_eq_true rfl) fun Y s => ?_)
  refine r_sub (lv' := [(0, vr a0), (1, vi a1)]) [0, 1] rfl ?_
  refine r_p (pc' := 1) (p_iconst (n := 0) (v := 0) (by decide +kernel) rfl) ?_
  refine r_p (pc' := 2) (p_istore_n (k := 2) (lv' := [(2, vi 0), (0, vr a0), (1, vi a1)]) (by decide +kernel) (Nat.le_of_ble_eq_true rfl) rfl) ?_
  refine r_p (pc' := 3) (p_iconst (n := 0) (v := 0) (by decide +kernel) rfl) ?_
  refine r_p (pc' := 4) (p_istore_n (k := 3) (lv' := [(3, vi 0), (2, vi 0), (0, vr a0), (1, vi a1)]) (by decide +kernel) (Nat.le_of_ble_eq_true rfl) rfl) ?_
  refine r_sub (lv' := [(0, vr a0), (1, vi a1), (2, vi 0), (3, vi 0)]) [2, 3, 1, 0] rfl ?_
  refine r_loop2 (fun _ => 41) (fun (e14 : Int32) => [(2, vi e14)]) (fun (x1 : Int32 × Int32) => [(0, vr a0), (1, vi a1), (2, vi x1.1), (3, vi x1.2)]) (fun e14 s => ?_) (fun K2 hb3 he4 x1 s => ?_) (0, 0) _
  · refine r_p (pc' := 42) (p_iload_n 0 (k := 2) (by decide +kernel) rfl) ?_
    exact r_iret rfl rfl _ rfl rfl (by decide +kernel)
  · unfold mX12_harmBy_L4
    refine r_p (pc' := 5) (p_iload_n 3 (k := 3) (by decide +kernel) rfl) ?_
    refine r_p (pc' := 6) (p_aload_n 0 (k := 0) (by decide +kernel) rfl) ?_
    refine r_callVI mvX12_325 (ctX12_deeds a0) (rcX12_deeds a0) ⟨_, _, rfl⟩ (as := []) (st := [vi x1.2]) rfl rfl (by decide +kernel) rfl (Nat.le_of_ble_eq_true rfl) (Nat.le_of_ble_eq_true rfl) fun v5 s => ?_
    refine r_icmpge (off := 32) (tgt := 41) (by decide +kernel) (by decide) (fun h6 => ?_) (fun h6 => ?_)
    · refine r_sub (lv' := [(2, vi x1.1)]) [2] rfl ?_
      exact he4 x1.1 _
    · refine r_p (pc' := 13) (p_iload_n 2 (k := 2) (by decide +kernel) rfl) ?_
      refine r_p (pc' := 14) (p_aload_n 0 (k := 0) (by decide +kernel) rfl) ?_
      refine r_p (pc' := 15) (p_iload_n 3 (k := 3) (by decide +kernel) rfl) ?_
      refine r_p (pc' := 16) (p_iconst (n := 2) (v := 2) (by decide +kernel) rfl) ?_
      refine r_callVI mvX12_328 (ctX12_ofTruth a0 x1.2 2) (rcX12_ofTruth a0 x1.2 2) ⟨_, _, rfl⟩ (as := [vi x1.2, vi 2]) (st := [vi x1.1]) rfl rfl (by decide +kernel) rfl (Nat.le_of_ble_eq_true rfl) (Nat.le_of_ble_eq_true rfl) fun v7 s => ?_
      refine r_p (pc' := 20) (p_iload_n 1 (k := 1) (by decide +kernel) rfl) ?_
      refine r_join 33 (fun (x9 : Int32) => [(0, vr a0), (1, vi a1), (3, vi x1.2)]) (fun (x9 : Int32) => [vi x9, vi x1.1]) (fun x9 s => ?_) (fun K10 hj11 => ?_)
      · refine r_p (pc' := 34) (p_iadd (by decide +kernel)) ?_
        refine r_letI fun v13 => ?_
        refine r_p (pc' := 35) (p_istore_n (k := 2) (lv' := [(2, vi v13), (0, vr a0), (1, vi a1), (3, vi x1.2)]) (by decide +kernel) (Nat.le_of_ble_eq_true rfl) rfl) ?_
        refine r_p (pc' := 38) (p_iinc 3 (i := 3) (n := 1) (x := x1.2) (v := x1.2 + 1) (lv' := [(3, vi (x1.2 + 1)), (2, vi v13), (0, vr a0), (1, vi a1)]) (by decide +kernel) rfl rfl (Nat.le_of_ble_eq_true rfl) rfl) ?_
        refine r_p (pc' := 4) (p_goto (off := -34) (tgt := 4) (by decide +kernel) (by decide)) ?_
        refine r_sub (lv' := [(0, vr a0), (1, vi a1), (2, vi v13), (3, vi (x1.2 + 1))]) [2, 3, 1, 0] rfl ?_
        exact hb3 (v13, x1.2 + 1) _
      · refine r_icmpne (off := 12) (tgt := 32) (by decide +kernel) (by decide) (fun h8 => ?_) (fun h8 => ?_)
        · refine r_p (pc' := 24) (p_aload_n 0 (k := 0) (by decide +kernel) rfl) ?_
          refine r_p (pc' := 25) (p_iload_n 3 (k := 3) (by decide +kernel) rfl) ?_
          refine r_p (pc' := 26) (p_iconst (n := 3) (v := 3) (by decide +kernel) rfl) ?_
          refine r_callVI mvX12_328 (ctX12_ofTruth a0 x1.2 3) (rcX12_ofTruth a0 x1.2 3) ⟨_, _, rfl⟩ (as := [vi x1.2, vi 3]) (st := [vi x1.1]) rfl rfl (by decide +kernel) rfl (Nat.le_of_ble_eq_true rfl) (Nat.le_of_ble_eq_true rfl) fun v12 s => ?_
          refine r_p (pc' := 33) (p_goto (off := 4) (tgt := 33) (by decide +kernel) (by decide)) ?_
          refine r_sub (lv' := [(0, vr a0), (1, vi a1), (3, vi x1.2)]) [0, 1, 3] rfl ?_
          exact hj11 v12 _
        · refine r_p (pc' := 33) (p_iconst (n := 0) (v := 0) (by decide +kernel) rfl) ?_
          refine r_sub (lv' := [(0, vr a0), (1, vi a1), (3, vi x1.2)]) [0, 1, 3] rfl ?_
          exact hj11 0 _
def aX12_master : StA := (RX12, cX12_master, 3, some .int, yX12_master, 10, [])
theorem mvX12_331 : MV RX12 331 aX12_noMaster 1 := ⟨tblG_of 1993 (by decide +kernel) (by decide +kernel), tblG_of 1995 (by decide +kernel) (by decide +kernel), tblG_of 93 (by decide +kernel) (by decide +kernel), tblG_of 157 (by decide +kernel) (by decide +kernel), tblG_of 1996 (by decide +kernel) (by decide +kernel), rfl, ⟨by decide, by decide⟩, by decide +kernel, by decide⟩
theorem mvX12_334 : MV RX12 334 aX12_harmBy 1 := ⟨tblG_of 1997 (by decide +kernel) (by decide +kernel), tblG_of 1999 (by decide +kernel) (by decide +kernel), tblG_of 94 (by decide +kernel) (by decide +kernel), tblG_of 157 (by decide +kernel) (by decide +kernel), tblG_of 2000 (by decide +kernel) (by decide +kernel), rfl, ⟨by decide, by decide⟩, by decide +kernel, by decide⟩
noncomputable def mX12_master (a0 : Nat) (a1 : Int32) (a2 : Int32) : MM Int32 := onC 11 a0 (
  mbnd (pI 11 0 a0 0) fun _ =>
  mbnd (mX12_noMaster a0 a1) fun (v1 : Int32) =>
  mbnd (mX12_throwsIf a0 v1 1) fun (v2 : Int32) =>
  if v2 = 0 then (
    if a2 = 0 then (
      mbnd (gR 11 1 a0) fun (v5 : Nat) =>
      mbnd (ldI 0 v5 (165 + a1)) fun (v6 : Int32) =>
      mret v6
    ) else (
      mbnd (mX12_harmBy a0 a1) fun (v7 : Int32) =>
      mret v7
    )
  ) else (
    mret 0
  )
  )
theorem rcX12_master (a0 : Nat) (a1 : Int32) (a2 : Int32) : Rcv 11 a0 (mX12_master a0 a1 a2) := fun s r h => ⟨(onC_some h).1, (onC_some h).2.1⟩
set_option maxHeartbeats 4000000 in
set_option maxRecDepth 100000 in
theorem ctX12_master (a0 : Nat) (a1 : Int32) (a2 : Int32) : Ct aX12_master [vr a0, vi a1, vi a2] (mX12_master a0 a1 a2) rI := by
  unfold mX12_master
  refine ct_onC (ct_intro (by decide +kernel) rfl (Nat.le_of_ble_eq_true rfl) fun Y s => ?_)
  refine r_sub (lv' := [(0, vr a0), (1, vi a1), (2, vi a2)]) [0, 1, 2] rfl ?_
  refine r_p (pc' := 1) (p_aload_n 0 (k := 0) (by decide +kernel) rfl) ?_
  refine r_p (pc' := 2) (p_iconst (n := 0) (v := 0) (by decide +kernel) rfl) ?_
  refine r_pI fpX12_3_11 (fun h => by cases h) (by decide +kernel) fun s => ?_
  refine r_p (pc' := 6) (p_aload_n 0 (k := 0) (by decide +kernel) rfl) ?_
  refine r_p (pc' := 7) (p_aload_n 0 (k := 0) (by decide +kernel) rfl) ?_
  refine r_p (pc' := 8) (p_iload_n 1 (k := 1) (by decide +kernel) rfl) ?_
  refine r_callVI mvX12_331 (ctX12_noMaster a0 a1) (rcX12_noMaster a0 a1) ⟨_, _, rfl⟩ (as := [vi a1]) (st := [vr a0]) rfl rfl (by decide +kernel) rfl (Nat.le_of_ble_eq_true rfl) (Nat.le_of_ble_eq_true rfl) fun v1 s => ?_
  refine r_p (pc' := 12) (p_iconst (n := 1) (v := 1) (by decide +kernel) rfl) ?_
  refine r_callVI mvX12_265 (ctX12_throwsIf a0 v1 1) (rcX12_throwsIf a0 v1 1) ⟨_, _, rfl⟩ (as := [vi v1, vi 1]) (st := []) rfl rfl (by decide +kernel) rfl (Nat.le_of_ble_eq_true rfl) (Nat.le_of_ble_eq_true rfl) fun v2 s => ?_
  refine r_ifeq (off := 5) (tgt := 20) (by decide +kernel) (by decide) (fun h3 => ?_) (fun h3 => ?_)
  · refine r_p (pc' := 21) (p_iload_n 2 (k := 2) (by decide +kernel) rfl) ?_
    refine r_ifeq (off := 11) (tgt := 32) (by decide +kernel) (by decide) (fun h4 => ?_) (fun h4 => ?_)
    · refine r_p (pc' := 33) (p_aload_n 0 (k := 0) (by decide +kernel) rfl) ?_
      refine r_gR flX12_13_11 (by decide +kernel) fun v5 => ?_
      refine r_p (pc' := 39) (p_sipush (n := 165) (v := 165) (by decide +kernel) (by decide +kernel)) ?_
      refine r_p (pc' := 40) (p_iload_n 1 (k := 1) (by decide +kernel) rfl) ?_
      refine r_p (pc' := 41) (p_iadd (by decide +kernel)) ?_
      refine r_ldI0 (by decide +kernel) fun v6 => ?_
      exact r_iret rfl rfl _ rfl rfl (by decide +kernel)
    · refine r_p (pc' := 25) (p_aload_n 0 (k := 0) (by decide +kernel) rfl) ?_
      refine r_p (pc' := 26) (p_iload_n 1 (k := 1) (by decide +kernel) rfl) ?_
      refine r_callVI mvX12_334 (ctX12_harmBy a0 a1) (rcX12_harmBy a0 a1) ⟨_, _, rfl⟩ (as := [vi a1]) (st := []) rfl rfl (by decide +kernel) rfl (Nat.le_of_ble_eq_true rfl) (Nat.le_of_ble_eq_true rfl) fun v7 s => ?_
      refine r_p (pc' := 42) (p_goto (off := 13) (tgt := 42) (by decide +kernel) (by decide)) ?_
      exact r_iret rfl rfl _ rfl rfl (by decide +kernel)
  · refine r_p (pc' := 19) (p_iconst (n := 0) (v := 0) (by decide +kernel) rfl) ?_
    exact r_iret rfl rfl _ rfl rfl (by decide +kernel)
def aX12_rule : StA := (RX12, cX12_rule, 3, some .int, yX12_rule, 13, [])
noncomputable def mX12_rule (a0 : Nat) (a1 : Int32) (a2 : Int32) : MM Int32 := onC 11 a0 (
  mbnd (pI 11 0 a0 0) fun _ =>
  mbnd (mX12_noPart a0 a1) fun (v1 : Int32) =>
  mbnd (mX12_throwsIf a0 v1 1) fun (v2 : Int32) =>
  if v2 = 0 then (
    mbnd (mX12_in a2 0 3) fun (v4 : Int32) =>
    mbnd (α := Int32) (
      if v4 = 0 then (
        mret 1
      ) else (
        mret 0
      )
    ) fun (x6 : Int32) =>
    mbnd (mX12_throwsIf a0 x6 2) fun (v9 : Int32) =>
    if v9 = 0 then (
      mbnd (mX12_ofNoDeed a0) fun _ =>
      mbnd (mX12_says a0 a2 a1) fun (v11 : Int32) =>
      mret v11
    ) else (
      mret 0
    )
  ) else (
    mret 0
  )
  )
theorem rcX12_rule (a0 : Nat) (a1 : Int32) (a2 : Int32) : Rcv 11 a0 (mX12_rule a0 a1 a2) := fun s r h => ⟨(onC_some h).1, (onC_some h).2.1⟩
set_option maxHeartbeats 4000000 in
set_option maxRecDepth 100000 in
theorem ctX12_rule (a0 : Nat) (a1 : Int32) (a2 : Int32) : Ct aX12_rule [vr a0, vi a1, vi a2] (mX12_rule a0 a1 a2) rI := by
  unfold mX12_rule
  refine ct_onC (ct_intro (by decide +kernel) rfl (Nat.le_of_ble_eq_true rfl) fun Y s => ?_)
  refine r_sub (lv' := [(0, vr a0), (1, vi a1), (2, vi a2)]) [0, 1, 2] rfl ?_
  refine r_p (pc' := 1) (p_aload_n 0 (k := 0) (by decide +kernel) rfl) ?_
  refine r_p (pc' := 2) (p_iconst (n := 0) (v := 0) (by decide +kernel) rfl) ?_
  refine r_pI fpX12_3_11 (fun h => by cases h) (by decide +kernel) fun s => ?_
  refine r_p (pc' := 6) (p_aload_n 0 (k := 0) (by decide +kernel) rfl) ?_
  refine r_p (pc' := 7) (p_aload_n 0 (k := 0) (by decide +kernel) rfl) ?_
  refine r_p (pc' := 8) (p_iload_n 1 (k := 1) (by decide +kernel) rfl) ?_
  refine r_callVI mvX12_313 (ctX12_noPart a0 a1) (rcX12_noPart a0 a1) ⟨_, _, rfl⟩ (as := [vi a1]) (st := [vr a0]) rfl rfl (by decide +kernel) rfl (Nat.le_of_ble_eq_true rfl) (Nat.le_of_ble_eq_true rfl) fun v1 s => ?_
  refine r_p (pc' := 12) (p_iconst (n := 1) (v := 1) (by decide +kernel) rfl) ?_
  refine r_callVI mvX12_265 (ctX12_throwsIf a0 v1 1) (rcX12_throwsIf a0 v1 1) ⟨_, _, rfl⟩ (as := [vi v1, vi 1]) (st := []) rfl rfl (by decide +kernel) rfl (Nat.le_of_ble_eq_true rfl) (Nat.le_of_ble_eq_true rfl) fun v2 s => ?_
  refine r_ifne (off := 25) (tgt := 40) (by decide +kernel) (by decide) (fun h3 => ?_) (fun h3 => ?_)
  · refine r_p (pc' := 19) (p_aload_n 0 (k := 0) (by decide +kernel) rfl) ?_
    refine r_p (pc' := 20) (p_iload_n 2 (k := 2) (by decide +kernel) rfl) ?_
    refine r_p (pc' := 21) (p_iconst (n := 0) (v := 0) (by decide +kernel) rfl) ?_
    refine r_p (pc' := 22) (p_iconst (n := 3) (v := 3) (by decide +kernel) rfl) ?_
    refine r_callSI msX12_72 (ctX12_in a2 0 3) (as := [vi a2, vi 0, vi 3]) (st := [vr a0]) rfl rfl (by decide +kernel) rfl (Nat.le_of_ble_eq_true rfl) (Nat.le_of_ble_eq_true rfl) fun v4 s => ?_
    refine r_join 33 (fun (x6 : Int32) => [(0, vr a0), (1, vi a1), (2, vi a2)]) (fun (x6 : Int32) => [vi x6, vr a0]) (fun x6 s => ?_) (fun K7 hj8 => ?_)
    · refine r_p (pc' := 34) (p_iconst (n := 2) (v := 2) (by decide +kernel) rfl) ?_
      refine r_callVI mvX12_265 (ctX12_throwsIf a0 x6 2) (rcX12_throwsIf a0 x6 2) ⟨_, _, rfl⟩ (as := [vi x6, vi 2]) (st := []) rfl rfl (by decide +kernel) rfl (Nat.le_of_ble_eq_true rfl) (Nat.le_of_ble_eq_true rfl) fun v9 s => ?_
      refine r_ifeq (off := 5) (tgt := 42) (by decide +kernel) (by decide) (fun h10 => ?_) (fun h10 => ?_)
      · refine r_p (pc' := 43) (p_aload_n 0 (k := 0) (by decide +kernel) rfl) ?_
        refine r_callVU mvX12_304 (ctX12_ofNoDeed a0) (rcX12_ofNoDeed a0) ⟨_, _, rfl⟩ (as := []) (st := []) rfl rfl (by decide +kernel) rfl (Nat.le_of_ble_eq_true rfl) (Nat.le_of_ble_eq_true rfl) fun s => ?_
        refine r_p (pc' := 47) (p_aload_n 0 (k := 0) (by decide +kernel) rfl) ?_
        refine r_p (pc' := 48) (p_iload_n 2 (k := 2) (by decide +kernel) rfl) ?_
        refine r_p (pc' := 49) (p_iload_n 1 (k := 1) (by decide +kernel) rfl) ?_
        refine r_callVI mvX12_301 (ctX12_says a0 a2 a1) (rcX12_says a0 a2 a1) ⟨_, _, rfl⟩ (as := [vi a2, vi a1]) (st := []) rfl rfl (by decide +kernel) rfl (Nat.le_of_ble_eq_true rfl) (Nat.le_of_ble_eq_true rfl) fun v11 s => ?_
        exact r_iret rfl rfl _ rfl rfl (by decide +kernel)
      · refine r_p (pc' := 41) (p_iconst (n := 0) (v := 0) (by decide +kernel) rfl) ?_
        exact r_iret rfl rfl _ rfl rfl (by decide +kernel)
    · refine r_ifne (off := 7) (tgt := 32) (by decide +kernel) (by decide) (fun h5 => ?_) (fun h5 => ?_)
      · refine r_p (pc' := 29) (p_iconst (n := 1) (v := 1) (by decide +kernel) rfl) ?_
        refine r_p (pc' := 33) (p_goto (off := 4) (tgt := 33) (by decide +kernel) (by decide)) ?_
        exact hj8 1 _
      · refine r_p (pc' := 33) (p_iconst (n := 0) (v := 0) (by decide +kernel) rfl) ?_
        exact hj8 0 _
  · refine r_p (pc' := 41) (p_iconst (n := 0) (v := 0) (by decide +kernel) rfl) ?_
    exact r_iret rfl rfl _ rfl rfl (by decide +kernel)
def aX12_tells : StA := (RX12, cX12_tells, 6, none, yX12_tells, 9, [])
noncomputable def mX12_tells_L10 (a0 : Nat) (x2 : Int32) : MM ((Int32) ⊕ (Unit)) :=
  if x2 < 5 then (
    mret (.inr ())
  ) else (
    mbnd (gR 11 1 a0) fun (v7 : Nat) =>
    mbnd (gR 11 1 a0) fun (v8 : Nat) =>
    mbnd (ldI 0 v8 ((771 + x2) - 5)) fun (v9 : Int32) =>
    mbnd (stI 0 v7 (771 + x2) v9) fun _ =>
    mret (.inl (x2 + (-1)))
  )
noncomputable def mX12_tells (a0 : Nat) (a1 : Int32) (a2 : Int32) (a3 : Int32) (a4 : Int32) : MM Unit := onC 11 a0 (
  if a2 = 0 then (
    mret ()
  ) else (
    mbnd (loopM (mX12_tells_L10 a0) 299) fun (e10 : Unit) =>
    mbnd (gR 11 1 a0) fun (v11 : Nat) =>
    mbnd (mX12_today a0) fun (v12 : Int32) =>
    mbnd (stI 0 v11 771 v12) fun _ =>
    mbnd (gR 11 1 a0) fun (v13 : Nat) =>
    mbnd (stI 0 v13 772 a1) fun _ =>
    mbnd (gR 11 1 a0) fun (v14 : Nat) =>
    mbnd (stI 0 v14 773 a2) fun _ =>
    mbnd (gR 11 1 a0) fun (v15 : Nat) =>
    mbnd (stI 0 v15 774 a3) fun _ =>
    mbnd (gR 11 1 a0) fun (v16 : Nat) =>
    mbnd (stI 0 v16 775 a4) fun _ =>
    mbnd (gR 11 1 a0) fun (v17 : Nat) =>
    mbnd (gR 11 1 a0) fun (v18 : Nat) =>
    mbnd (ldI 0 v18 10) fun (v19 : Int32) =>
    mbnd (stI 0 v17 10 (imin 60 (v19 + 1))) fun _ =>
    mret ()
  )
  )
theorem rcX12_tells (a0 : Nat) (a1 : Int32) (a2 : Int32) (a3 : Int32) (a4 : Int32) : Rcv 11 a0 (mX12_tells a0 a1 a2 a3 a4) := fun s r h => ⟨(onC_some h).1, (onC_some h).2.1⟩
set_option maxHeartbeats 4000000 in
set_option maxRecDepth 100000 in
theorem ctX12_tells (a0 : Nat) (a1 : Int32) (a2 : Int32) (a3 : Int32) (a4 : Int32) : Ct aX12_tells [vr a0, vi a1, vi a2, vi a3, vi a4] (mX12_tells a0 a1 a2 a3 a4) rU := by
  unfold mX12_tells
  refine ct_onC (ct_intro (by decide +kernel) rfl (Nat.le_of_ble_eq_true rfl) fun Y s => ?_)
  refine r_sub (lv' := [(0, vr a0), (1, vi a1), (2, vi a2), (3, vi a3), (4, vi a4)]) [0, 1, 2, 3, 4] rfl ?_
  refine r_p (pc' := 1) (p_iload_n 2 (k := 2) (by decide +kernel) rfl) ?_
  refine r_ifne (off := 4) (tgt := 5) (by decide +kernel) (by decide) (fun h1 => ?_) (fun h1 => ?_)
  · exact r_vret (y9 := ()) rfl rfl rfl (by decide +kernel)
  · refine r_p (pc' := 8) (p_sipush (n := 299) (v := 299) (by decide +kernel) (by decide +kernel)) ?_
    refine r_p (pc' := 10) (p_istore (i := 5) (lv' := [(5, vi 299), (0, vr a0), (1, vi a1), (2, vi a2), (3, vi a3), (4, vi a4)]) (by decide +kernel) (Nat.le_of_ble_eq_true rfl) rfl) ?_
    refine r_sub (lv' := [(0, vr a0), (1, vi a1), (2, vi a2), (3, vi a3), (4, vi a4), (5, vi 299)]) [1, 2, 3, 4, 5, 0] rfl ?_
    refine r_loop2 (fun _ => 46) (fun (e10 : Unit) => [(0, vr a0), (1, vi a1), (2, vi a2), (3, vi a3), (4, vi a4)]) (fun (x2 : Int32) => [(0, vr a0), (1, vi a1), (2, vi a2), (3, vi a3), (4, vi a4), (5, vi x2)]) (fun e10 s => ?_) (fun K3 hb4 he5 x2 s => ?_) 299 _
    · refine r_p (pc' := 47) (p_aload_n 0 (k := 0) (by decide +kernel) rfl) ?_
      refine r_gR flX12_13_11 (by decide +kernel) fun v11 => ?_
      refine r_p (pc' := 53) (p_sipush (n := 771) (v := 771) (by decide +kernel) (by decide +kernel)) ?_
      refine r_p (pc' := 54) (p_aload_n 0 (k := 0) (by decide +kernel) rfl) ?_
      refine r_callVI mvX12_281 (ctX12_today a0) (rcX12_today a0) ⟨_, _, rfl⟩ (as := []) (st := [vi 771, vr v11]) rfl rfl (by decide +kernel) rfl (Nat.le_of_ble_eq_true rfl) (Nat.le_of_ble_eq_true rfl) fun v12 s => ?_
      refine r_stI0 (by decide +kernel) fun s => ?_
      refine r_p (pc' := 59) (p_aload_n 0 (k := 0) (by decide +kernel) rfl) ?_
      refine r_gR flX12_13_11 (by decide +kernel) fun v13 => ?_
      refine r_p (pc' := 65) (p_sipush (n := 772) (v := 772) (by decide +kernel) (by decide +kernel)) ?_
      refine r_p (pc' := 66) (p_iload_n 1 (k := 1) (by decide +kernel) rfl) ?_
      refine r_stI0 (by decide +kernel) fun s => ?_
      refine r_p (pc' := 68) (p_aload_n 0 (k := 0) (by decide +kernel) rfl) ?_
      refine r_gR flX12_13_11 (by decide +kernel) fun v14 => ?_
      refine r_p (pc' := 74) (p_sipush (n := 773) (v := 773) (by decide +kernel) (by decide +kernel)) ?_
      refine r_p (pc' := 75) (p_iload_n 2 (k := 2) (by decide +kernel) rfl) ?_
      refine r_stI0 (by decide +kernel) fun s => ?_
      refine r_p (pc' := 77) (p_aload_n 0 (k := 0) (by decide +kernel) rfl) ?_
      refine r_gR flX12_13_11 (by decide +kernel) fun v15 => ?_
      refine r_p (pc' := 83) (p_sipush (n := 774) (v := 774) (by decide +kernel) (by decide +kernel)) ?_
      refine r_p (pc' := 84) (p_iload_n 3 (k := 3) (by decide +kernel) rfl) ?_
      refine r_stI0 (by decide +kernel) fun s => ?_
      refine r_p (pc' := 86) (p_aload_n 0 (k := 0) (by decide +kernel) rfl) ?_
      refine r_gR flX12_13_11 (by decide +kernel) fun v16 => ?_
      refine r_p (pc' := 92) (p_sipush (n := 775) (v := 775) (by decide +kernel) (by decide +kernel)) ?_
      refine r_p (pc' := 94) (p_iload 4 (i := 4) (by decide +kernel) rfl) ?_
      refine r_stI0 (by decide +kernel) fun s => ?_
      refine r_p (pc' := 96) (p_aload_n 0 (k := 0) (by decide +kernel) rfl) ?_
      refine r_gR flX12_13_11 (by decide +kernel) fun v17 => ?_
      refine r_p (pc' := 101) (p_bipush (n := 10) (v := 10) (by decide +kernel) (by decide +kernel)) ?_
      refine r_p (pc' := 103) (p_bipush (n := 60) (v := 60) (by decide +kernel) (by decide +kernel)) ?_
      refine r_p (pc' := 104) (p_aload_n 0 (k := 0) (by decide +kernel) rfl) ?_
      refine r_gR flX12_13_11 (by decide +kernel) fun v18 => ?_
      refine r_p (pc' := 109) (p_bipush (n := 10) (v := 10) (by decide +kernel) (by decide +kernel)) ?_
      refine r_ldI0 (by decide +kernel) fun v19 => ?_
      refine r_p (pc' := 111) (p_iconst (n := 1) (v := 1) (by decide +kernel) rfl) ?_
      refine r_p (pc' := 112) (p_iadd (by decide +kernel)) ?_
      refine r_p (pc' := 115) (p_min (idx := 298) (tblG_of 2042 (by decide +kernel) (by decide +kernel)) (Nat.le_of_ble_eq_true rfl) (Nat.le_of_ble_eq_true rfl) (by decide +kernel)) ?_
      refine r_stI0 (by decide +kernel) fun s => ?_
      exact r_vret (y9 := ()) rfl rfl rfl (by decide +kernel)
    · unfold mX12_tells_L10
      refine r_p (pc' := 12) (p_iload 5 (i := 5) (by decide +kernel) rfl) ?_
      refine r_p (pc' := 13) (p_iconst (n := 5) (v := 5) (by decide +kernel) rfl) ?_
      refine r_icmplt (off := 33) (tgt := 46) (by decide +kernel) (by decide) (fun h6 => ?_) (fun h6 => ?_)
      · refine r_sub (lv' := [(0, vr a0), (1, vi a1), (2, vi a2), (3, vi a3), (4, vi a4)]) [0, 1, 2, 3, 4] rfl ?_
        exact he5 () _
      · refine r_p (pc' := 17) (p_aload_n 0 (k := 0) (by decide +kernel) rfl) ?_
        refine r_gR flX12_13_11 (by decide +kernel) fun v7 => ?_
        refine r_p (pc' := 23) (p_sipush (n := 771) (v := 771) (by decide +kernel) (by decide +kernel)) ?_
        refine r_p (pc' := 25) (p_iload 5 (i := 5) (by decide +kernel) rfl) ?_
        refine r_p (pc' := 26) (p_iadd (by decide +kernel)) ?_
        refine r_p (pc' := 27) (p_aload_n 0 (k := 0) (by decide +kernel) rfl) ?_
        refine r_gR flX12_13_11 (by decide +kernel) fun v8 => ?_
        refine r_p (pc' := 33) (p_sipush (n := 771) (v := 771) (by decide +kernel) (by decide +kernel)) ?_
        refine r_p (pc' := 35) (p_iload 5 (i := 5) (by decide +kernel) rfl) ?_
        refine r_p (pc' := 36) (p_iadd (by decide +kernel)) ?_
        refine r_p (pc' := 37) (p_iconst (n := 5) (v := 5) (by decide +kernel) rfl) ?_
        refine r_p (pc' := 38) (p_isub (by decide +kernel)) ?_
        refine r_ldI0 (by decide +kernel) fun v9 => ?_
        refine r_stI0 (by decide +kernel) fun s => ?_
        refine r_p (pc' := 43) (p_iinc 5 (i := 5) (n := -1) (x := x2) (v := x2 + (-1)) (lv' := [(5, vi (x2 + (-1))), (0, vr a0), (1, vi a1), (2, vi a2), (3, vi a3), (4, vi a4)]) (by decide +kernel) rfl rfl (Nat.le_of_ble_eq_true rfl) rfl) ?_
        refine r_p (pc' := 10) (p_goto (off := -33) (tgt := 10) (by decide +kernel) (by decide)) ?_
        refine r_sub (lv' := [(0, vr a0), (1, vi a1), (2, vi a2), (3, vi a3), (4, vi a4), (5, vi (x2 + (-1)))]) [1, 2, 3, 4, 5, 0] rfl ?_
        exact hb4 (x2 + (-1)) _
