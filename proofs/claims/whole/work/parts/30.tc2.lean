/-! PRINTED BY wip/whole/gen.py -/
def aX11_jury : StA := (RX11, cX11_jury, 6, some .boolean, yX11_jury, 11, [])
noncomputable def mX11_jury_L20 (a0 : Nat) (a1 : Int32) (v2 : Int32) (x3 : Int32 × Int32) : MM ((Int32 × Int32) ⊕ (Int32)) :=
  mbnd (gR 10 7 a0) fun (v7 : Nat) =>
  mbnd (gR 1 1 v7) fun (v8 : Nat) =>
  mbnd (gI 8 3 v8) fun (v9 : Int32) =>
  if v9 ≤ x3.2 then (
    mret (.inr x3.1)
  ) else (
    mbnd (mX11_inSet a1 x3.2) fun (v11 : Int32) =>
    mbnd (α := Int32) (
      if v11 = 0 then (
        mret x3.1
      ) else (
        mbnd (gR 10 7 a0) fun (v16 : Nat) =>
        mbnd (mX1_answered v16 x3.2) fun (v17 : Int32) =>
        mbnd (α := Int32) (
          if v2 ≤ v17 then (
            mret (-1)
          ) else (
            mret 1
          )
        ) fun (x19 : Int32) =>
        mbnd (mret (x3.1 + x19)) fun (v22 : Int32) =>
        mret v22
      )
    ) fun (x13 : Int32) =>
    mret (.inl (x13, x3.2 + 1))
  )
noncomputable def mX11_jury (a0 : Nat) (a1 : Int32) (a2 : Int32) : MM Int32 := onC 10 a0 (
  mbnd (mX11_needTool a0 a2) fun _ =>
  mbnd (gR 10 7 a0) fun (v1 : Nat) =>
  mbnd (mX1_answered v1 a2) fun (v2 : Int32) =>
  mbnd (loopM (mX11_jury_L20 a0 a1 v2) (0, 0)) fun (e23 : Int32) =>
  if e23 ≤ 0 then (
    mret 0
  ) else (
    mret 1
  )
  )
theorem rcX11_jury (a0 : Nat) (a1 : Int32) (a2 : Int32) : Rcv 10 a0 (mX11_jury a0 a1 a2) := fun s r h => ⟨(onC_some h).1, (onC_some h).2.1⟩
set_option maxHeartbeats 4000000 in
set_option maxRecDepth 100000 in
theorem ctX11_jury (a0 : Nat) (a1 : Int32) (a2 : Int32) : Ct aX11_jury [vr a0, vi a1, vi a2] (mX11_jury a0 a1 a2) rI := by
  unfold mX11_jury
  refine ct_onC (ct_intro (by decide +kernel) rfl (Nat.le_of_ble_eq_true rfl) fun Y s => ?_)
  refine r_sub (lv' := [(0, vr a0), (1, vi a1), (2, vi a2)]) [0, 1, 2] rfl ?_
  refine r_p (pc' := 1) (p_aload_n 0 (k := 0) (by decide +kernel) rfl) ?_
  refine r_p (pc' := 2) (p_iload_n 2 (k := 2) (by decide +kernel) rfl) ?_
  refine r_callVU mvX11_157 (ctX11_needTool a0 a2) (rcX11_needTool a0 a2) ⟨_, _, rfl⟩ (as := [vi a2]) (st := []) rfl rfl (by decide +kernel) rfl (Nat.le_of_ble_eq_true rfl) (Nat.le_of_ble_eq_true rfl) fun s => ?_
  refine r_p (pc' := 6) (p_aload_n 0 (k := 0) (by decide +kernel) rfl) ?_
  refine r_gR flX11_54_10 (by decide +kernel) fun v1 => ?_
  refine r_p (pc' := 10) (p_iload_n 2 (k := 2) (by decide +kernel) rfl) ?_
  refine r_callVI mvX11_163 (ctX1_answered v1 a2) (rcX1_answered v1 a2) ⟨_, _, rfl⟩ (as := [vi a2]) (st := []) rfl rfl (by decide +kernel) rfl (Nat.le_of_ble_eq_true rfl) (Nat.le_of_ble_eq_true rfl) fun v2 s => ?_
  refine r_p (pc' := 14) (p_istore_n (k := 3) (lv' := [(3, vi v2), (0, vr a0), (1, vi a1), (2, vi a2)]) (by decide +kernel) (Nat.le_of_ble_eq_true rfl) rfl) ?_
  refine r_p (pc' := 15) (p_iconst (n := 0) (v := 0) (by decide +kernel) rfl) ?_
  refine r_p (pc' := 17) (p_istore (i := 4) (lv' := [(4, vi 0), (3, vi v2), (0, vr a0), (1, vi a1), (2, vi a2)]) (by decide +kernel) (Nat.le_of_ble_eq_true rfl) rfl) ?_
  refine r_p (pc' := 18) (p_iconst (n := 0) (v := 0) (by decide +kernel) rfl) ?_
  refine r_p (pc' := 20) (p_istore (i := 5) (lv' := [(5, vi 0), (4, vi 0), (3, vi v2), (0, vr a0), (1, vi a1), (2, vi a2)]) (by decide +kernel) (Nat.le_of_ble_eq_true rfl) rfl) ?_
  refine r_sub (lv' := [(0, vr a0), (1, vi a1), (3, vi v2), (4, vi 0), (5, vi 0)]) [3, 4, 2, 1, 0] rfl ?_
  refine r_loop2 (fun _ => 73) (fun (e23 : Int32) => [(4, vi e23)]) (fun (x3 : Int32 × Int32) => [(0, vr a0), (1, vi a1), (3, vi v2), (4, vi x3.1), (5, vi x3.2)]) (fun e23 s => ?_) (fun K4 hb5 he6 x3 s => ?_) (0, 0) _
  · refine r_p (pc' := 75) (p_iload 0 (i := 4) (by decide +kernel) rfl) ?_
    refine r_ifle (off := 7) (tgt := 82) (by decide +kernel) (by decide) (fun h24 => ?_) (fun h24 => ?_)
    · refine r_p (pc' := 83) (p_iconst (n := 0) (v := 0) (by decide +kernel) rfl) ?_
      exact r_iret rfl rfl _ rfl rfl (by decide +kernel)
    · refine r_p (pc' := 79) (p_iconst (n := 1) (v := 1) (by decide +kernel) rfl) ?_
      refine r_p (pc' := 83) (p_goto (off := 4) (tgt := 83) (by decide +kernel) (by decide)) ?_
      exact r_iret rfl rfl _ rfl rfl (by decide +kernel)
  · unfold mX11_jury_L20
    refine r_p (pc' := 22) (p_iload 4 (i := 5) (by decide +kernel) rfl) ?_
    refine r_p (pc' := 23) (p_aload_n 0 (k := 0) (by decide +kernel) rfl) ?_
    refine r_gR flX11_54_10 (by decide +kernel) fun v7 => ?_
    refine r_gR flX11_160_1 (by decide +kernel) fun v8 => ?_
    refine r_gI flX11_293_8 (by decide +kernel) fun v9 => ?_
    refine r_icmpge (off := 41) (tgt := 73) (by decide +kernel) (by decide) (fun h10 => ?_) (fun h10 => ?_)
    · refine r_sub (lv' := [(4, vi x3.1)]) [3] rfl ?_
      exact he6 x3.1 _
    · refine r_p (pc' := 36) (p_iload_n 1 (k := 1) (by decide +kernel) rfl) ?_
      refine r_p (pc' := 38) (p_iload 4 (i := 5) (by decide +kernel) rfl) ?_
      refine r_callSI msX11_319 (ctX11_inSet a1 x3.2) (as := [vi a1, vi x3.2]) (st := []) rfl rfl (by decide +kernel) rfl (Nat.le_of_ble_eq_true rfl) (Nat.le_of_ble_eq_true rfl) fun v11 s => ?_
      refine r_join 67 (fun (x13 : Int32) => [(0, vr a0), (1, vi a1), (3, vi v2), (4, vi x13), (5, vi x3.2)]) (fun (x13 : Int32) => []) (fun x13 s => ?_) (fun K14 hj15 => ?_)
      · refine r_p (pc' := 70) (p_iinc 4 (i := 5) (n := 1) (x := x3.2) (v := x3.2 + 1) (lv' := [(5, vi (x3.2 + 1)), (0, vr a0), (1, vi a1), (3, vi v2), (4, vi x13)]) (by decide +kernel) rfl rfl (Nat.le_of_ble_eq_true rfl) rfl) ?_
        refine r_p (pc' := 20) (p_goto (off := -50) (tgt := 20) (by decide +kernel) (by decide)) ?_
        refine r_sub (lv' := [(0, vr a0), (1, vi a1), (3, vi v2), (4, vi x13), (5, vi (x3.2 + 1))]) [1, 2, 3, 4, 0] rfl ?_
        exact hb5 (x13, x3.2 + 1) _
      · refine r_ifeq (off := 26) (tgt := 67) (by decide +kernel) (by decide) (fun h12 => ?_) (fun h12 => ?_)
        · exact hj15 x3.1 _
        · refine r_p (pc' := 46) (p_iload 3 (i := 4) (by decide +kernel) rfl) ?_
          refine r_p (pc' := 47) (p_aload_n 0 (k := 0) (by decide +kernel) rfl) ?_
          refine r_gR flX11_54_10 (by decide +kernel) fun v16 => ?_
          refine r_p (pc' := 52) (p_iload 4 (i := 5) (by decide +kernel) rfl) ?_
          refine r_callVI mvX11_163 (ctX1_answered v16 x3.2) (rcX1_answered v16 x3.2) ⟨_, _, rfl⟩ (as := [vi x3.2]) (st := [vi x3.1]) rfl rfl (by decide +kernel) rfl (Nat.le_of_ble_eq_true rfl) (Nat.le_of_ble_eq_true rfl) fun v17 s => ?_
          refine r_p (pc' := 56) (p_iload_n 2 (k := 3) (by decide +kernel) rfl) ?_
          refine r_join 64 (fun (x19 : Int32) => [(0, vr a0), (1, vi a1), (3, vi v2), (5, vi x3.2)]) (fun (x19 : Int32) => [vi x19, vi x3.1]) (fun x19 s => ?_) (fun K20 hj21 => ?_)
          · refine r_p (pc' := 65) (p_iadd (by decide +kernel)) ?_
            refine r_letI fun v22 => ?_
            refine r_p (pc' := 67) (p_istore (i := 4) (lv' := [(4, vi v22), (0, vr a0), (1, vi a1), (3, vi v2), (5, vi x3.2)]) (by decide +kernel) (Nat.le_of_ble_eq_true rfl) rfl) ?_
            refine r_sub (lv' := [(0, vr a0), (1, vi a1), (3, vi v2), (4, vi v22), (5, vi x3.2)]) [1, 2, 3, 0, 4] rfl ?_
            exact hj15 v22 _
          · refine r_icmpge (off := 7) (tgt := 63) (by decide +kernel) (by decide) (fun h18 => ?_) (fun h18 => ?_)
            · refine r_p (pc' := 64) (p_iconst (n := -1) (v := -1) (by decide +kernel) rfl) ?_
              refine r_sub (lv' := [(0, vr a0), (1, vi a1), (3, vi v2), (5, vi x3.2)]) [0, 1, 2, 4] rfl ?_
              exact hj21 (-1) _
            · refine r_p (pc' := 60) (p_iconst (n := 1) (v := 1) (by decide +kernel) rfl) ?_
              refine r_p (pc' := 64) (p_goto (off := 4) (tgt := 64) (by decide +kernel) (by decide)) ?_
              refine r_sub (lv' := [(0, vr a0), (1, vi a1), (3, vi v2), (5, vi x3.2)]) [0, 1, 2, 4] rfl ?_
              exact hj21 1 _
def aX11_alibi : StA := (RX11, cX11_alibi, 6, some .boolean, yX11_alibi, 10, [])
noncomputable def mX11_alibi_L36 (a0 : Nat) (a2 : Int32) (v4 : Int32) (x5 : Int32) : MM ((Int32) ⊕ (Unit ⊕ Unit)) :=
  mbnd (gR 10 7 a0) fun (v9 : Nat) =>
  mbnd (gR 1 3 v9) fun (v10 : Nat) =>
  mbnd (gI 8 3 v10) fun (v11 : Int32) =>
  if v11 ≤ x5 then (
    mret (.inr ((.inr ())))
  ) else (
    mbnd (gR 10 7 a0) fun (v13 : Nat) =>
    mbnd (gR 1 2 v13) fun (v14 : Nat) =>
    mbnd (gR 10 7 a0) fun (v15 : Nat) =>
    mbnd (gR 1 3 v15) fun (v16 : Nat) =>
    mbnd (mX8_get v16 x5 2) fun (v17 : Int32) =>
    mbnd (mX8_get v14 v17 0) fun (v18 : Int32) =>
    mbnd (mret (v18 - v4)) fun (v19 : Int32) =>
    mbnd (gR 10 7 a0) fun (v20 : Nat) =>
    mbnd (gR 1 3 v20) fun (v21 : Nat) =>
    mbnd (mX8_get v21 x5 0) fun (v22 : Int32) =>
    if v22 = a2 then (
      if 2 ≤ (iabs v19) then (
        mret (.inl (x5 + 1))
      ) else (
        mret (.inr ((.inl ())))
      )
    ) else (
      mret (.inl (x5 + 1))
    )
  )
noncomputable def mX11_alibi (a0 : Nat) (a1 : Int32) (a2 : Int32) : MM Int32 := onC 10 a0 (
  mbnd (mX11_needMaster a0 a1) fun _ =>
  if 0 ≤ a2 then (
    mbnd (gR 10 7 a0) fun (v2 : Nat) =>
    mbnd (gR 1 2 v2) fun (v3 : Nat) =>
    mbnd (mX8_get v3 a1 0) fun (v4 : Int32) =>
    mbnd (loopM (mX11_alibi_L36 a0 a2 v4) 0) fun (e25 : Unit ⊕ Unit) => match e25 with
      | .inl e25 => (
        mret 0
        )
      | .inr e25 => (
        mret 1
        )
  ) else (
    mthr 0
  )
  )
theorem rcX11_alibi (a0 : Nat) (a1 : Int32) (a2 : Int32) : Rcv 10 a0 (mX11_alibi a0 a1 a2) := fun s r h => ⟨(onC_some h).1, (onC_some h).2.1⟩
set_option maxHeartbeats 4000000 in
set_option maxRecDepth 100000 in
theorem ctX11_alibi (a0 : Nat) (a1 : Int32) (a2 : Int32) : Ct aX11_alibi [vr a0, vi a1, vi a2] (mX11_alibi a0 a1 a2) rI := by
  unfold mX11_alibi
  refine ct_onC (ct_intro (by decide +kernel) rfl (Nat.le_of_ble_eq_true rfl) fun Y s => ?_)
  refine r_sub (lv' := [(0, vr a0), (1, vi a1), (2, vi a2)]) [0, 1, 2] rfl ?_
  refine r_p (pc' := 1) (p_aload_n 0 (k := 0) (by decide +kernel) rfl) ?_
  refine r_p (pc' := 2) (p_iload_n 1 (k := 1) (by decide +kernel) rfl) ?_
  refine r_callVU mvX11_174 (ctX11_needMaster a0 a1) (rcX11_needMaster a0 a1) ⟨_, _, rfl⟩ (as := [vi a1]) (st := []) rfl rfl (by decide +kernel) rfl (Nat.le_of_ble_eq_true rfl) (Nat.le_of_ble_eq_true rfl) fun s => ?_
  refine r_p (pc' := 6) (p_iload_n 2 (k := 2) (by decide +kernel) rfl) ?_
  refine r_ifge (off := 14) (tgt := 20) (by decide +kernel) (by decide) (fun h1 => ?_) (fun h1 => ?_)
  · refine r_p (pc' := 21) (p_aload_n 0 (k := 0) (by decide +kernel) rfl) ?_
    refine r_gR flX11_54_10 (by decide +kernel) fun v2 => ?_
    refine r_gR flX11_180_1 (by decide +kernel) fun v3 => ?_
    refine r_p (pc' := 28) (p_iload_n 1 (k := 1) (by decide +kernel) rfl) ?_
    refine r_p (pc' := 29) (p_iconst (n := 0) (v := 0) (by decide +kernel) rfl) ?_
    refine r_callVI mvX11_151 (ctX8_get v3 a1 0) (rcX8_get v3 a1 0) ⟨_, _, rfl⟩ (as := [vi a1, vi 0]) (st := []) rfl rfl (by decide +kernel) rfl (Nat.le_of_ble_eq_true rfl) (Nat.le_of_ble_eq_true rfl) fun v4 s => ?_
    refine r_p (pc' := 33) (p_istore_n (k := 3) (lv' := [(3, vi v4), (0, vr a0), (1, vi a1), (2, vi a2)]) (by decide +kernel) (Nat.le_of_ble_eq_true rfl) rfl) ?_
    refine r_p (pc' := 34) (p_iconst (n := 0) (v := 0) (by decide +kernel) rfl) ?_
    refine r_p (pc' := 36) (p_istore (i := 4) (lv' := [(4, vi 0), (3, vi v4), (0, vr a0), (1, vi a1), (2, vi a2)]) (by decide +kernel) (Nat.le_of_ble_eq_true rfl) rfl) ?_
    refine r_sub (lv' := [(0, vr a0), (2, vi a2), (3, vi v4), (4, vi 0)]) [2, 4, 1, 0] rfl ?_
    refine r_loop2 (fun (e25 : Unit ⊕ Unit) => match e25 with | .inl _ => 105 | .inr _ => 113) (fun (e25 : Unit ⊕ Unit) => match e25 with | .inl e25 => [] | .inr e25 => []) (fun (x5 : Int32) => [(0, vr a0), (2, vi a2), (3, vi v4), (4, vi x5)]) (fun e25 s => ?_) (fun K6 hb7 he8 x5 s => ?_) 0 _
    · rcases e25 with e25 | e25
      · show Rr _ _ 105 [] [] _ _ _ _
        refine r_p (pc' := 106) (p_iconst (n := 0) (v := 0) (by decide +kernel) rfl) ?_
        exact r_iret rfl rfl _ rfl rfl (by decide +kernel)
      · show Rr _ _ 113 [] [] _ _ _ _
        refine r_p (pc' := 114) (p_iconst (n := 1) (v := 1) (by decide +kernel) rfl) ?_
        exact r_iret rfl rfl _ rfl rfl (by decide +kernel)
    · unfold mX11_alibi_L36
      refine r_p (pc' := 38) (p_iload 3 (i := 4) (by decide +kernel) rfl) ?_
      refine r_p (pc' := 39) (p_aload_n 0 (k := 0) (by decide +kernel) rfl) ?_
      refine r_gR flX11_54_10 (by decide +kernel) fun v9 => ?_
      refine r_gR flX11_191_1 (by decide +kernel) fun v10 => ?_
      refine r_gI flX11_293_8 (by decide +kernel) fun v11 => ?_
      refine r_icmpge (off := 65) (tgt := 113) (by decide +kernel) (by decide) (fun h12 => ?_) (fun h12 => ?_)
      · refine r_sub (lv' := []) [] rfl ?_
        exact he8 ((.inr ())) _
      · refine r_p (pc' := 52) (p_aload_n 0 (k := 0) (by decide +kernel) rfl) ?_
        refine r_gR flX11_54_10 (by decide +kernel) fun v13 => ?_
        refine r_gR flX11_180_1 (by decide +kernel) fun v14 => ?_
        refine r_p (pc' := 59) (p_aload_n 0 (k := 0) (by decide +kernel) rfl) ?_
        refine r_gR flX11_54_10 (by decide +kernel) fun v15 => ?_
        refine r_gR flX11_191_1 (by decide +kernel) fun v16 => ?_
        refine r_p (pc' := 67) (p_iload 3 (i := 4) (by decide +kernel) rfl) ?_
        refine r_p (pc' := 68) (p_iconst (n := 2) (v := 2) (by decide +kernel) rfl) ?_
        refine r_callVI mvX11_151 (ctX8_get v16 x5 2) (rcX8_get v16 x5 2) ⟨_, _, rfl⟩ (as := [vi x5, vi 2]) (st := [vr v14]) rfl rfl (by decide +kernel) rfl (Nat.le_of_ble_eq_true rfl) (Nat.le_of_ble_eq_true rfl) fun v17 s => ?_
        refine r_p (pc' := 72) (p_iconst (n := 0) (v := 0) (by decide +kernel) rfl) ?_
        refine r_callVI mvX11_151 (ctX8_get v14 v17 0) (rcX8_get v14 v17 0) ⟨_, _, rfl⟩ (as := [vi v17, vi 0]) (st := []) rfl rfl (by decide +kernel) rfl (Nat.le_of_ble_eq_true rfl) (Nat.le_of_ble_eq_true rfl) fun v18 s => ?_
        refine r_p (pc' := 76) (p_iload_n 2 (k := 3) (by decide +kernel) rfl) ?_
        refine r_p (pc' := 77) (p_isub (by decide +kernel)) ?_
        refine r_letI fun v19 => ?_
        refine r_p (pc' := 79) (p_istore (i := 5) (lv' := [(5, vi v19), (0, vr a0), (2, vi a2), (3, vi v4), (4, vi x5)]) (by decide +kernel) (Nat.le_of_ble_eq_true rfl) rfl) ?_
        refine r_p (pc' := 80) (p_aload_n 1 (k := 0) (by decide +kernel) rfl) ?_
        refine r_gR flX11_54_10 (by decide +kernel) fun v20 => ?_
        refine r_gR flX11_191_1 (by decide +kernel) fun v21 => ?_
        refine r_p (pc' := 88) (p_iload 4 (i := 4) (by decide +kernel) rfl) ?_
        refine r_p (pc' := 89) (p_iconst (n := 0) (v := 0) (by decide +kernel) rfl) ?_
        refine r_callVI mvX11_151 (ctX8_get v21 x5 0) (rcX8_get v21 x5 0) ⟨_, _, rfl⟩ (as := [vi x5, vi 0]) (st := []) rfl rfl (by decide +kernel) rfl (Nat.le_of_ble_eq_true rfl) (Nat.le_of_ble_eq_true rfl) fun v22 s => ?_
        refine r_p (pc' := 93) (p_iload_n 2 (k := 2) (by decide +kernel) rfl) ?_
        refine r_icmpne (off := 14) (tgt := 107) (by decide +kernel) (by decide) (fun h23 => ?_) (fun h23 => ?_)
        · refine r_p (pc' := 98) (p_iload 0 (i := 5) (by decide +kernel) rfl) ?_
          refine r_p (pc' := 101) (p_abs (idx := 362) (tblG_of 1572 (by decide +kernel) (by decide +kernel)) (Nat.le_of_ble_eq_true rfl) (Nat.le_of_ble_eq_true rfl) (by decide +kernel)) ?_
          refine r_p (pc' := 102) (p_iconst (n := 2) (v := 2) (by decide +kernel) rfl) ?_
          refine r_icmpge (off := 5) (tgt := 107) (by decide +kernel) (by decide) (fun h24 => ?_) (fun h24 => ?_)
          · refine r_p (pc' := 110) (p_iinc 4 (i := 4) (n := 1) (x := x5) (v := x5 + 1) (lv' := [(4, vi (x5 + 1)), (5, vi v19), (0, vr a0), (2, vi a2), (3, vi v4)]) (by decide +kernel) rfl rfl (Nat.le_of_ble_eq_true rfl) rfl) ?_
            refine r_p (pc' := 36) (p_goto (off := -74) (tgt := 36) (by decide +kernel) (by decide)) ?_
            refine r_sub (lv' := [(0, vr a0), (2, vi a2), (3, vi v4), (4, vi (x5 + 1))]) [2, 3, 4, 0] rfl ?_
            exact hb7 (x5 + 1) _
          · refine r_sub (lv' := []) [] rfl ?_
            exact he8 ((.inl ())) _
        · refine r_p (pc' := 110) (p_iinc 4 (i := 4) (n := 1) (x := x5) (v := x5 + 1) (lv' := [(4, vi (x5 + 1)), (5, vi v19), (0, vr a0), (2, vi a2), (3, vi v4)]) (by decide +kernel) rfl rfl (Nat.le_of_ble_eq_true rfl) rfl) ?_
          refine r_p (pc' := 36) (p_goto (off := -74) (tgt := 36) (by decide +kernel) (by decide)) ?_
          refine r_sub (lv' := [(0, vr a0), (2, vi a2), (3, vi v4), (4, vi (x5 + 1))]) [2, 3, 4, 0] rfl ?_
          exact hb7 (x5 + 1) _
  · exact r_thrw thX11_285_105 rfl (Nat.le_of_ble_eq_true rfl) (Nat.le_of_ble_eq_true rfl) (by decide +kernel) (by decide +kernel) (by decide +kernel) (by decide +kernel) (by decide +kernel)
def aX11_worstMaster : StA := (RX11, cX11_worstMaster, 5, some .int, yX11_worstMaster, 10, [])
noncomputable def mX11_worstMaster_L6 (a0 : Nat) (x1 : Int32 × Int32 × Int32) : MM ((Int32 × Int32 × Int32) ⊕ (Int32)) :=
  mbnd (gR 10 7 a0) fun (v5 : Nat) =>
  mbnd (gR 1 2 v5) fun (v6 : Nat) =>
  mbnd (gI 8 3 v6) fun (v7 : Int32) =>
  if v7 ≤ x1.2.2 then (
    mret (.inr x1.1)
  ) else (
    mbnd (mX11_harmOf a0 x1.2.2) fun (v9 : Int32) =>
    mbnd (α := Int32 × Int32) (
      if v9 ≤ x1.2.1 then (
        mret (x1.1, x1.2.1)
      ) else (
        mret (x1.2.2, v9)
      )
    ) fun (x11 : Int32 × Int32) =>
    mret (.inl (x11.1, x11.2, x1.2.2 + 1))
  )
noncomputable def mX11_worstMaster (a0 : Nat) : MM Int32 := onC 10 a0 (
  mbnd (loopM (mX11_worstMaster_L6 a0) (((-1), 0, 0))) fun (e14 : Int32) =>
  mret e14
  )
theorem rcX11_worstMaster (a0 : Nat) : Rcv 10 a0 (mX11_worstMaster a0) := fun s r h => ⟨(onC_some h).1, (onC_some h).2.1⟩
set_option maxHeartbeats 4000000 in
set_option maxRecDepth 100000 in
theorem ctX11_worstMaster (a0 : Nat) : Ct aX11_worstMaster [vr a0] (mX11_worstMaster a0) rI := by
  unfold mX11_worstMaster
  refine ct_onC (ct_intro (by decide +kernel) rfl (Nat.le_of_ble_eq_true rfl) fun Y s => ?_)
  refine r_sub (lv' := [(0, vr a0)]) [0] rfl ?_
  refine r_p (pc' := 1) (p_iconst (n := -1) (v := -1) (by decide +kernel) rfl) ?_
  refine r_p (pc' := 2) (p_istore_n (k := 1) (lv' := [(1, vi (-1)), (0, vr a0)]) (by decide +kernel) (Nat.le_of_ble_eq_true rfl) rfl) ?_
  refine r_p (pc' := 3) (p_iconst (n := 0) (v := 0) (by decide +kernel) rfl) ?_
  refine r_p (pc' := 4) (p_istore_n (k := 2) (lv' := [(2, vi 0), (1, vi (-1)), (0, vr a0)]) (by decide +kernel) (Nat.le_of_ble_eq_true rfl) rfl) ?_
  refine r_p (pc' := 5) (p_iconst (n := 0) (v := 0) (by decide +kernel) rfl) ?_
  refine r_p (pc' := 6) (p_istore_n (k := 3) (lv' := [(3, vi 0), (2, vi 0), (1, vi (-1)), (0, vr a0)]) (by decide +kernel) (Nat.le_of_ble_eq_true rfl) rfl) ?_
  refine r_sub (lv' := [(0, vr a0), (1, vi (-1)), (2, vi 0), (3, vi 0)]) [3, 2, 1, 0] rfl ?_
  refine r_loop2 (fun _ => 44) (fun (e14 : Int32) => [(1, vi e14)]) (fun (x1 : Int32 × Int32 × Int32) => [(0, vr a0), (1, vi x1.1), (2, vi x1.2.1), (3, vi x1.2.2)]) (fun e14 s => ?_) (fun K2 hb3 he4 x1 s => ?_) (((-1), 0, 0)) _
  · refine r_p (pc' := 45) (p_iload_n 0 (k := 1) (by decide +kernel) rfl) ?_
    exact r_iret rfl rfl _ rfl rfl (by decide +kernel)
  · unfold mX11_worstMaster_L6
    refine r_p (pc' := 7) (p_iload_n 3 (k := 3) (by decide +kernel) rfl) ?_
    refine r_p (pc' := 8) (p_aload_n 0 (k := 0) (by decide +kernel) rfl) ?_
    refine r_gR flX11_54_10 (by decide +kernel) fun v5 => ?_
    refine r_gR flX11_180_1 (by decide +kernel) fun v6 => ?_
    refine r_gI flX11_293_8 (by decide +kernel) fun v7 => ?_
    refine r_icmpge (off := 27) (tgt := 44) (by decide +kernel) (by decide) (fun h8 => ?_) (fun h8 => ?_)
    · refine r_sub (lv' := [(1, vi x1.1)]) [1] rfl ?_
      exact he4 x1.1 _
    · refine r_p (pc' := 21) (p_aload_n 0 (k := 0) (by decide +kernel) rfl) ?_
      refine r_p (pc' := 22) (p_iload_n 3 (k := 3) (by decide +kernel) rfl) ?_
      refine r_callVI mvX11_177 (ctX11_harmOf a0 x1.2.2) (rcX11_harmOf a0 x1.2.2) ⟨_, _, rfl⟩ (as := [vi x1.2.2]) (st := []) rfl rfl (by decide +kernel) rfl (Nat.le_of_ble_eq_true rfl) (Nat.le_of_ble_eq_true rfl) fun v9 s => ?_
      refine r_p (pc' := 27) (p_istore (i := 4) (lv' := [(4, vi v9), (0, vr a0), (1, vi x1.1), (2, vi x1.2.1), (3, vi x1.2.2)]) (by decide +kernel) (Nat.le_of_ble_eq_true rfl) rfl) ?_
      refine r_p (pc' := 29) (p_iload 0 (i := 4) (by decide +kernel) rfl) ?_
      refine r_p (pc' := 30) (p_iload_n 3 (k := 2) (by decide +kernel) rfl) ?_
      refine r_join 38 (fun (x11 : Int32 × Int32) => [(0, vr a0), (1, vi x11.1), (2, vi x11.2), (3, vi x1.2.2)]) (fun (x11 : Int32 × Int32) => []) (fun x11 s => ?_) (fun K12 hj13 => ?_)
      · refine r_p (pc' := 41) (p_iinc 3 (i := 3) (n := 1) (x := x1.2.2) (v := x1.2.2 + 1) (lv' := [(3, vi (x1.2.2 + 1)), (0, vr a0), (1, vi x11.1), (2, vi x11.2)]) (by decide +kernel) rfl rfl (Nat.le_of_ble_eq_true rfl) rfl) ?_
        refine r_p (pc' := 6) (p_goto (off := -35) (tgt := 6) (by decide +kernel) (by decide)) ?_
        refine r_sub (lv' := [(0, vr a0), (1, vi x11.1), (2, vi x11.2), (3, vi (x1.2.2 + 1))]) [1, 2, 3, 0] rfl ?_
        exact hb3 (x11.1, x11.2, x1.2.2 + 1) _
      · refine r_icmple (off := 8) (tgt := 38) (by decide +kernel) (by decide) (fun h10 => ?_) (fun h10 => ?_)
        · refine r_sub (lv' := [(0, vr a0), (1, vi x1.1), (2, vi x1.2.1), (3, vi x1.2.2)]) [1, 2, 3, 4] rfl ?_
          exact hj13 (x1.1, x1.2.1) _
        · refine r_p (pc' := 35) (p_iload 0 (i := 4) (by decide +kernel) rfl) ?_
          refine r_p (pc' := 36) (p_istore_n (k := 2) (lv' := [(2, vi v9), (4, vi v9), (0, vr a0), (1, vi x1.1), (3, vi x1.2.2)]) (by decide +kernel) (Nat.le_of_ble_eq_true rfl) rfl) ?_
          refine r_p (pc' := 37) (p_iload_n 4 (k := 3) (by decide +kernel) rfl) ?_
          refine r_p (pc' := 38) (p_istore_n (k := 1) (lv' := [(1, vi x1.2.2), (2, vi v9), (4, vi v9), (0, vr a0), (3, vi x1.2.2)]) (by decide +kernel) (Nat.le_of_ble_eq_true rfl) rfl) ?_
          refine r_sub (lv' := [(0, vr a0), (1, vi x1.2.2), (2, vi v9), (3, vi x1.2.2)]) [3, 0, 1, 4] rfl ?_
          exact hj13 (x1.2.2, v9) _
def aX11_pairs : StA := (RX11, cX11_pairs, 5, some .int, yX11_pairs, 10, [])
noncomputable def mX11_pairs_L15 (a0 : Nat) (a1 : Int32) (a2 : Int32) (x1 : Int32 × Int32) : MM ((Int32 × Int32) ⊕ (Int32)) :=
  mbnd (gR 10 7 a0) fun (v5 : Nat) =>
  mbnd (gR 1 3 v5) fun (v6 : Nat) =>
  mbnd (gI 8 3 v6) fun (v7 : Int32) =>
  if v7 ≤ x1.2 then (
    mret (.inr x1.1)
  ) else (
    mbnd (gR 10 7 a0) fun (v9 : Nat) =>
    mbnd (gR 1 3 v9) fun (v10 : Nat) =>
    mbnd (mX8_get v10 x1.2 2) fun (v11 : Int32) =>
    mbnd (α := Int32) (
      if v11 = a1 then (
        mbnd (gR 10 7 a0) fun (v16 : Nat) =>
        mbnd (gR 1 3 v16) fun (v17 : Nat) =>
        mbnd (mX8_get v17 x1.2 1) fun (v18 : Int32) =>
        if v18 = a2 then (
          mret (x1.1 + 1)
        ) else (
          mret x1.1
        )
      ) else (
        mret x1.1
      )
    ) fun (x13 : Int32) =>
    mret (.inl (x13, x1.2 + 1))
  )
noncomputable def mX11_pairs (a0 : Nat) (a1 : Int32) (a2 : Int32) : MM Int32 := onC 10 a0 (
  mbnd (mX11_needMaster a0 a1) fun _ =>
  mbnd (mX11_needTool a0 a2) fun _ =>
  mbnd (loopM (mX11_pairs_L15 a0 a1 a2) (0, 0)) fun (e20 : Int32) =>
  mret e20
  )
theorem rcX11_pairs (a0 : Nat) (a1 : Int32) (a2 : Int32) : Rcv 10 a0 (mX11_pairs a0 a1 a2) := fun s r h => ⟨(onC_some h).1, (onC_some h).2.1⟩
set_option maxHeartbeats 4000000 in
set_option maxRecDepth 100000 in
theorem ctX11_pairs (a0 : Nat) (a1 : Int32) (a2 : Int32) : Ct aX11_pairs [vr a0, vi a1, vi a2] (mX11_pairs a0 a1 a2) rI := by
  unfold mX11_pairs
  refine ct_onC (ct_intro (by decide +kernel) rfl (Nat.le_of_ble_eq_true rfl) fun Y s => ?_)
  refine r_sub (lv' := [(0, vr a0), (1, vi a1), (2, vi a2)]) [0, 1, 2] rfl ?_
  refine r_p (pc' := 1) (p_aload_n 0 (k := 0) (by decide +kernel) rfl) ?_
  refine r_p (pc' := 2) (p_iload_n 1 (k := 1) (by decide +kernel) rfl) ?_
  refine r_callVU mvX11_174 (ctX11_needMaster a0 a1) (rcX11_needMaster a0 a1) ⟨_, _, rfl⟩ (as := [vi a1]) (st := []) rfl rfl (by decide +kernel) rfl (Nat.le_of_ble_eq_true rfl) (Nat.le_of_ble_eq_true rfl) fun s => ?_
  refine r_p (pc' := 6) (p_aload_n 0 (k := 0) (by decide +kernel) rfl) ?_
  refine r_p (pc' := 7) (p_iload_n 2 (k := 2) (by decide +kernel) rfl) ?_
  refine r_callVU mvX11_157 (ctX11_needTool a0 a2) (rcX11_needTool a0 a2) ⟨_, _, rfl⟩ (as := [vi a2]) (st := []) rfl rfl (by decide +kernel) rfl (Nat.le_of_ble_eq_true rfl) (Nat.le_of_ble_eq_true rfl) fun s => ?_
  refine r_p (pc' := 11) (p_iconst (n := 0) (v := 0) (by decide +kernel) rfl) ?_
  refine r_p (pc' := 12) (p_istore_n (k := 3) (lv' := [(3, vi 0), (0, vr a0), (1, vi a1), (2, vi a2)]) (by decide +kernel) (Nat.le_of_ble_eq_true rfl) rfl) ?_
  refine r_p (pc' := 13) (p_iconst (n := 0) (v := 0) (by decide +kernel) rfl) ?_
  refine r_p (pc' := 15) (p_istore (i := 4) (lv' := [(4, vi 0), (3, vi 0), (0, vr a0), (1, vi a1), (2, vi a2)]) (by decide +kernel) (Nat.le_of_ble_eq_true rfl) rfl) ?_
  refine r_sub (lv' := [(0, vr a0), (1, vi a1), (2, vi a2), (3, vi 0), (4, vi 0)]) [2, 3, 4, 1, 0] rfl ?_
  refine r_loop2 (fun _ => 73) (fun (e20 : Int32) => [(3, vi e20)]) (fun (x1 : Int32 × Int32) => [(0, vr a0), (1, vi a1), (2, vi a2), (3, vi x1.1), (4, vi x1.2)]) (fun e20 s => ?_) (fun K2 hb3 he4 x1 s => ?_) (0, 0) _
  · refine r_p (pc' := 74) (p_iload_n 0 (k := 3) (by decide +kernel) rfl) ?_
    exact r_iret rfl rfl _ rfl rfl (by decide +kernel)
  · unfold mX11_pairs_L15
    refine r_p (pc' := 17) (p_iload 4 (i := 4) (by decide +kernel) rfl) ?_
    refine r_p (pc' := 18) (p_aload_n 0 (k := 0) (by decide +kernel) rfl) ?_
    refine r_gR flX11_54_10 (by decide +kernel) fun v5 => ?_
    refine r_gR flX11_191_1 (by decide +kernel) fun v6 => ?_
    refine r_gI flX11_293_8 (by decide +kernel) fun v7 => ?_
    refine r_icmpge (off := 46) (tgt := 73) (by decide +kernel) (by decide) (fun h8 => ?_) (fun h8 => ?_)
    · refine r_sub (lv' := [(3, vi x1.1)]) [3] rfl ?_
      exact he4 x1.1 _
    · refine r_p (pc' := 31) (p_aload_n 0 (k := 0) (by decide +kernel) rfl) ?_
      refine r_gR flX11_54_10 (by decide +kernel) fun v9 => ?_
      refine r_gR flX11_191_1 (by decide +kernel) fun v10 => ?_
      refine r_p (pc' := 39) (p_iload 4 (i := 4) (by decide +kernel) rfl) ?_
      refine r_p (pc' := 40) (p_iconst (n := 2) (v := 2) (by decide +kernel) rfl) ?_
      refine r_callVI mvX11_151 (ctX8_get v10 x1.2 2) (rcX8_get v10 x1.2 2) ⟨_, _, rfl⟩ (as := [vi x1.2, vi 2]) (st := []) rfl rfl (by decide +kernel) rfl (Nat.le_of_ble_eq_true rfl) (Nat.le_of_ble_eq_true rfl) fun v11 s => ?_
      refine r_p (pc' := 44) (p_iload_n 1 (k := 1) (by decide +kernel) rfl) ?_
      refine r_join 67 (fun (x13 : Int32) => [(0, vr a0), (1, vi a1), (2, vi a2), (3, vi x13), (4, vi x1.2)]) (fun (x13 : Int32) => []) (fun x13 s => ?_) (fun K14 hj15 => ?_)
      · refine r_p (pc' := 70) (p_iinc 4 (i := 4) (n := 1) (x := x1.2) (v := x1.2 + 1) (lv' := [(4, vi (x1.2 + 1)), (0, vr a0), (1, vi a1), (2, vi a2), (3, vi x13)]) (by decide +kernel) rfl rfl (Nat.le_of_ble_eq_true rfl) rfl) ?_
        refine r_p (pc' := 15) (p_goto (off := -55) (tgt := 15) (by decide +kernel) (by decide)) ?_
        refine r_sub (lv' := [(0, vr a0), (1, vi a1), (2, vi a2), (3, vi x13), (4, vi (x1.2 + 1))]) [1, 2, 3, 4, 0] rfl ?_
        exact hb3 (x13, x1.2 + 1) _
      · refine r_icmpne (off := 23) (tgt := 67) (by decide +kernel) (by decide) (fun h12 => ?_) (fun h12 => ?_)
        · refine r_p (pc' := 48) (p_aload_n 0 (k := 0) (by decide +kernel) rfl) ?_
          refine r_gR flX11_54_10 (by decide +kernel) fun v16 => ?_
          refine r_gR flX11_191_1 (by decide +kernel) fun v17 => ?_
          refine r_p (pc' := 56) (p_iload 4 (i := 4) (by decide +kernel) rfl) ?_
          refine r_p (pc' := 57) (p_iconst (n := 1) (v := 1) (by decide +kernel) rfl) ?_
          refine r_callVI mvX11_151 (ctX8_get v17 x1.2 1) (rcX8_get v17 x1.2 1) ⟨_, _, rfl⟩ (as := [vi x1.2, vi 1]) (st := []) rfl rfl (by decide +kernel) rfl (Nat.le_of_ble_eq_true rfl) (Nat.le_of_ble_eq_true rfl) fun v18 s => ?_
          refine r_p (pc' := 61) (p_iload_n 2 (k := 2) (by decide +kernel) rfl) ?_
          refine r_icmpne (off := 6) (tgt := 67) (by decide +kernel) (by decide) (fun h19 => ?_) (fun h19 => ?_)
          · refine r_p (pc' := 67) (p_iinc 3 (i := 3) (n := 1) (x := x1.1) (v := x1.1 + 1) (lv' := [(3, vi (x1.1 + 1)), (0, vr a0), (1, vi a1), (2, vi a2), (4, vi x1.2)]) (by decide +kernel) rfl rfl (Nat.le_of_ble_eq_true rfl) rfl) ?_
            refine r_sub (lv' := [(0, vr a0), (1, vi a1), (2, vi a2), (3, vi (x1.1 + 1)), (4, vi x1.2)]) [1, 2, 3, 0, 4] rfl ?_
            exact hj15 (x1.1 + 1) _
          · exact hj15 x1.1 _
        · exact hj15 x1.1 _
def aX11_needTrialDays : StA := (RX11, cX11_needTrialDays, 1, none, yX11_needTrialDays, 8, [])
noncomputable def mX11_needTrialDays (a0 : Int32) : MM Unit :=
  if a0 < 0 then (
    mthr 0
  ) else (
    if a0 ≤ 60 then (
      mret ()
    ) else (
      mthr 0
    )
  )
set_option maxHeartbeats 4000000 in
set_option maxRecDepth 100000 in
theorem ctX11_needTrialDays (a0 : Int32) : Ct aX11_needTrialDays [vi a0] (mX11_needTrialDays a0) rU := by
  unfold mX11_needTrialDays
  refine ct_intro (by decide +kernel) rfl (Nat.le_of_ble_eq_true rfl) fun Y s => ?_
  refine r_sub (lv' := [(0, vi a0)]) [0] rfl ?_
  refine r_p (pc' := 1) (p_iload_n 0 (k := 0) (by decide +kernel) rfl) ?_
  refine r_iflt (off := 9) (tgt := 10) (by decide +kernel) (by decide) (fun h1 => ?_) (fun h1 => ?_)
  · exact r_thrw thX11_267_105 rfl (Nat.le_of_ble_eq_true rfl) (Nat.le_of_ble_eq_true rfl) (by decide +kernel) (by decide +kernel) (by decide +kernel) (by decide +kernel) (by decide +kernel)
  · refine r_p (pc' := 5) (p_iload_n 0 (k := 0) (by decide +kernel) rfl) ?_
    refine r_p (pc' := 7) (p_bipush (n := 60) (v := 60) (by decide +kernel) (by decide +kernel)) ?_
    refine r_icmple (off := 14) (tgt := 21) (by decide +kernel) (by decide) (fun h2 => ?_) (fun h2 => ?_)
    · exact r_vret (y9 := ()) rfl rfl rfl (by decide +kernel)
    · exact r_thrw thX11_267_105 rfl (Nat.le_of_ble_eq_true rfl) (Nat.le_of_ble_eq_true rfl) (by decide +kernel) (by decide +kernel) (by decide +kernel) (by decide +kernel) (by decide +kernel)
def aX11_trial : StA := (RX11, cX11_trial, 2, some .int, yX11_trial, 10, [])
theorem msX11_365 : MS RX11 365 aX11_needTrialDays 1 := ⟨tblG_of 1589 (by decide +kernel) (by decide +kernel), tblG_of 1590 (by decide +kernel) (by decide +kernel), tblG_of 144 (by decide +kernel) (by decide +kernel), tblG_of 1591 (by decide +kernel) (by decide +kernel), rfl, ⟨by decide, by decide⟩, by decide +kernel, by decide⟩
theorem flX11_368_1 : FL RX11 368 1 11 := ⟨_, TX1, 13, "ToolCourt$Court", rfl, by decide, Or.inr ⟨"ToolCourt", List.mem_of_getElem? (i := 377) (by decide +kernel)⟩, Or.inl rfl⟩
theorem mvX11_371 : MV RX11 371 aX1_wearAfter 2 := ⟨tblG_of 1592 (by decide +kernel) (by decide +kernel), tblG_of 1593 (by decide +kernel) (by decide +kernel), tblG_of 1594 (by decide +kernel) (by decide +kernel), tblG_of 151 (by decide +kernel) (by decide +kernel), tblG_of 1595 (by decide +kernel) (by decide +kernel), rfl, ⟨by decide, by decide⟩, by decide +kernel, by decide⟩
noncomputable def mX11_trial (a0 : Nat) (a1 : Int32) : MM Int32 := onC 10 a0 (
  mbnd (mX11_needTrialDays a1) fun _ =>
  mbnd (gR 10 7 a0) fun (v1 : Nat) =>
  mbnd (gR 10 7 a0) fun (v2 : Nat) =>
  mbnd (gI 1 11 v2) fun (v3 : Int32) =>
  mbnd (mX1_wearAfter v1 a1 v3) fun (v4 : Int32) =>
  mret v4
  )
theorem rcX11_trial (a0 : Nat) (a1 : Int32) : Rcv 10 a0 (mX11_trial a0 a1) := fun s r h => ⟨(onC_some h).1, (onC_some h).2.1⟩
set_option maxHeartbeats 4000000 in
set_option maxRecDepth 100000 in
theorem ctX11_trial (a0 : Nat) (a1 : Int32) : Ct aX11_trial [vr a0, vi a1] (mX11_trial a0 a1) rI := by
  unfold mX11_trial
  refine ct_onC (ct_intro (by decide +kernel) rfl (Nat.le_of_ble_eq_true rfl) fun Y s => ?_)
  refine r_sub (lv' := [(0, vr a0), (1, vi a1)]) [0, 1] rfl ?_
  refine r_p (pc' := 1) (p_iload_n 1 (k := 1) (by decide +kernel) rfl) ?_
  refine r_callSU msX11_365 (ctX11_needTrialDays a1) (as := [vi a1]) (st := []) rfl rfl (by decide +kernel) rfl (Nat.le_of_ble_eq_true rfl) (Nat.le_of_ble_eq_true rfl) fun s => ?_
  refine r_p (pc' := 5) (p_aload_n 0 (k := 0) (by decide +kernel) rfl) ?_
  refine r_gR flX11_54_10 (by decide +kernel) fun v1 => ?_
  refine r_p (pc' := 9) (p_iload_n 1 (k := 1) (by decide +kernel) rfl) ?_
  refine r_p (pc' := 10) (p_aload_n 0 (k := 0) (by decide +kernel) rfl) ?_
  refine r_gR flX11_54_10 (by decide +kernel) fun v2 => ?_
  refine r_gI flX11_368_1 (by decide +kernel) fun v3 => ?_
  refine r_callVI mvX11_371 (ctX1_wearAfter v1 a1 v3) (rcX1_wearAfter v1 a1 v3) ⟨_, _, rfl⟩ (as := [vi a1, vi v3]) (st := []) rfl rfl (by decide +kernel) rfl (Nat.le_of_ble_eq_true rfl) (Nat.le_of_ble_eq_true rfl) fun v4 s => ?_
  exact r_iret rfl rfl _ rfl rfl (by decide +kernel)
def aX11_span : StA := (RX11, cX11_span, 6, some .int, yX11_span, 10, [])
noncomputable def mX11_span_L17 (a0 : Nat) (a1 : Int32) (a2 : Int32) (x3 : Int32 × Int32) : MM ((Int32 × Int32) ⊕ (Int32)) :=
  if 6 < x3.2 then (
    mret (.inr x3.1)
  ) else (
    mbnd (gR 10 7 a0) fun (v8 : Nat) =>
    mbnd (mX1_wearAfter v8 a1 x3.2) fun (v9 : Int32) =>
    mbnd (α := Int32) (
      if a2 = 0 then (
        mret (imin x3.1 v9)
      ) else (
        mret (imax x3.1 v9)
      )
    ) fun (x11 : Int32) =>
    mret (.inl (x11, x3.2 + 1))
  )
noncomputable def mX11_span (a0 : Nat) (a1 : Int32) (a2 : Int32) : MM Int32 := onC 10 a0 (
  mbnd (mX11_needTrialDays a1) fun _ =>
  mbnd (gR 10 7 a0) fun (v1 : Nat) =>
  mbnd (mX1_wearAfter v1 a1 1) fun (v2 : Int32) =>
  mbnd (loopM (mX11_span_L17 a0 a1 a2) (v2, 2)) fun (e14 : Int32) =>
  mret e14
  )
theorem rcX11_span (a0 : Nat) (a1 : Int32) (a2 : Int32) : Rcv 10 a0 (mX11_span a0 a1 a2) := fun s r h => ⟨(onC_some h).1, (onC_some h).2.1⟩
set_option maxHeartbeats 4000000 in
set_option maxRecDepth 100000 in
theorem ctX11_span (a0 : Nat) (a1 : Int32) (a2 : Int32) : Ct aX11_span [vr a0, vi a1, vi a2] (mX11_span a0 a1 a2) rI := by
  unfold mX11_span
  refine ct_onC (ct_intro (by decide +kernel) rfl (Nat.le_of_ble_eq_true rfl) fun Y s => ?_)
  refine r_sub (lv' := [(0, vr a0), (1, vi a1), (2, vi a2)]) [0, 1, 2] rfl ?_
  refine r_p (pc' := 1) (p_iload_n 1 (k := 1) (by decide +kernel) rfl) ?_
  refine r_callSU msX11_365 (ctX11_needTrialDays a1) (as := [vi a1]) (st := []) rfl rfl (by decide +kernel) rfl (Nat.le_of_ble_eq_true rfl) (Nat.le_of_ble_eq_true rfl) fun s => ?_
  refine r_p (pc' := 5) (p_aload_n 0 (k := 0) (by decide +kernel) rfl) ?_
  refine r_gR flX11_54_10 (by decide +kernel) fun v1 => ?_
  refine r_p (pc' := 9) (p_iload_n 1 (k := 1) (by decide +kernel) rfl) ?_
  refine r_p (pc' := 10) (p_iconst (n := 1) (v := 1) (by decide +kernel) rfl) ?_
  refine r_callVI mvX11_371 (ctX1_wearAfter v1 a1 1) (rcX1_wearAfter v1 a1 1) ⟨_, _, rfl⟩ (as := [vi a1, vi 1]) (st := []) rfl rfl (by decide +kernel) rfl (Nat.le_of_ble_eq_true rfl) (Nat.le_of_ble_eq_true rfl) fun v2 s => ?_
  refine r_p (pc' := 14) (p_istore_n (k := 3) (lv' := [(3, vi v2), (0, vr a0), (1, vi a1), (2, vi a2)]) (by decide +kernel) (Nat.le_of_ble_eq_true rfl) rfl) ?_
  refine r_p (pc' := 15) (p_iconst (n := 2) (v := 2) (by decide +kernel) rfl) ?_
  refine r_p (pc' := 17) (p_istore (i := 4) (lv' := [(4, vi 2), (3, vi v2), (0, vr a0), (1, vi a1), (2, vi a2)]) (by decide +kernel) (Nat.le_of_ble_eq_true rfl) rfl) ?_
  refine r_sub (lv' := [(0, vr a0), (1, vi a1), (2, vi a2), (3, vi v2), (4, vi 2)]) [2, 3, 4, 1, 0] rfl ?_
  refine r_loop2 (fun _ => 62) (fun (e14 : Int32) => [(3, vi e14)]) (fun (x3 : Int32 × Int32) => [(0, vr a0), (1, vi a1), (2, vi a2), (3, vi x3.1), (4, vi x3.2)]) (fun e14 s => ?_) (fun K4 hb5 he6 x3 s => ?_) (v2, 2) _
  · refine r_p (pc' := 63) (p_iload_n 0 (k := 3) (by decide +kernel) rfl) ?_
    exact r_iret rfl rfl _ rfl rfl (by decide +kernel)
  · unfold mX11_span_L17
    refine r_p (pc' := 19) (p_iload 4 (i := 4) (by decide +kernel) rfl) ?_
    refine r_p (pc' := 21) (p_bipush (n := 6) (v := 6) (by decide +kernel) (by decide +kernel)) ?_
    refine r_icmpgt (off := 41) (tgt := 62) (by decide +kernel) (by decide) (fun h7 => ?_) (fun h7 => ?_)
    · refine r_sub (lv' := [(3, vi x3.1)]) [3] rfl ?_
      exact he6 x3.1 _
    · refine r_p (pc' := 25) (p_aload_n 0 (k := 0) (by decide +kernel) rfl) ?_
      refine r_gR flX11_54_10 (by decide +kernel) fun v8 => ?_
      refine r_p (pc' := 29) (p_iload_n 1 (k := 1) (by decide +kernel) rfl) ?_
      refine r_p (pc' := 31) (p_iload 4 (i := 4) (by decide +kernel) rfl) ?_
      refine r_callVI mvX11_371 (ctX1_wearAfter v8 a1 x3.2) (rcX1_wearAfter v8 a1 x3.2) ⟨_, _, rfl⟩ (as := [vi a1, vi x3.2]) (st := []) rfl rfl (by decide +kernel) rfl (Nat.le_of_ble_eq_true rfl) (Nat.le_of_ble_eq_true rfl) fun v9 s => ?_
      refine r_p (pc' := 36) (p_istore (i := 5) (lv' := [(5, vi v9), (0, vr a0), (1, vi a1), (2, vi a2), (3, vi x3.1), (4, vi x3.2)]) (by decide +kernel) (Nat.le_of_ble_eq_true rfl) rfl) ?_
      refine r_p (pc' := 37) (p_iload_n 3 (k := 2) (by decide +kernel) rfl) ?_
      refine r_join 55 (fun (x11 : Int32) => [(0, vr a0), (1, vi a1), (2, vi a2), (4, vi x3.2)]) (fun (x11 : Int32) => [vi x11]) (fun x11 s => ?_) (fun K12 hj13 => ?_)
      · refine r_p (pc' := 56) (p_istore_n (k := 3) (lv' := [(3, vi x11), (0, vr a0), (1, vi a1), (2, vi a2), (4, vi x3.2)]) (by decide +kernel) (Nat.le_of_ble_eq_true rfl) rfl) ?_
        refine r_p (pc' := 59) (p_iinc 4 (i := 4) (n := 1) (x := x3.2) (v := x3.2 + 1) (lv' := [(4, vi (x3.2 + 1)), (3, vi x11), (0, vr a0), (1, vi a1), (2, vi a2)]) (by decide +kernel) rfl rfl (Nat.le_of_ble_eq_true rfl) rfl) ?_
        refine r_p (pc' := 17) (p_goto (off := -42) (tgt := 17) (by decide +kernel) (by decide)) ?_
        refine r_sub (lv' := [(0, vr a0), (1, vi a1), (2, vi a2), (3, vi x11), (4, vi (x3.2 + 1))]) [2, 3, 4, 1, 0] rfl ?_
        exact hb5 (x11, x3.2 + 1) _
      · refine r_ifeq (off := 12) (tgt := 49) (by decide +kernel) (by decide) (fun h10 => ?_) (fun h10 => ?_)
        · refine r_p (pc' := 50) (p_iload_n 4 (k := 3) (by decide +kernel) rfl) ?_
          refine r_p (pc' := 52) (p_iload 0 (i := 5) (by decide +kernel) rfl) ?_
          refine r_p (pc' := 55) (p_min (idx := 306) (tblG_of 606 (by decide +kernel) (by decide +kernel)) (Nat.le_of_ble_eq_true rfl) (Nat.le_of_ble_eq_true rfl) (by decide +kernel)) ?_
          refine r_sub (lv' := [(0, vr a0), (1, vi a1), (2, vi a2), (4, vi x3.2)]) [1, 2, 3, 5] rfl ?_
          exact hj13 (imin x3.1 v9) _
        · refine r_p (pc' := 41) (p_iload_n 4 (k := 3) (by decide +kernel) rfl) ?_
          refine r_p (pc' := 43) (p_iload 0 (i := 5) (by decide +kernel) rfl) ?_
          refine r_p (pc' := 46) (p_max (idx := 251) (tblG_of 605 (by decide +kernel) (by decide +kernel)) (Nat.le_of_ble_eq_true rfl) (Nat.le_of_ble_eq_true rfl) (by decide +kernel)) ?_
          refine r_p (pc' := 55) (p_goto (off := 9) (tgt := 55) (by decide +kernel) (by decide)) ?_
          refine r_sub (lv' := [(0, vr a0), (1, vi a1), (2, vi a2), (4, vi x3.2)]) [1, 2, 3, 5] rfl ?_
          exact hj13 (imax x3.1 v9) _
def aX11_after : StA := (RX11, cX11_after, 5, some .int, yX11_after, 12, [])
theorem mvX11_374 : MV RX11 374 aX2_gains 1 := ⟨tblG_of 1610 (by decide +kernel) (by decide +kernel), tblG_of 1611 (by decide +kernel) (by decide +kernel), tblG_of 1612 (by decide +kernel) (by decide +kernel), tblG_of 146 (by decide +kernel) (by decide +kernel), tblG_of 1613 (by decide +kernel) (by decide +kernel), rfl, ⟨by decide, by decide⟩, by decide +kernel, by decide⟩
noncomputable def mX11_after (a0 : Nat) (a1 : Int32) (a2 : Int32) (a3 : Int32) (a4 : Int32) : MM Int32 := onC 10 a0 (
  mbnd (mX11_needDeed a0 a1 a2 a3 a4) fun _ =>
  mbnd (gR 10 3 a0) fun (v1 : Nat) =>
  mbnd (gR 10 7 a0) fun (v2 : Nat) =>
  mbnd (mX2_hearGuilt v1 v2 a1 a2 a3 a4) fun _ =>
  mbnd (gR 10 7 a0) fun (v3 : Nat) =>
  mbnd (mX1_answered v3 a1) fun (v4 : Int32) =>
  mbnd (gR 10 3 a0) fun (v5 : Nat) =>
  mbnd (mX2_gains v5 a3) fun (v6 : Int32) =>
  mret (v4 + v6)
  )
theorem rcX11_after (a0 : Nat) (a1 : Int32) (a2 : Int32) (a3 : Int32) (a4 : Int32) : Rcv 10 a0 (mX11_after a0 a1 a2 a3 a4) := fun s r h => ⟨(onC_some h).1, (onC_some h).2.1⟩
set_option maxHeartbeats 4000000 in
set_option maxRecDepth 100000 in
theorem ctX11_after (a0 : Nat) (a1 : Int32) (a2 : Int32) (a3 : Int32) (a4 : Int32) : Ct aX11_after [vr a0, vi a1, vi a2, vi a3, vi a4] (mX11_after a0 a1 a2 a3 a4) rI := by
  unfold mX11_after
  refine ct_onC (ct_intro (by decide +kernel) rfl (Nat.le_of_ble_eq_true rfl) fun Y s => ?_)
  refine r_sub (lv' := [(0, vr a0), (1, vi a1), (2, vi a2), (3, vi a3), (4, vi a4)]) [0, 1, 2, 3, 4] rfl ?_
  refine r_p (pc' := 1) (p_aload_n 0 (k := 0) (by decide +kernel) rfl) ?_
  refine r_p (pc' := 2) (p_iload_n 1 (k := 1) (by decide +kernel) rfl) ?_
  refine r_p (pc' := 3) (p_iload_n 2 (k := 2) (by decide +kernel) rfl) ?_
  refine r_p (pc' := 4) (p_iload_n 3 (k := 3) (by decide +kernel) rfl) ?_
  refine r_p (pc' := 6) (p_iload 4 (i := 4) (by decide +kernel) rfl) ?_
  refine r_callVU mvX11_187 (ctX11_needDeed a0 a1 a2 a3 a4) (rcX11_needDeed a0 a1 a2 a3 a4) ⟨_, _, rfl⟩ (as := [vi a1, vi a2, vi a3, vi a4]) (st := []) rfl rfl (by decide +kernel) rfl (Nat.le_of_ble_eq_true rfl) (Nat.le_of_ble_eq_true rfl) fun s => ?_
  refine r_p (pc' := 10) (p_aload_n 0 (k := 0) (by decide +kernel) rfl) ?_
  refine r_gR flX11_19_10 (by decide +kernel) fun v1 => ?_
  refine r_p (pc' := 14) (p_aload_n 0 (k := 0) (by decide +kernel) rfl) ?_
  refine r_gR flX11_54_10 (by decide +kernel) fun v2 => ?_
  refine r_p (pc' := 18) (p_iload_n 1 (k := 1) (by decide +kernel) rfl) ?_
  refine r_p (pc' := 19) (p_iload_n 2 (k := 2) (by decide +kernel) rfl) ?_
  refine r_p (pc' := 20) (p_iload_n 3 (k := 3) (by decide +kernel) rfl) ?_
  refine r_p (pc' := 22) (p_iload 4 (i := 4) (by decide +kernel) rfl) ?_
  refine r_callVU mvX11_203 (ctX2_hearGuilt v1 v2 a1 a2 a3 a4) (rcX2_hearGuilt v1 v2 a1 a2 a3 a4) ⟨_, _, rfl⟩ (as := [vr v2, vi a1, vi a2, vi a3, vi a4]) (st := []) rfl rfl (by decide +kernel) rfl (Nat.le_of_ble_eq_true rfl) (Nat.le_of_ble_eq_true rfl) fun s => ?_
  refine r_p (pc' := 26) (p_aload_n 0 (k := 0) (by decide +kernel) rfl) ?_
  refine r_gR flX11_54_10 (by decide +kernel) fun v3 => ?_
  refine r_p (pc' := 30) (p_iload_n 1 (k := 1) (by decide +kernel) rfl) ?_
  refine r_callVI mvX11_163 (ctX1_answered v3 a1) (rcX1_answered v3 a1) ⟨_, _, rfl⟩ (as := [vi a1]) (st := []) rfl rfl (by decide +kernel) rfl (Nat.le_of_ble_eq_true rfl) (Nat.le_of_ble_eq_true rfl) fun v4 s => ?_
  refine r_p (pc' := 34) (p_aload_n 0 (k := 0) (by decide +kernel) rfl) ?_
  refine r_gR flX11_19_10 (by decide +kernel) fun v5 => ?_
  refine r_p (pc' := 38) (p_iload_n 3 (k := 3) (by decide +kernel) rfl) ?_
  refine r_callVI mvX11_374 (ctX2_gains v5 a3) (rcX2_gains v5 a3) ⟨_, _, rfl⟩ (as := [vi a3]) (st := [vi v4]) rfl rfl (by decide +kernel) rfl (Nat.le_of_ble_eq_true rfl) (Nat.le_of_ble_eq_true rfl) fun v6 s => ?_
  refine r_p (pc' := 42) (p_iadd (by decide +kernel)) ?_
  exact r_iret rfl rfl _ rfl rfl (by decide +kernel)
def aX11_worst : StA := (RX11, cX11_worst, 7, some .int, yX11_worst, 12, [])
theorem flX11_129_1 : FL RX11 129 1 6 := ⟨_, TX1, 13, "ToolCourt$Court", rfl, by decide, Or.inr ⟨"ToolCourt", List.mem_of_getElem? (i := 362) (by decide +kernel)⟩, Or.inl rfl⟩
theorem mvX11_380 : MV RX11 380 aX4_asksHarm 0 := ⟨tblG_of 1622 (by decide +kernel) (by decide +kernel), tblG_of 1623 (by decide +kernel) (by decide +kernel), tblG_of 1624 (by decide +kernel) (by decide +kernel), tblG_of 150 (by decide +kernel) (by decide +kernel), tblG_of 1625 (by decide +kernel) (by decide +kernel), rfl, ⟨by decide, by decide⟩, by decide +kernel, by decide⟩
noncomputable def mX11_worst_L47 (a0 : Nat) (a1 : Int32) (a2 : Int32) (a3 : Int32) (v2 : Int32) (v8 : Int32) (x9 : Int32) : MM ((Int32) ⊕ (Int32 ⊕ Unit)) :=
  if 999 < x9 then (
    mret (.inr ((.inr ())))
  ) else (
    mbnd (α := Unit) (
      if x9 = 1 then (
        mbnd (gR 10 3 a0) fun (v18 : Nat) =>
        mbnd (gR 10 7 a0) fun (v19 : Nat) =>
        mbnd (mX2_hearGuilt v18 v19 a1 a2 x9 a3) fun _ =>
        mret ()
      ) else (
        if v8 = 0 then (
          mret ()
        ) else (
          mbnd (gR 10 3 a0) fun (v21 : Nat) =>
          mbnd (gR 10 7 a0) fun (v22 : Nat) =>
          mbnd (mX2_hearGuilt v21 v22 a1 a2 x9 a3) fun _ =>
          mret ()
        )
      )
    ) fun (x15 : Unit) =>
    mbnd (gR 10 3 a0) fun (v23 : Nat) =>
    mbnd (mX2_gains v23 x9) fun (v24 : Int32) =>
    mbnd (gR 10 7 a0) fun (v25 : Nat) =>
    mbnd (gI 1 10 v25) fun (v26 : Int32) =>
    if (v2 + v24) ≤ v26 then (
      mret (.inl (x9 + 1))
    ) else (
      mret (.inr (.inl x9))
    )
  )
noncomputable def mX11_worst (a0 : Nat) (a1 : Int32) (a2 : Int32) (a3 : Int32) : MM Int32 := onC 10 a0 (
  mbnd (mX11_needDeed a0 a1 a2 1 a3) fun _ =>
  mbnd (gR 10 7 a0) fun (v1 : Nat) =>
  mbnd (mX1_answered v1 a1) fun (v2 : Int32) =>
  mbnd (gR 10 7 a0) fun (v3 : Nat) =>
  mbnd (gI 1 10 v3) fun (v4 : Int32) =>
  if v2 ≤ v4 then (
    mbnd (gR 10 7 a0) fun (v6 : Nat) =>
    mbnd (gR 1 6 v6) fun (v7 : Nat) =>
    mbnd (mX4_asksHarm v7) fun (v8 : Int32) =>
    mbnd (loopM (mX11_worst_L47 a0 a1 a2 a3 v2 v8) 1) fun (e28 : Int32 ⊕ Unit) => match e28 with
      | .inl e28 => (
        mret e28
        )
      | .inr e28 => (
        mret (-1)
        )
  ) else (
    mret (-1)
  )
  )
theorem rcX11_worst (a0 : Nat) (a1 : Int32) (a2 : Int32) (a3 : Int32) : Rcv 10 a0 (mX11_worst a0 a1 a2 a3) := fun s r h => ⟨(onC_some h).1, (onC_some h).2.1⟩
set_option maxHeartbeats 4000000 in
set_option maxRecDepth 100000 in
theorem ctX11_worst (a0 : Nat) (a1 : Int32) (a2 : Int32) (a3 : Int32) : Ct aX11_worst [vr a0, vi a1, vi a2, vi a3] (mX11_worst a0 a1 a2 a3) rI := by
  unfold mX11_worst
  refine ct_onC (ct_intro (by decide +kernel) rfl (Nat.le_of_ble_eq_true rfl) fun Y s => ?_)
  refine r_sub (lv' := [(0, vr a0), (1, vi a1), (2, vi a2), (3, vi a3)]) [0, 1, 2, 3] rfl ?_
  refine r_p (pc' := 1) (p_aload_n 0 (k := 0) (by decide +kernel) rfl) ?_
  refine r_p (pc' := 2) (p_iload_n 1 (k := 1) (by decide +kernel) rfl) ?_
  refine r_p (pc' := 3) (p_iload_n 2 (k := 2) (by decide +kernel) rfl) ?_
  refine r_p (pc' := 4) (p_iconst (n := 1) (v := 1) (by decide +kernel) rfl) ?_
  refine r_p (pc' := 5) (p_iload_n 3 (k := 3) (by decide +kernel) rfl) ?_
  refine r_callVU mvX11_187 (ctX11_needDeed a0 a1 a2 1 a3) (rcX11_needDeed a0 a1 a2 1 a3) ⟨_, _, rfl⟩ (as := [vi a1, vi a2, vi 1, vi a3]) (st := []) rfl rfl (by decide +kernel) rfl (Nat.le_of_ble_eq_true rfl) (Nat.le_of_ble_eq_true rfl) fun s => ?_
  refine r_p (pc' := 9) (p_aload_n 0 (k := 0) (by decide +kernel) rfl) ?_
  refine r_gR flX11_54_10 (by decide +kernel) fun v1 => ?_
  refine r_p (pc' := 13) (p_iload_n 1 (k := 1) (by decide +kernel) rfl) ?_
  refine r_callVI mvX11_163 (ctX1_answered v1 a1) (rcX1_answered v1 a1) ⟨_, _, rfl⟩ (as := [vi a1]) (st := []) rfl rfl (by decide +kernel) rfl (Nat.le_of_ble_eq_true rfl) (Nat.le_of_ble_eq_true rfl) fun v2 s => ?_
  refine r_p (pc' := 18) (p_istore (i := 4) (lv' := [(4, vi v2), (0, vr a0), (1, vi a1), (2, vi a2), (3, vi a3)]) (by decide +kernel) (Nat.le_of_ble_eq_true rfl) rfl) ?_
  refine r_p (pc' := 20) (p_iload 0 (i := 4) (by decide +kernel) rfl) ?_
  refine r_p (pc' := 21) (p_aload_n 1 (k := 0) (by decide +kernel) rfl) ?_
  refine r_gR flX11_54_10 (by decide +kernel) fun v3 => ?_
  refine r_gI flX11_377_1 (by decide +kernel) fun v4 => ?_
  refine r_icmple (off := 5) (tgt := 32) (by decide +kernel) (by decide) (fun h5 => ?_) (fun h5 => ?_)
  · refine r_p (pc' := 33) (p_aload_n 1 (k := 0) (by decide +kernel) rfl) ?_
    refine r_gR flX11_54_10 (by decide +kernel) fun v6 => ?_
    refine r_gR flX11_129_1 (by decide +kernel) fun v7 => ?_
    refine r_callVI mvX11_380 (ctX4_asksHarm v7) (rcX4_asksHarm v7) ⟨_, _, rfl⟩ (as := []) (st := []) rfl rfl (by decide +kernel) rfl (Nat.le_of_ble_eq_true rfl) (Nat.le_of_ble_eq_true rfl) fun v8 s => ?_
    refine r_p (pc' := 44) (p_istore (i := 5) (lv' := [(5, vi v8), (4, vi v2), (0, vr a0), (1, vi a1), (2, vi a2), (3, vi a3)]) (by decide +kernel) (Nat.le_of_ble_eq_true rfl) rfl) ?_
    refine r_p (pc' := 45) (p_iconst (n := 1) (v := 1) (by decide +kernel) rfl) ?_
    refine r_p (pc' := 47) (p_istore (i := 6) (lv' := [(6, vi 1), (5, vi v8), (4, vi v2), (0, vr a0), (1, vi a1), (2, vi a2), (3, vi a3)]) (by decide +kernel) (Nat.le_of_ble_eq_true rfl) rfl) ?_
    refine r_sub (lv' := [(0, vr a0), (1, vi a1), (2, vi a2), (3, vi a3), (4, vi v2), (5, vi v8), (6, vi 1)]) [3, 4, 5, 6, 2, 1, 0] rfl ?_
    refine r_loop2 (fun (e28 : Int32 ⊕ Unit) => match e28 with | .inl _ => 104 | .inr _ => 113) (fun (e28 : Int32 ⊕ Unit) => match e28 with | .inl e28 => [(6, vi e28)] | .inr e28 => []) (fun (x9 : Int32) => [(0, vr a0), (1, vi a1), (2, vi a2), (3, vi a3), (4, vi v2), (5, vi v8), (6, vi x9)]) (fun e28 s => ?_) (fun K10 hb11 he12 x9 s => ?_) 1 _
    · rcases e28 with e28 | e28
      · show Rr _ _ 104 [(6, vi e28)] [] _ _ _ _
        refine r_p (pc' := 106) (p_iload 0 (i := 6) (by decide +kernel) rfl) ?_
        exact r_iret rfl rfl _ rfl rfl (by decide +kernel)
      · show Rr _ _ 113 [] [] _ _ _ _
        refine r_p (pc' := 114) (p_iconst (n := -1) (v := -1) (by decide +kernel) rfl) ?_
        exact r_iret rfl rfl _ rfl rfl (by decide +kernel)
    · unfold mX11_worst_L47
      refine r_p (pc' := 49) (p_iload 6 (i := 6) (by decide +kernel) rfl) ?_
      refine r_p (pc' := 52) (p_sipush (n := 999) (v := 999) (by decide +kernel) (by decide +kernel)) ?_
      refine r_icmpgt (off := 61) (tgt := 113) (by decide +kernel) (by decide) (fun h13 => ?_) (fun h13 => ?_)
      · refine r_sub (lv' := []) [] rfl ?_
        exact he12 ((.inr ())) _
      · refine r_p (pc' := 57) (p_iload 6 (i := 6) (by decide +kernel) rfl) ?_
        refine r_p (pc' := 58) (p_iconst (n := 1) (v := 1) (by decide +kernel) rfl) ?_
        refine r_join 82 (fun (x15 : Unit) => [(0, vr a0), (1, vi a1), (2, vi a2), (3, vi a3), (4, vi v2), (5, vi v8), (6, vi x9)]) (fun (x15 : Unit) => []) (fun x15 s => ?_) (fun K16 hj17 => ?_)
        · refine r_p (pc' := 84) (p_iload 4 (i := 4) (by decide +kernel) rfl) ?_
          refine r_p (pc' := 85) (p_aload_n 0 (k := 0) (by decide +kernel) rfl) ?_
          refine r_gR flX11_19_10 (by decide +kernel) fun v23 => ?_
          refine r_p (pc' := 90) (p_iload 6 (i := 6) (by decide +kernel) rfl) ?_
          refine r_callVI mvX11_374 (ctX2_gains v23 x9) (rcX2_gains v23 x9) ⟨_, _, rfl⟩ (as := [vi x9]) (st := [vi v2]) rfl rfl (by decide +kernel) rfl (Nat.le_of_ble_eq_true rfl) (Nat.le_of_ble_eq_true rfl) fun v24 s => ?_
          refine r_p (pc' := 94) (p_iadd (by decide +kernel)) ?_
          refine r_p (pc' := 95) (p_aload_n 0 (k := 0) (by decide +kernel) rfl) ?_
          refine r_gR flX11_54_10 (by decide +kernel) fun v25 => ?_
          refine r_gI flX11_377_1 (by decide +kernel) fun v26 => ?_
          refine r_icmple (off := 6) (tgt := 107) (by decide +kernel) (by decide) (fun h27 => ?_) (fun h27 => ?_)
          · refine r_p (pc' := 110) (p_iinc 6 (i := 6) (n := 1) (x := x9) (v := x9 + 1) (lv' := [(6, vi (x9 + 1)), (0, vr a0), (1, vi a1), (2, vi a2), (3, vi a3), (4, vi v2), (5, vi v8)]) (by decide +kernel) rfl rfl (Nat.le_of_ble_eq_true rfl) rfl) ?_
            refine r_p (pc' := 47) (p_goto (off := -63) (tgt := 47) (by decide +kernel) (by decide)) ?_
            refine r_sub (lv' := [(0, vr a0), (1, vi a1), (2, vi a2), (3, vi a3), (4, vi v2), (5, vi v8), (6, vi (x9 + 1))]) [1, 2, 3, 4, 5, 6, 0] rfl ?_
            exact hb11 (x9 + 1) _
          · refine r_sub (lv' := [(6, vi x9)]) [6] rfl ?_
            exact he12 (.inl x9) _
        · refine r_icmpeq (off := 8) (tgt := 66) (by decide +kernel) (by decide) (fun h14 => ?_) (fun h14 => ?_)
          · refine r_p (pc' := 67) (p_aload_n 0 (k := 0) (by decide +kernel) rfl) ?_
            refine r_gR flX11_19_10 (by decide +kernel) fun v18 => ?_
            refine r_p (pc' := 71) (p_aload_n 0 (k := 0) (by decide +kernel) rfl) ?_
            refine r_gR flX11_54_10 (by decide +kernel) fun v19 => ?_
            refine r_p (pc' := 75) (p_iload_n 1 (k := 1) (by decide +kernel) rfl) ?_
            refine r_p (pc' := 76) (p_iload_n 2 (k := 2) (by decide +kernel) rfl) ?_
            refine r_p (pc' := 78) (p_iload 6 (i := 6) (by decide +kernel) rfl) ?_
            refine r_p (pc' := 79) (p_iload_n 3 (k := 3) (by decide +kernel) rfl) ?_
            refine r_callVU mvX11_203 (ctX2_hearGuilt v18 v19 a1 a2 x9 a3) (rcX2_hearGuilt v18 v19 a1 a2 x9 a3) ⟨_, _, rfl⟩ (as := [vr v19, vi a1, vi a2, vi x9, vi a3]) (st := []) rfl rfl (by decide +kernel) rfl (Nat.le_of_ble_eq_true rfl) (Nat.le_of_ble_eq_true rfl) fun s => ?_
            exact hj17 () _
          · refine r_p (pc' := 63) (p_iload 5 (i := 5) (by decide +kernel) rfl) ?_
            refine r_ifeq (off := 19) (tgt := 82) (by decide +kernel) (by decide) (fun h20 => ?_) (fun h20 => ?_)
            · exact hj17 () _
            · refine r_p (pc' := 67) (p_aload_n 0 (k := 0) (by decide +kernel) rfl) ?_
              refine r_gR flX11_19_10 (by decide +kernel) fun v21 => ?_
              refine r_p (pc' := 71) (p_aload_n 0 (k := 0) (by decide +kernel) rfl) ?_
              refine r_gR flX11_54_10 (by decide +kernel) fun v22 => ?_
              refine r_p (pc' := 75) (p_iload_n 1 (k := 1) (by decide +kernel) rfl) ?_
              refine r_p (pc' := 76) (p_iload_n 2 (k := 2) (by decide +kernel) rfl) ?_
              refine r_p (pc' := 78) (p_iload 6 (i := 6) (by decide +kernel) rfl) ?_
              refine r_p (pc' := 79) (p_iload_n 3 (k := 3) (by decide +kernel) rfl) ?_
              refine r_callVU mvX11_203 (ctX2_hearGuilt v21 v22 a1 a2 x9 a3) (rcX2_hearGuilt v21 v22 a1 a2 x9 a3) ⟨_, _, rfl⟩ (as := [vr v22, vi a1, vi a2, vi x9, vi a3]) (st := []) rfl rfl (by decide +kernel) rfl (Nat.le_of_ble_eq_true rfl) (Nat.le_of_ble_eq_true rfl) fun s => ?_
              exact hj17 () _
  · refine r_p (pc' := 31) (p_iconst (n := -1) (v := -1) (by decide +kernel) rfl) ?_
    exact r_iret rfl rfl _ rfl rfl (by decide +kernel)
def aX11_sure : StA := (RX11, cX11_sure, 4, some .int, yX11_sure, 9, [])
noncomputable def mX11_sure_L14 (a0 : Nat) (a1 : Int32) (x3 : Int32 × Int32) : MM ((Int32 × Int32) ⊕ (Int32)) :=
  mbnd (gR 10 7 a0) fun (v7 : Nat) =>
  mbnd (gR 1 3 v7) fun (v8 : Nat) =>
  mbnd (gI 8 3 v8) fun (v9 : Int32) =>
  if v9 ≤ x3.2 then (
    mret (.inr x3.1)
  ) else (
    mbnd (gR 10 7 a0) fun (v11 : Nat) =>
    mbnd (gR 1 3 v11) fun (v12 : Nat) =>
    mbnd (mX8_get v12 x3.2 4) fun (v13 : Int32) =>
    mbnd (α := Int32) (
      if v13 = a1 then (
        mbnd (gR 10 7 a0) fun (v18 : Nat) =>
        mbnd (gR 1 3 v18) fun (v19 : Nat) =>
        mbnd (mX8_get v19 x3.2 6) fun (v20 : Int32) =>
        mbnd (mret (x3.1 &&& v20)) fun (v21 : Int32) =>
        mret v21
      ) else (
        mret x3.1
      )
    ) fun (x15 : Int32) =>
    mret (.inl (x15, x3.2 + 1))
  )
noncomputable def mX11_sure (a0 : Nat) (a1 : Int32) : MM Int32 := onC 10 a0 (
  mbnd (mX11_needEdge a1) fun _ =>
  mbnd (gR 10 7 a0) fun (v1 : Nat) =>
  mbnd (mX1_allParts v1) fun (v2 : Int32) =>
  mbnd (loopM (mX11_sure_L14 a0 a1) (v2, 0)) fun (e22 : Int32) =>
  mret e22
  )
theorem rcX11_sure (a0 : Nat) (a1 : Int32) : Rcv 10 a0 (mX11_sure a0 a1) := fun s r h => ⟨(onC_some h).1, (onC_some h).2.1⟩
set_option maxHeartbeats 4000000 in
set_option maxRecDepth 100000 in
theorem ctX11_sure (a0 : Nat) (a1 : Int32) : Ct aX11_sure [vr a0, vi a1] (mX11_sure a0 a1) rI := by
  unfold mX11_sure
  refine ct_onC (ct_intro (by decide +kernel) rfl (Nat.le_of_ble_eq_true rfl) fun Y s => ?_)
  refine r_sub (lv' := [(0, vr a0), (1, vi a1)]) [0, 1] rfl ?_
  refine r_p (pc' := 1) (p_iload_n 1 (k := 1) (by decide +kernel) rfl) ?_
  refine r_callSU msX11_276 (ctX11_needEdge a1) (as := [vi a1]) (st := []) rfl rfl (by decide +kernel) rfl (Nat.le_of_ble_eq_true rfl) (Nat.le_of_ble_eq_true rfl) fun s => ?_
  refine r_p (pc' := 5) (p_aload_n 0 (k := 0) (by decide +kernel) rfl) ?_
  refine r_gR flX11_54_10 (by decide +kernel) fun v1 => ?_
  refine r_callVI mvX11_383 (ctX1_allParts v1) (rcX1_allParts v1) ⟨_, _, rfl⟩ (as := []) (st := []) rfl rfl (by decide +kernel) rfl (Nat.le_of_ble_eq_true rfl) (Nat.le_of_ble_eq_true rfl) fun v2 s => ?_
  refine r_p (pc' := 12) (p_istore_n (k := 2) (lv' := [(2, vi v2), (0, vr a0), (1, vi a1)]) (by decide +kernel) (Nat.le_of_ble_eq_true rfl) rfl) ?_
  refine r_p (pc' := 13) (p_iconst (n := 0) (v := 0) (by decide +kernel) rfl) ?_
  refine r_p (pc' := 14) (p_istore_n (k := 3) (lv' := [(3, vi 0), (2, vi v2), (0, vr a0), (1, vi a1)]) (by decide +kernel) (Nat.le_of_ble_eq_true rfl) rfl) ?_
  refine r_sub (lv' := [(0, vr a0), (1, vi a1), (2, vi v2), (3, vi 0)]) [2, 3, 1, 0] rfl ?_
  refine r_loop2 (fun _ => 66) (fun (e22 : Int32) => [(2, vi e22)]) (fun (x3 : Int32 × Int32) => [(0, vr a0), (1, vi a1), (2, vi x3.1), (3, vi x3.2)]) (fun e22 s => ?_) (fun K4 hb5 he6 x3 s => ?_) (v2, 0) _
  · refine r_p (pc' := 67) (p_iload_n 0 (k := 2) (by decide +kernel) rfl) ?_
    exact r_iret rfl rfl _ rfl rfl (by decide +kernel)
  · unfold mX11_sure_L14
    refine r_p (pc' := 15) (p_iload_n 3 (k := 3) (by decide +kernel) rfl) ?_
    refine r_p (pc' := 16) (p_aload_n 0 (k := 0) (by decide +kernel) rfl) ?_
    refine r_gR flX11_54_10 (by decide +kernel) fun v7 => ?_
    refine r_gR flX11_191_1 (by decide +kernel) fun v8 => ?_
    refine r_gI flX11_293_8 (by decide +kernel) fun v9 => ?_
    refine r_icmpge (off := 41) (tgt := 66) (by decide +kernel) (by decide) (fun h10 => ?_) (fun h10 => ?_)
    · refine r_sub (lv' := [(2, vi x3.1)]) [2] rfl ?_
      exact he6 x3.1 _
    · refine r_p (pc' := 29) (p_aload_n 0 (k := 0) (by decide +kernel) rfl) ?_
      refine r_gR flX11_54_10 (by decide +kernel) fun v11 => ?_
      refine r_gR flX11_191_1 (by decide +kernel) fun v12 => ?_
      refine r_p (pc' := 36) (p_iload_n 3 (k := 3) (by decide +kernel) rfl) ?_
      refine r_p (pc' := 37) (p_iconst (n := 4) (v := 4) (by decide +kernel) rfl) ?_
      refine r_callVI mvX11_151 (ctX8_get v12 x3.2 4) (rcX8_get v12 x3.2 4) ⟨_, _, rfl⟩ (as := [vi x3.2, vi 4]) (st := []) rfl rfl (by decide +kernel) rfl (Nat.le_of_ble_eq_true rfl) (Nat.le_of_ble_eq_true rfl) fun v13 s => ?_
      refine r_p (pc' := 41) (p_iload_n 1 (k := 1) (by decide +kernel) rfl) ?_
      refine r_join 60 (fun (x15 : Int32) => [(0, vr a0), (1, vi a1), (2, vi x15), (3, vi x3.2)]) (fun (x15 : Int32) => []) (fun x15 s => ?_) (fun K16 hj17 => ?_)
      · refine r_p (pc' := 63) (p_iinc 3 (i := 3) (n := 1) (x := x3.2) (v := x3.2 + 1) (lv' := [(3, vi (x3.2 + 1)), (0, vr a0), (1, vi a1), (2, vi x15)]) (by decide +kernel) rfl rfl (Nat.le_of_ble_eq_true rfl) rfl) ?_
        refine r_p (pc' := 14) (p_goto (off := -49) (tgt := 14) (by decide +kernel) (by decide)) ?_
        refine r_sub (lv' := [(0, vr a0), (1, vi a1), (2, vi x15), (3, vi (x3.2 + 1))]) [1, 2, 3, 0] rfl ?_
        exact hb5 (x15, x3.2 + 1) _
      · refine r_icmpne (off := 19) (tgt := 60) (by decide +kernel) (by decide) (fun h14 => ?_) (fun h14 => ?_)
        · refine r_p (pc' := 45) (p_iload_n 2 (k := 2) (by decide +kernel) rfl) ?_
          refine r_p (pc' := 46) (p_aload_n 0 (k := 0) (by decide +kernel) rfl) ?_
          refine r_gR flX11_54_10 (by decide +kernel) fun v18 => ?_
          refine r_gR flX11_191_1 (by decide +kernel) fun v19 => ?_
          refine r_p (pc' := 53) (p_iload_n 3 (k := 3) (by decide +kernel) rfl) ?_
          refine r_p (pc' := 55) (p_bipush (n := 6) (v := 6) (by decide +kernel) (by decide +kernel)) ?_
          refine r_callVI mvX11_151 (ctX8_get v19 x3.2 6) (rcX8_get v19 x3.2 6) ⟨_, _, rfl⟩ (as := [vi x3.2, vi 6]) (st := [vi x3.1]) rfl rfl (by decide +kernel) rfl (Nat.le_of_ble_eq_true rfl) (Nat.le_of_ble_eq_true rfl) fun v20 s => ?_
          refine r_p (pc' := 59) (p_iand (by decide +kernel)) ?_
          refine r_letI fun v21 => ?_
          refine r_p (pc' := 60) (p_istore_n (k := 2) (lv' := [(2, vi v21), (0, vr a0), (1, vi a1), (3, vi x3.2)]) (by decide +kernel) (Nat.le_of_ble_eq_true rfl) rfl) ?_
          refine r_sub (lv' := [(0, vr a0), (1, vi a1), (2, vi v21), (3, vi x3.2)]) [1, 2, 0, 3] rfl ?_
          exact hj17 v21 _
        · exact hj17 x3.1 _
def aX11_truth : StA := (RX11, cX11_truth, 3, some .int, yX11_truth, 9, [])
theorem thX11_386_218 : TH RX11 214 386 218 2 "there is no such DEED" 26 := ⟨by decide +kernel, tblG_of 1183 (by decide +kernel) (by decide +kernel), tblG_of 169 (by decide +kernel) (by decide +kernel), by decide +kernel, by decide +kernel, by decide +kernel⟩
noncomputable def mX11_truth (a0 : Nat) (a1 : Int32) (a2 : Int32) : MM Int32 := onC 10 a0 (
  mbnd (gR 10 7 a0) fun (v1 : Nat) =>
  mbnd (gR 1 3 v1) fun (v2 : Nat) =>
  mbnd (mX8_has v2 a1) fun (v3 : Int32) =>
  if v3 = 0 then (
    mthr 2
  ) else (
    mbnd (mX11_needWhat a2 7) fun _ =>
    mbnd (gR 10 7 a0) fun (v5 : Nat) =>
    mbnd (gR 1 3 v5) fun (v6 : Nat) =>
    mbnd (mX8_get v6 a1 a2) fun (v7 : Int32) =>
    mret v7
  )
  )
theorem rcX11_truth (a0 : Nat) (a1 : Int32) (a2 : Int32) : Rcv 10 a0 (mX11_truth a0 a1 a2) := fun s r h => ⟨(onC_some h).1, (onC_some h).2.1⟩
set_option maxHeartbeats 4000000 in
set_option maxRecDepth 100000 in
theorem ctX11_truth (a0 : Nat) (a1 : Int32) (a2 : Int32) : Ct aX11_truth [vr a0, vi a1, vi a2] (mX11_truth a0 a1 a2) rI := by
  unfold mX11_truth
  refine ct_onC (ct_intro (by decide +kernel) rfl (Nat.le_of_ble_eq_true rfl) fun Y s => ?_)
  refine r_sub (lv' := [(0, vr a0), (1, vi a1), (2, vi a2)]) [0, 1, 2] rfl ?_
  refine r_p (pc' := 1) (p_aload_n 0 (k := 0) (by decide +kernel) rfl) ?_
  refine r_gR flX11_54_10 (by decide +kernel) fun v1 => ?_
  refine r_gR flX11_191_1 (by decide +kernel) fun v2 => ?_
  refine r_p (pc' := 8) (p_iload_n 1 (k := 1) (by decide +kernel) rfl) ?_
  refine r_callVI mvX11_296 (ctX8_has v2 a1) (rcX8_has v2 a1) ⟨_, _, rfl⟩ (as := [vi a1]) (st := []) rfl rfl (by decide +kernel) rfl (Nat.le_of_ble_eq_true rfl) (Nat.le_of_ble_eq_true rfl) fun v3 s => ?_
  refine r_ifne (off := 14) (tgt := 25) (by decide +kernel) (by decide) (fun h4 => ?_) (fun h4 => ?_)
  · exact r_thrw thX11_386_218 rfl (Nat.le_of_ble_eq_true rfl) (Nat.le_of_ble_eq_true rfl) (by decide +kernel) (by decide +kernel) (by decide +kernel) (by decide +kernel) (by decide +kernel)
  · refine r_p (pc' := 26) (p_iload_n 2 (k := 2) (by decide +kernel) rfl) ?_
    refine r_p (pc' := 28) (p_bipush (n := 7) (v := 7) (by decide +kernel) (by decide +kernel)) ?_
    refine r_callSU msX11_143 (ctX11_needWhat a2 7) (as := [vi a2, vi 7]) (st := []) rfl rfl (by decide +kernel) rfl (Nat.le_of_ble_eq_true rfl) (Nat.le_of_ble_eq_true rfl) fun s => ?_
    refine r_p (pc' := 32) (p_aload_n 0 (k := 0) (by decide +kernel) rfl) ?_
    refine r_gR flX11_54_10 (by decide +kernel) fun v5 => ?_
    refine r_gR flX11_191_1 (by decide +kernel) fun v6 => ?_
    refine r_p (pc' := 39) (p_iload_n 1 (k := 1) (by decide +kernel) rfl) ?_
    refine r_p (pc' := 40) (p_iload_n 2 (k := 2) (by decide +kernel) rfl) ?_
    refine r_callVI mvX11_151 (ctX8_get v6 a1 a2) (rcX8_get v6 a1 a2) ⟨_, _, rfl⟩ (as := [vi a1, vi a2]) (st := []) rfl rfl (by decide +kernel) rfl (Nat.le_of_ble_eq_true rfl) (Nat.le_of_ble_eq_true rfl) fun v7 s => ?_
    exact r_iret rfl rfl _ rfl rfl (by decide +kernel)
def aX11_log : StA := (RX11, cX11_log, 3, some .int, yX11_log, 9, [])
theorem flX11_388_1 : FL RX11 388 1 4 := ⟨_, TX1, 13, "ToolCourt$Court", rfl, by decide, Or.inr ⟨"ToolCourt", List.mem_of_getElem? (i := 357) (by decide +kernel)⟩, Or.inl rfl⟩
noncomputable def mX11_log (a0 : Nat) (a1 : Int32) (a2 : Int32) : MM Int32 := onC 10 a0 (
  mbnd (mX11_needWhat a2 5) fun _ =>
  if a1 < 0 then (
    mret (-99)
  ) else (
    mbnd (gR 10 7 a0) fun (v2 : Nat) =>
    mbnd (gR 1 4 v2) fun (v3 : Nat) =>
    mbnd (gI 8 3 v3) fun (v4 : Int32) =>
    if a1 < v4 then (
      mbnd (gR 10 7 a0) fun (v6 : Nat) =>
      mbnd (gR 1 4 v6) fun (v7 : Nat) =>
      mbnd (gR 10 7 a0) fun (v8 : Nat) =>
      mbnd (gR 1 4 v8) fun (v9 : Nat) =>
      mbnd (gI 8 3 v9) fun (v10 : Int32) =>
      mbnd (mX8_get v7 ((v10 - 1) - a1) a2) fun (v11 : Int32) =>
      mret v11
    ) else (
      mret (-99)
    )
  )
  )
theorem rcX11_log (a0 : Nat) (a1 : Int32) (a2 : Int32) : Rcv 10 a0 (mX11_log a0 a1 a2) := fun s r h => ⟨(onC_some h).1, (onC_some h).2.1⟩
set_option maxHeartbeats 4000000 in
set_option maxRecDepth 100000 in
theorem ctX11_log (a0 : Nat) (a1 : Int32) (a2 : Int32) : Ct aX11_log [vr a0, vi a1, vi a2] (mX11_log a0 a1 a2) rI := by
  unfold mX11_log
  refine ct_onC (ct_intro (by decide +kernel) rfl (Nat.le_of_ble_eq_true rfl) fun Y s => ?_)
  refine r_sub (lv' := [(0, vr a0), (1, vi a1), (2, vi a2)]) [0, 1, 2] rfl ?_
  refine r_p (pc' := 1) (p_iload_n 2 (k := 2) (by decide +kernel) rfl) ?_
  refine r_p (pc' := 2) (p_iconst (n := 5) (v := 5) (by decide +kernel) rfl) ?_
  refine r_callSU msX11_143 (ctX11_needWhat a2 5) (as := [vi a2, vi 5]) (st := []) rfl rfl (by decide +kernel) rfl (Nat.le_of_ble_eq_true rfl) (Nat.le_of_ble_eq_true rfl) fun s => ?_
  refine r_p (pc' := 6) (p_iload_n 1 (k := 1) (by decide +kernel) rfl) ?_
  refine r_iflt (off := 17) (tgt := 23) (by decide +kernel) (by decide) (fun h1 => ?_) (fun h1 => ?_)
  · refine r_p (pc' := 25) (p_bipush (n := -99) (v := -99) (by decide +kernel) (by decide +kernel)) ?_
    exact r_iret rfl rfl _ rfl rfl (by decide +kernel)
  · refine r_p (pc' := 10) (p_iload_n 1 (k := 1) (by decide +kernel) rfl) ?_
    refine r_p (pc' := 11) (p_aload_n 0 (k := 0) (by decide +kernel) rfl) ?_
    refine r_gR flX11_54_10 (by decide +kernel) fun v2 => ?_
    refine r_gR flX11_388_1 (by decide +kernel) fun v3 => ?_
    refine r_gI flX11_293_8 (by decide +kernel) fun v4 => ?_
    refine r_icmplt (off := 6) (tgt := 26) (by decide +kernel) (by decide) (fun h5 => ?_) (fun h5 => ?_)
    · refine r_p (pc' := 27) (p_aload_n 0 (k := 0) (by decide +kernel) rfl) ?_
      refine r_gR flX11_54_10 (by decide +kernel) fun v6 => ?_
      refine r_gR flX11_388_1 (by decide +kernel) fun v7 => ?_
      refine r_p (pc' := 34) (p_aload_n 0 (k := 0) (by decide +kernel) rfl) ?_
      refine r_gR flX11_54_10 (by decide +kernel) fun v8 => ?_
      refine r_gR flX11_388_1 (by decide +kernel) fun v9 => ?_
      refine r_gI flX11_293_8 (by decide +kernel) fun v10 => ?_
      refine r_p (pc' := 44) (p_iconst (n := 1) (v := 1) (by decide +kernel) rfl) ?_
      refine r_p (pc' := 45) (p_isub (by decide +kernel)) ?_
      refine r_p (pc' := 46) (p_iload_n 1 (k := 1) (by decide +kernel) rfl) ?_
      refine r_p (pc' := 47) (p_isub (by decide +kernel)) ?_
      refine r_p (pc' := 48) (p_iload_n 2 (k := 2) (by decide +kernel) rfl) ?_
      refine r_callVI mvX11_151 (ctX8_get v7 ((v10 - 1) - a1) a2) (rcX8_get v7 ((v10 - 1) - a1) a2) ⟨_, _, rfl⟩ (as := [vi ((v10 - 1) - a1), vi a2]) (st := []) rfl rfl (by decide +kernel) rfl (Nat.le_of_ble_eq_true rfl) (Nat.le_of_ble_eq_true rfl) fun v11 s => ?_
      exact r_iret rfl rfl _ rfl rfl (by decide +kernel)
    · refine r_p (pc' := 25) (p_bipush (n := -99) (v := -99) (by decide +kernel) (by decide +kernel)) ?_
      exact r_iret rfl rfl _ rfl rfl (by decide +kernel)
def aX11_led : StA := (RX11, cX11_led, 4, some .int, yX11_led, 10, [])
noncomputable def mX11_led_L9 (a0 : Nat) (a1 : Int32) (x1 : Int32 × Int32) : MM ((Int32 × Int32) ⊕ (Int32)) :=
  mbnd (gR 10 7 a0) fun (v5 : Nat) =>
  mbnd (gR 1 4 v5) fun (v6 : Nat) =>
  mbnd (gI 8 3 v6) fun (v7 : Int32) =>
  if v7 ≤ x1.2 then (
    mret (.inr x1.1)
  ) else (
    mbnd (gR 10 7 a0) fun (v9 : Nat) =>
    mbnd (gR 1 4 v9) fun (v10 : Nat) =>
    mbnd (mX8_get v10 x1.2 1) fun (v11 : Int32) =>
    mbnd (α := Int32) (
      if v11 = a1 then (
        mret (x1.1 + 1)
      ) else (
        mret x1.1
      )
    ) fun (x13 : Int32) =>
    mret (.inl (x13, x1.2 + 1))
  )
noncomputable def mX11_led (a0 : Nat) (a1 : Int32) : MM Int32 := onC 10 a0 (
  mbnd (mX11_needPart a0 a1) fun _ =>
  mbnd (loopM (mX11_led_L9 a0 a1) (0, 0)) fun (e16 : Int32) =>
  mret e16
  )
theorem rcX11_led (a0 : Nat) (a1 : Int32) : Rcv 10 a0 (mX11_led a0 a1) := fun s r h => ⟨(onC_some h).1, (onC_some h).2.1⟩
set_option maxHeartbeats 4000000 in
set_option maxRecDepth 100000 in
theorem ctX11_led (a0 : Nat) (a1 : Int32) : Ct aX11_led [vr a0, vi a1] (mX11_led a0 a1) rI := by
  unfold mX11_led
  refine ct_onC (ct_intro (by decide +kernel) rfl (Nat.le_of_ble_eq_true rfl) fun Y s => ?_)
  refine r_sub (lv' := [(0, vr a0), (1, vi a1)]) [0, 1] rfl ?_
  refine r_p (pc' := 1) (p_aload_n 0 (k := 0) (by decide +kernel) rfl) ?_
  refine r_p (pc' := 2) (p_iload_n 1 (k := 1) (by decide +kernel) rfl) ?_
  refine r_callVU mvX11_136 (ctX11_needPart a0 a1) (rcX11_needPart a0 a1) ⟨_, _, rfl⟩ (as := [vi a1]) (st := []) rfl rfl (by decide +kernel) rfl (Nat.le_of_ble_eq_true rfl) (Nat.le_of_ble_eq_true rfl) fun s => ?_
  refine r_p (pc' := 6) (p_iconst (n := 0) (v := 0) (by decide +kernel) rfl) ?_
  refine r_p (pc' := 7) (p_istore_n (k := 2) (lv' := [(2, vi 0), (0, vr a0), (1, vi a1)]) (by decide +kernel) (Nat.le_of_ble_eq_true rfl) rfl) ?_
  refine r_p (pc' := 8) (p_iconst (n := 0) (v := 0) (by decide +kernel) rfl) ?_
  refine r_p (pc' := 9) (p_istore_n (k := 3) (lv' := [(3, vi 0), (2, vi 0), (0, vr a0), (1, vi a1)]) (by decide +kernel) (Nat.le_of_ble_eq_true rfl) rfl) ?_
  refine r_sub (lv' := [(0, vr a0), (1, vi a1), (2, vi 0), (3, vi 0)]) [2, 3, 1, 0] rfl ?_
  refine r_loop2 (fun _ => 48) (fun (e16 : Int32) => [(2, vi e16)]) (fun (x1 : Int32 × Int32) => [(0, vr a0), (1, vi a1), (2, vi x1.1), (3, vi x1.2)]) (fun e16 s => ?_) (fun K2 hb3 he4 x1 s => ?_) (0, 0) _
  · refine r_p (pc' := 49) (p_iload_n 0 (k := 2) (by decide +kernel) rfl) ?_
    exact r_iret rfl rfl _ rfl rfl (by decide +kernel)
  · unfold mX11_led_L9
    refine r_p (pc' := 10) (p_iload_n 3 (k := 3) (by decide +kernel) rfl) ?_
    refine r_p (pc' := 11) (p_aload_n 0 (k := 0) (by decide +kernel) rfl) ?_
    refine r_gR flX11_54_10 (by decide +kernel) fun v5 => ?_
    refine r_gR flX11_388_1 (by decide +kernel) fun v6 => ?_
    refine r_gI flX11_293_8 (by decide +kernel) fun v7 => ?_
    refine r_icmpge (off := 28) (tgt := 48) (by decide +kernel) (by decide) (fun h8 => ?_) (fun h8 => ?_)
    · refine r_sub (lv' := [(2, vi x1.1)]) [2] rfl ?_
      exact he4 x1.1 _
    · refine r_p (pc' := 24) (p_aload_n 0 (k := 0) (by decide +kernel) rfl) ?_
      refine r_gR flX11_54_10 (by decide +kernel) fun v9 => ?_
      refine r_gR flX11_388_1 (by decide +kernel) fun v10 => ?_
      refine r_p (pc' := 31) (p_iload_n 3 (k := 3) (by decide +kernel) rfl) ?_
      refine r_p (pc' := 32) (p_iconst (n := 1) (v := 1) (by decide +kernel) rfl) ?_
      refine r_callVI mvX11_151 (ctX8_get v10 x1.2 1) (rcX8_get v10 x1.2 1) ⟨_, _, rfl⟩ (as := [vi x1.2, vi 1]) (st := []) rfl rfl (by decide +kernel) rfl (Nat.le_of_ble_eq_true rfl) (Nat.le_of_ble_eq_true rfl) fun v11 s => ?_
      refine r_p (pc' := 36) (p_iload_n 1 (k := 1) (by decide +kernel) rfl) ?_
      refine r_join 42 (fun (x13 : Int32) => [(0, vr a0), (1, vi a1), (2, vi x13), (3, vi x1.2)]) (fun (x13 : Int32) => []) (fun x13 s => ?_) (fun K14 hj15 => ?_)
      · refine r_p (pc' := 45) (p_iinc 3 (i := 3) (n := 1) (x := x1.2) (v := x1.2 + 1) (lv' := [(3, vi (x1.2 + 1)), (0, vr a0), (1, vi a1), (2, vi x13)]) (by decide +kernel) rfl rfl (Nat.le_of_ble_eq_true rfl) rfl) ?_
        refine r_p (pc' := 9) (p_goto (off := -36) (tgt := 9) (by decide +kernel) (by decide)) ?_
        refine r_sub (lv' := [(0, vr a0), (1, vi a1), (2, vi x13), (3, vi (x1.2 + 1))]) [1, 2, 3, 0] rfl ?_
        exact hb3 (x13, x1.2 + 1) _
      · refine r_icmpne (off := 6) (tgt := 42) (by decide +kernel) (by decide) (fun h12 => ?_) (fun h12 => ?_)
        · refine r_p (pc' := 42) (p_iinc 2 (i := 2) (n := 1) (x := x1.1) (v := x1.1 + 1) (lv' := [(2, vi (x1.1 + 1)), (0, vr a0), (1, vi a1), (3, vi x1.2)]) (by decide +kernel) rfl rfl (Nat.le_of_ble_eq_true rfl) rfl) ?_
          refine r_sub (lv' := [(0, vr a0), (1, vi a1), (2, vi (x1.1 + 1)), (3, vi x1.2)]) [1, 2, 0, 3] rfl ?_
          exact hj15 (x1.1 + 1) _
        · exact hj15 x1.1 _
def aX11_seed : StA := (RX11, cX11_seed, 3, some .int, yX11_seed, 8, [])
theorem fpX11_368_1 : FP RX11 368 1 11 .int false := ⟨_, TX1, 13, "ToolCourt$Court", tyX1, rfl, by decide, Or.inr ⟨rfl, "ToolCourt", List.mem_of_getElem? (i := 377) (by decide +kernel)⟩, Or.inl rfl, tyX1_ok, nmX1, rfl, by decide, by decide +kernel⟩
noncomputable def mX11_seed (a0 : Nat) (a1 : Int32) : MM Int32 := onC 10 a0 (
  mbnd (gR 10 7 a0) fun (v1 : Nat) =>
  mbnd (gI 1 11 v1) fun (v2 : Int32) =>
  mbnd (gR 10 7 a0) fun (v3 : Nat) =>
  mbnd (pI 1 11 v3 a1) fun _ =>
  mret v2
  )
theorem rcX11_seed (a0 : Nat) (a1 : Int32) : Rcv 10 a0 (mX11_seed a0 a1) := fun s r h => ⟨(onC_some h).1, (onC_some h).2.1⟩
set_option maxHeartbeats 4000000 in
set_option maxRecDepth 100000 in
theorem ctX11_seed (a0 : Nat) (a1 : Int32) : Ct aX11_seed [vr a0, vi a1] (mX11_seed a0 a1) rI := by
  unfold mX11_seed
  refine ct_onC (ct_intro (by decide +kernel) rfl (Nat.le_of_ble_eq_true rfl) fun Y s => ?_)
  refine r_sub (lv' := [(0, vr a0), (1, vi a1)]) [0, 1] rfl ?_
  refine r_p (pc' := 1) (p_aload_n 0 (k := 0) (by decide +kernel) rfl) ?_
  refine r_gR flX11_54_10 (by decide +kernel) fun v1 => ?_
  refine r_gI flX11_368_1 (by decide +kernel) fun v2 => ?_
  refine r_p (pc' := 8) (p_istore_n (k := 2) (lv' := [(2, vi v2), (0, vr a0), (1, vi a1)]) (by decide +kernel) (Nat.le_of_ble_eq_true rfl) rfl) ?_
  refine r_p (pc' := 9) (p_aload_n 1 (k := 0) (by decide +kernel) rfl) ?_
  refine r_gR flX11_54_10 (by decide +kernel) fun v3 => ?_
  refine r_p (pc' := 13) (p_iload_n 2 (k := 1) (by decide +kernel) rfl) ?_
  refine r_pI fpX11_368_1 (fun h => by cases h) (by decide +kernel) fun s => ?_
  refine r_p (pc' := 17) (p_iload_n 0 (k := 2) (by decide +kernel) rfl) ?_
  exact r_iret rfl rfl _ rfl rfl (by decide +kernel)
def aX11_undo : StA := (RX11, cX11_undo, 1, some .boolean, yX11_undo, 11, [])
theorem mvX11_391 : MV RX11 391 aX6_takeBackAct 1 := ⟨tblG_of 744 (by decide +kernel) (by decide +kernel), tblG_of 745 (by decide +kernel) (by decide +kernel), tblG_of 746 (by decide +kernel) (by decide +kernel), tblG_of 149 (by decide +kernel) (by decide +kernel), tblG_of 747 (by decide +kernel) (by decide +kernel), rfl, ⟨by decide, by decide⟩, by decide +kernel, by decide⟩
noncomputable def mX11_undo (a0 : Nat) : MM Int32 := onC 10 a0 (
  mbnd (gR 10 6 a0) fun (v1 : Nat) =>
  mbnd (gR 10 7 a0) fun (v2 : Nat) =>
  mbnd (mX6_takeBackAct v1 v2) fun (v3 : Int32) =>
  mbool v3
  )
theorem rcX11_undo (a0 : Nat) : Rcv 10 a0 (mX11_undo a0) := fun s r h => ⟨(onC_some h).1, (onC_some h).2.1⟩
set_option maxHeartbeats 4000000 in
set_option maxRecDepth 100000 in
theorem ctX11_undo (a0 : Nat) : Ct aX11_undo [vr a0] (mX11_undo a0) rI := by
  unfold mX11_undo
  refine ct_onC (ct_intro (by decide +kernel) rfl (Nat.le_of_ble_eq_true rfl) fun Y s => ?_)
  refine r_sub (lv' := [(0, vr a0)]) [0] rfl ?_
  refine r_p (pc' := 1) (p_aload_n 0 (k := 0) (by decide +kernel) rfl) ?_
  refine r_gR flX11_40_10 (by decide +kernel) fun v1 => ?_
  refine r_p (pc' := 5) (p_aload_n 0 (k := 0) (by decide +kernel) rfl) ?_
  refine r_gR flX11_54_10 (by decide +kernel) fun v2 => ?_
  refine r_callVI mvX11_391 (ctX6_takeBackAct v1 v2) (rcX6_takeBackAct v1 v2) ⟨_, _, rfl⟩ (as := [vr v2]) (st := []) rfl rfl (by decide +kernel) rfl (Nat.le_of_ble_eq_true rfl) (Nat.le_of_ble_eq_true rfl) fun v3 s => ?_
  exact r_bret (y9 := fun v => v) (fun _ => rfl) (fun _ => rfl) rfl (by decide +kernel)
def aX11_image : StA := (RX11, cX11_image, 1, none, yX11_image, 12, [])
theorem mvX11_395 : MV RX11 395 aX6_keepImage 1 := ⟨tblG_of 762 (by decide +kernel) (by decide +kernel), tblG_of 763 (by decide +kernel) (by decide +kernel), tblG_of 764 (by decide +kernel) (by decide +kernel), tblG_of 149 (by decide +kernel) (by decide +kernel), tblG_of 765 (by decide +kernel) (by decide +kernel), rfl, ⟨by decide, by decide⟩, by decide +kernel, by decide⟩
noncomputable def mX11_image (a0 : Nat) : MM Unit := onC 10 a0 (
  mbnd (gR 10 6 a0) fun (v1 : Nat) =>
  mbnd (gR 10 7 a0) fun (v2 : Nat) =>
  mbnd (mX6_keepImage v1 v2) fun _ =>
  mret ()
  )
theorem rcX11_image (a0 : Nat) : Rcv 10 a0 (mX11_image a0) := fun s r h => ⟨(onC_some h).1, (onC_some h).2.1⟩
set_option maxHeartbeats 4000000 in
set_option maxRecDepth 100000 in
theorem ctX11_image (a0 : Nat) : Ct aX11_image [vr a0] (mX11_image a0) rU := by
  unfold mX11_image
  refine ct_onC (ct_intro (by decide +kernel) rfl (Nat.le_of_ble_eq_true rfl) fun Y s => ?_)
  refine r_sub (lv' := [(0, vr a0)]) [0] rfl ?_
  refine r_p (pc' := 1) (p_aload_n 0 (k := 0) (by decide +kernel) rfl) ?_
  refine r_gR flX11_40_10 (by decide +kernel) fun v1 => ?_
  refine r_p (pc' := 5) (p_aload_n 0 (k := 0) (by decide +kernel) rfl) ?_
  refine r_gR flX11_54_10 (by decide +kernel) fun v2 => ?_
  refine r_callVU mvX11_395 (ctX6_keepImage v1 v2) (rcX6_keepImage v1 v2) ⟨_, _, rfl⟩ (as := [vr v2]) (st := []) rfl rfl (by decide +kernel) rfl (Nat.le_of_ble_eq_true rfl) (Nat.le_of_ble_eq_true rfl) fun s => ?_
  exact r_vret (y9 := ()) rfl rfl rfl (by decide +kernel)
def aX11_back : StA := (RX11, cX11_back, 1, some .boolean, yX11_back, 11, [])
theorem mvX11_398 : MV RX11 398 aX6_goBack 1 := ⟨tblG_of 774 (by decide +kernel) (by decide +kernel), tblG_of 775 (by decide +kernel) (by decide +kernel), tblG_of 776 (by decide +kernel) (by decide +kernel), tblG_of 149 (by decide +kernel) (by decide +kernel), tblG_of 777 (by decide +kernel) (by decide +kernel), rfl, ⟨by decide, by decide⟩, by decide +kernel, by decide⟩
noncomputable def mX11_back (a0 : Nat) : MM Int32 := onC 10 a0 (
  mbnd (gR 10 6 a0) fun (v1 : Nat) =>
  mbnd (gR 10 7 a0) fun (v2 : Nat) =>
  mbnd (mX6_goBack v1 v2) fun (v3 : Int32) =>
  mbool v3
  )
theorem rcX11_back (a0 : Nat) : Rcv 10 a0 (mX11_back a0) := fun s r h => ⟨(onC_some h).1, (onC_some h).2.1⟩
set_option maxHeartbeats 4000000 in
set_option maxRecDepth 100000 in
theorem ctX11_back (a0 : Nat) : Ct aX11_back [vr a0] (mX11_back a0) rI := by
  unfold mX11_back
  refine ct_onC (ct_intro (by decide +kernel) rfl (Nat.le_of_ble_eq_true rfl) fun Y s => ?_)
  refine r_sub (lv' := [(0, vr a0)]) [0] rfl ?_
  refine r_p (pc' := 1) (p_aload_n 0 (k := 0) (by decide +kernel) rfl) ?_
  refine r_gR flX11_40_10 (by decide +kernel) fun v1 => ?_
  refine r_p (pc' := 5) (p_aload_n 0 (k := 0) (by decide +kernel) rfl) ?_
  refine r_gR flX11_54_10 (by decide +kernel) fun v2 => ?_
  refine r_callVI mvX11_398 (ctX6_goBack v1 v2) (rcX6_goBack v1 v2) ⟨_, _, rfl⟩ (as := [vr v2]) (st := []) rfl rfl (by decide +kernel) rfl (Nat.le_of_ble_eq_true rfl) (Nat.le_of_ble_eq_true rfl) fun v3 s => ?_
  exact r_bret (y9 := fun v => v) (fun _ => rfl) (fun _ => rfl) rfl (by decide +kernel)
def aX11_count : StA := (RX11, cX11_count, 2, some .int, yX11_count, 11, [])
theorem flX11_133_4 : FL RX11 133 4 0 := ⟨_, TX4, 3, "ToolCourt$Law", rfl, by decide, Or.inr ⟨"ToolCourt", List.mem_of_getElem? (i := 297) (by decide +kernel)⟩, Or.inl rfl⟩
theorem flX11_401_1 : FL RX11 401 1 9 := ⟨_, TX1, 13, "ToolCourt$Court", rfl, by decide, Or.inr ⟨"ToolCourt", List.mem_of_getElem? (i := 371) (by decide +kernel)⟩, Or.inl rfl⟩
theorem mvX11_404 : MV RX11 404 aX1_spareSet 0 := ⟨tblG_of 786 (by decide +kernel) (by decide +kernel), tblG_of 787 (by decide +kernel) (by decide +kernel), tblG_of 788 (by decide +kernel) (by decide +kernel), tblG_of 151 (by decide +kernel) (by decide +kernel), tblG_of 789 (by decide +kernel) (by decide +kernel), rfl, ⟨by decide, by decide⟩, by decide +kernel, by decide⟩
theorem mvX11_407 : MV RX11 407 aX1_guiltOfAll 0 := ⟨tblG_of 791 (by decide +kernel) (by decide +kernel), tblG_of 792 (by decide +kernel) (by decide +kernel), tblG_of 793 (by decide +kernel) (by decide +kernel), tblG_of 151 (by decide +kernel) (by decide +kernel), tblG_of 794 (by decide +kernel) (by decide +kernel), rfl, ⟨by decide, by decide⟩, by decide +kernel, by decide⟩
theorem flX11_410_1 : FL RX11 410 1 12 := ⟨_, TX1, 13, "ToolCourt$Court", rfl, by decide, Or.inr ⟨"ToolCourt", List.mem_of_getElem? (i := 379) (by decide +kernel)⟩, Or.inl rfl⟩
theorem flX11_413_6 : FL RX11 413 6 2 := ⟨_, TX6, 4, "ToolCourt$Memory", rfl, by decide, Or.inr ⟨"ToolCourt", List.mem_of_getElem? (i := 279) (by decide +kernel)⟩, Or.inl rfl⟩
noncomputable def mX11_count (a0 : Nat) (a1 : Int32) : MM Int32 := onC 10 a0 (
  if a1 = 0 then (
    mbnd (gR 10 7 a0) fun (v2 : Nat) =>
    mbnd (gR 1 0 v2) fun (v3 : Nat) =>
    mbnd (gI 8 3 v3) fun (v4 : Int32) =>
    mret v4
  ) else (
    if a1 = 1 then (
      mbnd (gR 10 7 a0) fun (v6 : Nat) =>
      mbnd (gR 1 1 v6) fun (v7 : Nat) =>
      mbnd (gI 8 3 v7) fun (v8 : Int32) =>
      mret v8
    ) else (
      if a1 = 2 then (
        mbnd (gR 10 7 a0) fun (v10 : Nat) =>
        mbnd (gR 1 2 v10) fun (v11 : Nat) =>
        mbnd (gI 8 3 v11) fun (v12 : Int32) =>
        mret v12
      ) else (
        if a1 = 3 then (
          mbnd (gR 10 7 a0) fun (v14 : Nat) =>
          mbnd (gI 1 7 v14) fun (v15 : Int32) =>
          mret v15
        ) else (
          if a1 = 4 then (
            mbnd (gR 10 7 a0) fun (v17 : Nat) =>
            mbnd (gR 1 6 v17) fun (v18 : Nat) =>
            mbnd (gI 4 0 v18) fun (v19 : Int32) =>
            mret v19
          ) else (
            if a1 = 5 then (
              mbnd (gR 10 7 a0) fun (v21 : Nat) =>
              mbnd (gI 1 8 v21) fun (v22 : Int32) =>
              mret v22
            ) else (
              if a1 = 6 then (
                mbnd (gR 10 7 a0) fun (v24 : Nat) =>
                mbnd (gR 1 3 v24) fun (v25 : Nat) =>
                mbnd (gI 8 3 v25) fun (v26 : Int32) =>
                mret v26
              ) else (
                if a1 = 7 then (
                  mbnd (gR 10 7 a0) fun (v28 : Nat) =>
                  mbnd (gI 1 10 v28) fun (v29 : Int32) =>
                  mret v29
                ) else (
                  if a1 = 8 then (
                    mbnd (gR 10 7 a0) fun (v31 : Nat) =>
                    mbnd (gI 1 9 v31) fun (v32 : Int32) =>
                    mret v32
                  ) else (
                    if a1 = 9 then (
                      mbnd (gR 10 7 a0) fun (v34 : Nat) =>
                      mbnd (mX1_spareSet v34) fun (v35 : Int32) =>
                      mret v35
                    ) else (
                      if a1 = 10 then (
                        mbnd (gR 10 7 a0) fun (v37 : Nat) =>
                        mbnd (mX1_guiltOfAll v37) fun (v38 : Int32) =>
                        mret v38
                      ) else (
                        if a1 = 11 then (
                          mbnd (gR 10 7 a0) fun (v40 : Nat) =>
                          mbnd (gI 1 12 v40) fun (v41 : Int32) =>
                          mret v41
                        ) else (
                          if a1 = 12 then (
                            mbnd (gR 10 7 a0) fun (v43 : Nat) =>
                            mbnd (gR 1 4 v43) fun (v44 : Nat) =>
                            mbnd (gI 8 3 v44) fun (v45 : Int32) =>
                            mret v45
                          ) else (
                            if a1 = 13 then (
                              mbnd (gR 10 6 a0) fun (v47 : Nat) =>
                              mbnd (gI 6 2 v47) fun (v48 : Int32) =>
                              mret v48
                            ) else (
                              if a1 = 14 then (
                                mbnd (gR 10 7 a0) fun (v50 : Nat) =>
                                mbnd (gR 1 5 v50) fun (v51 : Nat) =>
                                mbnd (gI 8 3 v51) fun (v52 : Int32) =>
                                mret v52
                              ) else (
                                mret (-1)
                              )
                            )
                          )
                        )
                      )
                    )
                  )
                )
              )
            )
          )
        )
      )
    )
  )
  )
theorem rcX11_count (a0 : Nat) (a1 : Int32) : Rcv 10 a0 (mX11_count a0 a1) := fun s r h => ⟨(onC_some h).1, (onC_some h).2.1⟩
set_option maxHeartbeats 4000000 in
set_option maxRecDepth 100000 in
theorem ctX11_count (a0 : Nat) (a1 : Int32) : Ct aX11_count [vr a0, vi a1] (mX11_count a0 a1) rI := by
  unfold mX11_count
  refine ct_onC (ct_intro (by decide +kernel) rfl (Nat.le_of_ble_eq_true rfl) fun Y s => ?_)
  refine r_sub (lv' := [(0, vr a0), (1, vi a1)]) [0, 1] rfl ?_
  refine r_p (pc' := 1) (p_iload_n 1 (k := 1) (by decide +kernel) rfl) ?_
  refine r_tcase (fun h1 => ?_) (fun h1 => ?_)
  · refine r_tsin (tgt := 76) (lo := 0) (hi := 14) (dflt := 216) (offs := #[75, 86, 97, 108, 116, 127, 135, 146, 154, 162, 170, 178, 186, 197, 205]) (len := 75) (off := 75) (by decide +kernel) (by rw [h1]; decide) (by rw [h1]; decide) (by rw [h1]; rfl) (by decide) ?_
    refine r_p (pc' := 77) (p_aload_n 0 (k := 0) (by decide +kernel) rfl) ?_
    refine r_gR flX11_54_10 (by decide +kernel) fun v2 => ?_
    refine r_gR flX11_147_1 (by decide +kernel) fun v3 => ?_
    refine r_gI flX11_293_8 (by decide +kernel) fun v4 => ?_
    exact r_iret rfl rfl _ rfl rfl (by decide +kernel)
  · refine r_tcase (fun h5 => ?_) (fun h5 => ?_)
    · refine r_tsin (tgt := 87) (lo := 0) (hi := 14) (dflt := 216) (offs := #[75, 86, 97, 108, 116, 127, 135, 146, 154, 162, 170, 178, 186, 197, 205]) (len := 75) (off := 86) (by decide +kernel) (by rw [h5]; decide) (by rw [h5]; decide) (by rw [h5]; rfl) (by decide) ?_
      refine r_p (pc' := 88) (p_aload_n 0 (k := 0) (by decide +kernel) rfl) ?_
      refine r_gR flX11_54_10 (by decide +kernel) fun v6 => ?_
      refine r_gR flX11_160_1 (by decide +kernel) fun v7 => ?_
      refine r_gI flX11_293_8 (by decide +kernel) fun v8 => ?_
      exact r_iret rfl rfl _ rfl rfl (by decide +kernel)
    · refine r_tcase (fun h9 => ?_) (fun h9 => ?_)
      · refine r_tsin (tgt := 98) (lo := 0) (hi := 14) (dflt := 216) (offs := #[75, 86, 97, 108, 116, 127, 135, 146, 154, 162, 170, 178, 186, 197, 205]) (len := 75) (off := 97) (by decide +kernel) (by rw [h9]; decide) (by rw [h9]; decide) (by rw [h9]; rfl) (by decide) ?_
        refine r_p (pc' := 99) (p_aload_n 0 (k := 0) (by decide +kernel) rfl) ?_
        refine r_gR flX11_54_10 (by decide +kernel) fun v10 => ?_
        refine r_gR flX11_180_1 (by decide +kernel) fun v11 => ?_
        refine r_gI flX11_293_8 (by decide +kernel) fun v12 => ?_
        exact r_iret rfl rfl _ rfl rfl (by decide +kernel)
      · refine r_tcase (fun h13 => ?_) (fun h13 => ?_)
        · refine r_tsin (tgt := 109) (lo := 0) (hi := 14) (dflt := 216) (offs := #[75, 86, 97, 108, 116, 127, 135, 146, 154, 162, 170, 178, 186, 197, 205]) (len := 75) (off := 108) (by decide +kernel) (by rw [h13]; decide) (by rw [h13]; decide) (by rw [h13]; rfl) (by decide) ?_
          refine r_p (pc' := 110) (p_aload_n 0 (k := 0) (by decide +kernel) rfl) ?_
          refine r_gR flX11_54_10 (by decide +kernel) fun v14 => ?_
          refine r_gI flX11_108_1 (by decide +kernel) fun v15 => ?_
          exact r_iret rfl rfl _ rfl rfl (by decide +kernel)
        · refine r_tcase (fun h16 => ?_) (fun h16 => ?_)
          · refine r_tsin (tgt := 117) (lo := 0) (hi := 14) (dflt := 216) (offs := #[75, 86, 97, 108, 116, 127, 135, 146, 154, 162, 170, 178, 186, 197, 205]) (len := 75) (off := 116) (by decide +kernel) (by rw [h16]; decide) (by rw [h16]; decide) (by rw [h16]; rfl) (by decide) ?_
            refine r_p (pc' := 118) (p_aload_n 0 (k := 0) (by decide +kernel) rfl) ?_
            refine r_gR flX11_54_10 (by decide +kernel) fun v17 => ?_
            refine r_gR flX11_129_1 (by decide +kernel) fun v18 => ?_
            refine r_gI flX11_133_4 (by decide +kernel) fun v19 => ?_
            exact r_iret rfl rfl _ rfl rfl (by decide +kernel)
          · refine r_tcase (fun h20 => ?_) (fun h20 => ?_)
            · refine r_tsin (tgt := 128) (lo := 0) (hi := 14) (dflt := 216) (offs := #[75, 86, 97, 108, 116, 127, 135, 146, 154, 162, 170, 178, 186, 197, 205]) (len := 75) (off := 127) (by decide +kernel) (by rw [h20]; decide) (by rw [h20]; decide) (by rw [h20]; rfl) (by decide) ?_
              refine r_p (pc' := 129) (p_aload_n 0 (k := 0) (by decide +kernel) rfl) ?_
              refine r_gR flX11_54_10 (by decide +kernel) fun v21 => ?_
              refine r_gI flX11_282_1 (by decide +kernel) fun v22 => ?_
              exact r_iret rfl rfl _ rfl rfl (by decide +kernel)
            · refine r_tcase (fun h23 => ?_) (fun h23 => ?_)
              · refine r_tsin (tgt := 136) (lo := 0) (hi := 14) (dflt := 216) (offs := #[75, 86, 97, 108, 116, 127, 135, 146, 154, 162, 170, 178, 186, 197, 205]) (len := 75) (off := 135) (by decide +kernel) (by rw [h23]; decide) (by rw [h23]; decide) (by rw [h23]; rfl) (by decide) ?_
                refine r_p (pc' := 137) (p_aload_n 0 (k := 0) (by decide +kernel) rfl) ?_
                refine r_gR flX11_54_10 (by decide +kernel) fun v24 => ?_
                refine r_gR flX11_191_1 (by decide +kernel) fun v25 => ?_
                refine r_gI flX11_293_8 (by decide +kernel) fun v26 => ?_
                exact r_iret rfl rfl _ rfl rfl (by decide +kernel)
              · refine r_tcase (fun h27 => ?_) (fun h27 => ?_)
                · refine r_tsin (tgt := 147) (lo := 0) (hi := 14) (dflt := 216) (offs := #[75, 86, 97, 108, 116, 127, 135, 146, 154, 162, 170, 178, 186, 197, 205]) (len := 75) (off := 146) (by decide +kernel) (by rw [h27]; decide) (by rw [h27]; decide) (by rw [h27]; rfl) (by decide) ?_
                  refine r_p (pc' := 148) (p_aload_n 0 (k := 0) (by decide +kernel) rfl) ?_
                  refine r_gR flX11_54_10 (by decide +kernel) fun v28 => ?_
                  refine r_gI flX11_377_1 (by decide +kernel) fun v29 => ?_
                  exact r_iret rfl rfl _ rfl rfl (by decide +kernel)
                · refine r_tcase (fun h30 => ?_) (fun h30 => ?_)
                  · refine r_tsin (tgt := 155) (lo := 0) (hi := 14) (dflt := 216) (offs := #[75, 86, 97, 108, 116, 127, 135, 146, 154, 162, 170, 178, 186, 197, 205]) (len := 75) (off := 154) (by decide +kernel) (by rw [h30]; decide) (by rw [h30]; decide) (by rw [h30]; rfl) (by decide) ?_
                    refine r_p (pc' := 156) (p_aload_n 0 (k := 0) (by decide +kernel) rfl) ?_
                    refine r_gR flX11_54_10 (by decide +kernel) fun v31 => ?_
                    refine r_gI flX11_401_1 (by decide +kernel) fun v32 => ?_
                    exact r_iret rfl rfl _ rfl rfl (by decide +kernel)
                  · refine r_tcase (fun h33 => ?_) (fun h33 => ?_)
                    · refine r_tsin (tgt := 163) (lo := 0) (hi := 14) (dflt := 216) (offs := #[75, 86, 97, 108, 116, 127, 135, 146, 154, 162, 170, 178, 186, 197, 205]) (len := 75) (off := 162) (by decide +kernel) (by rw [h33]; decide) (by rw [h33]; decide) (by rw [h33]; rfl) (by decide) ?_
                      refine r_p (pc' := 164) (p_aload_n 0 (k := 0) (by decide +kernel) rfl) ?_
                      refine r_gR flX11_54_10 (by decide +kernel) fun v34 => ?_
                      refine r_callVI mvX11_404 (ctX1_spareSet v34) (rcX1_spareSet v34) ⟨_, _, rfl⟩ (as := []) (st := []) rfl rfl (by decide +kernel) rfl (Nat.le_of_ble_eq_true rfl) (Nat.le_of_ble_eq_true rfl) fun v35 s => ?_
                      exact r_iret rfl rfl _ rfl rfl (by decide +kernel)
                    · refine r_tcase (fun h36 => ?_) (fun h36 => ?_)
                      · refine r_tsin (tgt := 171) (lo := 0) (hi := 14) (dflt := 216) (offs := #[75, 86, 97, 108, 116, 127, 135, 146, 154, 162, 170, 178, 186, 197, 205]) (len := 75) (off := 170) (by decide +kernel) (by rw [h36]; decide) (by rw [h36]; decide) (by rw [h36]; rfl) (by decide) ?_
                        refine r_p (pc' := 172) (p_aload_n 0 (k := 0) (by decide +kernel) rfl) ?_
                        refine r_gR flX11_54_10 (by decide +kernel) fun v37 => ?_
                        refine r_callVI mvX11_407 (ctX1_guiltOfAll v37) (rcX1_guiltOfAll v37) ⟨_, _, rfl⟩ (as := []) (st := []) rfl rfl (by decide +kernel) rfl (Nat.le_of_ble_eq_true rfl) (Nat.le_of_ble_eq_true rfl) fun v38 s => ?_
                        exact r_iret rfl rfl _ rfl rfl (by decide +kernel)
                      · refine r_tcase (fun h39 => ?_) (fun h39 => ?_)
                        · refine r_tsin (tgt := 179) (lo := 0) (hi := 14) (dflt := 216) (offs := #[75, 86, 97, 108, 116, 127, 135, 146, 154, 162, 170, 178, 186, 197, 205]) (len := 75) (off := 178) (by decide +kernel) (by rw [h39]; decide) (by rw [h39]; decide) (by rw [h39]; rfl) (by decide) ?_
                          refine r_p (pc' := 180) (p_aload_n 0 (k := 0) (by decide +kernel) rfl) ?_
                          refine r_gR flX11_54_10 (by decide +kernel) fun v40 => ?_
                          refine r_gI flX11_410_1 (by decide +kernel) fun v41 => ?_
                          exact r_iret rfl rfl _ rfl rfl (by decide +kernel)
                        · refine r_tcase (fun h42 => ?_) (fun h42 => ?_)
                          · refine r_tsin (tgt := 187) (lo := 0) (hi := 14) (dflt := 216) (offs := #[75, 86, 97, 108, 116, 127, 135, 146, 154, 162, 170, 178, 186, 197, 205]) (len := 75) (off := 186) (by decide +kernel) (by rw [h42]; decide) (by rw [h42]; decide) (by rw [h42]; rfl) (by decide) ?_
                            refine r_p (pc' := 188) (p_aload_n 0 (k := 0) (by decide +kernel) rfl) ?_
                            refine r_gR flX11_54_10 (by decide +kernel) fun v43 => ?_
                            refine r_gR flX11_388_1 (by decide +kernel) fun v44 => ?_
                            refine r_gI flX11_293_8 (by decide +kernel) fun v45 => ?_
                            exact r_iret rfl rfl _ rfl rfl (by decide +kernel)
                          · refine r_tcase (fun h46 => ?_) (fun h46 => ?_)
                            · refine r_tsin (tgt := 198) (lo := 0) (hi := 14) (dflt := 216) (offs := #[75, 86, 97, 108, 116, 127, 135, 146, 154, 162, 170, 178, 186, 197, 205]) (len := 75) (off := 197) (by decide +kernel) (by rw [h46]; decide) (by rw [h46]; decide) (by rw [h46]; rfl) (by decide) ?_
                              refine r_p (pc' := 199) (p_aload_n 0 (k := 0) (by decide +kernel) rfl) ?_
                              refine r_gR flX11_40_10 (by decide +kernel) fun v47 => ?_
                              refine r_gI flX11_413_6 (by decide +kernel) fun v48 => ?_
                              exact r_iret rfl rfl _ rfl rfl (by decide +kernel)
                            · refine r_tcase (fun h49 => ?_) (fun h49 => ?_)
                              · refine r_tsin (tgt := 206) (lo := 0) (hi := 14) (dflt := 216) (offs := #[75, 86, 97, 108, 116, 127, 135, 146, 154, 162, 170, 178, 186, 197, 205]) (len := 75) (off := 205) (by decide +kernel) (by rw [h49]; decide) (by rw [h49]; decide) (by rw [h49]; rfl) (by decide) ?_
                                refine r_p (pc' := 207) (p_aload_n 0 (k := 0) (by decide +kernel) rfl) ?_
                                refine r_gR flX11_54_10 (by decide +kernel) fun v50 => ?_
                                refine r_gR flX11_290_1 (by decide +kernel) fun v51 => ?_
                                refine r_gI flX11_293_8 (by decide +kernel) fun v52 => ?_
                                exact r_iret rfl rfl _ rfl rfl (by decide +kernel)
                              · have h1i := lv_neT (a := 0) h1 rfl
                                have h5i := lv_neT (a := 1) h5 rfl
                                have h9i := lv_neT (a := 2) h9 rfl
                                have h13i := lv_neT (a := 3) h13 rfl
                                have h16i := lv_neT (a := 4) h16 rfl
                                have h20i := lv_neT (a := 5) h20 rfl
                                have h23i := lv_neT (a := 6) h23 rfl
                                have h27i := lv_neT (a := 7) h27 rfl
                                have h30i := lv_neT (a := 8) h30 rfl
                                have h33i := lv_neT (a := 9) h33 rfl
                                have h36i := lv_neT (a := 10) h36 rfl
                                have h39i := lv_neT (a := 11) h39 rfl
                                have h42i := lv_neT (a := 12) h42 rfl
                                have h46i := lv_neT (a := 13) h46 rfl
                                have h49i := lv_neT (a := 14) h49 rfl
                                refine r_tsout (tgt := 217) (lo := 0) (hi := 14) (dflt := 216) (offs := #[75, 86, 97, 108, 116, 127, 135, 146, 154, 162, 170, 178, 186, 197, 205]) (len := 75) (by decide +kernel) (by omega) (by decide) ?_
                                refine r_p (pc' := 218) (p_iconst (n := -1) (v := -1) (by decide +kernel) rfl) ?_
                                exact r_iret rfl rfl _ rfl rfl (by decide +kernel)
