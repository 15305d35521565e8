/-! PRINTED BY wip/whole/gen.py -/
def aX12_didIt : StA := (RX12, cX12_didIt, 3, some .boolean, yX12_didIt, 9, [])
noncomputable def mX12_didIt (a0 : Nat) (a1 : Int32) (a2 : Int32) : MM Int32 := onC 11 a0 (
  mbnd (mX12_ofTruth a0 a1 6) fun (v1 : Int32) =>
  mbnd (mX12_has v1 a2) fun (v2 : Int32) =>
  mbool v2
  )
theorem rcX12_didIt (a0 : Nat) (a1 : Int32) (a2 : Int32) : Rcv 11 a0 (mX12_didIt a0 a1 a2) := fun s r h => ⟨(onC_some h).1, (onC_some h).2.1⟩
set_option maxHeartbeats 4000000 in
set_option maxRecDepth 100000 in
theorem ctX12_didIt (a0 : Nat) (a1 : Int32) (a2 : Int32) : Ct aX12_didIt [vr a0, vi a1, vi a2] (mX12_didIt a0 a1 a2) rI := by
  unfold mX12_didIt
  refine ct_onC (ct_intro (by decide +kernel) rfl (Nat.le_of_ble_eq_true rfl) fun Y s => ?_)
  refine r_sub (lv' := [(0, vr a0), (1, vi a1), (2, vi a2)]) [0, 1, 2] rfl ?_
  refine r_p (pc' := 1) (p_aload_n 0 (k := 0) (by decide +kernel) rfl) ?_
  refine r_p (pc' := 2) (p_iload_n 1 (k := 1) (by decide +kernel) rfl) ?_
  refine r_p (pc' := 4) (p_bipush (n := 6) (v := 6) (by decide +kernel) (by decide +kernel)) ?_
  refine r_callVI mvX12_328 (ctX12_ofTruth a0 a1 6) (rcX12_ofTruth a0 a1 6) ⟨_, _, rfl⟩ (as := [vi a1, vi 6]) (st := []) rfl rfl (by decide +kernel) rfl (Nat.le_of_ble_eq_true rfl) (Nat.le_of_ble_eq_true rfl) fun v1 s => ?_
  refine r_p (pc' := 8) (p_iload_n 2 (k := 2) (by decide +kernel) rfl) ?_
  refine r_callSI msX12_400 (ctX12_has v1 a2) (as := [vi v1, vi a2]) (st := []) rfl rfl (by decide +kernel) rfl (Nat.le_of_ble_eq_true rfl) (Nat.le_of_ble_eq_true rfl) fun v2 s => ?_
  exact r_bret (y9 := fun v => v) (fun _ => rfl) (fun _ => rfl) rfl (by decide +kernel)
def aX12_didIn : StA := (RX12, cX12_didIn, 4, some .int, yX12_didIn, 9, [])
noncomputable def mX12_didIn_L4 (a0 : Nat) (a1 : Int32) (x1 : Int32 × Int32) : MM ((Int32 × Int32) ⊕ (Int32)) :=
  mbnd (mX12_deeds a0) fun (v5 : Int32) =>
  if v5 ≤ x1.2 then (
    mret (.inr x1.1)
  ) else (
    mbnd (mX12_ofTruth a0 x1.2 1) fun (v7 : Int32) =>
    mbnd (α := Int32) (
      if v7 = a1 then (
        mbnd (mX12_ofTruth a0 x1.2 6) fun (v12 : Int32) =>
        mret v12
      ) else (
        mret 0
      )
    ) fun (x9 : Int32) =>
    mbnd (mret (x1.1 ||| x9)) fun (v13 : Int32) =>
    mret (.inl (v13, x1.2 + 1))
  )
noncomputable def mX12_didIn (a0 : Nat) (a1 : Int32) : MM Int32 := onC 11 a0 (
  mbnd (loopM (mX12_didIn_L4 a0 a1) (0, 0)) fun (e14 : Int32) =>
  mret e14
  )
theorem rcX12_didIn (a0 : Nat) (a1 : Int32) : Rcv 11 a0 (mX12_didIn a0 a1) := fun s r h => ⟨(onC_some h).1, (onC_some h).2.1⟩
set_option maxHeartbeats 4000000 in
set_option maxRecDepth 100000 in
theorem ctX12_didIn (a0 : Nat) (a1 : Int32) : Ct aX12_didIn [vr a0, vi a1] (mX12_didIn a0 a1) rI := by
  unfold mX12_didIn
  refine ct_onC (ct_intro (by decide +kernel) rfl (Nat.le_of_ble_eq_true rfl) fun Y s => ?_)
  refine r_sub (lv' := [(0, vr a0), (1, vi a1)]) [0, 1] rfl ?_
  refine r_p (pc' := 1) (p_iconst (n := 0) (v := 0) (by decide +kernel) rfl) ?_
  refine r_p (pc' := 2) (p_istore_n (k := 2) (lv' := [(2, vi 0), (0, vr a0), (1, vi a1)]) (by decide +kernel) (Nat.le_of_ble_eq_true rfl) rfl) ?_
  refine r_p (pc' := 3) (p_iconst (n := 0) (v := 0) (by decide +kernel) rfl) ?_
  refine r_p (pc' := 4) (p_istore_n (k := 3) (lv' := [(3, vi 0), (2, vi 0), (0, vr a0), (1, vi a1)]) (by decide +kernel) (Nat.le_of_ble_eq_true rfl) rfl) ?_
  refine r_sub (lv' := [(0, vr a0), (1, vi a1), (2, vi 0), (3, vi 0)]) [2, 3, 1, 0] rfl ?_
  refine r_loop2 (fun _ => 42) (fun (e14 : Int32) => [(2, vi e14)]) (fun (x1 : Int32 × Int32) => [(0, vr a0), (1, vi a1), (2, vi x1.1), (3, vi x1.2)]) (fun e14 s => ?_) (fun K2 hb3 he4 x1 s => ?_) (0, 0) _
  · refine r_p (pc' := 43) (p_iload_n 0 (k := 2) (by decide +kernel) rfl) ?_
    exact r_iret rfl rfl _ rfl rfl (by decide +kernel)
  · unfold mX12_didIn_L4
    refine r_p (pc' := 5) (p_iload_n 3 (k := 3) (by decide +kernel) rfl) ?_
    refine r_p (pc' := 6) (p_aload_n 0 (k := 0) (by decide +kernel) rfl) ?_
    refine r_callVI mvX12_325 (ctX12_deeds a0) (rcX12_deeds a0) ⟨_, _, rfl⟩ (as := []) (st := [vi x1.2]) rfl rfl (by decide +kernel) rfl (Nat.le_of_ble_eq_true rfl) (Nat.le_of_ble_eq_true rfl) fun v5 s => ?_
    refine r_icmpge (off := 33) (tgt := 42) (by decide +kernel) (by decide) (fun h6 => ?_) (fun h6 => ?_)
    · refine r_sub (lv' := [(2, vi x1.1)]) [2] rfl ?_
      exact he4 x1.1 _
    · refine r_p (pc' := 13) (p_iload_n 2 (k := 2) (by decide +kernel) rfl) ?_
      refine r_p (pc' := 14) (p_aload_n 0 (k := 0) (by decide +kernel) rfl) ?_
      refine r_p (pc' := 15) (p_iload_n 3 (k := 3) (by decide +kernel) rfl) ?_
      refine r_p (pc' := 16) (p_iconst (n := 1) (v := 1) (by decide +kernel) rfl) ?_
      refine r_callVI mvX12_328 (ctX12_ofTruth a0 x1.2 1) (rcX12_ofTruth a0 x1.2 1) ⟨_, _, rfl⟩ (as := [vi x1.2, vi 1]) (st := [vi x1.1]) rfl rfl (by decide +kernel) rfl (Nat.le_of_ble_eq_true rfl) (Nat.le_of_ble_eq_true rfl) fun v7 s => ?_
      refine r_p (pc' := 20) (p_iload_n 1 (k := 1) (by decide +kernel) rfl) ?_
      refine r_join 34 (fun (x9 : Int32) => [(0, vr a0), (1, vi a1), (3, vi x1.2)]) (fun (x9 : Int32) => [vi x9, vi x1.1]) (fun x9 s => ?_) (fun K10 hj11 => ?_)
      · refine r_p (pc' := 35) (p_ior (by decide +kernel)) ?_
        refine r_letI fun v13 => ?_
        refine r_p (pc' := 36) (p_istore_n (k := 2) (lv' := [(2, vi v13), (0, vr a0), (1, vi a1), (3, vi x1.2)]) (by decide +kernel) (Nat.le_of_ble_eq_true rfl) rfl) ?_
        refine r_p (pc' := 39) (p_iinc 3 (i := 3) (n := 1) (x := x1.2) (v := x1.2 + 1) (lv' := [(3, vi (x1.2 + 1)), (2, vi v13), (0, vr a0), (1, vi a1)]) (by decide +kernel) rfl rfl (Nat.le_of_ble_eq_true rfl) rfl) ?_
        refine r_p (pc' := 4) (p_goto (off := -35) (tgt := 4) (by decide +kernel) (by decide)) ?_
        refine r_sub (lv' := [(0, vr a0), (1, vi a1), (2, vi v13), (3, vi (x1.2 + 1))]) [2, 3, 1, 0] rfl ?_
        exact hb3 (v13, x1.2 + 1) _
      · refine r_icmpne (off := 13) (tgt := 33) (by decide +kernel) (by decide) (fun h8 => ?_) (fun h8 => ?_)
        · refine r_p (pc' := 24) (p_aload_n 0 (k := 0) (by decide +kernel) rfl) ?_
          refine r_p (pc' := 25) (p_iload_n 3 (k := 3) (by decide +kernel) rfl) ?_
          refine r_p (pc' := 27) (p_bipush (n := 6) (v := 6) (by decide +kernel) (by decide +kernel)) ?_
          refine r_callVI mvX12_328 (ctX12_ofTruth a0 x1.2 6) (rcX12_ofTruth a0 x1.2 6) ⟨_, _, rfl⟩ (as := [vi x1.2, vi 6]) (st := [vi x1.1]) rfl rfl (by decide +kernel) rfl (Nat.le_of_ble_eq_true rfl) (Nat.le_of_ble_eq_true rfl) fun v12 s => ?_
          refine r_p (pc' := 34) (p_goto (off := 4) (tgt := 34) (by decide +kernel) (by decide)) ?_
          refine r_sub (lv' := [(0, vr a0), (1, vi a1), (3, vi x1.2)]) [0, 1, 3] rfl ?_
          exact hj11 v12 _
        · refine r_p (pc' := 34) (p_iconst (n := 0) (v := 0) (by decide +kernel) rfl) ?_
          refine r_sub (lv' := [(0, vr a0), (1, vi a1), (3, vi x1.2)]) [0, 1, 3] rfl ?_
          exact hj11 0 _
def aX12_joint : StA := (RX12, cX12_joint, 6, some .int, yX12_joint, 10, [])
theorem mvX12_445 : MV RX12 445 aX12_didIn 1 := ⟨tblG_of 2233 (by decide +kernel) (by decide +kernel), tblG_of 2235 (by decide +kernel) (by decide +kernel), tblG_of 133 (by decide +kernel) (by decide +kernel), tblG_of 157 (by decide +kernel) (by decide +kernel), tblG_of 2236 (by decide +kernel) (by decide +kernel), rfl, ⟨by decide, by decide⟩, by decide +kernel, by decide⟩
noncomputable def mX12_joint_L72 (a0 : Nat) (v18 : Int32) (x19 : Int32 × Int32) : MM ((Int32 × Int32) ⊕ (Int32)) :=
  mbnd (mX12_parts a0) fun (v23 : Int32) =>
  if v23 ≤ x19.2 then (
    mret (.inr x19.1)
  ) else (
    mbnd (mX12_has v18 x19.2) fun (v25 : Int32) =>
    mbnd (α := Int32) (
      if v25 = 0 then (
        mret 0
      ) else (
        mbnd (mX12_of a0 x19.2 3) fun (v30 : Int32) =>
        mret v30
      )
    ) fun (x27 : Int32) =>
    mbnd (mret (x19.1 + x27)) fun (v31 : Int32) =>
    mret (.inl (v31, x19.2 + 1))
  )
noncomputable def mX12_joint (a0 : Nat) (a1 : Int32) (a2 : Int32) : MM Int32 := onC 11 a0 (
  mbnd (pI 11 0 a0 0) fun _ =>
  mbnd (mX12_noTool a0 a1) fun (v1 : Int32) =>
  mbnd (α := Int32) (
    if v1 = 0 then (
      mbnd (mX12_noTool a0 a2) fun (v6 : Int32) =>
      if v6 = 0 then (
        mret 0
      ) else (
        mret 1
      )
    ) else (
      mret 1
    )
  ) fun (x3 : Int32) =>
  mbnd (mX12_throwsIf a0 x3 1) fun (v8 : Int32) =>
  if v8 = 0 then (
    mbnd (α := Int32) (
      if a1 = a2 then (
        mret 1
      ) else (
        mret 0
      )
    ) fun (x11 : Int32) =>
    mbnd (mX12_throwsIf a0 x11 2) fun (v14 : Int32) =>
    if v14 = 0 then (
      mbnd (mX12_didIn a0 a1) fun (v16 : Int32) =>
      mbnd (mX12_didIn a0 a2) fun (v17 : Int32) =>
      mbnd (mret (v16 &&& v17)) fun (v18 : Int32) =>
      mbnd (loopM (mX12_joint_L72 a0 v18) (0, 0)) fun (e32 : Int32) =>
      mret e32
    ) else (
      mret 0
    )
  ) else (
    mret 0
  )
  )
theorem rcX12_joint (a0 : Nat) (a1 : Int32) (a2 : Int32) : Rcv 11 a0 (mX12_joint a0 a1 a2) := fun s r h => ⟨(onC_some h).1, (onC_some h).2.1⟩
set_option maxHeartbeats 4000000 in
set_option maxRecDepth 100000 in
theorem ctX12_joint (a0 : Nat) (a1 : Int32) (a2 : Int32) : Ct aX12_joint [vr a0, vi a1, vi a2] (mX12_joint a0 a1 a2) rI := by
  unfold mX12_joint
  refine ct_onC (ct_intro (by decide +kernel) rfl (Nat.le_of_ble_eq_true rfl) fun Y s => ?_)
  refine r_sub (lv' := [(0, vr a0), (1, vi a1), (2, vi a2)]) [0, 1, 2] rfl ?_
  refine r_p (pc' := 1) (p_aload_n 0 (k := 0) (by decide +kernel) rfl) ?_
  refine r_p (pc' := 2) (p_iconst (n := 0) (v := 0) (by decide +kernel) rfl) ?_
  refine r_pI fpX12_3_11 (fun h => by cases h) (by decide +kernel) fun s => ?_
  refine r_p (pc' := 6) (p_aload_n 0 (k := 0) (by decide +kernel) rfl) ?_
  refine r_p (pc' := 7) (p_aload_n 0 (k := 0) (by decide +kernel) rfl) ?_
  refine r_p (pc' := 8) (p_iload_n 1 (k := 1) (by decide +kernel) rfl) ?_
  refine r_callVI mvX12_319 (ctX12_noTool a0 a1) (rcX12_noTool a0 a1) ⟨_, _, rfl⟩ (as := [vi a1]) (st := [vr a0]) rfl rfl (by decide +kernel) rfl (Nat.le_of_ble_eq_true rfl) (Nat.le_of_ble_eq_true rfl) fun v1 s => ?_
  refine r_join 27 (fun (x3 : Int32) => [(0, vr a0), (1, vi a1), (2, vi a2)]) (fun (x3 : Int32) => [vi x3, vr a0]) (fun x3 s => ?_) (fun K4 hj5 => ?_)
  · refine r_p (pc' := 28) (p_iconst (n := 1) (v := 1) (by decide +kernel) rfl) ?_
    refine r_callVI mvX12_265 (ctX12_throwsIf a0 x3 1) (rcX12_throwsIf a0 x3 1) ⟨_, _, rfl⟩ (as := [vi x3, vi 1]) (st := []) rfl rfl (by decide +kernel) rfl (Nat.le_of_ble_eq_true rfl) (Nat.le_of_ble_eq_true rfl) fun v8 s => ?_
    refine r_ifne (off := 21) (tgt := 52) (by decide +kernel) (by decide) (fun h9 => ?_) (fun h9 => ?_)
    · refine r_p (pc' := 35) (p_aload_n 0 (k := 0) (by decide +kernel) rfl) ?_
      refine r_p (pc' := 36) (p_iload_n 1 (k := 1) (by decide +kernel) rfl) ?_
      refine r_p (pc' := 37) (p_iload_n 2 (k := 2) (by decide +kernel) rfl) ?_
      refine r_join 45 (fun (x11 : Int32) => [(0, vr a0), (1, vi a1), (2, vi a2)]) (fun (x11 : Int32) => [vi x11, vr a0]) (fun x11 s => ?_) (fun K12 hj13 => ?_)
      · refine r_p (pc' := 46) (p_iconst (n := 2) (v := 2) (by decide +kernel) rfl) ?_
        refine r_callVI mvX12_265 (ctX12_throwsIf a0 x11 2) (rcX12_throwsIf a0 x11 2) ⟨_, _, rfl⟩ (as := [vi x11, vi 2]) (st := []) rfl rfl (by decide +kernel) rfl (Nat.le_of_ble_eq_true rfl) (Nat.le_of_ble_eq_true rfl) fun v14 s => ?_
        refine r_ifeq (off := 5) (tgt := 54) (by decide +kernel) (by decide) (fun h15 => ?_) (fun h15 => ?_)
        · refine r_p (pc' := 55) (p_aload_n 0 (k := 0) (by decide +kernel) rfl) ?_
          refine r_p (pc' := 56) (p_iload_n 1 (k := 1) (by decide +kernel) rfl) ?_
          refine r_callVI mvX12_445 (ctX12_didIn a0 a1) (rcX12_didIn a0 a1) ⟨_, _, rfl⟩ (as := [vi a1]) (st := []) rfl rfl (by decide +kernel) rfl (Nat.le_of_ble_eq_true rfl) (Nat.le_of_ble_eq_true rfl) fun v16 s => ?_
          refine r_p (pc' := 60) (p_aload_n 0 (k := 0) (by decide +kernel) rfl) ?_
          refine r_p (pc' := 61) (p_iload_n 2 (k := 2) (by decide +kernel) rfl) ?_
          refine r_callVI mvX12_445 (ctX12_didIn a0 a2) (rcX12_didIn a0 a2) ⟨_, _, rfl⟩ (as := [vi a2]) (st := [vi v16]) rfl rfl (by decide +kernel) rfl (Nat.le_of_ble_eq_true rfl) (Nat.le_of_ble_eq_true rfl) fun v17 s => ?_
          refine r_p (pc' := 65) (p_iand (by decide +kernel)) ?_
          refine r_letI fun v18 => ?_
          refine r_p (pc' := 66) (p_istore_n (k := 3) (lv' := [(3, vi v18), (0, vr a0), (1, vi a1), (2, vi a2)]) (by decide +kernel) (Nat.le_of_ble_eq_true rfl) rfl) ?_
          refine r_p (pc' := 67) (p_iconst (n := 0) (v := 0) (by decide +kernel) rfl) ?_
          refine r_p (pc' := 69) (p_istore (i := 4) (lv' := [(4, vi 0), (3, vi v18), (0, vr a0), (1, vi a1), (2, vi a2)]) (by decide +kernel) (Nat.le_of_ble_eq_true rfl) rfl) ?_
          refine r_p (pc' := 70) (p_iconst (n := 0) (v := 0) (by decide +kernel) rfl) ?_
          refine r_p (pc' := 72) (p_istore (i := 5) (lv' := [(5, vi 0), (4, vi 0), (3, vi v18), (0, vr a0), (1, vi a1), (2, vi a2)]) (by decide +kernel) (Nat.le_of_ble_eq_true rfl) rfl) ?_
          refine r_sub (lv' := [(0, vr a0), (3, vi v18), (4, vi 0), (5, vi 0)]) [3, 2, 1, 0] rfl ?_
          refine r_loop2 (fun _ => 112) (fun (e32 : Int32) => [(4, vi e32)]) (fun (x19 : Int32 × Int32) => [(0, vr a0), (3, vi v18), (4, vi x19.1), (5, vi x19.2)]) (fun e32 s => ?_) (fun K20 hb21 he22 x19 s => ?_) (0, 0) _
          · refine r_p (pc' := 114) (p_iload 0 (i := 4) (by decide +kernel) rfl) ?_
            exact r_iret rfl rfl _ rfl rfl (by decide +kernel)
          · unfold mX12_joint_L72
            refine r_p (pc' := 74) (p_iload 3 (i := 5) (by decide +kernel) rfl) ?_
            refine r_p (pc' := 75) (p_aload_n 0 (k := 0) (by decide +kernel) rfl) ?_
            refine r_callVI mvX12_68 (ctX12_parts a0) (rcX12_parts a0) ⟨_, _, rfl⟩ (as := []) (st := [vi x19.2]) rfl rfl (by decide +kernel) rfl (Nat.le_of_ble_eq_true rfl) (Nat.le_of_ble_eq_true rfl) fun v23 s => ?_
            refine r_icmpge (off := 34) (tgt := 112) (by decide +kernel) (by decide) (fun h24 => ?_) (fun h24 => ?_)
            · refine r_sub (lv' := [(4, vi x19.1)]) [2] rfl ?_
              exact he22 x19.1 _
            · refine r_p (pc' := 83) (p_iload 2 (i := 4) (by decide +kernel) rfl) ?_
              refine r_p (pc' := 84) (p_iload_n 1 (k := 3) (by decide +kernel) rfl) ?_
              refine r_p (pc' := 86) (p_iload 3 (i := 5) (by decide +kernel) rfl) ?_
              refine r_callSI msX12_400 (ctX12_has v18 x19.2) (as := [vi v18, vi x19.2]) (st := [vi x19.1]) rfl rfl (by decide +kernel) rfl (Nat.le_of_ble_eq_true rfl) (Nat.le_of_ble_eq_true rfl) fun v25 s => ?_
              refine r_join 103 (fun (x27 : Int32) => [(0, vr a0), (3, vi v18), (5, vi x19.2)]) (fun (x27 : Int32) => [vi x27, vi x19.1]) (fun x27 s => ?_) (fun K28 hj29 => ?_)
              · refine r_p (pc' := 104) (p_iadd (by decide +kernel)) ?_
                refine r_letI fun v31 => ?_
                refine r_p (pc' := 106) (p_istore (i := 4) (lv' := [(4, vi v31), (0, vr a0), (3, vi v18), (5, vi x19.2)]) (by decide +kernel) (Nat.le_of_ble_eq_true rfl) rfl) ?_
                refine r_p (pc' := 109) (p_iinc 3 (i := 5) (n := 1) (x := x19.2) (v := x19.2 + 1) (lv' := [(5, vi (x19.2 + 1)), (4, vi v31), (0, vr a0), (3, vi v18)]) (by decide +kernel) rfl rfl (Nat.le_of_ble_eq_true rfl) rfl) ?_
                refine r_p (pc' := 72) (p_goto (off := -37) (tgt := 72) (by decide +kernel) (by decide)) ?_
                refine r_sub (lv' := [(0, vr a0), (3, vi v18), (4, vi v31), (5, vi (x19.2 + 1))]) [2, 3, 1, 0] rfl ?_
                exact hb21 (v31, x19.2 + 1) _
              · refine r_ifeq (off := 13) (tgt := 102) (by decide +kernel) (by decide) (fun h26 => ?_) (fun h26 => ?_)
                · refine r_p (pc' := 103) (p_iconst (n := 0) (v := 0) (by decide +kernel) rfl) ?_
                  refine r_sub (lv' := [(0, vr a0), (3, vi v18), (5, vi x19.2)]) [0, 1, 3] rfl ?_
                  exact hj29 0 _
                · refine r_p (pc' := 93) (p_aload_n 0 (k := 0) (by decide +kernel) rfl) ?_
                  refine r_p (pc' := 95) (p_iload 3 (i := 5) (by decide +kernel) rfl) ?_
                  refine r_p (pc' := 96) (p_iconst (n := 3) (v := 3) (by decide +kernel) rfl) ?_
                  refine r_callVI mvX12_65 (ctX12_of a0 x19.2 3) (rcX12_of a0 x19.2 3) ⟨_, _, rfl⟩ (as := [vi x19.2, vi 3]) (st := [vi x19.1]) rfl rfl (by decide +kernel) rfl (Nat.le_of_ble_eq_true rfl) (Nat.le_of_ble_eq_true rfl) fun v30 s => ?_
                  refine r_p (pc' := 103) (p_goto (off := 4) (tgt := 103) (by decide +kernel) (by decide)) ?_
                  refine r_sub (lv' := [(0, vr a0), (3, vi v18), (5, vi x19.2)]) [0, 1, 3] rfl ?_
                  exact hj29 v30 _
        · refine r_p (pc' := 53) (p_iconst (n := 0) (v := 0) (by decide +kernel) rfl) ?_
          exact r_iret rfl rfl _ rfl rfl (by decide +kernel)
      · refine r_icmpne (off := 7) (tgt := 44) (by decide +kernel) (by decide) (fun h10 => ?_) (fun h10 => ?_)
        · refine r_p (pc' := 41) (p_iconst (n := 1) (v := 1) (by decide +kernel) rfl) ?_
          refine r_p (pc' := 45) (p_goto (off := 4) (tgt := 45) (by decide +kernel) (by decide)) ?_
          exact hj13 1 _
        · refine r_p (pc' := 45) (p_iconst (n := 0) (v := 0) (by decide +kernel) rfl) ?_
          exact hj13 0 _
    · refine r_p (pc' := 53) (p_iconst (n := 0) (v := 0) (by decide +kernel) rfl) ?_
      exact r_iret rfl rfl _ rfl rfl (by decide +kernel)
  · refine r_ifne (off := 11) (tgt := 22) (by decide +kernel) (by decide) (fun h2 => ?_) (fun h2 => ?_)
    · refine r_p (pc' := 15) (p_aload_n 0 (k := 0) (by decide +kernel) rfl) ?_
      refine r_p (pc' := 16) (p_iload_n 2 (k := 2) (by decide +kernel) rfl) ?_
      refine r_callVI mvX12_319 (ctX12_noTool a0 a2) (rcX12_noTool a0 a2) ⟨_, _, rfl⟩ (as := [vi a2]) (st := [vr a0]) rfl rfl (by decide +kernel) rfl (Nat.le_of_ble_eq_true rfl) (Nat.le_of_ble_eq_true rfl) fun v6 s => ?_
      refine r_ifeq (off := 7) (tgt := 26) (by decide +kernel) (by decide) (fun h7 => ?_) (fun h7 => ?_)
      · refine r_p (pc' := 27) (p_iconst (n := 0) (v := 0) (by decide +kernel) rfl) ?_
        exact hj5 0 _
      · refine r_p (pc' := 23) (p_iconst (n := 1) (v := 1) (by decide +kernel) rfl) ?_
        refine r_p (pc' := 27) (p_goto (off := 4) (tgt := 27) (by decide +kernel) (by decide)) ?_
        exact hj5 1 _
    · refine r_p (pc' := 23) (p_iconst (n := 1) (v := 1) (by decide +kernel) rfl) ?_
      refine r_p (pc' := 27) (p_goto (off := 4) (tgt := 27) (by decide +kernel) (by decide)) ?_
      exact hj5 1 _
def aX12_clock : StA := (RX12, cX12_clock, 6, some .int, yX12_clock, 11, [])
theorem mvX12_448 : MV RX12 448 aX12_didIt 2 := ⟨tblG_of 2241 (by decide +kernel) (by decide +kernel), tblG_of 2243 (by decide +kernel) (by decide +kernel), tblG_of 134 (by decide +kernel) (by decide +kernel), tblG_of 157 (by decide +kernel) (by decide +kernel), tblG_of 2244 (by decide +kernel) (by decide +kernel), rfl, ⟨by decide, by decide⟩, by decide +kernel, by decide⟩
noncomputable def mX12_clock_L57 (a0 : Nat) (a1 : Int32) (a2 : Int32) (a3 : Int32) (x13 : Int32 × Int32) : MM ((Int32 × Int32) ⊕ (Int32)) :=
  mbnd (mX12_deeds a0) fun (v17 : Int32) =>
  if v17 ≤ x13.2 then (
    mret (.inr x13.1)
  ) else (
    mbnd (mX12_didIt a0 x13.2 a1) fun (v19 : Int32) =>
    mbnd (α := Int32) (
      if v19 = 0 then (
        mret x13.1
      ) else (
        mbnd (mX12_ofTruth a0 x13.2 5) fun (v24 : Int32) =>
        if v24 = a2 then (
          if x13.1 < 0 then (
            mbnd (mX12_ofTruth a0 x13.2 0) fun (v27 : Int32) =>
            mret v27
          ) else (
            if a3 = 0 then (
              mret x13.1
            ) else (
              mbnd (mX12_ofTruth a0 x13.2 0) fun (v29 : Int32) =>
              mret v29
            )
          )
        ) else (
          mret x13.1
        )
      )
    ) fun (x21 : Int32) =>
    mret (.inl (x21, x13.2 + 1))
  )
noncomputable def mX12_clock (a0 : Nat) (a1 : Int32) (a2 : Int32) (a3 : Int32) : MM Int32 := onC 11 a0 (
  mbnd (pI 11 0 a0 0) fun _ =>
  mbnd (mX12_noPart a0 a1) fun (v1 : Int32) =>
  mbnd (mX12_throwsIf a0 v1 1) fun (v2 : Int32) =>
  if v2 = 0 then (
    mbnd (mX12_isHead a0 a1) fun (v4 : Int32) =>
    mbnd (α := Int32) (
      if v4 = 0 then (
        mret 1
      ) else (
        mbnd (mX12_in a2 0 9) fun (v9 : Int32) =>
        if v9 = 0 then (
          mret 1
        ) else (
          mret 0
        )
      )
    ) fun (x6 : Int32) =>
    mbnd (mX12_throwsIf a0 x6 2) fun (v11 : Int32) =>
    if v11 = 0 then (
      mbnd (loopM (mX12_clock_L57 a0 a1 a2 a3) (((-1), 0))) fun (e30 : Int32) =>
      mret e30
    ) else (
      mret 0
    )
  ) else (
    mret 0
  )
  )
theorem rcX12_clock (a0 : Nat) (a1 : Int32) (a2 : Int32) (a3 : Int32) : Rcv 11 a0 (mX12_clock a0 a1 a2 a3) := fun s r h => ⟨(onC_some h).1, (onC_some h).2.1⟩
set_option maxHeartbeats 4000000 in
set_option maxRecDepth 100000 in
theorem ctX12_clock (a0 : Nat) (a1 : Int32) (a2 : Int32) (a3 : Int32) : Ct aX12_clock [vr a0, vi a1, vi a2, vi a3] (mX12_clock a0 a1 a2 a3) rI := by
  unfold mX12_clock
  refine ct_onC (ct_intro (by decide +kernel) rfl (Nat.le_of_ble_eq_true rfl) fun Y s => ?_)
  refine r_sub (lv' := [(0, vr a0), (1, vi a1), (2, vi a2), (3, vi a3)]) [0, 1, 2, 3] rfl ?_
  refine r_p (pc' := 1) (p_aload_n 0 (k := 0) (by decide +kernel) rfl) ?_
  refine r_p (pc' := 2) (p_iconst (n := 0) (v := 0) (by decide +kernel) rfl) ?_
  refine r_pI fpX12_3_11 (fun h => by cases h) (by decide +kernel) fun s => ?_
  refine r_p (pc' := 6) (p_aload_n 0 (k := 0) (by decide +kernel) rfl) ?_
  refine r_p (pc' := 7) (p_aload_n 0 (k := 0) (by decide +kernel) rfl) ?_
  refine r_p (pc' := 8) (p_iload_n 1 (k := 1) (by decide +kernel) rfl) ?_
  refine r_callVI mvX12_313 (ctX12_noPart a0 a1) (rcX12_noPart a0 a1) ⟨_, _, rfl⟩ (as := [vi a1]) (st := [vr a0]) rfl rfl (by decide +kernel) rfl (Nat.le_of_ble_eq_true rfl) (Nat.le_of_ble_eq_true rfl) fun v1 s => ?_
  refine r_p (pc' := 12) (p_iconst (n := 1) (v := 1) (by decide +kernel) rfl) ?_
  refine r_callVI mvX12_265 (ctX12_throwsIf a0 v1 1) (rcX12_throwsIf a0 v1 1) ⟨_, _, rfl⟩ (as := [vi v1, vi 1]) (st := []) rfl rfl (by decide +kernel) rfl (Nat.le_of_ble_eq_true rfl) (Nat.le_of_ble_eq_true rfl) fun v2 s => ?_
  refine r_ifne (off := 34) (tgt := 49) (by decide +kernel) (by decide) (fun h3 => ?_) (fun h3 => ?_)
  · refine r_p (pc' := 19) (p_aload_n 0 (k := 0) (by decide +kernel) rfl) ?_
    refine r_p (pc' := 20) (p_aload_n 0 (k := 0) (by decide +kernel) rfl) ?_
    refine r_p (pc' := 21) (p_iload_n 1 (k := 1) (by decide +kernel) rfl) ?_
    refine r_callVI mvX12_292 (ctX12_isHead a0 a1) (rcX12_isHead a0 a1) ⟨_, _, rfl⟩ (as := [vi a1]) (st := [vr a0]) rfl rfl (by decide +kernel) rfl (Nat.le_of_ble_eq_true rfl) (Nat.le_of_ble_eq_true rfl) fun v4 s => ?_
    refine r_join 42 (fun (x6 : Int32) => [(0, vr a0), (1, vi a1), (2, vi a2), (3, vi a3)]) (fun (x6 : Int32) => [vi x6, vr a0]) (fun x6 s => ?_) (fun K7 hj8 => ?_)
    · refine r_p (pc' := 43) (p_iconst (n := 2) (v := 2) (by decide +kernel) rfl) ?_
      refine r_callVI mvX12_265 (ctX12_throwsIf a0 x6 2) (rcX12_throwsIf a0 x6 2) ⟨_, _, rfl⟩ (as := [vi x6, vi 2]) (st := []) rfl rfl (by decide +kernel) rfl (Nat.le_of_ble_eq_true rfl) (Nat.le_of_ble_eq_true rfl) fun v11 s => ?_
      refine r_ifeq (off := 5) (tgt := 51) (by decide +kernel) (by decide) (fun h12 => ?_) (fun h12 => ?_)
      · refine r_p (pc' := 52) (p_iconst (n := -1) (v := -1) (by decide +kernel) rfl) ?_
        refine r_p (pc' := 54) (p_istore (i := 4) (lv' := [(4, vi (-1)), (0, vr a0), (1, vi a1), (2, vi a2), (3, vi a3)]) (by decide +kernel) (Nat.le_of_ble_eq_true rfl) rfl) ?_
        refine r_p (pc' := 55) (p_iconst (n := 0) (v := 0) (by decide +kernel) rfl) ?_
        refine r_p (pc' := 57) (p_istore (i := 5) (lv' := [(5, vi 0), (4, vi (-1)), (0, vr a0), (1, vi a1), (2, vi a2), (3, vi a3)]) (by decide +kernel) (Nat.le_of_ble_eq_true rfl) rfl) ?_
        refine r_sub (lv' := [(0, vr a0), (1, vi a1), (2, vi a2), (3, vi a3), (4, vi (-1)), (5, vi 0)]) [2, 3, 4, 5, 1, 0] rfl ?_
        refine r_loop2 (fun _ => 111) (fun (e30 : Int32) => [(4, vi e30)]) (fun (x13 : Int32 × Int32) => [(0, vr a0), (1, vi a1), (2, vi a2), (3, vi a3), (4, vi x13.1), (5, vi x13.2)]) (fun e30 s => ?_) (fun K14 hb15 he16 x13 s => ?_) (((-1), 0)) _
        · refine r_p (pc' := 113) (p_iload 0 (i := 4) (by decide +kernel) rfl) ?_
          exact r_iret rfl rfl _ rfl rfl (by decide +kernel)
        · unfold mX12_clock_L57
          refine r_p (pc' := 59) (p_iload 5 (i := 5) (by decide +kernel) rfl) ?_
          refine r_p (pc' := 60) (p_aload_n 0 (k := 0) (by decide +kernel) rfl) ?_
          refine r_callVI mvX12_325 (ctX12_deeds a0) (rcX12_deeds a0) ⟨_, _, rfl⟩ (as := []) (st := [vi x13.2]) rfl rfl (by decide +kernel) rfl (Nat.le_of_ble_eq_true rfl) (Nat.le_of_ble_eq_true rfl) fun v17 s => ?_
          refine r_icmpge (off := 48) (tgt := 111) (by decide +kernel) (by decide) (fun h18 => ?_) (fun h18 => ?_)
          · refine r_sub (lv' := [(4, vi x13.1)]) [4] rfl ?_
            exact he16 x13.1 _
          · refine r_p (pc' := 67) (p_aload_n 0 (k := 0) (by decide +kernel) rfl) ?_
            refine r_p (pc' := 69) (p_iload 5 (i := 5) (by decide +kernel) rfl) ?_
            refine r_p (pc' := 70) (p_iload_n 1 (k := 1) (by decide +kernel) rfl) ?_
            refine r_callVI mvX12_448 (ctX12_didIt a0 x13.2 a1) (rcX12_didIt a0 x13.2 a1) ⟨_, _, rfl⟩ (as := [vi x13.2, vi a1]) (st := []) rfl rfl (by decide +kernel) rfl (Nat.le_of_ble_eq_true rfl) (Nat.le_of_ble_eq_true rfl) fun v19 s => ?_
            refine r_join 105 (fun (x21 : Int32) => [(0, vr a0), (1, vi a1), (2, vi a2), (3, vi a3), (4, vi x21), (5, vi x13.2)]) (fun (x21 : Int32) => []) (fun x21 s => ?_) (fun K22 hj23 => ?_)
            · refine r_p (pc' := 108) (p_iinc 5 (i := 5) (n := 1) (x := x13.2) (v := x13.2 + 1) (lv' := [(5, vi (x13.2 + 1)), (0, vr a0), (1, vi a1), (2, vi a2), (3, vi a3), (4, vi x21)]) (by decide +kernel) rfl rfl (Nat.le_of_ble_eq_true rfl) rfl) ?_
              refine r_p (pc' := 57) (p_goto (off := -51) (tgt := 57) (by decide +kernel) (by decide)) ?_
              refine r_sub (lv' := [(0, vr a0), (1, vi a1), (2, vi a2), (3, vi a3), (4, vi x21), (5, vi (x13.2 + 1))]) [1, 2, 3, 4, 5, 0] rfl ?_
              exact hb15 (x21, x13.2 + 1) _
            · refine r_ifeq (off := 32) (tgt := 105) (by decide +kernel) (by decide) (fun h20 => ?_) (fun h20 => ?_)
              · exact hj23 x13.1 _
              · refine r_p (pc' := 77) (p_aload_n 0 (k := 0) (by decide +kernel) rfl) ?_
                refine r_p (pc' := 79) (p_iload 5 (i := 5) (by decide +kernel) rfl) ?_
                refine r_p (pc' := 80) (p_iconst (n := 5) (v := 5) (by decide +kernel) rfl) ?_
                refine r_callVI mvX12_328 (ctX12_ofTruth a0 x13.2 5) (rcX12_ofTruth a0 x13.2 5) ⟨_, _, rfl⟩ (as := [vi x13.2, vi 5]) (st := []) rfl rfl (by decide +kernel) rfl (Nat.le_of_ble_eq_true rfl) (Nat.le_of_ble_eq_true rfl) fun v24 s => ?_
                refine r_p (pc' := 84) (p_iload_n 2 (k := 2) (by decide +kernel) rfl) ?_
                refine r_icmpne (off := 21) (tgt := 105) (by decide +kernel) (by decide) (fun h25 => ?_) (fun h25 => ?_)
                · refine r_p (pc' := 89) (p_iload 4 (i := 4) (by decide +kernel) rfl) ?_
                  refine r_iflt (off := 7) (tgt := 96) (by decide +kernel) (by decide) (fun h26 => ?_) (fun h26 => ?_)
                  · refine r_p (pc' := 97) (p_aload_n 0 (k := 0) (by decide +kernel) rfl) ?_
                    refine r_p (pc' := 99) (p_iload 5 (i := 5) (by decide +kernel) rfl) ?_
                    refine r_p (pc' := 100) (p_iconst (n := 0) (v := 0) (by decide +kernel) rfl) ?_
                    refine r_callVI mvX12_328 (ctX12_ofTruth a0 x13.2 0) (rcX12_ofTruth a0 x13.2 0) ⟨_, _, rfl⟩ (as := [vi x13.2, vi 0]) (st := []) rfl rfl (by decide +kernel) rfl (Nat.le_of_ble_eq_true rfl) (Nat.le_of_ble_eq_true rfl) fun v27 s => ?_
                    refine r_p (pc' := 105) (p_istore (i := 4) (lv' := [(4, vi v27), (0, vr a0), (1, vi a1), (2, vi a2), (3, vi a3), (5, vi x13.2)]) (by decide +kernel) (Nat.le_of_ble_eq_true rfl) rfl) ?_
                    refine r_sub (lv' := [(0, vr a0), (1, vi a1), (2, vi a2), (3, vi a3), (4, vi v27), (5, vi x13.2)]) [1, 2, 3, 4, 0, 5] rfl ?_
                    exact hj23 v27 _
                  · refine r_p (pc' := 93) (p_iload_n 3 (k := 3) (by decide +kernel) rfl) ?_
                    refine r_ifeq (off := 12) (tgt := 105) (by decide +kernel) (by decide) (fun h28 => ?_) (fun h28 => ?_)
                    · exact hj23 x13.1 _
                    · refine r_p (pc' := 97) (p_aload_n 0 (k := 0) (by decide +kernel) rfl) ?_
                      refine r_p (pc' := 99) (p_iload 5 (i := 5) (by decide +kernel) rfl) ?_
                      refine r_p (pc' := 100) (p_iconst (n := 0) (v := 0) (by decide +kernel) rfl) ?_
                      refine r_callVI mvX12_328 (ctX12_ofTruth a0 x13.2 0) (rcX12_ofTruth a0 x13.2 0) ⟨_, _, rfl⟩ (as := [vi x13.2, vi 0]) (st := []) rfl rfl (by decide +kernel) rfl (Nat.le_of_ble_eq_true rfl) (Nat.le_of_ble_eq_true rfl) fun v29 s => ?_
                      refine r_p (pc' := 105) (p_istore (i := 4) (lv' := [(4, vi v29), (0, vr a0), (1, vi a1), (2, vi a2), (3, vi a3), (5, vi x13.2)]) (by decide +kernel) (Nat.le_of_ble_eq_true rfl) rfl) ?_
                      refine r_sub (lv' := [(0, vr a0), (1, vi a1), (2, vi a2), (3, vi a3), (4, vi v29), (5, vi x13.2)]) [1, 2, 3, 4, 0, 5] rfl ?_
                      exact hj23 v29 _
                · exact hj23 x13.1 _
      · refine r_p (pc' := 50) (p_iconst (n := 0) (v := 0) (by decide +kernel) rfl) ?_
        exact r_iret rfl rfl _ rfl rfl (by decide +kernel)
    · refine r_ifeq (off := 13) (tgt := 37) (by decide +kernel) (by decide) (fun h5 => ?_) (fun h5 => ?_)
      · refine r_p (pc' := 38) (p_iconst (n := 1) (v := 1) (by decide +kernel) rfl) ?_
        refine r_p (pc' := 42) (p_goto (off := 4) (tgt := 42) (by decide +kernel) (by decide)) ?_
        exact hj8 1 _
      · refine r_p (pc' := 28) (p_iload_n 2 (k := 2) (by decide +kernel) rfl) ?_
        refine r_p (pc' := 29) (p_iconst (n := 0) (v := 0) (by decide +kernel) rfl) ?_
        refine r_p (pc' := 31) (p_bipush (n := 9) (v := 9) (by decide +kernel) (by decide +kernel)) ?_
        refine r_callSI msX12_72 (ctX12_in a2 0 9) (as := [vi a2, vi 0, vi 9]) (st := [vr a0]) rfl rfl (by decide +kernel) rfl (Nat.le_of_ble_eq_true rfl) (Nat.le_of_ble_eq_true rfl) fun v9 s => ?_
        refine r_ifne (off := 7) (tgt := 41) (by decide +kernel) (by decide) (fun h10 => ?_) (fun h10 => ?_)
        · refine r_p (pc' := 38) (p_iconst (n := 1) (v := 1) (by decide +kernel) rfl) ?_
          refine r_p (pc' := 42) (p_goto (off := 4) (tgt := 42) (by decide +kernel) (by decide)) ?_
          exact hj8 1 _
        · refine r_p (pc' := 42) (p_iconst (n := 0) (v := 0) (by decide +kernel) rfl) ?_
          exact hj8 0 _
  · refine r_p (pc' := 50) (p_iconst (n := 0) (v := 0) (by decide +kernel) rfl) ?_
    exact r_iret rfl rfl _ rfl rfl (by decide +kernel)
def aX12_together : StA := (RX12, cX12_together, 7, some .int, yX12_together, 10, [])
theorem mvX12_254 : MV RX12 254 aX12_uses 0 := ⟨tblG_of 1779 (by decide +kernel) (by decide +kernel), tblG_of 1781 (by decide +kernel) (by decide +kernel), tblG_of 52 (by decide +kernel) (by decide +kernel), tblG_of 157 (by decide +kernel) (by decide +kernel), tblG_of 1782 (by decide +kernel) (by decide +kernel), rfl, ⟨by decide, by decide⟩, by decide +kernel, by decide⟩
noncomputable def mX12_together_L11 (a0 : Nat) (x1 : Int32 × Int32 × Int32) : MM ((Int32 × Int32 × Int32) ⊕ ((Int32 × Int32))) :=
  mbnd (gI 11 11 a0) fun (v5 : Int32) =>
  if v5 ≤ x1.2.2 then (
    mret (.inr (x1.1, x1.2.1))
  ) else (
    if x1.2.1 = 0 then (
      mret (.inr (x1.1, x1.2.1))
    ) else (
      mbnd (gR 11 8 a0) fun (v8 : Nat) =>
      mbnd (ldI 1 v8 x1.2.2) fun (v9 : Int32) =>
      mbnd (mX12_noPart a0 v9) fun (v10 : Int32) =>
      mbnd (α := Int32) (
        if v10 = 0 then (
          mret 1
        ) else (
          mret 0
        )
      ) fun (x12 : Int32) =>
      mbnd (α := Int32) (
        if x12 = 0 then (
          mret 0
        ) else (
          mbnd (gR 11 8 a0) fun (v19 : Nat) =>
          mbnd (ldI 1 v19 x1.2.2) fun (v20 : Int32) =>
          mret (1 <<< (v20 &&& (31 : Int32)))
        )
      ) fun (x16 : Int32) =>
      mbnd (mret (x1.1 ||| x16)) fun (v21 : Int32) =>
      mret (.inl (v21, x12, x1.2.2 + 1))
    )
  )
noncomputable def mX12_together_L98 (a0 : Nat) (e22 : Int32 × Int32) (x29 : Int32 × Int32 × Int32) : MM ((Int32 × Int32 × Int32) ⊕ ((Int32 × Int32))) :=
  mbnd (mX12_deeds a0) fun (v33 : Int32) =>
  if v33 ≤ x29.2.2 then (
    mret (.inr (x29.1, x29.2.1))
  ) else (
    mbnd (mX12_ofTruth a0 x29.2.2 6) fun (v35 : Int32) =>
    mbnd (α := Int32 × Int32) (
      if (e22.1 &&& (v35 ^^^ (-1))) = 0 then (
        mbnd (α := Int32) (
          if x29.1 = 0 then (
            mbnd (mX12_ofTruth a0 x29.2.2 0) fun (v44 : Int32) =>
            mret v44
          ) else (
            mret x29.2.1
          )
        ) fun (x41 : Int32) =>
        mret (x29.1 + 1, x41)
      ) else (
        mret (x29.1, x29.2.1)
      )
    ) fun (x37 : Int32 × Int32) =>
    mret (.inl (x37.1, x37.2, x29.2.2 + 1))
  )
noncomputable def mX12_together (a0 : Nat) (a1 : Int32) : MM Int32 := onC 11 a0 (
  mbnd (mX12_uses a0) fun _ =>
  mbnd (loopM (mX12_together_L11 a0) (0, 1, 0)) fun (e22 : Int32 × Int32) =>
  mbnd (α := Int32) (
    if e22.2 = 0 then (
      mret 1
    ) else (
      mret 0
    )
  ) fun (x24 : Int32) =>
  mbnd (mX12_throwsIf a0 x24 1) fun (v27 : Int32) =>
  if v27 = 0 then (
    mbnd (loopM (mX12_together_L98 a0 e22) ((0, (-1), 0))) fun (e45 : Int32 × Int32) =>
    if a1 = 0 then (
      mret e45.1
    ) else (
      mret e45.2
    )
  ) else (
    mret 0
  )
  )
theorem rcX12_together (a0 : Nat) (a1 : Int32) : Rcv 11 a0 (mX12_together a0 a1) := fun s r h => ⟨(onC_some h).1, (onC_some h).2.1⟩
set_option maxHeartbeats 4000000 in
set_option maxRecDepth 100000 in
theorem ctX12_together (a0 : Nat) (a1 : Int32) : Ct aX12_together [vr a0, vi a1] (mX12_together a0 a1) rI := by
  unfold mX12_together
  refine ct_onC (ct_intro (by decide +kernel) rfl (Nat.le_of_ble_eq_true rfl) fun Y s => ?_)
  refine r_sub (lv' := [(0, vr a0), (1, vi a1)]) [0, 1] rfl ?_
  refine r_p (pc' := 1) (p_aload_n 0 (k := 0) (by decide +kernel) rfl) ?_
  refine r_callVU mvX12_254 (ctX12_uses a0) (rcX12_uses a0) ⟨_, _, rfl⟩ (as := []) (st := []) rfl rfl (by decide +kernel) rfl (Nat.le_of_ble_eq_true rfl) (Nat.le_of_ble_eq_true rfl) fun s => ?_
  refine r_p (pc' := 5) (p_iconst (n := 0) (v := 0) (by decide +kernel) rfl) ?_
  refine r_p (pc' := 6) (p_istore_n (k := 2) (lv' := [(2, vi 0), (0, vr a0), (1, vi a1)]) (by decide +kernel) (Nat.le_of_ble_eq_true rfl) rfl) ?_
  refine r_p (pc' := 7) (p_iconst (n := 1) (v := 1) (by decide +kernel) rfl) ?_
  refine r_p (pc' := 8) (p_istore_n (k := 3) (lv' := [(3, vi 1), (2, vi 0), (0, vr a0), (1, vi a1)]) (by decide +kernel) (Nat.le_of_ble_eq_true rfl) rfl) ?_
  refine r_p (pc' := 9) (p_iconst (n := 0) (v := 0) (by decide +kernel) rfl) ?_
  refine r_p (pc' := 11) (p_istore (i := 4) (lv' := [(4, vi 0), (3, vi 1), (2, vi 0), (0, vr a0), (1, vi a1)]) (by decide +kernel) (Nat.le_of_ble_eq_true rfl) rfl) ?_
  refine r_sub (lv' := [(0, vr a0), (1, vi a1), (2, vi 0), (3, vi 1), (4, vi 0)]) [3, 4, 2, 1, 0] rfl ?_
  refine r_loop2 (fun _ => 70) (fun (e22 : Int32 × Int32) => [(0, vr a0), (1, vi a1), (2, vi e22.1), (3, vi e22.2)]) (fun (x1 : Int32 × Int32 × Int32) => [(0, vr a0), (1, vi a1), (2, vi x1.1), (3, vi x1.2.1), (4, vi x1.2.2)]) (fun e22 s => ?_) (fun K2 hb3 he4 x1 s => ?_) (0, 1, 0) _
  · refine r_p (pc' := 71) (p_aload_n 0 (k := 0) (by decide +kernel) rfl) ?_
    refine r_p (pc' := 72) (p_iload_n 3 (k := 3) (by decide +kernel) rfl) ?_
    refine r_join 80 (fun (x24 : Int32) => [(0, vr a0), (1, vi a1), (2, vi e22.1)]) (fun (x24 : Int32) => [vi x24, vr a0]) (fun x24 s => ?_) (fun K25 hj26 => ?_)
    · refine r_p (pc' := 81) (p_iconst (n := 1) (v := 1) (by decide +kernel) rfl) ?_
      refine r_callVI mvX12_265 (ctX12_throwsIf a0 x24 1) (rcX12_throwsIf a0 x24 1) ⟨_, _, rfl⟩ (as := [vi x24, vi 1]) (st := []) rfl rfl (by decide +kernel) rfl (Nat.le_of_ble_eq_true rfl) (Nat.le_of_ble_eq_true rfl) fun v27 s => ?_
      refine r_ifeq (off := 5) (tgt := 89) (by decide +kernel) (by decide) (fun h28 => ?_) (fun h28 => ?_)
      · refine r_p (pc' := 90) (p_iconst (n := 0) (v := 0) (by decide +kernel) rfl) ?_
        refine r_p (pc' := 92) (p_istore (i := 4) (lv' := [(4, vi 0), (0, vr a0), (1, vi a1), (2, vi e22.1)]) (by decide +kernel) (Nat.le_of_ble_eq_true rfl) rfl) ?_
        refine r_p (pc' := 93) (p_iconst (n := -1) (v := -1) (by decide +kernel) rfl) ?_
        refine r_p (pc' := 95) (p_istore (i := 5) (lv' := [(5, vi (-1)), (4, vi 0), (0, vr a0), (1, vi a1), (2, vi e22.1)]) (by decide +kernel) (Nat.le_of_ble_eq_true rfl) rfl) ?_
        refine r_p (pc' := 96) (p_iconst (n := 0) (v := 0) (by decide +kernel) rfl) ?_
        refine r_p (pc' := 98) (p_istore (i := 6) (lv' := [(6, vi 0), (5, vi (-1)), (4, vi 0), (0, vr a0), (1, vi a1), (2, vi e22.1)]) (by decide +kernel) (Nat.le_of_ble_eq_true rfl) rfl) ?_
        refine r_sub (lv' := [(0, vr a0), (1, vi a1), (2, vi e22.1), (4, vi 0), (5, vi (-1)), (6, vi 0)]) [3, 4, 5, 2, 1, 0] rfl ?_
        refine r_loop2 (fun _ => 153) (fun (e45 : Int32 × Int32) => [(1, vi a1), (4, vi e45.1), (5, vi e45.2)]) (fun (x29 : Int32 × Int32 × Int32) => [(0, vr a0), (1, vi a1), (2, vi e22.1), (4, vi x29.1), (5, vi x29.2.1), (6, vi x29.2.2)]) (fun e45 s => ?_) (fun K30 hb31 he32 x29 s => ?_) ((0, (-1), 0)) _
        · refine r_p (pc' := 154) (p_iload_n 0 (k := 1) (by decide +kernel) rfl) ?_
          refine r_ifeq (off := 8) (tgt := 162) (by decide +kernel) (by decide) (fun h46 => ?_) (fun h46 => ?_)
          · refine r_p (pc' := 164) (p_iload 1 (i := 4) (by decide +kernel) rfl) ?_
            exact r_iret rfl rfl _ rfl rfl (by decide +kernel)
          · refine r_p (pc' := 159) (p_iload 2 (i := 5) (by decide +kernel) rfl) ?_
            refine r_p (pc' := 164) (p_goto (off := 5) (tgt := 164) (by decide +kernel) (by decide)) ?_
            exact r_iret rfl rfl _ rfl rfl (by decide +kernel)
        · unfold mX12_together_L98
          refine r_p (pc' := 100) (p_iload 5 (i := 6) (by decide +kernel) rfl) ?_
          refine r_p (pc' := 101) (p_aload_n 0 (k := 0) (by decide +kernel) rfl) ?_
          refine r_callVI mvX12_325 (ctX12_deeds a0) (rcX12_deeds a0) ⟨_, _, rfl⟩ (as := []) (st := [vi x29.2.2]) rfl rfl (by decide +kernel) rfl (Nat.le_of_ble_eq_true rfl) (Nat.le_of_ble_eq_true rfl) fun v33 s => ?_
          refine r_icmpge (off := 49) (tgt := 153) (by decide +kernel) (by decide) (fun h34 => ?_) (fun h34 => ?_)
          · refine r_sub (lv' := [(1, vi a1), (4, vi x29.1), (5, vi x29.2.1)]) [1, 3, 4] rfl ?_
            exact he32 (x29.1, x29.2.1) _
          · refine r_p (pc' := 108) (p_iload_n 2 (k := 2) (by decide +kernel) rfl) ?_
            refine r_p (pc' := 109) (p_aload_n 0 (k := 0) (by decide +kernel) rfl) ?_
            refine r_p (pc' := 111) (p_iload 5 (i := 6) (by decide +kernel) rfl) ?_
            refine r_p (pc' := 113) (p_bipush (n := 6) (v := 6) (by decide +kernel) (by decide +kernel)) ?_
            refine r_callVI mvX12_328 (ctX12_ofTruth a0 x29.2.2 6) (rcX12_ofTruth a0 x29.2.2 6) ⟨_, _, rfl⟩ (as := [vi x29.2.2, vi 6]) (st := [vi e22.1]) rfl rfl (by decide +kernel) rfl (Nat.le_of_ble_eq_true rfl) (Nat.le_of_ble_eq_true rfl) fun v35 s => ?_
            refine r_p (pc' := 117) (p_iconst (n := -1) (v := -1) (by decide +kernel) rfl) ?_
            refine r_p (pc' := 118) (p_ixor (by decide +kernel)) ?_
            refine r_p (pc' := 119) (p_iand (by decide +kernel)) ?_
            refine r_join 147 (fun (x37 : Int32 × Int32) => [(0, vr a0), (1, vi a1), (2, vi e22.1), (4, vi x37.1), (5, vi x37.2), (6, vi x29.2.2)]) (fun (x37 : Int32 × Int32) => []) (fun x37 s => ?_) (fun K38 hj39 => ?_)
            · refine r_p (pc' := 150) (p_iinc 5 (i := 6) (n := 1) (x := x29.2.2) (v := x29.2.2 + 1) (lv' := [(6, vi (x29.2.2 + 1)), (0, vr a0), (1, vi a1), (2, vi e22.1), (4, vi x37.1), (5, vi x37.2)]) (by decide +kernel) rfl rfl (Nat.le_of_ble_eq_true rfl) rfl) ?_
              refine r_p (pc' := 98) (p_goto (off := -52) (tgt := 98) (by decide +kernel) (by decide)) ?_
              refine r_sub (lv' := [(0, vr a0), (1, vi a1), (2, vi e22.1), (4, vi x37.1), (5, vi x37.2), (6, vi (x29.2.2 + 1))]) [1, 2, 3, 4, 5, 0] rfl ?_
              exact hb31 (x37.1, x37.2, x29.2.2 + 1) _
            · refine r_ifeq (off := 6) (tgt := 125) (by decide +kernel) (by decide) (fun h36 => ?_) (fun h36 => ?_)
              · refine r_p (pc' := 127) (p_iload 3 (i := 4) (by decide +kernel) rfl) ?_
                refine r_join 142 (fun (x41 : Int32) => [(0, vr a0), (1, vi a1), (2, vi e22.1), (4, vi x29.1), (6, vi x29.2.2)]) (fun (x41 : Int32) => [vi x41]) (fun x41 s => ?_) (fun K42 hj43 => ?_)
                · refine r_p (pc' := 144) (p_istore (i := 5) (lv' := [(5, vi x41), (0, vr a0), (1, vi a1), (2, vi e22.1), (4, vi x29.1), (6, vi x29.2.2)]) (by decide +kernel) (Nat.le_of_ble_eq_true rfl) rfl) ?_
                  refine r_p (pc' := 147) (p_iinc 4 (i := 4) (n := 1) (x := x29.1) (v := x29.1 + 1) (lv' := [(4, vi (x29.1 + 1)), (5, vi x41), (0, vr a0), (1, vi a1), (2, vi e22.1), (6, vi x29.2.2)]) (by decide +kernel) rfl rfl (Nat.le_of_ble_eq_true rfl) rfl) ?_
                  refine r_sub (lv' := [(0, vr a0), (1, vi a1), (2, vi e22.1), (4, vi (x29.1 + 1)), (5, vi x41), (6, vi x29.2.2)]) [2, 3, 4, 0, 1, 5] rfl ?_
                  exact hj39 (x29.1 + 1, x41) _
                · refine r_ifne (off := 13) (tgt := 140) (by decide +kernel) (by decide) (fun h40 => ?_) (fun h40 => ?_)
                  · refine r_p (pc' := 131) (p_aload_n 0 (k := 0) (by decide +kernel) rfl) ?_
                    refine r_p (pc' := 133) (p_iload 5 (i := 6) (by decide +kernel) rfl) ?_
                    refine r_p (pc' := 134) (p_iconst (n := 0) (v := 0) (by decide +kernel) rfl) ?_
                    refine r_callVI mvX12_328 (ctX12_ofTruth a0 x29.2.2 0) (rcX12_ofTruth a0 x29.2.2 0) ⟨_, _, rfl⟩ (as := [vi x29.2.2, vi 0]) (st := []) rfl rfl (by decide +kernel) rfl (Nat.le_of_ble_eq_true rfl) (Nat.le_of_ble_eq_true rfl) fun v44 s => ?_
                    refine r_p (pc' := 142) (p_goto (off := 5) (tgt := 142) (by decide +kernel) (by decide)) ?_
                    refine r_sub (lv' := [(0, vr a0), (1, vi a1), (2, vi e22.1), (4, vi x29.1), (6, vi x29.2.2)]) [0, 1, 2, 3, 5] rfl ?_
                    exact hj43 v44 _
                  · refine r_p (pc' := 142) (p_iload 4 (i := 5) (by decide +kernel) rfl) ?_
                    refine r_sub (lv' := [(0, vr a0), (1, vi a1), (2, vi e22.1), (4, vi x29.1), (6, vi x29.2.2)]) [0, 1, 2, 3, 5] rfl ?_
                    exact hj43 x29.2.1 _
              · refine r_p (pc' := 147) (p_goto (off := 25) (tgt := 147) (by decide +kernel) (by decide)) ?_
                exact hj39 (x29.1, x29.2.1) _
      · refine r_p (pc' := 88) (p_iconst (n := 0) (v := 0) (by decide +kernel) rfl) ?_
        exact r_iret rfl rfl _ rfl rfl (by decide +kernel)
    · refine r_ifne (off := 7) (tgt := 79) (by decide +kernel) (by decide) (fun h23 => ?_) (fun h23 => ?_)
      · refine r_p (pc' := 76) (p_iconst (n := 1) (v := 1) (by decide +kernel) rfl) ?_
        refine r_p (pc' := 80) (p_goto (off := 4) (tgt := 80) (by decide +kernel) (by decide)) ?_
        refine r_sub (lv' := [(0, vr a0), (1, vi a1), (2, vi e22.1)]) [0, 1, 2] rfl ?_
        exact hj26 1 _
      · refine r_p (pc' := 80) (p_iconst (n := 0) (v := 0) (by decide +kernel) rfl) ?_
        refine r_sub (lv' := [(0, vr a0), (1, vi a1), (2, vi e22.1)]) [0, 1, 2] rfl ?_
        exact hj26 0 _
  · unfold mX12_together_L11
    refine r_p (pc' := 13) (p_iload 4 (i := 4) (by decide +kernel) rfl) ?_
    refine r_p (pc' := 14) (p_aload_n 0 (k := 0) (by decide +kernel) rfl) ?_
    refine r_gI flX12_89_11 (by decide +kernel) fun v5 => ?_
    refine r_icmpge (off := 53) (tgt := 70) (by decide +kernel) (by decide) (fun h6 => ?_) (fun h6 => ?_)
    · refine r_sub (lv' := [(0, vr a0), (1, vi a1), (2, vi x1.1), (3, vi x1.2.1)]) [0, 1, 2, 3] rfl ?_
      exact he4 (x1.1, x1.2.1) _
    · refine r_p (pc' := 21) (p_iload_n 3 (k := 3) (by decide +kernel) rfl) ?_
      refine r_ifeq (off := 49) (tgt := 70) (by decide +kernel) (by decide) (fun h7 => ?_) (fun h7 => ?_)
      · refine r_sub (lv' := [(0, vr a0), (1, vi a1), (2, vi x1.1), (3, vi x1.2.1)]) [0, 1, 2, 3] rfl ?_
        exact he4 (x1.1, x1.2.1) _
      · refine r_p (pc' := 25) (p_aload_n 0 (k := 0) (by decide +kernel) rfl) ?_
        refine r_p (pc' := 26) (p_aload_n 0 (k := 0) (by decide +kernel) rfl) ?_
        refine r_gR flX12_29_11 (by decide +kernel) fun v8 => ?_
        refine r_p (pc' := 31) (p_iload 4 (i := 4) (by decide +kernel) rfl) ?_
        refine r_ldI1 (by decide +kernel) fun v9 => ?_
        refine r_callVI mvX12_313 (ctX12_noPart a0 v9) (rcX12_noPart a0 v9) ⟨_, _, rfl⟩ (as := [vi v9]) (st := []) rfl rfl (by decide +kernel) rfl (Nat.le_of_ble_eq_true rfl) (Nat.le_of_ble_eq_true rfl) fun v10 s => ?_
        refine r_join 43 (fun (x12 : Int32) => [(0, vr a0), (1, vi a1), (2, vi x1.1), (4, vi x1.2.2)]) (fun (x12 : Int32) => [vi x12]) (fun x12 s => ?_) (fun K13 hj14 => ?_)
        · refine r_p (pc' := 44) (p_istore_n (k := 3) (lv' := [(3, vi x12), (0, vr a0), (1, vi a1), (2, vi x1.1), (4, vi x1.2.2)]) (by decide +kernel) (Nat.le_of_ble_eq_true rfl) rfl) ?_
          refine r_p (pc' := 45) (p_iload_n 3 (k := 2) (by decide +kernel) rfl) ?_
          refine r_p (pc' := 46) (p_iload_n 0 (k := 3) (by decide +kernel) rfl) ?_
          refine r_join 62 (fun (x16 : Int32) => [(0, vr a0), (1, vi a1), (3, vi x12), (4, vi x1.2.2)]) (fun (x16 : Int32) => [vi x16, vi x1.1]) (fun x16 s => ?_) (fun K17 hj18 => ?_)
          · refine r_p (pc' := 63) (p_ior (by decide +kernel)) ?_
            refine r_letI fun v21 => ?_
            refine r_p (pc' := 64) (p_istore_n (k := 2) (lv' := [(2, vi v21), (0, vr a0), (1, vi a1), (3, vi x12), (4, vi x1.2.2)]) (by decide +kernel) (Nat.le_of_ble_eq_true rfl) rfl) ?_
            refine r_p (pc' := 67) (p_iinc 4 (i := 4) (n := 1) (x := x1.2.2) (v := x1.2.2 + 1) (lv' := [(4, vi (x1.2.2 + 1)), (2, vi v21), (0, vr a0), (1, vi a1), (3, vi x12)]) (by decide +kernel) rfl rfl (Nat.le_of_ble_eq_true rfl) rfl) ?_
            refine r_p (pc' := 11) (p_goto (off := -56) (tgt := 11) (by decide +kernel) (by decide)) ?_
            refine r_sub (lv' := [(0, vr a0), (1, vi a1), (2, vi v21), (3, vi x12), (4, vi (x1.2.2 + 1))]) [2, 3, 1, 4, 0] rfl ?_
            exact hb3 (v21, x12, x1.2.2 + 1) _
          · refine r_ifeq (off := 15) (tgt := 61) (by decide +kernel) (by decide) (fun h15 => ?_) (fun h15 => ?_)
            · refine r_p (pc' := 62) (p_iconst (n := 0) (v := 0) (by decide +kernel) rfl) ?_
              refine r_sub (lv' := [(0, vr a0), (1, vi a1), (3, vi x12), (4, vi x1.2.2)]) [1, 2, 0, 4] rfl ?_
              exact hj18 0 _
            · refine r_p (pc' := 50) (p_iconst (n := 1) (v := 1) (by decide +kernel) rfl) ?_
              refine r_p (pc' := 51) (p_aload_n 1 (k := 0) (by decide +kernel) rfl) ?_
              refine r_gR flX12_29_11 (by decide +kernel) fun v19 => ?_
              refine r_p (pc' := 56) (p_iload 4 (i := 4) (by decide +kernel) rfl) ?_
              refine r_ldI1 (by decide +kernel) fun v20 => ?_
              refine r_p (pc' := 58) (p_ishl (by decide +kernel)) ?_
              refine r_p (pc' := 62) (p_goto (off := 4) (tgt := 62) (by decide +kernel) (by decide)) ?_
              refine r_sub (lv' := [(0, vr a0), (1, vi a1), (3, vi x12), (4, vi x1.2.2)]) [1, 2, 0, 4] rfl ?_
              exact hj18 (1 <<< (v20 &&& (31 : Int32))) _
        · refine r_ifne (off := 7) (tgt := 42) (by decide +kernel) (by decide) (fun h11 => ?_) (fun h11 => ?_)
          · refine r_p (pc' := 39) (p_iconst (n := 1) (v := 1) (by decide +kernel) rfl) ?_
            refine r_p (pc' := 43) (p_goto (off := 4) (tgt := 43) (by decide +kernel) (by decide)) ?_
            refine r_sub (lv' := [(0, vr a0), (1, vi a1), (2, vi x1.1), (4, vi x1.2.2)]) [0, 1, 2, 4] rfl ?_
            exact hj14 1 _
          · refine r_p (pc' := 43) (p_iconst (n := 0) (v := 0) (by decide +kernel) rfl) ?_
            refine r_sub (lv' := [(0, vr a0), (1, vi a1), (2, vi x1.1), (4, vi x1.2.2)]) [0, 1, 2, 4] rfl ?_
            exact hj14 0 _
def aX12_heir : StA := (RX12, cX12_heir, 3, some .int, yX12_heir, 10, [])
noncomputable def mX12_heir_L9 (a0 : Nat) (x1 : Int32 × Int32) : MM ((Int32 × Int32) ⊕ (Int32)) :=
  mbnd (mX12_parts a0) fun (v5 : Int32) =>
  if v5 ≤ x1.2 then (
    mret (.inr x1.1)
  ) else (
    mbnd (mX12_of a0 x1.2 7) fun (v7 : Int32) =>
    mbnd (α := Int32) (
      if v7 ≤ 0 then (
        mret x1.1
      ) else (
        if x1.1 < 0 then (
          mret x1.2
        ) else (
          mbnd (mX12_of a0 x1.2 7) fun (v13 : Int32) =>
          mbnd (mX12_of a0 x1.1 7) fun (v14 : Int32) =>
          if v13 ≤ v14 then (
            mret x1.1
          ) else (
            mret x1.2
          )
        )
      )
    ) fun (x9 : Int32) =>
    mret (.inl (x9, x1.2 + 1))
  )
noncomputable def mX12_heir (a0 : Nat) : MM Int32 := onC 11 a0 (
  mbnd (pI 11 0 a0 0) fun _ =>
  mbnd (loopM (mX12_heir_L9 a0) (((-1), 0))) fun (e16 : Int32) =>
  mret e16
  )
theorem rcX12_heir (a0 : Nat) : Rcv 11 a0 (mX12_heir a0) := fun s r h => ⟨(onC_some h).1, (onC_some h).2.1⟩
set_option maxHeartbeats 4000000 in
set_option maxRecDepth 100000 in
theorem ctX12_heir (a0 : Nat) : Ct aX12_heir [vr a0] (mX12_heir a0) rI := by
  unfold mX12_heir
  refine ct_onC (ct_intro (by decide +kernel) rfl (Nat.le_of_ble_eq_true rfl) fun Y s => ?_)
  refine r_sub (lv' := [(0, vr a0)]) [0] rfl ?_
  refine r_p (pc' := 1) (p_aload_n 0 (k := 0) (by decide +kernel) rfl) ?_
  refine r_p (pc' := 2) (p_iconst (n := 0) (v := 0) (by decide +kernel) rfl) ?_
  refine r_pI fpX12_3_11 (fun h => by cases h) (by decide +kernel) fun s => ?_
  refine r_p (pc' := 6) (p_iconst (n := -1) (v := -1) (by decide +kernel) rfl) ?_
  refine r_p (pc' := 7) (p_istore_n (k := 1) (lv' := [(1, vi (-1)), (0, vr a0)]) (by decide +kernel) (Nat.le_of_ble_eq_true rfl) rfl) ?_
  refine r_p (pc' := 8) (p_iconst (n := 0) (v := 0) (by decide +kernel) rfl) ?_
  refine r_p (pc' := 9) (p_istore_n (k := 2) (lv' := [(2, vi 0), (1, vi (-1)), (0, vr a0)]) (by decide +kernel) (Nat.le_of_ble_eq_true rfl) rfl) ?_
  refine r_sub (lv' := [(0, vr a0), (1, vi (-1)), (2, vi 0)]) [2, 1, 0] rfl ?_
  refine r_loop2 (fun _ => 56) (fun (e16 : Int32) => [(1, vi e16)]) (fun (x1 : Int32 × Int32) => [(0, vr a0), (1, vi x1.1), (2, vi x1.2)]) (fun e16 s => ?_) (fun K2 hb3 he4 x1 s => ?_) (((-1), 0)) _
  · refine r_p (pc' := 57) (p_iload_n 0 (k := 1) (by decide +kernel) rfl) ?_
    exact r_iret rfl rfl _ rfl rfl (by decide +kernel)
  · unfold mX12_heir_L9
    refine r_p (pc' := 10) (p_iload_n 2 (k := 2) (by decide +kernel) rfl) ?_
    refine r_p (pc' := 11) (p_aload_n 0 (k := 0) (by decide +kernel) rfl) ?_
    refine r_callVI mvX12_68 (ctX12_parts a0) (rcX12_parts a0) ⟨_, _, rfl⟩ (as := []) (st := [vi x1.2]) rfl rfl (by decide +kernel) rfl (Nat.le_of_ble_eq_true rfl) (Nat.le_of_ble_eq_true rfl) fun v5 s => ?_
    refine r_icmpge (off := 42) (tgt := 56) (by decide +kernel) (by decide) (fun h6 => ?_) (fun h6 => ?_)
    · refine r_sub (lv' := [(1, vi x1.1)]) [1] rfl ?_
      exact he4 x1.1 _
    · refine r_p (pc' := 18) (p_aload_n 0 (k := 0) (by decide +kernel) rfl) ?_
      refine r_p (pc' := 19) (p_iload_n 2 (k := 2) (by decide +kernel) rfl) ?_
      refine r_p (pc' := 21) (p_bipush (n := 7) (v := 7) (by decide +kernel) (by decide +kernel)) ?_
      refine r_callVI mvX12_65 (ctX12_of a0 x1.2 7) (rcX12_of a0 x1.2 7) ⟨_, _, rfl⟩ (as := [vi x1.2, vi 7]) (st := []) rfl rfl (by decide +kernel) rfl (Nat.le_of_ble_eq_true rfl) (Nat.le_of_ble_eq_true rfl) fun v7 s => ?_
      refine r_join 50 (fun (x9 : Int32) => [(0, vr a0), (1, vi x9), (2, vi x1.2)]) (fun (x9 : Int32) => []) (fun x9 s => ?_) (fun K10 hj11 => ?_)
      · refine r_p (pc' := 53) (p_iinc 2 (i := 2) (n := 1) (x := x1.2) (v := x1.2 + 1) (lv' := [(2, vi (x1.2 + 1)), (0, vr a0), (1, vi x9)]) (by decide +kernel) rfl rfl (Nat.le_of_ble_eq_true rfl) rfl) ?_
        refine r_p (pc' := 9) (p_goto (off := -44) (tgt := 9) (by decide +kernel) (by decide)) ?_
        refine r_sub (lv' := [(0, vr a0), (1, vi x9), (2, vi (x1.2 + 1))]) [1, 2, 0] rfl ?_
        exact hb3 (x9, x1.2 + 1) _
      · refine r_ifle (off := 26) (tgt := 50) (by decide +kernel) (by decide) (fun h8 => ?_) (fun h8 => ?_)
        · exact hj11 x1.1 _
        · refine r_p (pc' := 28) (p_iload_n 1 (k := 1) (by decide +kernel) rfl) ?_
          refine r_iflt (off := 20) (tgt := 48) (by decide +kernel) (by decide) (fun h12 => ?_) (fun h12 => ?_)
          · refine r_p (pc' := 49) (p_iload_n 2 (k := 2) (by decide +kernel) rfl) ?_
            refine r_p (pc' := 50) (p_istore_n (k := 1) (lv' := [(1, vi x1.2), (0, vr a0), (2, vi x1.2)]) (by decide +kernel) (Nat.le_of_ble_eq_true rfl) rfl) ?_
            refine r_sub (lv' := [(0, vr a0), (1, vi x1.2), (2, vi x1.2)]) [1, 0, 2] rfl ?_
            exact hj11 x1.2 _
          · refine r_p (pc' := 32) (p_aload_n 0 (k := 0) (by decide +kernel) rfl) ?_
            refine r_p (pc' := 33) (p_iload_n 2 (k := 2) (by decide +kernel) rfl) ?_
            refine r_p (pc' := 35) (p_bipush (n := 7) (v := 7) (by decide +kernel) (by decide +kernel)) ?_
            refine r_callVI mvX12_65 (ctX12_of a0 x1.2 7) (rcX12_of a0 x1.2 7) ⟨_, _, rfl⟩ (as := [vi x1.2, vi 7]) (st := []) rfl rfl (by decide +kernel) rfl (Nat.le_of_ble_eq_true rfl) (Nat.le_of_ble_eq_true rfl) fun v13 s => ?_
            refine r_p (pc' := 39) (p_aload_n 0 (k := 0) (by decide +kernel) rfl) ?_
            refine r_p (pc' := 40) (p_iload_n 1 (k := 1) (by decide +kernel) rfl) ?_
            refine r_p (pc' := 42) (p_bipush (n := 7) (v := 7) (by decide +kernel) (by decide +kernel)) ?_
            refine r_callVI mvX12_65 (ctX12_of a0 x1.1 7) (rcX12_of a0 x1.1 7) ⟨_, _, rfl⟩ (as := [vi x1.1, vi 7]) (st := [vi v13]) rfl rfl (by decide +kernel) rfl (Nat.le_of_ble_eq_true rfl) (Nat.le_of_ble_eq_true rfl) fun v14 s => ?_
            refine r_icmple (off := 5) (tgt := 50) (by decide +kernel) (by decide) (fun h15 => ?_) (fun h15 => ?_)
            · exact hj11 x1.1 _
            · refine r_p (pc' := 49) (p_iload_n 2 (k := 2) (by decide +kernel) rfl) ?_
              refine r_p (pc' := 50) (p_istore_n (k := 1) (lv' := [(1, vi x1.2), (0, vr a0), (2, vi x1.2)]) (by decide +kernel) (Nat.le_of_ble_eq_true rfl) rfl) ?_
              refine r_sub (lv' := [(0, vr a0), (1, vi x1.2), (2, vi x1.2)]) [1, 0, 2] rfl ?_
              exact hj11 x1.2 _
def aX12_jury : StA := (RX12, cX12_jury, 5, some .boolean, yX12_jury, 11, [])
noncomputable def mX12_jury_L25 (a0 : Nat) (a1 : Int32) (a2 : Int32) (x4 : Int32 × Int32) : MM ((Int32 × Int32) ⊕ (Int32)) :=
  mbnd (mX12_tools a0) fun (v8 : Int32) =>
  if v8 ≤ x4.2 then (
    mret (.inr x4.1)
  ) else (
    mbnd (mX12_has a1 x4.2) fun (v10 : Int32) =>
    mbnd (α := Int32) (
      if v10 = 0 then (
        mret x4.1
      ) else (
        mbnd (α := Int32) (
          if x4.2 = a2 then (
            mret (-1)
          ) else (
            mbnd (mX12_answered a0 x4.2) fun (v19 : Int32) =>
            mbnd (mX12_answered a0 a2) fun (v20 : Int32) =>
            if v20 ≤ v19 then (
              mret (-1)
            ) else (
              mret 1
            )
          )
        ) fun (x16 : Int32) =>
        mbnd (mret (x4.1 + x16)) fun (v22 : Int32) =>
        mret v22
      )
    ) fun (x12 : Int32) =>
    mret (.inl (x12, x4.2 + 1))
  )
noncomputable def mX12_jury (a0 : Nat) (a1 : Int32) (a2 : Int32) : MM Int32 := onC 11 a0 (
  mbnd (pI 11 0 a0 0) fun _ =>
  mbnd (mX12_noTool a0 a2) fun (v1 : Int32) =>
  mbnd (mX12_throwsIf a0 v1 1) fun (v2 : Int32) =>
  if v2 = 0 then (
    mbnd (loopM (mX12_jury_L25 a0 a1 a2) (0, 0)) fun (e23 : Int32) =>
    if e23 ≤ 0 then (
      mret 0
    ) else (
      mret 1
    )
  ) else (
    mret 0
  )
  )
theorem rcX12_jury (a0 : Nat) (a1 : Int32) (a2 : Int32) : Rcv 11 a0 (mX12_jury a0 a1 a2) := fun s r h => ⟨(onC_some h).1, (onC_some h).2.1⟩
set_option maxHeartbeats 4000000 in
set_option maxRecDepth 100000 in
theorem ctX12_jury (a0 : Nat) (a1 : Int32) (a2 : Int32) : Ct aX12_jury [vr a0, vi a1, vi a2] (mX12_jury a0 a1 a2) rI := by
  unfold mX12_jury
  refine ct_onC (ct_intro (by decide +kernel) rfl (Nat.le_of_ble_eq_true rfl) fun Y s => ?_)
  refine r_sub (lv' := [(0, vr a0), (1, vi a1), (2, vi a2)]) [0, 1, 2] rfl ?_
  refine r_p (pc' := 1) (p_aload_n 0 (k := 0) (by decide +kernel) rfl) ?_
  refine r_p (pc' := 2) (p_iconst (n := 0) (v := 0) (by decide +kernel) rfl) ?_
  refine r_pI fpX12_3_11 (fun h => by cases h) (by decide +kernel) fun s => ?_
  refine r_p (pc' := 6) (p_aload_n 0 (k := 0) (by decide +kernel) rfl) ?_
  refine r_p (pc' := 7) (p_aload_n 0 (k := 0) (by decide +kernel) rfl) ?_
  refine r_p (pc' := 8) (p_iload_n 2 (k := 2) (by decide +kernel) rfl) ?_
  refine r_callVI mvX12_319 (ctX12_noTool a0 a2) (rcX12_noTool a0 a2) ⟨_, _, rfl⟩ (as := [vi a2]) (st := [vr a0]) rfl rfl (by decide +kernel) rfl (Nat.le_of_ble_eq_true rfl) (Nat.le_of_ble_eq_true rfl) fun v1 s => ?_
  refine r_p (pc' := 12) (p_iconst (n := 1) (v := 1) (by decide +kernel) rfl) ?_
  refine r_callVI mvX12_265 (ctX12_throwsIf a0 v1 1) (rcX12_throwsIf a0 v1 1) ⟨_, _, rfl⟩ (as := [vi v1, vi 1]) (st := []) rfl rfl (by decide +kernel) rfl (Nat.le_of_ble_eq_true rfl) (Nat.le_of_ble_eq_true rfl) fun v2 s => ?_
  refine r_ifeq (off := 5) (tgt := 20) (by decide +kernel) (by decide) (fun h3 => ?_) (fun h3 => ?_)
  · refine r_p (pc' := 21) (p_iconst (n := 0) (v := 0) (by decide +kernel) rfl) ?_
    refine r_p (pc' := 22) (p_istore_n (k := 3) (lv' := [(3, vi 0), (0, vr a0), (1, vi a1), (2, vi a2)]) (by decide +kernel) (Nat.le_of_ble_eq_true rfl) rfl) ?_
    refine r_p (pc' := 23) (p_iconst (n := 0) (v := 0) (by decide +kernel) rfl) ?_
    refine r_p (pc' := 25) (p_istore (i := 4) (lv' := [(4, vi 0), (3, vi 0), (0, vr a0), (1, vi a1), (2, vi a2)]) (by decide +kernel) (Nat.le_of_ble_eq_true rfl) rfl) ?_
    refine r_sub (lv' := [(0, vr a0), (1, vi a1), (2, vi a2), (3, vi 0), (4, vi 0)]) [2, 3, 4, 1, 0] rfl ?_
    refine r_loop2 (fun _ => 77) (fun (e23 : Int32) => [(3, vi e23)]) (fun (x4 : Int32 × Int32) => [(0, vr a0), (1, vi a1), (2, vi a2), (3, vi x4.1), (4, vi x4.2)]) (fun e23 s => ?_) (fun K5 hb6 he7 x4 s => ?_) (0, 0) _
    · refine r_p (pc' := 78) (p_iload_n 0 (k := 3) (by decide +kernel) rfl) ?_
      refine r_ifle (off := 7) (tgt := 85) (by decide +kernel) (by decide) (fun h24 => ?_) (fun h24 => ?_)
      · refine r_p (pc' := 86) (p_iconst (n := 0) (v := 0) (by decide +kernel) rfl) ?_
        exact r_iret rfl rfl _ rfl rfl (by decide +kernel)
      · refine r_p (pc' := 82) (p_iconst (n := 1) (v := 1) (by decide +kernel) rfl) ?_
        refine r_p (pc' := 86) (p_goto (off := 4) (tgt := 86) (by decide +kernel) (by decide)) ?_
        exact r_iret rfl rfl _ rfl rfl (by decide +kernel)
    · unfold mX12_jury_L25
      refine r_p (pc' := 27) (p_iload 4 (i := 4) (by decide +kernel) rfl) ?_
      refine r_p (pc' := 28) (p_aload_n 0 (k := 0) (by decide +kernel) rfl) ?_
      refine r_callVI mvX12_76 (ctX12_tools a0) (rcX12_tools a0) ⟨_, _, rfl⟩ (as := []) (st := [vi x4.2]) rfl rfl (by decide +kernel) rfl (Nat.le_of_ble_eq_true rfl) (Nat.le_of_ble_eq_true rfl) fun v8 s => ?_
      refine r_icmpge (off := 46) (tgt := 77) (by decide +kernel) (by decide) (fun h9 => ?_) (fun h9 => ?_)
      · refine r_sub (lv' := [(3, vi x4.1)]) [3] rfl ?_
        exact he7 x4.1 _
      · refine r_p (pc' := 35) (p_iload_n 1 (k := 1) (by decide +kernel) rfl) ?_
        refine r_p (pc' := 37) (p_iload 4 (i := 4) (by decide +kernel) rfl) ?_
        refine r_callSI msX12_400 (ctX12_has a1 x4.2) (as := [vi a1, vi x4.2]) (st := []) rfl rfl (by decide +kernel) rfl (Nat.le_of_ble_eq_true rfl) (Nat.le_of_ble_eq_true rfl) fun v10 s => ?_
        refine r_join 71 (fun (x12 : Int32) => [(0, vr a0), (1, vi a1), (2, vi a2), (3, vi x12), (4, vi x4.2)]) (fun (x12 : Int32) => []) (fun x12 s => ?_) (fun K13 hj14 => ?_)
        · refine r_p (pc' := 74) (p_iinc 4 (i := 4) (n := 1) (x := x4.2) (v := x4.2 + 1) (lv' := [(4, vi (x4.2 + 1)), (0, vr a0), (1, vi a1), (2, vi a2), (3, vi x12)]) (by decide +kernel) rfl rfl (Nat.le_of_ble_eq_true rfl) rfl) ?_
          refine r_p (pc' := 25) (p_goto (off := -49) (tgt := 25) (by decide +kernel) (by decide)) ?_
          refine r_sub (lv' := [(0, vr a0), (1, vi a1), (2, vi a2), (3, vi x12), (4, vi (x4.2 + 1))]) [1, 2, 3, 4, 0] rfl ?_
          exact hb6 (x12, x4.2 + 1) _
        · refine r_ifeq (off := 31) (tgt := 71) (by decide +kernel) (by decide) (fun h11 => ?_) (fun h11 => ?_)
          · exact hj14 x4.1 _
          · refine r_p (pc' := 44) (p_iload_n 3 (k := 3) (by decide +kernel) rfl) ?_
            refine r_p (pc' := 46) (p_iload 4 (i := 4) (by decide +kernel) rfl) ?_
            refine r_p (pc' := 47) (p_iload_n 2 (k := 2) (by decide +kernel) rfl) ?_
            refine r_join 69 (fun (x16 : Int32) => [(0, vr a0), (1, vi a1), (2, vi a2), (4, vi x4.2)]) (fun (x16 : Int32) => [vi x16, vi x4.1]) (fun x16 s => ?_) (fun K17 hj18 => ?_)
            · refine r_p (pc' := 70) (p_iadd (by decide +kernel)) ?_
              refine r_letI fun v22 => ?_
              refine r_p (pc' := 71) (p_istore_n (k := 3) (lv' := [(3, vi v22), (0, vr a0), (1, vi a1), (2, vi a2), (4, vi x4.2)]) (by decide +kernel) (Nat.le_of_ble_eq_true rfl) rfl) ?_
              refine r_sub (lv' := [(0, vr a0), (1, vi a1), (2, vi a2), (3, vi v22), (4, vi x4.2)]) [1, 2, 3, 0, 4] rfl ?_
              exact hj14 v22 _
            · refine r_icmpeq (off := 21) (tgt := 68) (by decide +kernel) (by decide) (fun h15 => ?_) (fun h15 => ?_)
              · refine r_p (pc' := 69) (p_iconst (n := -1) (v := -1) (by decide +kernel) rfl) ?_
                refine r_sub (lv' := [(0, vr a0), (1, vi a1), (2, vi a2), (4, vi x4.2)]) [0, 1, 2, 4] rfl ?_
                exact hj18 (-1) _
              · refine r_p (pc' := 51) (p_aload_n 0 (k := 0) (by decide +kernel) rfl) ?_
                refine r_p (pc' := 53) (p_iload 4 (i := 4) (by decide +kernel) rfl) ?_
                refine r_callVI mvX12_307 (ctX12_answered a0 x4.2) (rcX12_answered a0 x4.2) ⟨_, _, rfl⟩ (as := [vi x4.2]) (st := [vi x4.1]) rfl rfl (by decide +kernel) rfl (Nat.le_of_ble_eq_true rfl) (Nat.le_of_ble_eq_true rfl) fun v19 s => ?_
                refine r_p (pc' := 57) (p_aload_n 0 (k := 0) (by decide +kernel) rfl) ?_
                refine r_p (pc' := 58) (p_iload_n 2 (k := 2) (by decide +kernel) rfl) ?_
                refine r_callVI mvX12_307 (ctX12_answered a0 a2) (rcX12_answered a0 a2) ⟨_, _, rfl⟩ (as := [vi a2]) (st := [vi v19, vi x4.1]) rfl rfl (by decide +kernel) rfl (Nat.le_of_ble_eq_true rfl) (Nat.le_of_ble_eq_true rfl) fun v20 s => ?_
                refine r_icmpge (off := 7) (tgt := 68) (by decide +kernel) (by decide) (fun h21 => ?_) (fun h21 => ?_)
                · refine r_p (pc' := 69) (p_iconst (n := -1) (v := -1) (by decide +kernel) rfl) ?_
                  refine r_sub (lv' := [(0, vr a0), (1, vi a1), (2, vi a2), (4, vi x4.2)]) [0, 1, 2, 4] rfl ?_
                  exact hj18 (-1) _
                · refine r_p (pc' := 65) (p_iconst (n := 1) (v := 1) (by decide +kernel) rfl) ?_
                  refine r_p (pc' := 69) (p_goto (off := 4) (tgt := 69) (by decide +kernel) (by decide)) ?_
                  refine r_sub (lv' := [(0, vr a0), (1, vi a1), (2, vi a2), (4, vi x4.2)]) [0, 1, 2, 4] rfl ?_
                  exact hj18 1 _
  · refine r_p (pc' := 19) (p_iconst (n := 0) (v := 0) (by decide +kernel) rfl) ?_
    exact r_iret rfl rfl _ rfl rfl (by decide +kernel)
def aX12_alibi : StA := (RX12, cX12_alibi, 5, some .boolean, yX12_alibi, 10, [])
noncomputable def mX12_alibi_L42 (a0 : Nat) (a1 : Int32) (a2 : Int32) (x10 : Int32 × Int32) : MM ((Int32 × Int32) ⊕ (Int32)) :=
  mbnd (mX12_deeds a0) fun (v14 : Int32) =>
  if v14 ≤ x10.2 then (
    mret (.inr x10.1)
  ) else (
    mbnd (α := Int32) (
      if x10.1 = 0 then (
        mret 0
      ) else (
        mbnd (mX12_ofTruth a0 x10.2 0) fun (v20 : Int32) =>
        if v20 = a2 then (
          mbnd (gR 11 1 a0) fun (v22 : Nat) =>
          mbnd (mX12_ofTruth a0 x10.2 2) fun (v23 : Int32) =>
          mbnd (ldI 0 v22 (165 + v23)) fun (v24 : Int32) =>
          mbnd (gR 11 1 a0) fun (v25 : Nat) =>
          mbnd (ldI 0 v25 (165 + a1)) fun (v26 : Int32) =>
          if (iabs (v24 - v26)) ≤ 1 then (
            mret 0
          ) else (
            mret 1
          )
        ) else (
          mret 1
        )
      )
    ) fun (x17 : Int32) =>
    mret (.inl (x17, x10.2 + 1))
  )
noncomputable def mX12_alibi (a0 : Nat) (a1 : Int32) (a2 : Int32) : MM Int32 := onC 11 a0 (
  mbnd (pI 11 0 a0 0) fun _ =>
  mbnd (mX12_noMaster a0 a1) fun (v1 : Int32) =>
  mbnd (mX12_throwsIf a0 v1 1) fun (v2 : Int32) =>
  if v2 = 0 then (
    mbnd (α := Int32) (
      if 0 ≤ a2 then (
        mret 0
      ) else (
        mret 1
      )
    ) fun (x5 : Int32) =>
    mbnd (mX12_throwsIf a0 x5 2) fun (v8 : Int32) =>
    if v8 = 0 then (
      mbnd (loopM (mX12_alibi_L42 a0 a1 a2) (1, 0)) fun (e28 : Int32) =>
      mbool e28
    ) else (
      mret 0
    )
  ) else (
    mret 0
  )
  )
theorem rcX12_alibi (a0 : Nat) (a1 : Int32) (a2 : Int32) : Rcv 11 a0 (mX12_alibi a0 a1 a2) := fun s r h => ⟨(onC_some h).1, (onC_some h).2.1⟩
set_option maxHeartbeats 4000000 in
set_option maxRecDepth 100000 in
theorem ctX12_alibi (a0 : Nat) (a1 : Int32) (a2 : Int32) : Ct aX12_alibi [vr a0, vi a1, vi a2] (mX12_alibi a0 a1 a2) rI := by
  unfold mX12_alibi
  refine ct_onC (ct_intro (by decide +kernel) rfl (Nat.le_of_ble_eq_true rfl) fun Y s => ?_)
  refine r_sub (lv' := [(0, vr a0), (1, vi a1), (2, vi a2)]) [0, 1, 2] rfl ?_
  refine r_p (pc' := 1) (p_aload_n 0 (k := 0) (by decide +kernel) rfl) ?_
  refine r_p (pc' := 2) (p_iconst (n := 0) (v := 0) (by decide +kernel) rfl) ?_
  refine r_pI fpX12_3_11 (fun h => by cases h) (by decide +kernel) fun s => ?_
  refine r_p (pc' := 6) (p_aload_n 0 (k := 0) (by decide +kernel) rfl) ?_
  refine r_p (pc' := 7) (p_aload_n 0 (k := 0) (by decide +kernel) rfl) ?_
  refine r_p (pc' := 8) (p_iload_n 1 (k := 1) (by decide +kernel) rfl) ?_
  refine r_callVI mvX12_331 (ctX12_noMaster a0 a1) (rcX12_noMaster a0 a1) ⟨_, _, rfl⟩ (as := [vi a1]) (st := [vr a0]) rfl rfl (by decide +kernel) rfl (Nat.le_of_ble_eq_true rfl) (Nat.le_of_ble_eq_true rfl) fun v1 s => ?_
  refine r_p (pc' := 12) (p_iconst (n := 1) (v := 1) (by decide +kernel) rfl) ?_
  refine r_callVI mvX12_265 (ctX12_throwsIf a0 v1 1) (rcX12_throwsIf a0 v1 1) ⟨_, _, rfl⟩ (as := [vi v1, vi 1]) (st := []) rfl rfl (by decide +kernel) rfl (Nat.le_of_ble_eq_true rfl) (Nat.le_of_ble_eq_true rfl) fun v2 s => ?_
  refine r_ifne (off := 20) (tgt := 35) (by decide +kernel) (by decide) (fun h3 => ?_) (fun h3 => ?_)
  · refine r_p (pc' := 19) (p_aload_n 0 (k := 0) (by decide +kernel) rfl) ?_
    refine r_p (pc' := 20) (p_iload_n 2 (k := 2) (by decide +kernel) rfl) ?_
    refine r_join 28 (fun (x5 : Int32) => [(0, vr a0), (1, vi a1), (2, vi a2)]) (fun (x5 : Int32) => [vi x5, vr a0]) (fun x5 s => ?_) (fun K6 hj7 => ?_)
    · refine r_p (pc' := 29) (p_iconst (n := 2) (v := 2) (by decide +kernel) rfl) ?_
      refine r_callVI mvX12_265 (ctX12_throwsIf a0 x5 2) (rcX12_throwsIf a0 x5 2) ⟨_, _, rfl⟩ (as := [vi x5, vi 2]) (st := []) rfl rfl (by decide +kernel) rfl (Nat.le_of_ble_eq_true rfl) (Nat.le_of_ble_eq_true rfl) fun v8 s => ?_
      refine r_ifeq (off := 5) (tgt := 37) (by decide +kernel) (by decide) (fun h9 => ?_) (fun h9 => ?_)
      · refine r_p (pc' := 38) (p_iconst (n := 1) (v := 1) (by decide +kernel) rfl) ?_
        refine r_p (pc' := 39) (p_istore_n (k := 3) (lv' := [(3, vi 1), (0, vr a0), (1, vi a1), (2, vi a2)]) (by decide +kernel) (Nat.le_of_ble_eq_true rfl) rfl) ?_
        refine r_p (pc' := 40) (p_iconst (n := 0) (v := 0) (by decide +kernel) rfl) ?_
        refine r_p (pc' := 42) (p_istore (i := 4) (lv' := [(4, vi 0), (3, vi 1), (0, vr a0), (1, vi a1), (2, vi a2)]) (by decide +kernel) (Nat.le_of_ble_eq_true rfl) rfl) ?_
        refine r_sub (lv' := [(0, vr a0), (1, vi a1), (2, vi a2), (3, vi 1), (4, vi 0)]) [2, 3, 4, 1, 0] rfl ?_
        refine r_loop2 (fun _ => 112) (fun (e28 : Int32) => [(3, vi e28)]) (fun (x10 : Int32 × Int32) => [(0, vr a0), (1, vi a1), (2, vi a2), (3, vi x10.1), (4, vi x10.2)]) (fun e28 s => ?_) (fun K11 hb12 he13 x10 s => ?_) (1, 0) _
        · refine r_p (pc' := 113) (p_iload_n 0 (k := 3) (by decide +kernel) rfl) ?_
          exact r_bret (y9 := fun v => v) (fun _ => rfl) (fun _ => rfl) rfl (by decide +kernel)
        · unfold mX12_alibi_L42
          refine r_p (pc' := 44) (p_iload 4 (i := 4) (by decide +kernel) rfl) ?_
          refine r_p (pc' := 45) (p_aload_n 0 (k := 0) (by decide +kernel) rfl) ?_
          refine r_callVI mvX12_325 (ctX12_deeds a0) (rcX12_deeds a0) ⟨_, _, rfl⟩ (as := []) (st := [vi x10.2]) rfl rfl (by decide +kernel) rfl (Nat.le_of_ble_eq_true rfl) (Nat.le_of_ble_eq_true rfl) fun v14 s => ?_
          refine r_icmpge (off := 64) (tgt := 112) (by decide +kernel) (by decide) (fun h15 => ?_) (fun h15 => ?_)
          · refine r_sub (lv' := [(3, vi x10.1)]) [3] rfl ?_
            exact he13 x10.1 _
          · refine r_p (pc' := 52) (p_iload_n 3 (k := 3) (by decide +kernel) rfl) ?_
            refine r_join 105 (fun (x17 : Int32) => [(0, vr a0), (1, vi a1), (2, vi a2), (4, vi x10.2)]) (fun (x17 : Int32) => [vi x17]) (fun x17 s => ?_) (fun K18 hj19 => ?_)
            · refine r_p (pc' := 106) (p_istore_n (k := 3) (lv' := [(3, vi x17), (0, vr a0), (1, vi a1), (2, vi a2), (4, vi x10.2)]) (by decide +kernel) (Nat.le_of_ble_eq_true rfl) rfl) ?_
              refine r_p (pc' := 109) (p_iinc 4 (i := 4) (n := 1) (x := x10.2) (v := x10.2 + 1) (lv' := [(4, vi (x10.2 + 1)), (3, vi x17), (0, vr a0), (1, vi a1), (2, vi a2)]) (by decide +kernel) rfl rfl (Nat.le_of_ble_eq_true rfl) rfl) ?_
              refine r_p (pc' := 42) (p_goto (off := -67) (tgt := 42) (by decide +kernel) (by decide)) ?_
              refine r_sub (lv' := [(0, vr a0), (1, vi a1), (2, vi a2), (3, vi x17), (4, vi (x10.2 + 1))]) [2, 3, 4, 1, 0] rfl ?_
              exact hb12 (x17, x10.2 + 1) _
            · refine r_ifeq (off := 52) (tgt := 104) (by decide +kernel) (by decide) (fun h16 => ?_) (fun h16 => ?_)
              · refine r_p (pc' := 105) (p_iconst (n := 0) (v := 0) (by decide +kernel) rfl) ?_
                refine r_sub (lv' := [(0, vr a0), (1, vi a1), (2, vi a2), (4, vi x10.2)]) [0, 1, 2, 4] rfl ?_
                exact hj19 0 _
              · refine r_p (pc' := 56) (p_aload_n 0 (k := 0) (by decide +kernel) rfl) ?_
                refine r_p (pc' := 58) (p_iload 4 (i := 4) (by decide +kernel) rfl) ?_
                refine r_p (pc' := 59) (p_iconst (n := 0) (v := 0) (by decide +kernel) rfl) ?_
                refine r_callVI mvX12_328 (ctX12_ofTruth a0 x10.2 0) (rcX12_ofTruth a0 x10.2 0) ⟨_, _, rfl⟩ (as := [vi x10.2, vi 0]) (st := []) rfl rfl (by decide +kernel) rfl (Nat.le_of_ble_eq_true rfl) (Nat.le_of_ble_eq_true rfl) fun v20 s => ?_
                refine r_p (pc' := 63) (p_iload_n 2 (k := 2) (by decide +kernel) rfl) ?_
                refine r_icmpne (off := 37) (tgt := 100) (by decide +kernel) (by decide) (fun h21 => ?_) (fun h21 => ?_)
                · refine r_p (pc' := 67) (p_aload_n 0 (k := 0) (by decide +kernel) rfl) ?_
                  refine r_gR flX12_13_11 (by decide +kernel) fun v22 => ?_
                  refine r_p (pc' := 73) (p_sipush (n := 165) (v := 165) (by decide +kernel) (by decide +kernel)) ?_
                  refine r_p (pc' := 74) (p_aload_n 0 (k := 0) (by decide +kernel) rfl) ?_
                  refine r_p (pc' := 76) (p_iload 4 (i := 4) (by decide +kernel) rfl) ?_
                  refine r_p (pc' := 77) (p_iconst (n := 2) (v := 2) (by decide +kernel) rfl) ?_
                  refine r_callVI mvX12_328 (ctX12_ofTruth a0 x10.2 2) (rcX12_ofTruth a0 x10.2 2) ⟨_, _, rfl⟩ (as := [vi x10.2, vi 2]) (st := [vi 165, vr v22]) rfl rfl (by decide +kernel) rfl (Nat.le_of_ble_eq_true rfl) (Nat.le_of_ble_eq_true rfl) fun v23 s => ?_
                  refine r_p (pc' := 81) (p_iadd (by decide +kernel)) ?_
                  refine r_ldI0 (by decide +kernel) fun v24 => ?_
                  refine r_p (pc' := 83) (p_aload_n 0 (k := 0) (by decide +kernel) rfl) ?_
                  refine r_gR flX12_13_11 (by decide +kernel) fun v25 => ?_
                  refine r_p (pc' := 89) (p_sipush (n := 165) (v := 165) (by decide +kernel) (by decide +kernel)) ?_
                  refine r_p (pc' := 90) (p_iload_n 1 (k := 1) (by decide +kernel) rfl) ?_
                  refine r_p (pc' := 91) (p_iadd (by decide +kernel)) ?_
                  refine r_ldI0 (by decide +kernel) fun v26 => ?_
                  refine r_p (pc' := 93) (p_isub (by decide +kernel)) ?_
                  refine r_p (pc' := 96) (p_abs (idx := 451) (tblG_of 2261 (by decide +kernel) (by decide +kernel)) (Nat.le_of_ble_eq_true rfl) (Nat.le_of_ble_eq_true rfl) (by decide +kernel)) ?_
                  refine r_p (pc' := 97) (p_iconst (n := 1) (v := 1) (by decide +kernel) rfl) ?_
                  refine r_icmple (off := 7) (tgt := 104) (by decide +kernel) (by decide) (fun h27 => ?_) (fun h27 => ?_)
                  · refine r_p (pc' := 105) (p_iconst (n := 0) (v := 0) (by decide +kernel) rfl) ?_
                    refine r_sub (lv' := [(0, vr a0), (1, vi a1), (2, vi a2), (4, vi x10.2)]) [0, 1, 2, 4] rfl ?_
                    exact hj19 0 _
                  · refine r_p (pc' := 101) (p_iconst (n := 1) (v := 1) (by decide +kernel) rfl) ?_
                    refine r_p (pc' := 105) (p_goto (off := 4) (tgt := 105) (by decide +kernel) (by decide)) ?_
                    refine r_sub (lv' := [(0, vr a0), (1, vi a1), (2, vi a2), (4, vi x10.2)]) [0, 1, 2, 4] rfl ?_
                    exact hj19 1 _
                · refine r_p (pc' := 101) (p_iconst (n := 1) (v := 1) (by decide +kernel) rfl) ?_
                  refine r_p (pc' := 105) (p_goto (off := 4) (tgt := 105) (by decide +kernel) (by decide)) ?_
                  refine r_sub (lv' := [(0, vr a0), (1, vi a1), (2, vi a2), (4, vi x10.2)]) [0, 1, 2, 4] rfl ?_
                  exact hj19 1 _
      · refine r_p (pc' := 36) (p_iconst (n := 0) (v := 0) (by decide +kernel) rfl) ?_
        exact r_iret rfl rfl _ rfl rfl (by decide +kernel)
    · refine r_ifge (off := 7) (tgt := 27) (by decide +kernel) (by decide) (fun h4 => ?_) (fun h4 => ?_)
      · refine r_p (pc' := 28) (p_iconst (n := 0) (v := 0) (by decide +kernel) rfl) ?_
        exact hj7 0 _
      · refine r_p (pc' := 24) (p_iconst (n := 1) (v := 1) (by decide +kernel) rfl) ?_
        refine r_p (pc' := 28) (p_goto (off := 4) (tgt := 28) (by decide +kernel) (by decide)) ?_
        exact hj7 1 _
  · refine r_p (pc' := 36) (p_iconst (n := 0) (v := 0) (by decide +kernel) rfl) ?_
    exact r_iret rfl rfl _ rfl rfl (by decide +kernel)
def aX12_worstMaster : StA := (RX12, cX12_worstMaster, 3, some .int, yX12_worstMaster, 10, [])
noncomputable def mX12_worstMaster_L9 (a0 : Nat) (x1 : Int32 × Int32) : MM ((Int32 × Int32) ⊕ (Int32)) :=
  mbnd (mX12_masters a0) fun (v5 : Int32) =>
  if v5 ≤ x1.2 then (
    mret (.inr x1.1)
  ) else (
    mbnd (mX12_harmBy a0 x1.2) fun (v7 : Int32) =>
    mbnd (α := Int32) (
      if v7 ≤ 0 then (
        mret x1.1
      ) else (
        if x1.1 < 0 then (
          mret x1.2
        ) else (
          mbnd (mX12_harmBy a0 x1.2) fun (v13 : Int32) =>
          mbnd (mX12_harmBy a0 x1.1) fun (v14 : Int32) =>
          if v13 ≤ v14 then (
            mret x1.1
          ) else (
            mret x1.2
          )
        )
      )
    ) fun (x9 : Int32) =>
    mret (.inl (x9, x1.2 + 1))
  )
noncomputable def mX12_worstMaster (a0 : Nat) : MM Int32 := onC 11 a0 (
  mbnd (pI 11 0 a0 0) fun _ =>
  mbnd (loopM (mX12_worstMaster_L9 a0) (((-1), 0))) fun (e16 : Int32) =>
  mret e16
  )
theorem rcX12_worstMaster (a0 : Nat) : Rcv 11 a0 (mX12_worstMaster a0) := fun s r h => ⟨(onC_some h).1, (onC_some h).2.1⟩
set_option maxHeartbeats 4000000 in
set_option maxRecDepth 100000 in
theorem ctX12_worstMaster (a0 : Nat) : Ct aX12_worstMaster [vr a0] (mX12_worstMaster a0) rI := by
  unfold mX12_worstMaster
  refine ct_onC (ct_intro (by decide +kernel) rfl (Nat.le_of_ble_eq_true rfl) fun Y s => ?_)
  refine r_sub (lv' := [(0, vr a0)]) [0] rfl ?_
  refine r_p (pc' := 1) (p_aload_n 0 (k := 0) (by decide +kernel) rfl) ?_
  refine r_p (pc' := 2) (p_iconst (n := 0) (v := 0) (by decide +kernel) rfl) ?_
  refine r_pI fpX12_3_11 (fun h => by cases h) (by decide +kernel) fun s => ?_
  refine r_p (pc' := 6) (p_iconst (n := -1) (v := -1) (by decide +kernel) rfl) ?_
  refine r_p (pc' := 7) (p_istore_n (k := 1) (lv' := [(1, vi (-1)), (0, vr a0)]) (by decide +kernel) (Nat.le_of_ble_eq_true rfl) rfl) ?_
  refine r_p (pc' := 8) (p_iconst (n := 0) (v := 0) (by decide +kernel) rfl) ?_
  refine r_p (pc' := 9) (p_istore_n (k := 2) (lv' := [(2, vi 0), (1, vi (-1)), (0, vr a0)]) (by decide +kernel) (Nat.le_of_ble_eq_true rfl) rfl) ?_
  refine r_sub (lv' := [(0, vr a0), (1, vi (-1)), (2, vi 0)]) [2, 1, 0] rfl ?_
  refine r_loop2 (fun _ => 50) (fun (e16 : Int32) => [(1, vi e16)]) (fun (x1 : Int32 × Int32) => [(0, vr a0), (1, vi x1.1), (2, vi x1.2)]) (fun e16 s => ?_) (fun K2 hb3 he4 x1 s => ?_) (((-1), 0)) _
  · refine r_p (pc' := 51) (p_iload_n 0 (k := 1) (by decide +kernel) rfl) ?_
    exact r_iret rfl rfl _ rfl rfl (by decide +kernel)
  · unfold mX12_worstMaster_L9
    refine r_p (pc' := 10) (p_iload_n 2 (k := 2) (by decide +kernel) rfl) ?_
    refine r_p (pc' := 11) (p_aload_n 0 (k := 0) (by decide +kernel) rfl) ?_
    refine r_callVI mvX12_79 (ctX12_masters a0) (rcX12_masters a0) ⟨_, _, rfl⟩ (as := []) (st := [vi x1.2]) rfl rfl (by decide +kernel) rfl (Nat.le_of_ble_eq_true rfl) (Nat.le_of_ble_eq_true rfl) fun v5 s => ?_
    refine r_icmpge (off := 36) (tgt := 50) (by decide +kernel) (by decide) (fun h6 => ?_) (fun h6 => ?_)
    · refine r_sub (lv' := [(1, vi x1.1)]) [1] rfl ?_
      exact he4 x1.1 _
    · refine r_p (pc' := 18) (p_aload_n 0 (k := 0) (by decide +kernel) rfl) ?_
      refine r_p (pc' := 19) (p_iload_n 2 (k := 2) (by decide +kernel) rfl) ?_
      refine r_callVI mvX12_334 (ctX12_harmBy a0 x1.2) (rcX12_harmBy a0 x1.2) ⟨_, _, rfl⟩ (as := [vi x1.2]) (st := []) rfl rfl (by decide +kernel) rfl (Nat.le_of_ble_eq_true rfl) (Nat.le_of_ble_eq_true rfl) fun v7 s => ?_
      refine r_join 44 (fun (x9 : Int32) => [(0, vr a0), (1, vi x9), (2, vi x1.2)]) (fun (x9 : Int32) => []) (fun x9 s => ?_) (fun K10 hj11 => ?_)
      · refine r_p (pc' := 47) (p_iinc 2 (i := 2) (n := 1) (x := x1.2) (v := x1.2 + 1) (lv' := [(2, vi (x1.2 + 1)), (0, vr a0), (1, vi x9)]) (by decide +kernel) rfl rfl (Nat.le_of_ble_eq_true rfl) rfl) ?_
        refine r_p (pc' := 9) (p_goto (off := -38) (tgt := 9) (by decide +kernel) (by decide)) ?_
        refine r_sub (lv' := [(0, vr a0), (1, vi x9), (2, vi (x1.2 + 1))]) [1, 2, 0] rfl ?_
        exact hb3 (x9, x1.2 + 1) _
      · refine r_ifle (off := 22) (tgt := 44) (by decide +kernel) (by decide) (fun h8 => ?_) (fun h8 => ?_)
        · exact hj11 x1.1 _
        · refine r_p (pc' := 26) (p_iload_n 1 (k := 1) (by decide +kernel) rfl) ?_
          refine r_iflt (off := 16) (tgt := 42) (by decide +kernel) (by decide) (fun h12 => ?_) (fun h12 => ?_)
          · refine r_p (pc' := 43) (p_iload_n 2 (k := 2) (by decide +kernel) rfl) ?_
            refine r_p (pc' := 44) (p_istore_n (k := 1) (lv' := [(1, vi x1.2), (0, vr a0), (2, vi x1.2)]) (by decide +kernel) (Nat.le_of_ble_eq_true rfl) rfl) ?_
            refine r_sub (lv' := [(0, vr a0), (1, vi x1.2), (2, vi x1.2)]) [1, 0, 2] rfl ?_
            exact hj11 x1.2 _
          · refine r_p (pc' := 30) (p_aload_n 0 (k := 0) (by decide +kernel) rfl) ?_
            refine r_p (pc' := 31) (p_iload_n 2 (k := 2) (by decide +kernel) rfl) ?_
            refine r_callVI mvX12_334 (ctX12_harmBy a0 x1.2) (rcX12_harmBy a0 x1.2) ⟨_, _, rfl⟩ (as := [vi x1.2]) (st := []) rfl rfl (by decide +kernel) rfl (Nat.le_of_ble_eq_true rfl) (Nat.le_of_ble_eq_true rfl) fun v13 s => ?_
            refine r_p (pc' := 35) (p_aload_n 0 (k := 0) (by decide +kernel) rfl) ?_
            refine r_p (pc' := 36) (p_iload_n 1 (k := 1) (by decide +kernel) rfl) ?_
            refine r_callVI mvX12_334 (ctX12_harmBy a0 x1.1) (rcX12_harmBy a0 x1.1) ⟨_, _, rfl⟩ (as := [vi x1.1]) (st := [vi v13]) rfl rfl (by decide +kernel) rfl (Nat.le_of_ble_eq_true rfl) (Nat.le_of_ble_eq_true rfl) fun v14 s => ?_
            refine r_icmple (off := 5) (tgt := 44) (by decide +kernel) (by decide) (fun h15 => ?_) (fun h15 => ?_)
            · exact hj11 x1.1 _
            · refine r_p (pc' := 43) (p_iload_n 2 (k := 2) (by decide +kernel) rfl) ?_
              refine r_p (pc' := 44) (p_istore_n (k := 1) (lv' := [(1, vi x1.2), (0, vr a0), (2, vi x1.2)]) (by decide +kernel) (Nat.le_of_ble_eq_true rfl) rfl) ?_
              refine r_sub (lv' := [(0, vr a0), (1, vi x1.2), (2, vi x1.2)]) [1, 0, 2] rfl ?_
              exact hj11 x1.2 _
def aX12_pairs : StA := (RX12, cX12_pairs, 5, some .int, yX12_pairs, 10, [])
noncomputable def mX12_pairs_L41 (a0 : Nat) (a1 : Int32) (a2 : Int32) (x10 : Int32 × Int32) : MM ((Int32 × Int32) ⊕ (Int32)) :=
  mbnd (mX12_deeds a0) fun (v14 : Int32) =>
  if v14 ≤ x10.2 then (
    mret (.inr x10.1)
  ) else (
    mbnd (mX12_ofTruth a0 x10.2 2) fun (v16 : Int32) =>
    mbnd (α := Int32) (
      if v16 = a1 then (
        mbnd (mX12_ofTruth a0 x10.2 1) fun (v21 : Int32) =>
        if v21 = a2 then (
          mret 1
        ) else (
          mret 0
        )
      ) else (
        mret 0
      )
    ) fun (x18 : Int32) =>
    mbnd (mret (x10.1 + x18)) fun (v23 : Int32) =>
    mret (.inl (v23, x10.2 + 1))
  )
noncomputable def mX12_pairs (a0 : Nat) (a1 : Int32) (a2 : Int32) : MM Int32 := onC 11 a0 (
  mbnd (pI 11 0 a0 0) fun _ =>
  mbnd (mX12_noMaster a0 a1) fun (v1 : Int32) =>
  mbnd (α := Int32) (
    if v1 = 0 then (
      mbnd (mX12_noTool a0 a2) fun (v6 : Int32) =>
      if v6 = 0 then (
        mret 0
      ) else (
        mret 1
      )
    ) else (
      mret 1
    )
  ) fun (x3 : Int32) =>
  mbnd (mX12_throwsIf a0 x3 1) fun (v8 : Int32) =>
  if v8 = 0 then (
    mbnd (loopM (mX12_pairs_L41 a0 a1 a2) (0, 0)) fun (e24 : Int32) =>
    mret e24
  ) else (
    mret 0
  )
  )
theorem rcX12_pairs (a0 : Nat) (a1 : Int32) (a2 : Int32) : Rcv 11 a0 (mX12_pairs a0 a1 a2) := fun s r h => ⟨(onC_some h).1, (onC_some h).2.1⟩
set_option maxHeartbeats 4000000 in
set_option maxRecDepth 100000 in
theorem ctX12_pairs (a0 : Nat) (a1 : Int32) (a2 : Int32) : Ct aX12_pairs [vr a0, vi a1, vi a2] (mX12_pairs a0 a1 a2) rI := by
  unfold mX12_pairs
  refine ct_onC (ct_intro (by decide +kernel) rfl (Nat.le_of_ble_eq_true rfl) fun Y s => ?_)
  refine r_sub (lv' := [(0, vr a0), (1, vi a1), (2, vi a2)]) [0, 1, 2] rfl ?_
  refine r_p (pc' := 1) (p_aload_n 0 (k := 0) (by decide +kernel) rfl) ?_
  refine r_p (pc' := 2) (p_iconst (n := 0) (v := 0) (by decide +kernel) rfl) ?_
  refine r_pI fpX12_3_11 (fun h => by cases h) (by decide +kernel) fun s => ?_
  refine r_p (pc' := 6) (p_aload_n 0 (k := 0) (by decide +kernel) rfl) ?_
  refine r_p (pc' := 7) (p_aload_n 0 (k := 0) (by decide +kernel) rfl) ?_
  refine r_p (pc' := 8) (p_iload_n 1 (k := 1) (by decide +kernel) rfl) ?_
  refine r_callVI mvX12_331 (ctX12_noMaster a0 a1) (rcX12_noMaster a0 a1) ⟨_, _, rfl⟩ (as := [vi a1]) (st := [vr a0]) rfl rfl (by decide +kernel) rfl (Nat.le_of_ble_eq_true rfl) (Nat.le_of_ble_eq_true rfl) fun v1 s => ?_
  refine r_join 27 (fun (x3 : Int32) => [(0, vr a0), (1, vi a1), (2, vi a2)]) (fun (x3 : Int32) => [vi x3, vr a0]) (fun x3 s => ?_) (fun K4 hj5 => ?_)
  · refine r_p (pc' := 28) (p_iconst (n := 1) (v := 1) (by decide +kernel) rfl) ?_
    refine r_callVI mvX12_265 (ctX12_throwsIf a0 x3 1) (rcX12_throwsIf a0 x3 1) ⟨_, _, rfl⟩ (as := [vi x3, vi 1]) (st := []) rfl rfl (by decide +kernel) rfl (Nat.le_of_ble_eq_true rfl) (Nat.le_of_ble_eq_true rfl) fun v8 s => ?_
    refine r_ifeq (off := 5) (tgt := 36) (by decide +kernel) (by decide) (fun h9 => ?_) (fun h9 => ?_)
    · refine r_p (pc' := 37) (p_iconst (n := 0) (v := 0) (by decide +kernel) rfl) ?_
      refine r_p (pc' := 38) (p_istore_n (k := 3) (lv' := [(3, vi 0), (0, vr a0), (1, vi a1), (2, vi a2)]) (by decide +kernel) (Nat.le_of_ble_eq_true rfl) rfl) ?_
      refine r_p (pc' := 39) (p_iconst (n := 0) (v := 0) (by decide +kernel) rfl) ?_
      refine r_p (pc' := 41) (p_istore (i := 4) (lv' := [(4, vi 0), (3, vi 0), (0, vr a0), (1, vi a1), (2, vi a2)]) (by decide +kernel) (Nat.le_of_ble_eq_true rfl) rfl) ?_
      refine r_sub (lv' := [(0, vr a0), (1, vi a1), (2, vi a2), (3, vi 0), (4, vi 0)]) [2, 3, 4, 1, 0] rfl ?_
      refine r_loop2 (fun _ => 86) (fun (e24 : Int32) => [(3, vi e24)]) (fun (x10 : Int32 × Int32) => [(0, vr a0), (1, vi a1), (2, vi a2), (3, vi x10.1), (4, vi x10.2)]) (fun e24 s => ?_) (fun K11 hb12 he13 x10 s => ?_) (0, 0) _
      · refine r_p (pc' := 87) (p_iload_n 0 (k := 3) (by decide +kernel) rfl) ?_
        exact r_iret rfl rfl _ rfl rfl (by decide +kernel)
      · unfold mX12_pairs_L41
        refine r_p (pc' := 43) (p_iload 4 (i := 4) (by decide +kernel) rfl) ?_
        refine r_p (pc' := 44) (p_aload_n 0 (k := 0) (by decide +kernel) rfl) ?_
        refine r_callVI mvX12_325 (ctX12_deeds a0) (rcX12_deeds a0) ⟨_, _, rfl⟩ (as := []) (st := [vi x10.2]) rfl rfl (by decide +kernel) rfl (Nat.le_of_ble_eq_true rfl) (Nat.le_of_ble_eq_true rfl) fun v14 s => ?_
        refine r_icmpge (off := 39) (tgt := 86) (by decide +kernel) (by decide) (fun h15 => ?_) (fun h15 => ?_)
        · refine r_sub (lv' := [(3, vi x10.1)]) [3] rfl ?_
          exact he13 x10.1 _
        · refine r_p (pc' := 51) (p_iload_n 3 (k := 3) (by decide +kernel) rfl) ?_
          refine r_p (pc' := 52) (p_aload_n 0 (k := 0) (by decide +kernel) rfl) ?_
          refine r_p (pc' := 54) (p_iload 4 (i := 4) (by decide +kernel) rfl) ?_
          refine r_p (pc' := 55) (p_iconst (n := 2) (v := 2) (by decide +kernel) rfl) ?_
          refine r_callVI mvX12_328 (ctX12_ofTruth a0 x10.2 2) (rcX12_ofTruth a0 x10.2 2) ⟨_, _, rfl⟩ (as := [vi x10.2, vi 2]) (st := [vi x10.1]) rfl rfl (by decide +kernel) rfl (Nat.le_of_ble_eq_true rfl) (Nat.le_of_ble_eq_true rfl) fun v16 s => ?_
          refine r_p (pc' := 59) (p_iload_n 1 (k := 1) (by decide +kernel) rfl) ?_
          refine r_join 78 (fun (x18 : Int32) => [(0, vr a0), (1, vi a1), (2, vi a2), (4, vi x10.2)]) (fun (x18 : Int32) => [vi x18, vi x10.1]) (fun x18 s => ?_) (fun K19 hj20 => ?_)
          · refine r_p (pc' := 79) (p_iadd (by decide +kernel)) ?_
            refine r_letI fun v23 => ?_
            refine r_p (pc' := 80) (p_istore_n (k := 3) (lv' := [(3, vi v23), (0, vr a0), (1, vi a1), (2, vi a2), (4, vi x10.2)]) (by decide +kernel) (Nat.le_of_ble_eq_true rfl) rfl) ?_
            refine r_p (pc' := 83) (p_iinc 4 (i := 4) (n := 1) (x := x10.2) (v := x10.2 + 1) (lv' := [(4, vi (x10.2 + 1)), (3, vi v23), (0, vr a0), (1, vi a1), (2, vi a2)]) (by decide +kernel) rfl rfl (Nat.le_of_ble_eq_true rfl) rfl) ?_
            refine r_p (pc' := 41) (p_goto (off := -42) (tgt := 41) (by decide +kernel) (by decide)) ?_
            refine r_sub (lv' := [(0, vr a0), (1, vi a1), (2, vi a2), (3, vi v23), (4, vi (x10.2 + 1))]) [2, 3, 4, 1, 0] rfl ?_
            exact hb12 (v23, x10.2 + 1) _
          · refine r_icmpne (off := 18) (tgt := 77) (by decide +kernel) (by decide) (fun h17 => ?_) (fun h17 => ?_)
            · refine r_p (pc' := 63) (p_aload_n 0 (k := 0) (by decide +kernel) rfl) ?_
              refine r_p (pc' := 65) (p_iload 4 (i := 4) (by decide +kernel) rfl) ?_
              refine r_p (pc' := 66) (p_iconst (n := 1) (v := 1) (by decide +kernel) rfl) ?_
              refine r_callVI mvX12_328 (ctX12_ofTruth a0 x10.2 1) (rcX12_ofTruth a0 x10.2 1) ⟨_, _, rfl⟩ (as := [vi x10.2, vi 1]) (st := [vi x10.1]) rfl rfl (by decide +kernel) rfl (Nat.le_of_ble_eq_true rfl) (Nat.le_of_ble_eq_true rfl) fun v21 s => ?_
              refine r_p (pc' := 70) (p_iload_n 2 (k := 2) (by decide +kernel) rfl) ?_
              refine r_icmpne (off := 7) (tgt := 77) (by decide +kernel) (by decide) (fun h22 => ?_) (fun h22 => ?_)
              · refine r_p (pc' := 74) (p_iconst (n := 1) (v := 1) (by decide +kernel) rfl) ?_
                refine r_p (pc' := 78) (p_goto (off := 4) (tgt := 78) (by decide +kernel) (by decide)) ?_
                refine r_sub (lv' := [(0, vr a0), (1, vi a1), (2, vi a2), (4, vi x10.2)]) [0, 1, 2, 4] rfl ?_
                exact hj20 1 _
              · refine r_p (pc' := 78) (p_iconst (n := 0) (v := 0) (by decide +kernel) rfl) ?_
                refine r_sub (lv' := [(0, vr a0), (1, vi a1), (2, vi a2), (4, vi x10.2)]) [0, 1, 2, 4] rfl ?_
                exact hj20 0 _
            · refine r_p (pc' := 78) (p_iconst (n := 0) (v := 0) (by decide +kernel) rfl) ?_
              refine r_sub (lv' := [(0, vr a0), (1, vi a1), (2, vi a2), (4, vi x10.2)]) [0, 1, 2, 4] rfl ?_
              exact hj20 0 _
    · refine r_p (pc' := 35) (p_iconst (n := 0) (v := 0) (by decide +kernel) rfl) ?_
      exact r_iret rfl rfl _ rfl rfl (by decide +kernel)
  · refine r_ifne (off := 11) (tgt := 22) (by decide +kernel) (by decide) (fun h2 => ?_) (fun h2 => ?_)
    · refine r_p (pc' := 15) (p_aload_n 0 (k := 0) (by decide +kernel) rfl) ?_
      refine r_p (pc' := 16) (p_iload_n 2 (k := 2) (by decide +kernel) rfl) ?_
      refine r_callVI mvX12_319 (ctX12_noTool a0 a2) (rcX12_noTool a0 a2) ⟨_, _, rfl⟩ (as := [vi a2]) (st := [vr a0]) rfl rfl (by decide +kernel) rfl (Nat.le_of_ble_eq_true rfl) (Nat.le_of_ble_eq_true rfl) fun v6 s => ?_
      refine r_ifeq (off := 7) (tgt := 26) (by decide +kernel) (by decide) (fun h7 => ?_) (fun h7 => ?_)
      · refine r_p (pc' := 27) (p_iconst (n := 0) (v := 0) (by decide +kernel) rfl) ?_
        exact hj5 0 _
      · refine r_p (pc' := 23) (p_iconst (n := 1) (v := 1) (by decide +kernel) rfl) ?_
        refine r_p (pc' := 27) (p_goto (off := 4) (tgt := 27) (by decide +kernel) (by decide)) ?_
        exact hj5 1 _
    · refine r_p (pc' := 23) (p_iconst (n := 1) (v := 1) (by decide +kernel) rfl) ?_
      refine r_p (pc' := 27) (p_goto (off := 4) (tgt := 27) (by decide +kernel) (by decide)) ?_
      exact hj5 1 _
def aX12_sure : StA := (RX12, cX12_sure, 4, some .int, yX12_sure, 9, [])
noncomputable def mX12_sure_L41 (a0 : Nat) (a1 : Int32) (x10 : Int32 × Int32) : MM ((Int32 × Int32) ⊕ (Int32)) :=
  mbnd (mX12_deeds a0) fun (v14 : Int32) =>
  if v14 ≤ x10.2 then (
    mret (.inr x10.1)
  ) else (
    mbnd (mX12_ofTruth a0 x10.2 4) fun (v16 : Int32) =>
    mbnd (α := Int32) (
      if v16 = a1 then (
        mbnd (mX12_ofTruth a0 x10.2 6) fun (v21 : Int32) =>
        mret v21
      ) else (
        mret x10.1
      )
    ) fun (x18 : Int32) =>
    mbnd (mret (x10.1 &&& x18)) fun (v22 : Int32) =>
    mret (.inl (v22, x10.2 + 1))
  )
noncomputable def mX12_sure (a0 : Nat) (a1 : Int32) : MM Int32 := onC 11 a0 (
  mbnd (pI 11 0 a0 0) fun _ =>
  mbnd (mX12_in a1 0 9) fun (v1 : Int32) =>
  mbnd (α := Int32) (
    if v1 = 0 then (
      mret 1
    ) else (
      mret 0
    )
  ) fun (x3 : Int32) =>
  mbnd (mX12_throwsIf a0 x3 1) fun (v6 : Int32) =>
  if v6 = 0 then (
    mbnd (mX12_parts a0) fun (v8 : Int32) =>
    mbnd (mret ((1 <<< (v8 &&& (31 : Int32))) - 1)) fun (v9 : Int32) =>
    mbnd (loopM (mX12_sure_L41 a0 a1) (v9, 0)) fun (e23 : Int32) =>
    mret e23
  ) else (
    mret 0
  )
  )
theorem rcX12_sure (a0 : Nat) (a1 : Int32) : Rcv 11 a0 (mX12_sure a0 a1) := fun s r h => ⟨(onC_some h).1, (onC_some h).2.1⟩
set_option maxHeartbeats 4000000 in
set_option maxRecDepth 100000 in
theorem ctX12_sure (a0 : Nat) (a1 : Int32) : Ct aX12_sure [vr a0, vi a1] (mX12_sure a0 a1) rI := by
  unfold mX12_sure
  refine ct_onC (ct_intro (by decide +kernel) rfl (Nat.le_of_ble_eq_true rfl) fun Y s => ?_)
  refine r_sub (lv' := [(0, vr a0), (1, vi a1)]) [0, 1] rfl ?_
  refine r_p (pc' := 1) (p_aload_n 0 (k := 0) (by decide +kernel) rfl) ?_
  refine r_p (pc' := 2) (p_iconst (n := 0) (v := 0) (by decide +kernel) rfl) ?_
  refine r_pI fpX12_3_11 (fun h => by cases h) (by decide +kernel) fun s => ?_
  refine r_p (pc' := 6) (p_aload_n 0 (k := 0) (by decide +kernel) rfl) ?_
  refine r_p (pc' := 7) (p_iload_n 1 (k := 1) (by decide +kernel) rfl) ?_
  refine r_p (pc' := 8) (p_iconst (n := 0) (v := 0) (by decide +kernel) rfl) ?_
  refine r_p (pc' := 10) (p_bipush (n := 9) (v := 9) (by decide +kernel) (by decide +kernel)) ?_
  refine r_callSI msX12_72 (ctX12_in a1 0 9) (as := [vi a1, vi 0, vi 9]) (st := [vr a0]) rfl rfl (by decide +kernel) rfl (Nat.le_of_ble_eq_true rfl) (Nat.le_of_ble_eq_true rfl) fun v1 s => ?_
  refine r_join 21 (fun (x3 : Int32) => [(0, vr a0), (1, vi a1)]) (fun (x3 : Int32) => [vi x3, vr a0]) (fun x3 s => ?_) (fun K4 hj5 => ?_)
  · refine r_p (pc' := 22) (p_iconst (n := 1) (v := 1) (by decide +kernel) rfl) ?_
    refine r_callVI mvX12_265 (ctX12_throwsIf a0 x3 1) (rcX12_throwsIf a0 x3 1) ⟨_, _, rfl⟩ (as := [vi x3, vi 1]) (st := []) rfl rfl (by decide +kernel) rfl (Nat.le_of_ble_eq_true rfl) (Nat.le_of_ble_eq_true rfl) fun v6 s => ?_
    refine r_ifeq (off := 5) (tgt := 30) (by decide +kernel) (by decide) (fun h7 => ?_) (fun h7 => ?_)
    · refine r_p (pc' := 31) (p_iconst (n := 1) (v := 1) (by decide +kernel) rfl) ?_
      refine r_p (pc' := 32) (p_aload_n 0 (k := 0) (by decide +kernel) rfl) ?_
      refine r_callVI mvX12_68 (ctX12_parts a0) (rcX12_parts a0) ⟨_, _, rfl⟩ (as := []) (st := [vi 1]) rfl rfl (by decide +kernel) rfl (Nat.le_of_ble_eq_true rfl) (Nat.le_of_ble_eq_true rfl) fun v8 s => ?_
      refine r_p (pc' := 36) (p_ishl (by decide +kernel)) ?_
      refine r_p (pc' := 37) (p_iconst (n := 1) (v := 1) (by decide +kernel) rfl) ?_
      refine r_p (pc' := 38) (p_isub (by decide +kernel)) ?_
      refine r_letI fun v9 => ?_
      refine r_p (pc' := 39) (p_istore_n (k := 2) (lv' := [(2, vi v9), (0, vr a0), (1, vi a1)]) (by decide +kernel) (Nat.le_of_ble_eq_true rfl) rfl) ?_
      refine r_p (pc' := 40) (p_iconst (n := 0) (v := 0) (by decide +kernel) rfl) ?_
      refine r_p (pc' := 41) (p_istore_n (k := 3) (lv' := [(3, vi 0), (2, vi v9), (0, vr a0), (1, vi a1)]) (by decide +kernel) (Nat.le_of_ble_eq_true rfl) rfl) ?_
      refine r_sub (lv' := [(0, vr a0), (1, vi a1), (2, vi v9), (3, vi 0)]) [2, 3, 1, 0] rfl ?_
      refine r_loop2 (fun _ => 79) (fun (e23 : Int32) => [(2, vi e23)]) (fun (x10 : Int32 × Int32) => [(0, vr a0), (1, vi a1), (2, vi x10.1), (3, vi x10.2)]) (fun e23 s => ?_) (fun K11 hb12 he13 x10 s => ?_) (v9, 0) _
      · refine r_p (pc' := 80) (p_iload_n 0 (k := 2) (by decide +kernel) rfl) ?_
        exact r_iret rfl rfl _ rfl rfl (by decide +kernel)
      · unfold mX12_sure_L41
        refine r_p (pc' := 42) (p_iload_n 3 (k := 3) (by decide +kernel) rfl) ?_
        refine r_p (pc' := 43) (p_aload_n 0 (k := 0) (by decide +kernel) rfl) ?_
        refine r_callVI mvX12_325 (ctX12_deeds a0) (rcX12_deeds a0) ⟨_, _, rfl⟩ (as := []) (st := [vi x10.2]) rfl rfl (by decide +kernel) rfl (Nat.le_of_ble_eq_true rfl) (Nat.le_of_ble_eq_true rfl) fun v14 s => ?_
        refine r_icmpge (off := 33) (tgt := 79) (by decide +kernel) (by decide) (fun h15 => ?_) (fun h15 => ?_)
        · refine r_sub (lv' := [(2, vi x10.1)]) [2] rfl ?_
          exact he13 x10.1 _
        · refine r_p (pc' := 50) (p_iload_n 2 (k := 2) (by decide +kernel) rfl) ?_
          refine r_p (pc' := 51) (p_aload_n 0 (k := 0) (by decide +kernel) rfl) ?_
          refine r_p (pc' := 52) (p_iload_n 3 (k := 3) (by decide +kernel) rfl) ?_
          refine r_p (pc' := 53) (p_iconst (n := 4) (v := 4) (by decide +kernel) rfl) ?_
          refine r_callVI mvX12_328 (ctX12_ofTruth a0 x10.2 4) (rcX12_ofTruth a0 x10.2 4) ⟨_, _, rfl⟩ (as := [vi x10.2, vi 4]) (st := [vi x10.1]) rfl rfl (by decide +kernel) rfl (Nat.le_of_ble_eq_true rfl) (Nat.le_of_ble_eq_true rfl) fun v16 s => ?_
          refine r_p (pc' := 57) (p_iload_n 1 (k := 1) (by decide +kernel) rfl) ?_
          refine r_join 71 (fun (x18 : Int32) => [(0, vr a0), (1, vi a1), (3, vi x10.2)]) (fun (x18 : Int32) => [vi x18, vi x10.1]) (fun x18 s => ?_) (fun K19 hj20 => ?_)
          · refine r_p (pc' := 72) (p_iand (by decide +kernel)) ?_
            refine r_letI fun v22 => ?_
            refine r_p (pc' := 73) (p_istore_n (k := 2) (lv' := [(2, vi v22), (0, vr a0), (1, vi a1), (3, vi x10.2)]) (by decide +kernel) (Nat.le_of_ble_eq_true rfl) rfl) ?_
            refine r_p (pc' := 76) (p_iinc 3 (i := 3) (n := 1) (x := x10.2) (v := x10.2 + 1) (lv' := [(3, vi (x10.2 + 1)), (2, vi v22), (0, vr a0), (1, vi a1)]) (by decide +kernel) rfl rfl (Nat.le_of_ble_eq_true rfl) rfl) ?_
            refine r_p (pc' := 41) (p_goto (off := -35) (tgt := 41) (by decide +kernel) (by decide)) ?_
            refine r_sub (lv' := [(0, vr a0), (1, vi a1), (2, vi v22), (3, vi (x10.2 + 1))]) [2, 3, 1, 0] rfl ?_
            exact hb12 (v22, x10.2 + 1) _
          · refine r_icmpne (off := 13) (tgt := 70) (by decide +kernel) (by decide) (fun h17 => ?_) (fun h17 => ?_)
            · refine r_p (pc' := 61) (p_aload_n 0 (k := 0) (by decide +kernel) rfl) ?_
              refine r_p (pc' := 62) (p_iload_n 3 (k := 3) (by decide +kernel) rfl) ?_
              refine r_p (pc' := 64) (p_bipush (n := 6) (v := 6) (by decide +kernel) (by decide +kernel)) ?_
              refine r_callVI mvX12_328 (ctX12_ofTruth a0 x10.2 6) (rcX12_ofTruth a0 x10.2 6) ⟨_, _, rfl⟩ (as := [vi x10.2, vi 6]) (st := [vi x10.1]) rfl rfl (by decide +kernel) rfl (Nat.le_of_ble_eq_true rfl) (Nat.le_of_ble_eq_true rfl) fun v21 s => ?_
              refine r_p (pc' := 71) (p_goto (off := 4) (tgt := 71) (by decide +kernel) (by decide)) ?_
              refine r_sub (lv' := [(0, vr a0), (1, vi a1), (3, vi x10.2)]) [0, 1, 3] rfl ?_
              exact hj20 v21 _
            · refine r_p (pc' := 71) (p_iload_n 2 (k := 2) (by decide +kernel) rfl) ?_
              refine r_sub (lv' := [(0, vr a0), (1, vi a1), (3, vi x10.2)]) [0, 1, 3] rfl ?_
              exact hj20 x10.1 _
    · refine r_p (pc' := 29) (p_iconst (n := 0) (v := 0) (by decide +kernel) rfl) ?_
      exact r_iret rfl rfl _ rfl rfl (by decide +kernel)
  · refine r_ifne (off := 7) (tgt := 20) (by decide +kernel) (by decide) (fun h2 => ?_) (fun h2 => ?_)
    · refine r_p (pc' := 17) (p_iconst (n := 1) (v := 1) (by decide +kernel) rfl) ?_
      refine r_p (pc' := 21) (p_goto (off := 4) (tgt := 21) (by decide +kernel) (by decide)) ?_
      exact hj5 1 _
    · refine r_p (pc' := 21) (p_iconst (n := 0) (v := 0) (by decide +kernel) rfl) ?_
      exact hj5 0 _
def aX12_strokesOf : StA := (RX12, cX12_strokesOf, 4, some .int, yX12_strokesOf, 10, [])
noncomputable def mX12_strokesOf_L4 (a0 : Nat) (a1 : Int32) (x1 : Int32 × Int32) : MM ((Int32 × Int32) ⊕ (Int32)) :=
  mbnd (mX12_deeds a0) fun (v5 : Int32) =>
  if v5 ≤ x1.2 then (
    mret (.inr x1.1)
  ) else (
    mbnd (mX12_didIt a0 x1.2 a1) fun (v7 : Int32) =>
    mbnd (α := Int32) (
      if v7 = 0 then (
        mret 0
      ) else (
        mret 1
      )
    ) fun (x9 : Int32) =>
    mbnd (mret (x1.1 + x9)) fun (v12 : Int32) =>
    mret (.inl (v12, x1.2 + 1))
  )
noncomputable def mX12_strokesOf (a0 : Nat) (a1 : Int32) : MM Int32 := onC 11 a0 (
  mbnd (loopM (mX12_strokesOf_L4 a0 a1) (0, 0)) fun (e13 : Int32) =>
  mret e13
  )
theorem rcX12_strokesOf (a0 : Nat) (a1 : Int32) : Rcv 11 a0 (mX12_strokesOf a0 a1) := fun s r h => ⟨(onC_some h).1, (onC_some h).2.1⟩
set_option maxHeartbeats 4000000 in
set_option maxRecDepth 100000 in
theorem ctX12_strokesOf (a0 : Nat) (a1 : Int32) : Ct aX12_strokesOf [vr a0, vi a1] (mX12_strokesOf a0 a1) rI := by
  unfold mX12_strokesOf
  refine ct_onC (ct_intro (by decide +kernel) rfl (Nat.le_of_ble_eq_true rfl) fun Y s => ?_)
  refine r_sub (lv' := [(0, vr a0), (1, vi a1)]) [0, 1] rfl ?_
  refine r_p (pc' := 1) (p_iconst (n := 0) (v := 0) (by decide +kernel) rfl) ?_
  refine r_p (pc' := 2) (p_istore_n (k := 2) (lv' := [(2, vi 0), (0, vr a0), (1, vi a1)]) (by decide +kernel) (Nat.le_of_ble_eq_true rfl) rfl) ?_
  refine r_p (pc' := 3) (p_iconst (n := 0) (v := 0) (by decide +kernel) rfl) ?_
  refine r_p (pc' := 4) (p_istore_n (k := 3) (lv' := [(3, vi 0), (2, vi 0), (0, vr a0), (1, vi a1)]) (by decide +kernel) (Nat.le_of_ble_eq_true rfl) rfl) ?_
  refine r_sub (lv' := [(0, vr a0), (1, vi a1), (2, vi 0), (3, vi 0)]) [2, 3, 1, 0] rfl ?_
  refine r_loop2 (fun _ => 35) (fun (e13 : Int32) => [(2, vi e13)]) (fun (x1 : Int32 × Int32) => [(0, vr a0), (1, vi a1), (2, vi x1.1), (3, vi x1.2)]) (fun e13 s => ?_) (fun K2 hb3 he4 x1 s => ?_) (0, 0) _
  · refine r_p (pc' := 36) (p_iload_n 0 (k := 2) (by decide +kernel) rfl) ?_
    exact r_iret rfl rfl _ rfl rfl (by decide +kernel)
  · unfold mX12_strokesOf_L4
    refine r_p (pc' := 5) (p_iload_n 3 (k := 3) (by decide +kernel) rfl) ?_
    refine r_p (pc' := 6) (p_aload_n 0 (k := 0) (by decide +kernel) rfl) ?_
    refine r_callVI mvX12_325 (ctX12_deeds a0) (rcX12_deeds a0) ⟨_, _, rfl⟩ (as := []) (st := [vi x1.2]) rfl rfl (by decide +kernel) rfl (Nat.le_of_ble_eq_true rfl) (Nat.le_of_ble_eq_true rfl) fun v5 s => ?_
    refine r_icmpge (off := 26) (tgt := 35) (by decide +kernel) (by decide) (fun h6 => ?_) (fun h6 => ?_)
    · refine r_sub (lv' := [(2, vi x1.1)]) [2] rfl ?_
      exact he4 x1.1 _
    · refine r_p (pc' := 13) (p_iload_n 2 (k := 2) (by decide +kernel) rfl) ?_
      refine r_p (pc' := 14) (p_aload_n 0 (k := 0) (by decide +kernel) rfl) ?_
      refine r_p (pc' := 15) (p_iload_n 3 (k := 3) (by decide +kernel) rfl) ?_
      refine r_p (pc' := 16) (p_iload_n 1 (k := 1) (by decide +kernel) rfl) ?_
      refine r_callVI mvX12_448 (ctX12_didIt a0 x1.2 a1) (rcX12_didIt a0 x1.2 a1) ⟨_, _, rfl⟩ (as := [vi x1.2, vi a1]) (st := [vi x1.1]) rfl rfl (by decide +kernel) rfl (Nat.le_of_ble_eq_true rfl) (Nat.le_of_ble_eq_true rfl) fun v7 s => ?_
      refine r_join 27 (fun (x9 : Int32) => [(0, vr a0), (1, vi a1), (3, vi x1.2)]) (fun (x9 : Int32) => [vi x9, vi x1.1]) (fun x9 s => ?_) (fun K10 hj11 => ?_)
      · refine r_p (pc' := 28) (p_iadd (by decide +kernel)) ?_
        refine r_letI fun v12 => ?_
        refine r_p (pc' := 29) (p_istore_n (k := 2) (lv' := [(2, vi v12), (0, vr a0), (1, vi a1), (3, vi x1.2)]) (by decide +kernel) (Nat.le_of_ble_eq_true rfl) rfl) ?_
        refine r_p (pc' := 32) (p_iinc 3 (i := 3) (n := 1) (x := x1.2) (v := x1.2 + 1) (lv' := [(3, vi (x1.2 + 1)), (2, vi v12), (0, vr a0), (1, vi a1)]) (by decide +kernel) rfl rfl (Nat.le_of_ble_eq_true rfl) rfl) ?_
        refine r_p (pc' := 4) (p_goto (off := -28) (tgt := 4) (by decide +kernel) (by decide)) ?_
        refine r_sub (lv' := [(0, vr a0), (1, vi a1), (2, vi v12), (3, vi (x1.2 + 1))]) [2, 3, 1, 0] rfl ?_
        exact hb3 (v12, x1.2 + 1) _
      · refine r_ifeq (off := 7) (tgt := 26) (by decide +kernel) (by decide) (fun h8 => ?_) (fun h8 => ?_)
        · refine r_p (pc' := 27) (p_iconst (n := 0) (v := 0) (by decide +kernel) rfl) ?_
          refine r_sub (lv' := [(0, vr a0), (1, vi a1), (3, vi x1.2)]) [0, 1, 3] rfl ?_
          exact hj11 0 _
        · refine r_p (pc' := 23) (p_iconst (n := 1) (v := 1) (by decide +kernel) rfl) ?_
          refine r_p (pc' := 27) (p_goto (off := 4) (tgt := 27) (by decide +kernel) (by decide)) ?_
          refine r_sub (lv' := [(0, vr a0), (1, vi a1), (3, vi x1.2)]) [0, 1, 3] rfl ?_
          exact hj11 1 _
def aX12_with : StA := (RX12, cX12_with, 4, some .int, yX12_with, 11, [])
theorem mvX12_454 : MV RX12 454 aX12_strokesOf 1 := ⟨tblG_of 2278 (by decide +kernel) (by decide +kernel), tblG_of 2280 (by decide +kernel) (by decide +kernel), tblG_of 135 (by decide +kernel) (by decide +kernel), tblG_of 157 (by decide +kernel) (by decide +kernel), tblG_of 2281 (by decide +kernel) (by decide +kernel), rfl, ⟨by decide, by decide⟩, by decide +kernel, by decide⟩
noncomputable def mX12_with_L39 (a0 : Nat) (a1 : Int32) (x8 : Int32 × Int32) : MM ((Int32 × Int32) ⊕ (Int32)) :=
  mbnd (mX12_deeds a0) fun (v12 : Int32) =>
  if v12 ≤ x8.2 then (
    mret (.inr x8.1)
  ) else (
    mbnd (mX12_didIt a0 x8.2 a1) fun (v14 : Int32) =>
    mbnd (α := Int32) (
      if v14 = 0 then (
        mret x8.1
      ) else (
        mbnd (mX12_ofTruth a0 x8.2 6) fun (v19 : Int32) =>
        mret v19
      )
    ) fun (x16 : Int32) =>
    mbnd (mret (x8.1 &&& x16)) fun (v20 : Int32) =>
    mret (.inl (v20, x8.2 + 1))
  )
noncomputable def mX12_with (a0 : Nat) (a1 : Int32) : MM Int32 := onC 11 a0 (
  mbnd (pI 11 0 a0 0) fun _ =>
  mbnd (mX12_noPart a0 a1) fun (v1 : Int32) =>
  mbnd (mX12_throwsIf a0 v1 1) fun (v2 : Int32) =>
  if v2 = 0 then (
    mbnd (mX12_strokesOf a0 a1) fun (v4 : Int32) =>
    if v4 = 0 then (
      mret 0
    ) else (
      mbnd (mX12_parts a0) fun (v6 : Int32) =>
      mbnd (mret ((1 <<< (v6 &&& (31 : Int32))) - 1)) fun (v7 : Int32) =>
      mbnd (loopM (mX12_with_L39 a0 a1) (v7, 0)) fun (e21 : Int32) =>
      mret e21
    )
  ) else (
    mret 0
  )
  )
theorem rcX12_with (a0 : Nat) (a1 : Int32) : Rcv 11 a0 (mX12_with a0 a1) := fun s r h => ⟨(onC_some h).1, (onC_some h).2.1⟩
set_option maxHeartbeats 4000000 in
set_option maxRecDepth 100000 in
theorem ctX12_with (a0 : Nat) (a1 : Int32) : Ct aX12_with [vr a0, vi a1] (mX12_with a0 a1) rI := by
  unfold mX12_with
  refine ct_onC (ct_intro (by decide +kernel) rfl (Nat.le_of_ble_eq_true rfl) fun Y s => ?_)
  refine r_sub (lv' := [(0, vr a0), (1, vi a1)]) [0, 1] rfl ?_
  refine r_p (pc' := 1) (p_aload_n 0 (k := 0) (by decide +kernel) rfl) ?_
  refine r_p (pc' := 2) (p_iconst (n := 0) (v := 0) (by decide +kernel) rfl) ?_
  refine r_pI fpX12_3_11 (fun h => by cases h) (by decide +kernel) fun s => ?_
  refine r_p (pc' := 6) (p_aload_n 0 (k := 0) (by decide +kernel) rfl) ?_
  refine r_p (pc' := 7) (p_aload_n 0 (k := 0) (by decide +kernel) rfl) ?_
  refine r_p (pc' := 8) (p_iload_n 1 (k := 1) (by decide +kernel) rfl) ?_
  refine r_callVI mvX12_313 (ctX12_noPart a0 a1) (rcX12_noPart a0 a1) ⟨_, _, rfl⟩ (as := [vi a1]) (st := [vr a0]) rfl rfl (by decide +kernel) rfl (Nat.le_of_ble_eq_true rfl) (Nat.le_of_ble_eq_true rfl) fun v1 s => ?_
  refine r_p (pc' := 12) (p_iconst (n := 1) (v := 1) (by decide +kernel) rfl) ?_
  refine r_callVI mvX12_265 (ctX12_throwsIf a0 v1 1) (rcX12_throwsIf a0 v1 1) ⟨_, _, rfl⟩ (as := [vi v1, vi 1]) (st := []) rfl rfl (by decide +kernel) rfl (Nat.le_of_ble_eq_true rfl) (Nat.le_of_ble_eq_true rfl) fun v2 s => ?_
  refine r_ifne (off := 11) (tgt := 26) (by decide +kernel) (by decide) (fun h3 => ?_) (fun h3 => ?_)
  · refine r_p (pc' := 19) (p_aload_n 0 (k := 0) (by decide +kernel) rfl) ?_
    refine r_p (pc' := 20) (p_iload_n 1 (k := 1) (by decide +kernel) rfl) ?_
    refine r_callVI mvX12_454 (ctX12_strokesOf a0 a1) (rcX12_strokesOf a0 a1) ⟨_, _, rfl⟩ (as := [vi a1]) (st := []) rfl rfl (by decide +kernel) rfl (Nat.le_of_ble_eq_true rfl) (Nat.le_of_ble_eq_true rfl) fun v4 s => ?_
    refine r_ifne (off := 5) (tgt := 28) (by decide +kernel) (by decide) (fun h5 => ?_) (fun h5 => ?_)
    · refine r_p (pc' := 27) (p_iconst (n := 0) (v := 0) (by decide +kernel) rfl) ?_
      exact r_iret rfl rfl _ rfl rfl (by decide +kernel)
    · refine r_p (pc' := 29) (p_iconst (n := 1) (v := 1) (by decide +kernel) rfl) ?_
      refine r_p (pc' := 30) (p_aload_n 0 (k := 0) (by decide +kernel) rfl) ?_
      refine r_callVI mvX12_68 (ctX12_parts a0) (rcX12_parts a0) ⟨_, _, rfl⟩ (as := []) (st := [vi 1]) rfl rfl (by decide +kernel) rfl (Nat.le_of_ble_eq_true rfl) (Nat.le_of_ble_eq_true rfl) fun v6 s => ?_
      refine r_p (pc' := 34) (p_ishl (by decide +kernel)) ?_
      refine r_p (pc' := 35) (p_iconst (n := 1) (v := 1) (by decide +kernel) rfl) ?_
      refine r_p (pc' := 36) (p_isub (by decide +kernel)) ?_
      refine r_letI fun v7 => ?_
      refine r_p (pc' := 37) (p_istore_n (k := 2) (lv' := [(2, vi v7), (0, vr a0), (1, vi a1)]) (by decide +kernel) (Nat.le_of_ble_eq_true rfl) rfl) ?_
      refine r_p (pc' := 38) (p_iconst (n := 0) (v := 0) (by decide +kernel) rfl) ?_
      refine r_p (pc' := 39) (p_istore_n (k := 3) (lv' := [(3, vi 0), (2, vi v7), (0, vr a0), (1, vi a1)]) (by decide +kernel) (Nat.le_of_ble_eq_true rfl) rfl) ?_
      refine r_sub (lv' := [(0, vr a0), (1, vi a1), (2, vi v7), (3, vi 0)]) [2, 3, 1, 0] rfl ?_
      refine r_loop2 (fun _ => 76) (fun (e21 : Int32) => [(2, vi e21)]) (fun (x8 : Int32 × Int32) => [(0, vr a0), (1, vi a1), (2, vi x8.1), (3, vi x8.2)]) (fun e21 s => ?_) (fun K9 hb10 he11 x8 s => ?_) (v7, 0) _
      · refine r_p (pc' := 77) (p_iload_n 0 (k := 2) (by decide +kernel) rfl) ?_
        exact r_iret rfl rfl _ rfl rfl (by decide +kernel)
      · unfold mX12_with_L39
        refine r_p (pc' := 40) (p_iload_n 3 (k := 3) (by decide +kernel) rfl) ?_
        refine r_p (pc' := 41) (p_aload_n 0 (k := 0) (by decide +kernel) rfl) ?_
        refine r_callVI mvX12_325 (ctX12_deeds a0) (rcX12_deeds a0) ⟨_, _, rfl⟩ (as := []) (st := [vi x8.2]) rfl rfl (by decide +kernel) rfl (Nat.le_of_ble_eq_true rfl) (Nat.le_of_ble_eq_true rfl) fun v12 s => ?_
        refine r_icmpge (off := 32) (tgt := 76) (by decide +kernel) (by decide) (fun h13 => ?_) (fun h13 => ?_)
        · refine r_sub (lv' := [(2, vi x8.1)]) [2] rfl ?_
          exact he11 x8.1 _
        · refine r_p (pc' := 48) (p_iload_n 2 (k := 2) (by decide +kernel) rfl) ?_
          refine r_p (pc' := 49) (p_aload_n 0 (k := 0) (by decide +kernel) rfl) ?_
          refine r_p (pc' := 50) (p_iload_n 3 (k := 3) (by decide +kernel) rfl) ?_
          refine r_p (pc' := 51) (p_iload_n 1 (k := 1) (by decide +kernel) rfl) ?_
          refine r_callVI mvX12_448 (ctX12_didIt a0 x8.2 a1) (rcX12_didIt a0 x8.2 a1) ⟨_, _, rfl⟩ (as := [vi x8.2, vi a1]) (st := [vi x8.1]) rfl rfl (by decide +kernel) rfl (Nat.le_of_ble_eq_true rfl) (Nat.le_of_ble_eq_true rfl) fun v14 s => ?_
          refine r_join 68 (fun (x16 : Int32) => [(0, vr a0), (1, vi a1), (3, vi x8.2)]) (fun (x16 : Int32) => [vi x16, vi x8.1]) (fun x16 s => ?_) (fun K17 hj18 => ?_)
          · refine r_p (pc' := 69) (p_iand (by decide +kernel)) ?_
            refine r_letI fun v20 => ?_
            refine r_p (pc' := 70) (p_istore_n (k := 2) (lv' := [(2, vi v20), (0, vr a0), (1, vi a1), (3, vi x8.2)]) (by decide +kernel) (Nat.le_of_ble_eq_true rfl) rfl) ?_
            refine r_p (pc' := 73) (p_iinc 3 (i := 3) (n := 1) (x := x8.2) (v := x8.2 + 1) (lv' := [(3, vi (x8.2 + 1)), (2, vi v20), (0, vr a0), (1, vi a1)]) (by decide +kernel) rfl rfl (Nat.le_of_ble_eq_true rfl) rfl) ?_
            refine r_p (pc' := 39) (p_goto (off := -34) (tgt := 39) (by decide +kernel) (by decide)) ?_
            refine r_sub (lv' := [(0, vr a0), (1, vi a1), (2, vi v20), (3, vi (x8.2 + 1))]) [2, 3, 1, 0] rfl ?_
            exact hb10 (v20, x8.2 + 1) _
          · refine r_ifeq (off := 13) (tgt := 67) (by decide +kernel) (by decide) (fun h15 => ?_) (fun h15 => ?_)
            · refine r_p (pc' := 68) (p_iload_n 2 (k := 2) (by decide +kernel) rfl) ?_
              refine r_sub (lv' := [(0, vr a0), (1, vi a1), (3, vi x8.2)]) [0, 1, 3] rfl ?_
              exact hj18 x8.1 _
            · refine r_p (pc' := 58) (p_aload_n 0 (k := 0) (by decide +kernel) rfl) ?_
              refine r_p (pc' := 59) (p_iload_n 3 (k := 3) (by decide +kernel) rfl) ?_
              refine r_p (pc' := 61) (p_bipush (n := 6) (v := 6) (by decide +kernel) (by decide +kernel)) ?_
              refine r_callVI mvX12_328 (ctX12_ofTruth a0 x8.2 6) (rcX12_ofTruth a0 x8.2 6) ⟨_, _, rfl⟩ (as := [vi x8.2, vi 6]) (st := [vi x8.1]) rfl rfl (by decide +kernel) rfl (Nat.le_of_ble_eq_true rfl) (Nat.le_of_ble_eq_true rfl) fun v19 s => ?_
              refine r_p (pc' := 68) (p_goto (off := 4) (tgt := 68) (by decide +kernel) (by decide)) ?_
              refine r_sub (lv' := [(0, vr a0), (1, vi a1), (3, vi x8.2)]) [0, 1, 3] rfl ?_
              exact hj18 v19 _
  · refine r_p (pc' := 27) (p_iconst (n := 0) (v := 0) (by decide +kernel) rfl) ?_
    exact r_iret rfl rfl _ rfl rfl (by decide +kernel)
def aX12_strokesOn : StA := (RX12, cX12_strokesOn, 5, some .int, yX12_strokesOn, 10, [])
noncomputable def mX12_strokesOn_L5 (a0 : Nat) (a1 : Int32) (a2 : Int32) (x1 : Int32 × Int32) : MM ((Int32 × Int32) ⊕ (Int32)) :=
  mbnd (mX12_deeds a0) fun (v5 : Int32) =>
  if v5 ≤ x1.2 then (
    mret (.inr x1.1)
  ) else (
    mbnd (mX12_didIt a0 x1.2 a1) fun (v7 : Int32) =>
    mbnd (α := Int32) (
      if v7 = 0 then (
        mret 0
      ) else (
        mbnd (mX12_ofTruth a0 x1.2 0) fun (v12 : Int32) =>
        if v12 = a2 then (
          mret 1
        ) else (
          mret 0
        )
      )
    ) fun (x9 : Int32) =>
    mbnd (mret (x1.1 + x9)) fun (v14 : Int32) =>
    mret (.inl (v14, x1.2 + 1))
  )
noncomputable def mX12_strokesOn (a0 : Nat) (a1 : Int32) (a2 : Int32) : MM Int32 := onC 11 a0 (
  mbnd (loopM (mX12_strokesOn_L5 a0 a1 a2) (0, 0)) fun (e15 : Int32) =>
  mret e15
  )
theorem rcX12_strokesOn (a0 : Nat) (a1 : Int32) (a2 : Int32) : Rcv 11 a0 (mX12_strokesOn a0 a1 a2) := fun s r h => ⟨(onC_some h).1, (onC_some h).2.1⟩
set_option maxHeartbeats 4000000 in
set_option maxRecDepth 100000 in
theorem ctX12_strokesOn (a0 : Nat) (a1 : Int32) (a2 : Int32) : Ct aX12_strokesOn [vr a0, vi a1, vi a2] (mX12_strokesOn a0 a1 a2) rI := by
  unfold mX12_strokesOn
  refine ct_onC (ct_intro (by decide +kernel) rfl (Nat.le_of_ble_eq_true rfl) fun Y s => ?_)
  refine r_sub (lv' := [(0, vr a0), (1, vi a1), (2, vi a2)]) [0, 1, 2] rfl ?_
  refine r_p (pc' := 1) (p_iconst (n := 0) (v := 0) (by decide +kernel) rfl) ?_
  refine r_p (pc' := 2) (p_istore_n (k := 3) (lv' := [(3, vi 0), (0, vr a0), (1, vi a1), (2, vi a2)]) (by decide +kernel) (Nat.le_of_ble_eq_true rfl) rfl) ?_
  refine r_p (pc' := 3) (p_iconst (n := 0) (v := 0) (by decide +kernel) rfl) ?_
  refine r_p (pc' := 5) (p_istore (i := 4) (lv' := [(4, vi 0), (3, vi 0), (0, vr a0), (1, vi a1), (2, vi a2)]) (by decide +kernel) (Nat.le_of_ble_eq_true rfl) rfl) ?_
  refine r_sub (lv' := [(0, vr a0), (1, vi a1), (2, vi a2), (3, vi 0), (4, vi 0)]) [2, 3, 4, 1, 0] rfl ?_
  refine r_loop2 (fun _ => 49) (fun (e15 : Int32) => [(3, vi e15)]) (fun (x1 : Int32 × Int32) => [(0, vr a0), (1, vi a1), (2, vi a2), (3, vi x1.1), (4, vi x1.2)]) (fun e15 s => ?_) (fun K2 hb3 he4 x1 s => ?_) (0, 0) _
  · refine r_p (pc' := 50) (p_iload_n 0 (k := 3) (by decide +kernel) rfl) ?_
    exact r_iret rfl rfl _ rfl rfl (by decide +kernel)
  · unfold mX12_strokesOn_L5
    refine r_p (pc' := 7) (p_iload 4 (i := 4) (by decide +kernel) rfl) ?_
    refine r_p (pc' := 8) (p_aload_n 0 (k := 0) (by decide +kernel) rfl) ?_
    refine r_callVI mvX12_325 (ctX12_deeds a0) (rcX12_deeds a0) ⟨_, _, rfl⟩ (as := []) (st := [vi x1.2]) rfl rfl (by decide +kernel) rfl (Nat.le_of_ble_eq_true rfl) (Nat.le_of_ble_eq_true rfl) fun v5 s => ?_
    refine r_icmpge (off := 38) (tgt := 49) (by decide +kernel) (by decide) (fun h6 => ?_) (fun h6 => ?_)
    · refine r_sub (lv' := [(3, vi x1.1)]) [3] rfl ?_
      exact he4 x1.1 _
    · refine r_p (pc' := 15) (p_iload_n 3 (k := 3) (by decide +kernel) rfl) ?_
      refine r_p (pc' := 16) (p_aload_n 0 (k := 0) (by decide +kernel) rfl) ?_
      refine r_p (pc' := 18) (p_iload 4 (i := 4) (by decide +kernel) rfl) ?_
      refine r_p (pc' := 19) (p_iload_n 1 (k := 1) (by decide +kernel) rfl) ?_
      refine r_callVI mvX12_448 (ctX12_didIt a0 x1.2 a1) (rcX12_didIt a0 x1.2 a1) ⟨_, _, rfl⟩ (as := [vi x1.2, vi a1]) (st := [vi x1.1]) rfl rfl (by decide +kernel) rfl (Nat.le_of_ble_eq_true rfl) (Nat.le_of_ble_eq_true rfl) fun v7 s => ?_
      refine r_join 41 (fun (x9 : Int32) => [(0, vr a0), (1, vi a1), (2, vi a2), (4, vi x1.2)]) (fun (x9 : Int32) => [vi x9, vi x1.1]) (fun x9 s => ?_) (fun K10 hj11 => ?_)
      · refine r_p (pc' := 42) (p_iadd (by decide +kernel)) ?_
        refine r_letI fun v14 => ?_
        refine r_p (pc' := 43) (p_istore_n (k := 3) (lv' := [(3, vi v14), (0, vr a0), (1, vi a1), (2, vi a2), (4, vi x1.2)]) (by decide +kernel) (Nat.le_of_ble_eq_true rfl) rfl) ?_
        refine r_p (pc' := 46) (p_iinc 4 (i := 4) (n := 1) (x := x1.2) (v := x1.2 + 1) (lv' := [(4, vi (x1.2 + 1)), (3, vi v14), (0, vr a0), (1, vi a1), (2, vi a2)]) (by decide +kernel) rfl rfl (Nat.le_of_ble_eq_true rfl) rfl) ?_
        refine r_p (pc' := 5) (p_goto (off := -41) (tgt := 5) (by decide +kernel) (by decide)) ?_
        refine r_sub (lv' := [(0, vr a0), (1, vi a1), (2, vi a2), (3, vi v14), (4, vi (x1.2 + 1))]) [2, 3, 4, 1, 0] rfl ?_
        exact hb3 (v14, x1.2 + 1) _
      · refine r_ifeq (off := 18) (tgt := 40) (by decide +kernel) (by decide) (fun h8 => ?_) (fun h8 => ?_)
        · refine r_p (pc' := 41) (p_iconst (n := 0) (v := 0) (by decide +kernel) rfl) ?_
          refine r_sub (lv' := [(0, vr a0), (1, vi a1), (2, vi a2), (4, vi x1.2)]) [0, 1, 2, 4] rfl ?_
          exact hj11 0 _
        · refine r_p (pc' := 26) (p_aload_n 0 (k := 0) (by decide +kernel) rfl) ?_
          refine r_p (pc' := 28) (p_iload 4 (i := 4) (by decide +kernel) rfl) ?_
          refine r_p (pc' := 29) (p_iconst (n := 0) (v := 0) (by decide +kernel) rfl) ?_
          refine r_callVI mvX12_328 (ctX12_ofTruth a0 x1.2 0) (rcX12_ofTruth a0 x1.2 0) ⟨_, _, rfl⟩ (as := [vi x1.2, vi 0]) (st := [vi x1.1]) rfl rfl (by decide +kernel) rfl (Nat.le_of_ble_eq_true rfl) (Nat.le_of_ble_eq_true rfl) fun v12 s => ?_
          refine r_p (pc' := 33) (p_iload_n 2 (k := 2) (by decide +kernel) rfl) ?_
          refine r_icmpne (off := 7) (tgt := 40) (by decide +kernel) (by decide) (fun h13 => ?_) (fun h13 => ?_)
          · refine r_p (pc' := 37) (p_iconst (n := 1) (v := 1) (by decide +kernel) rfl) ?_
            refine r_p (pc' := 41) (p_goto (off := 4) (tgt := 41) (by decide +kernel) (by decide)) ?_
            refine r_sub (lv' := [(0, vr a0), (1, vi a1), (2, vi a2), (4, vi x1.2)]) [0, 1, 2, 4] rfl ?_
            exact hj11 1 _
          · refine r_p (pc' := 41) (p_iconst (n := 0) (v := 0) (by decide +kernel) rfl) ?_
            refine r_sub (lv' := [(0, vr a0), (1, vi a1), (2, vi a2), (4, vi x1.2)]) [0, 1, 2, 4] rfl ?_
            exact hj11 0 _
def aX12_strokes : StA := (RX12, cX12_strokes, 5, some .int, yX12_strokes, 11, [])
theorem mvX12_457 : MV RX12 457 aX12_strokesOn 2 := ⟨tblG_of 2286 (by decide +kernel) (by decide +kernel), tblG_of 2288 (by decide +kernel) (by decide +kernel), tblG_of 136 (by decide +kernel) (by decide +kernel), tblG_of 157 (by decide +kernel) (by decide +kernel), tblG_of 2289 (by decide +kernel) (by decide +kernel), rfl, ⟨by decide, by decide⟩, by decide +kernel, by decide⟩
noncomputable def mX12_strokes_L35 (a0 : Nat) (a1 : Int32) (x6 : Int32 × Int32) : MM ((Int32 × Int32) ⊕ (Int32)) :=
  mbnd (mX12_deeds a0) fun (v10 : Int32) =>
  if v10 ≤ x6.2 then (
    mret (.inr x6.1)
  ) else (
    mbnd (mX12_ofTruth a0 x6.2 0) fun (v12 : Int32) =>
    mbnd (mX12_strokesOn a0 a1 v12) fun (v13 : Int32) =>
    mbnd (mret (imax x6.1 v13)) fun (v14 : Int32) =>
    mret (.inl (v14, x6.2 + 1))
  )
noncomputable def mX12_strokes (a0 : Nat) (a1 : Int32) (a2 : Int32) : MM Int32 := onC 11 a0 (
  mbnd (pI 11 0 a0 0) fun _ =>
  mbnd (mX12_noPart a0 a1) fun (v1 : Int32) =>
  mbnd (mX12_throwsIf a0 v1 1) fun (v2 : Int32) =>
  if v2 = 0 then (
    if a2 = 0 then (
      mbnd (mX12_strokesOf a0 a1) fun (v5 : Int32) =>
      mret v5
    ) else (
      mbnd (loopM (mX12_strokes_L35 a0 a1) (0, 0)) fun (e15 : Int32) =>
      mret e15
    )
  ) else (
    mret 0
  )
  )
theorem rcX12_strokes (a0 : Nat) (a1 : Int32) (a2 : Int32) : Rcv 11 a0 (mX12_strokes a0 a1 a2) := fun s r h => ⟨(onC_some h).1, (onC_some h).2.1⟩
set_option maxHeartbeats 4000000 in
set_option maxRecDepth 100000 in
theorem ctX12_strokes (a0 : Nat) (a1 : Int32) (a2 : Int32) : Ct aX12_strokes [vr a0, vi a1, vi a2] (mX12_strokes a0 a1 a2) rI := by
  unfold mX12_strokes
  refine ct_onC (ct_intro (by decide +kernel) rfl (Nat.le_of_ble_eq_true rfl) fun Y s => ?_)
  refine r_sub (lv' := [(0, vr a0), (1, vi a1), (2, vi a2)]) [0, 1, 2] rfl ?_
  refine r_p (pc' := 1) (p_aload_n 0 (k := 0) (by decide +kernel) rfl) ?_
  refine r_p (pc' := 2) (p_iconst (n := 0) (v := 0) (by decide +kernel) rfl) ?_
  refine r_pI fpX12_3_11 (fun h => by cases h) (by decide +kernel) fun s => ?_
  refine r_p (pc' := 6) (p_aload_n 0 (k := 0) (by decide +kernel) rfl) ?_
  refine r_p (pc' := 7) (p_aload_n 0 (k := 0) (by decide +kernel) rfl) ?_
  refine r_p (pc' := 8) (p_iload_n 1 (k := 1) (by decide +kernel) rfl) ?_
  refine r_callVI mvX12_313 (ctX12_noPart a0 a1) (rcX12_noPart a0 a1) ⟨_, _, rfl⟩ (as := [vi a1]) (st := [vr a0]) rfl rfl (by decide +kernel) rfl (Nat.le_of_ble_eq_true rfl) (Nat.le_of_ble_eq_true rfl) fun v1 s => ?_
  refine r_p (pc' := 12) (p_iconst (n := 1) (v := 1) (by decide +kernel) rfl) ?_
  refine r_callVI mvX12_265 (ctX12_throwsIf a0 v1 1) (rcX12_throwsIf a0 v1 1) ⟨_, _, rfl⟩ (as := [vi v1, vi 1]) (st := []) rfl rfl (by decide +kernel) rfl (Nat.le_of_ble_eq_true rfl) (Nat.le_of_ble_eq_true rfl) fun v2 s => ?_
  refine r_ifeq (off := 5) (tgt := 20) (by decide +kernel) (by decide) (fun h3 => ?_) (fun h3 => ?_)
  · refine r_p (pc' := 21) (p_iload_n 2 (k := 2) (by decide +kernel) rfl) ?_
    refine r_ifne (off := 9) (tgt := 30) (by decide +kernel) (by decide) (fun h4 => ?_) (fun h4 => ?_)
    · refine r_p (pc' := 25) (p_aload_n 0 (k := 0) (by decide +kernel) rfl) ?_
      refine r_p (pc' := 26) (p_iload_n 1 (k := 1) (by decide +kernel) rfl) ?_
      refine r_callVI mvX12_454 (ctX12_strokesOf a0 a1) (rcX12_strokesOf a0 a1) ⟨_, _, rfl⟩ (as := [vi a1]) (st := []) rfl rfl (by decide +kernel) rfl (Nat.le_of_ble_eq_true rfl) (Nat.le_of_ble_eq_true rfl) fun v5 s => ?_
      exact r_iret rfl rfl _ rfl rfl (by decide +kernel)
    · refine r_p (pc' := 31) (p_iconst (n := 0) (v := 0) (by decide +kernel) rfl) ?_
      refine r_p (pc' := 32) (p_istore_n (k := 3) (lv' := [(3, vi 0), (0, vr a0), (1, vi a1), (2, vi a2)]) (by decide +kernel) (Nat.le_of_ble_eq_true rfl) rfl) ?_
      refine r_p (pc' := 33) (p_iconst (n := 0) (v := 0) (by decide +kernel) rfl) ?_
      refine r_p (pc' := 35) (p_istore (i := 4) (lv' := [(4, vi 0), (3, vi 0), (0, vr a0), (1, vi a1), (2, vi a2)]) (by decide +kernel) (Nat.le_of_ble_eq_true rfl) rfl) ?_
      refine r_sub (lv' := [(0, vr a0), (1, vi a1), (3, vi 0), (4, vi 0)]) [2, 3, 1, 0] rfl ?_
      refine r_loop2 (fun _ => 67) (fun (e15 : Int32) => [(3, vi e15)]) (fun (x6 : Int32 × Int32) => [(0, vr a0), (1, vi a1), (3, vi x6.1), (4, vi x6.2)]) (fun e15 s => ?_) (fun K7 hb8 he9 x6 s => ?_) (0, 0) _
      · refine r_p (pc' := 68) (p_iload_n 0 (k := 3) (by decide +kernel) rfl) ?_
        exact r_iret rfl rfl _ rfl rfl (by decide +kernel)
      · unfold mX12_strokes_L35
        refine r_p (pc' := 37) (p_iload 3 (i := 4) (by decide +kernel) rfl) ?_
        refine r_p (pc' := 38) (p_aload_n 0 (k := 0) (by decide +kernel) rfl) ?_
        refine r_callVI mvX12_325 (ctX12_deeds a0) (rcX12_deeds a0) ⟨_, _, rfl⟩ (as := []) (st := [vi x6.2]) rfl rfl (by decide +kernel) rfl (Nat.le_of_ble_eq_true rfl) (Nat.le_of_ble_eq_true rfl) fun v10 s => ?_
        refine r_icmpge (off := 26) (tgt := 67) (by decide +kernel) (by decide) (fun h11 => ?_) (fun h11 => ?_)
        · refine r_sub (lv' := [(3, vi x6.1)]) [2] rfl ?_
          exact he9 x6.1 _
        · refine r_p (pc' := 45) (p_iload_n 2 (k := 3) (by decide +kernel) rfl) ?_
          refine r_p (pc' := 46) (p_aload_n 0 (k := 0) (by decide +kernel) rfl) ?_
          refine r_p (pc' := 47) (p_iload_n 1 (k := 1) (by decide +kernel) rfl) ?_
          refine r_p (pc' := 48) (p_aload_n 0 (k := 0) (by decide +kernel) rfl) ?_
          refine r_p (pc' := 50) (p_iload 3 (i := 4) (by decide +kernel) rfl) ?_
          refine r_p (pc' := 51) (p_iconst (n := 0) (v := 0) (by decide +kernel) rfl) ?_
          refine r_callVI mvX12_328 (ctX12_ofTruth a0 x6.2 0) (rcX12_ofTruth a0 x6.2 0) ⟨_, _, rfl⟩ (as := [vi x6.2, vi 0]) (st := [vi a1, vr a0, vi x6.1]) rfl rfl (by decide +kernel) rfl (Nat.le_of_ble_eq_true rfl) (Nat.le_of_ble_eq_true rfl) fun v12 s => ?_
          refine r_callVI mvX12_457 (ctX12_strokesOn a0 a1 v12) (rcX12_strokesOn a0 a1 v12) ⟨_, _, rfl⟩ (as := [vi a1, vi v12]) (st := [vi x6.1]) rfl rfl (by decide +kernel) rfl (Nat.le_of_ble_eq_true rfl) (Nat.le_of_ble_eq_true rfl) fun v13 s => ?_
          refine r_p (pc' := 60) (p_max (idx := 284) (tblG_of 2041 (by decide +kernel) (by decide +kernel)) (Nat.le_of_ble_eq_true rfl) (Nat.le_of_ble_eq_true rfl) (by decide +kernel)) ?_
          refine r_letI fun v14 => ?_
          refine r_p (pc' := 61) (p_istore_n (k := 3) (lv' := [(3, vi v14), (0, vr a0), (1, vi a1), (4, vi x6.2)]) (by decide +kernel) (Nat.le_of_ble_eq_true rfl) rfl) ?_
          refine r_p (pc' := 64) (p_iinc 3 (i := 4) (n := 1) (x := x6.2) (v := x6.2 + 1) (lv' := [(4, vi (x6.2 + 1)), (3, vi v14), (0, vr a0), (1, vi a1)]) (by decide +kernel) rfl rfl (Nat.le_of_ble_eq_true rfl) rfl) ?_
          refine r_p (pc' := 35) (p_goto (off := -29) (tgt := 35) (by decide +kernel) (by decide)) ?_
          refine r_sub (lv' := [(0, vr a0), (1, vi a1), (3, vi v14), (4, vi (x6.2 + 1))]) [2, 3, 1, 0] rfl ?_
          exact hb8 (v14, x6.2 + 1) _
  · refine r_p (pc' := 19) (p_iconst (n := 0) (v := 0) (by decide +kernel) rfl) ?_
    exact r_iret rfl rfl _ rfl rfl (by decide +kernel)
def aX12_harmed : StA := (RX12, cX12_harmed, 5, some .int, yX12_harmed, 9, [])
noncomputable def mX12_harmed_L34 (a0 : Nat) (a1 : Int32) (a2 : Int32) (x8 : Int32 × Int32) : MM ((Int32 × Int32) ⊕ (Int32)) :=
  mbnd (mX12_deeds a0) fun (v12 : Int32) =>
  if v12 ≤ x8.2 then (
    mret (.inr x8.1)
  ) else (
    mbnd (mX12_ofTruth a0 x8.2 0) fun (v14 : Int32) =>
    mbnd (mX12_in v14 a1 a2) fun (v15 : Int32) =>
    mbnd (α := Int32) (
      if v15 = 0 then (
        mret 0
      ) else (
        mbnd (mX12_ofTruth a0 x8.2 3) fun (v20 : Int32) =>
        mret v20
      )
    ) fun (x17 : Int32) =>
    mbnd (mret (x8.1 + x17)) fun (v21 : Int32) =>
    mret (.inl (v21, x8.2 + 1))
  )
noncomputable def mX12_harmed (a0 : Nat) (a1 : Int32) (a2 : Int32) : MM Int32 := onC 11 a0 (
  mbnd (pI 11 0 a0 0) fun _ =>
  mbnd (α := Int32) (
    if a1 < 0 then (
      mret 1
    ) else (
      if a1 ≤ a2 then (
        mret 0
      ) else (
        mret 1
      )
    )
  ) fun (x2 : Int32) =>
  mbnd (mX12_throwsIf a0 x2 1) fun (v6 : Int32) =>
  if v6 = 0 then (
    mbnd (loopM (mX12_harmed_L34 a0 a1 a2) (0, 0)) fun (e22 : Int32) =>
    mret e22
  ) else (
    mret 0
  )
  )
theorem rcX12_harmed (a0 : Nat) (a1 : Int32) (a2 : Int32) : Rcv 11 a0 (mX12_harmed a0 a1 a2) := fun s r h => ⟨(onC_some h).1, (onC_some h).2.1⟩
set_option maxHeartbeats 4000000 in
set_option maxRecDepth 100000 in
theorem ctX12_harmed (a0 : Nat) (a1 : Int32) (a2 : Int32) : Ct aX12_harmed [vr a0, vi a1, vi a2] (mX12_harmed a0 a1 a2) rI := by
  unfold mX12_harmed
  refine ct_onC (ct_intro (by decide +kernel) rfl (Nat.le_of_ble_eq_true rfl) fun Y s => ?_)
  refine r_sub (lv' := [(0, vr a0), (1, vi a1), (2, vi a2)]) [0, 1, 2] rfl ?_
  refine r_p (pc' := 1) (p_aload_n 0 (k := 0) (by decide +kernel) rfl) ?_
  refine r_p (pc' := 2) (p_iconst (n := 0) (v := 0) (by decide +kernel) rfl) ?_
  refine r_pI fpX12_3_11 (fun h => by cases h) (by decide +kernel) fun s => ?_
  refine r_p (pc' := 6) (p_aload_n 0 (k := 0) (by decide +kernel) rfl) ?_
  refine r_p (pc' := 7) (p_iload_n 1 (k := 1) (by decide +kernel) rfl) ?_
  refine r_join 20 (fun (x2 : Int32) => [(0, vr a0), (1, vi a1), (2, vi a2)]) (fun (x2 : Int32) => [vi x2, vr a0]) (fun x2 s => ?_) (fun K3 hj4 => ?_)
  · refine r_p (pc' := 21) (p_iconst (n := 1) (v := 1) (by decide +kernel) rfl) ?_
    refine r_callVI mvX12_265 (ctX12_throwsIf a0 x2 1) (rcX12_throwsIf a0 x2 1) ⟨_, _, rfl⟩ (as := [vi x2, vi 1]) (st := []) rfl rfl (by decide +kernel) rfl (Nat.le_of_ble_eq_true rfl) (Nat.le_of_ble_eq_true rfl) fun v6 s => ?_
    refine r_ifeq (off := 5) (tgt := 29) (by decide +kernel) (by decide) (fun h7 => ?_) (fun h7 => ?_)
    · refine r_p (pc' := 30) (p_iconst (n := 0) (v := 0) (by decide +kernel) rfl) ?_
      refine r_p (pc' := 31) (p_istore_n (k := 3) (lv' := [(3, vi 0), (0, vr a0), (1, vi a1), (2, vi a2)]) (by decide +kernel) (Nat.le_of_ble_eq_true rfl) rfl) ?_
      refine r_p (pc' := 32) (p_iconst (n := 0) (v := 0) (by decide +kernel) rfl) ?_
      refine r_p (pc' := 34) (p_istore (i := 4) (lv' := [(4, vi 0), (3, vi 0), (0, vr a0), (1, vi a1), (2, vi a2)]) (by decide +kernel) (Nat.le_of_ble_eq_true rfl) rfl) ?_
      refine r_sub (lv' := [(0, vr a0), (1, vi a1), (2, vi a2), (3, vi 0), (4, vi 0)]) [2, 3, 4, 1, 0] rfl ?_
      refine r_loop2 (fun _ => 78) (fun (e22 : Int32) => [(3, vi e22)]) (fun (x8 : Int32 × Int32) => [(0, vr a0), (1, vi a1), (2, vi a2), (3, vi x8.1), (4, vi x8.2)]) (fun e22 s => ?_) (fun K9 hb10 he11 x8 s => ?_) (0, 0) _
      · refine r_p (pc' := 79) (p_iload_n 0 (k := 3) (by decide +kernel) rfl) ?_
        exact r_iret rfl rfl _ rfl rfl (by decide +kernel)
      · unfold mX12_harmed_L34
        refine r_p (pc' := 36) (p_iload 4 (i := 4) (by decide +kernel) rfl) ?_
        refine r_p (pc' := 37) (p_aload_n 0 (k := 0) (by decide +kernel) rfl) ?_
        refine r_callVI mvX12_325 (ctX12_deeds a0) (rcX12_deeds a0) ⟨_, _, rfl⟩ (as := []) (st := [vi x8.2]) rfl rfl (by decide +kernel) rfl (Nat.le_of_ble_eq_true rfl) (Nat.le_of_ble_eq_true rfl) fun v12 s => ?_
        refine r_icmpge (off := 38) (tgt := 78) (by decide +kernel) (by decide) (fun h13 => ?_) (fun h13 => ?_)
        · refine r_sub (lv' := [(3, vi x8.1)]) [3] rfl ?_
          exact he11 x8.1 _
        · refine r_p (pc' := 44) (p_iload_n 3 (k := 3) (by decide +kernel) rfl) ?_
          refine r_p (pc' := 45) (p_aload_n 0 (k := 0) (by decide +kernel) rfl) ?_
          refine r_p (pc' := 47) (p_iload 4 (i := 4) (by decide +kernel) rfl) ?_
          refine r_p (pc' := 48) (p_iconst (n := 0) (v := 0) (by decide +kernel) rfl) ?_
          refine r_callVI mvX12_328 (ctX12_ofTruth a0 x8.2 0) (rcX12_ofTruth a0 x8.2 0) ⟨_, _, rfl⟩ (as := [vi x8.2, vi 0]) (st := [vi x8.1]) rfl rfl (by decide +kernel) rfl (Nat.le_of_ble_eq_true rfl) (Nat.le_of_ble_eq_true rfl) fun v14 s => ?_
          refine r_p (pc' := 52) (p_iload_n 1 (k := 1) (by decide +kernel) rfl) ?_
          refine r_p (pc' := 53) (p_iload_n 2 (k := 2) (by decide +kernel) rfl) ?_
          refine r_callSI msX12_72 (ctX12_in v14 a1 a2) (as := [vi v14, vi a1, vi a2]) (st := [vi x8.1]) rfl rfl (by decide +kernel) rfl (Nat.le_of_ble_eq_true rfl) (Nat.le_of_ble_eq_true rfl) fun v15 s => ?_
          refine r_join 70 (fun (x17 : Int32) => [(0, vr a0), (1, vi a1), (2, vi a2), (4, vi x8.2)]) (fun (x17 : Int32) => [vi x17, vi x8.1]) (fun x17 s => ?_) (fun K18 hj19 => ?_)
          · refine r_p (pc' := 71) (p_iadd (by decide +kernel)) ?_
            refine r_letI fun v21 => ?_
            refine r_p (pc' := 72) (p_istore_n (k := 3) (lv' := [(3, vi v21), (0, vr a0), (1, vi a1), (2, vi a2), (4, vi x8.2)]) (by decide +kernel) (Nat.le_of_ble_eq_true rfl) rfl) ?_
            refine r_p (pc' := 75) (p_iinc 4 (i := 4) (n := 1) (x := x8.2) (v := x8.2 + 1) (lv' := [(4, vi (x8.2 + 1)), (3, vi v21), (0, vr a0), (1, vi a1), (2, vi a2)]) (by decide +kernel) rfl rfl (Nat.le_of_ble_eq_true rfl) rfl) ?_
            refine r_p (pc' := 34) (p_goto (off := -41) (tgt := 34) (by decide +kernel) (by decide)) ?_
            refine r_sub (lv' := [(0, vr a0), (1, vi a1), (2, vi a2), (3, vi v21), (4, vi (x8.2 + 1))]) [2, 3, 4, 1, 0] rfl ?_
            exact hb10 (v21, x8.2 + 1) _
          · refine r_ifeq (off := 13) (tgt := 69) (by decide +kernel) (by decide) (fun h16 => ?_) (fun h16 => ?_)
            · refine r_p (pc' := 70) (p_iconst (n := 0) (v := 0) (by decide +kernel) rfl) ?_
              refine r_sub (lv' := [(0, vr a0), (1, vi a1), (2, vi a2), (4, vi x8.2)]) [0, 1, 2, 4] rfl ?_
              exact hj19 0 _
            · refine r_p (pc' := 60) (p_aload_n 0 (k := 0) (by decide +kernel) rfl) ?_
              refine r_p (pc' := 62) (p_iload 4 (i := 4) (by decide +kernel) rfl) ?_
              refine r_p (pc' := 63) (p_iconst (n := 3) (v := 3) (by decide +kernel) rfl) ?_
              refine r_callVI mvX12_328 (ctX12_ofTruth a0 x8.2 3) (rcX12_ofTruth a0 x8.2 3) ⟨_, _, rfl⟩ (as := [vi x8.2, vi 3]) (st := [vi x8.1]) rfl rfl (by decide +kernel) rfl (Nat.le_of_ble_eq_true rfl) (Nat.le_of_ble_eq_true rfl) fun v20 s => ?_
              refine r_p (pc' := 70) (p_goto (off := 4) (tgt := 70) (by decide +kernel) (by decide)) ?_
              refine r_sub (lv' := [(0, vr a0), (1, vi a1), (2, vi a2), (4, vi x8.2)]) [0, 1, 2, 4] rfl ?_
              exact hj19 v20 _
    · refine r_p (pc' := 28) (p_iconst (n := 0) (v := 0) (by decide +kernel) rfl) ?_
      exact r_iret rfl rfl _ rfl rfl (by decide +kernel)
  · refine r_iflt (off := 8) (tgt := 15) (by decide +kernel) (by decide) (fun h1 => ?_) (fun h1 => ?_)
    · refine r_p (pc' := 16) (p_iconst (n := 1) (v := 1) (by decide +kernel) rfl) ?_
      refine r_p (pc' := 20) (p_goto (off := 4) (tgt := 20) (by decide +kernel) (by decide)) ?_
      exact hj4 1 _
    · refine r_p (pc' := 11) (p_iload_n 1 (k := 1) (by decide +kernel) rfl) ?_
      refine r_p (pc' := 12) (p_iload_n 2 (k := 2) (by decide +kernel) rfl) ?_
      refine r_icmple (off := 7) (tgt := 19) (by decide +kernel) (by decide) (fun h5 => ?_) (fun h5 => ?_)
      · refine r_p (pc' := 20) (p_iconst (n := 0) (v := 0) (by decide +kernel) rfl) ?_
        exact hj4 0 _
      · refine r_p (pc' := 16) (p_iconst (n := 1) (v := 1) (by decide +kernel) rfl) ?_
        refine r_p (pc' := 20) (p_goto (off := 4) (tgt := 20) (by decide +kernel) (by decide)) ?_
        exact hj4 1 _
def aX12_truth : StA := (RX12, cX12_truth, 3, some .int, yX12_truth, 9, [])
noncomputable def mX12_truth (a0 : Nat) (a1 : Int32) (a2 : Int32) : MM Int32 := onC 11 a0 (
  mbnd (pI 11 0 a0 0) fun _ =>
  mbnd (mX12_deeds a0) fun (v1 : Int32) =>
  mbnd (mX12_in a1 0 (v1 - 1)) fun (v2 : Int32) =>
  mbnd (α := Int32) (
    if v2 = 0 then (
      mret 1
    ) else (
      mret 0
    )
  ) fun (x4 : Int32) =>
  mbnd (mX12_throwsIf a0 x4 1) fun (v7 : Int32) =>
  if v7 = 0 then (
    mbnd (mX12_in a2 0 6) fun (v9 : Int32) =>
    mbnd (α := Int32) (
      if v9 = 0 then (
        mret 1
      ) else (
        mret 0
      )
    ) fun (x11 : Int32) =>
    mbnd (mX12_throwsIf a0 x11 2) fun (v14 : Int32) =>
    if v14 = 0 then (
      mbnd (mX12_ofTruth a0 a1 a2) fun (v16 : Int32) =>
      mret v16
    ) else (
      mret 0
    )
  ) else (
    mret 0
  )
  )
theorem rcX12_truth (a0 : Nat) (a1 : Int32) (a2 : Int32) : Rcv 11 a0 (mX12_truth a0 a1 a2) := fun s r h => ⟨(onC_some h).1, (onC_some h).2.1⟩
set_option maxHeartbeats 4000000 in
set_option maxRecDepth 100000 in
theorem ctX12_truth (a0 : Nat) (a1 : Int32) (a2 : Int32) : Ct aX12_truth [vr a0, vi a1, vi a2] (mX12_truth a0 a1 a2) rI := by
  unfold mX12_truth
  refine ct_onC (ct_intro (by decide +kernel) rfl (Nat.le_of_ble_eq_true rfl) fun Y s => ?_)
  refine r_sub (lv' := [(0, vr a0), (1, vi a1), (2, vi a2)]) [0, 1, 2] rfl ?_
  refine r_p (pc' := 1) (p_aload_n 0 (k := 0) (by decide +kernel) rfl) ?_
  refine r_p (pc' := 2) (p_iconst (n := 0) (v := 0) (by decide +kernel) rfl) ?_
  refine r_pI fpX12_3_11 (fun h => by cases h) (by decide +kernel) fun s => ?_
  refine r_p (pc' := 6) (p_aload_n 0 (k := 0) (by decide +kernel) rfl) ?_
  refine r_p (pc' := 7) (p_iload_n 1 (k := 1) (by decide +kernel) rfl) ?_
  refine r_p (pc' := 8) (p_iconst (n := 0) (v := 0) (by decide +kernel) rfl) ?_
  refine r_p (pc' := 9) (p_aload_n 0 (k := 0) (by decide +kernel) rfl) ?_
  refine r_callVI mvX12_325 (ctX12_deeds a0) (rcX12_deeds a0) ⟨_, _, rfl⟩ (as := []) (st := [vi 0, vi a1, vr a0]) rfl rfl (by decide +kernel) rfl (Nat.le_of_ble_eq_true rfl) (Nat.le_of_ble_eq_true rfl) fun v1 s => ?_
  refine r_p (pc' := 13) (p_iconst (n := 1) (v := 1) (by decide +kernel) rfl) ?_
  refine r_p (pc' := 14) (p_isub (by decide +kernel)) ?_
  refine r_callSI msX12_72 (ctX12_in a1 0 (v1 - 1)) (as := [vi a1, vi 0, vi (v1 - 1)]) (st := [vr a0]) rfl rfl (by decide +kernel) rfl (Nat.le_of_ble_eq_true rfl) (Nat.le_of_ble_eq_true rfl) fun v2 s => ?_
  refine r_join 25 (fun (x4 : Int32) => [(0, vr a0), (1, vi a1), (2, vi a2)]) (fun (x4 : Int32) => [vi x4, vr a0]) (fun x4 s => ?_) (fun K5 hj6 => ?_)
  · refine r_p (pc' := 26) (p_iconst (n := 1) (v := 1) (by decide +kernel) rfl) ?_
    refine r_callVI mvX12_265 (ctX12_throwsIf a0 x4 1) (rcX12_throwsIf a0 x4 1) ⟨_, _, rfl⟩ (as := [vi x4, vi 1]) (st := []) rfl rfl (by decide +kernel) rfl (Nat.le_of_ble_eq_true rfl) (Nat.le_of_ble_eq_true rfl) fun v7 s => ?_
    refine r_ifne (off := 26) (tgt := 55) (by decide +kernel) (by decide) (fun h8 => ?_) (fun h8 => ?_)
    · refine r_p (pc' := 33) (p_aload_n 0 (k := 0) (by decide +kernel) rfl) ?_
      refine r_p (pc' := 34) (p_iload_n 2 (k := 2) (by decide +kernel) rfl) ?_
      refine r_p (pc' := 35) (p_iconst (n := 0) (v := 0) (by decide +kernel) rfl) ?_
      refine r_p (pc' := 37) (p_bipush (n := 6) (v := 6) (by decide +kernel) (by decide +kernel)) ?_
      refine r_callSI msX12_72 (ctX12_in a2 0 6) (as := [vi a2, vi 0, vi 6]) (st := [vr a0]) rfl rfl (by decide +kernel) rfl (Nat.le_of_ble_eq_true rfl) (Nat.le_of_ble_eq_true rfl) fun v9 s => ?_
      refine r_join 48 (fun (x11 : Int32) => [(0, vr a0), (1, vi a1), (2, vi a2)]) (fun (x11 : Int32) => [vi x11, vr a0]) (fun x11 s => ?_) (fun K12 hj13 => ?_)
      · refine r_p (pc' := 49) (p_iconst (n := 2) (v := 2) (by decide +kernel) rfl) ?_
        refine r_callVI mvX12_265 (ctX12_throwsIf a0 x11 2) (rcX12_throwsIf a0 x11 2) ⟨_, _, rfl⟩ (as := [vi x11, vi 2]) (st := []) rfl rfl (by decide +kernel) rfl (Nat.le_of_ble_eq_true rfl) (Nat.le_of_ble_eq_true rfl) fun v14 s => ?_
        refine r_ifeq (off := 7) (tgt := 59) (by decide +kernel) (by decide) (fun h15 => ?_) (fun h15 => ?_)
        · refine r_p (pc' := 60) (p_aload_n 0 (k := 0) (by decide +kernel) rfl) ?_
          refine r_p (pc' := 61) (p_iload_n 1 (k := 1) (by decide +kernel) rfl) ?_
          refine r_p (pc' := 62) (p_iload_n 2 (k := 2) (by decide +kernel) rfl) ?_
          refine r_callVI mvX12_328 (ctX12_ofTruth a0 a1 a2) (rcX12_ofTruth a0 a1 a2) ⟨_, _, rfl⟩ (as := [vi a1, vi a2]) (st := []) rfl rfl (by decide +kernel) rfl (Nat.le_of_ble_eq_true rfl) (Nat.le_of_ble_eq_true rfl) fun v16 s => ?_
          exact r_iret rfl rfl _ rfl rfl (by decide +kernel)
        · refine r_p (pc' := 56) (p_iconst (n := 0) (v := 0) (by decide +kernel) rfl) ?_
          refine r_p (pc' := 65) (p_goto (off := 9) (tgt := 65) (by decide +kernel) (by decide)) ?_
          exact r_iret rfl rfl _ rfl rfl (by decide +kernel)
      · refine r_ifne (off := 7) (tgt := 47) (by decide +kernel) (by decide) (fun h10 => ?_) (fun h10 => ?_)
        · refine r_p (pc' := 44) (p_iconst (n := 1) (v := 1) (by decide +kernel) rfl) ?_
          refine r_p (pc' := 48) (p_goto (off := 4) (tgt := 48) (by decide +kernel) (by decide)) ?_
          exact hj13 1 _
        · refine r_p (pc' := 48) (p_iconst (n := 0) (v := 0) (by decide +kernel) rfl) ?_
          exact hj13 0 _
    · refine r_p (pc' := 56) (p_iconst (n := 0) (v := 0) (by decide +kernel) rfl) ?_
      refine r_p (pc' := 65) (p_goto (off := 9) (tgt := 65) (by decide +kernel) (by decide)) ?_
      exact r_iret rfl rfl _ rfl rfl (by decide +kernel)
  · refine r_ifne (off := 7) (tgt := 24) (by decide +kernel) (by decide) (fun h3 => ?_) (fun h3 => ?_)
    · refine r_p (pc' := 21) (p_iconst (n := 1) (v := 1) (by decide +kernel) rfl) ?_
      refine r_p (pc' := 25) (p_goto (off := 4) (tgt := 25) (by decide +kernel) (by decide)) ?_
      exact hj6 1 _
    · refine r_p (pc' := 25) (p_iconst (n := 0) (v := 0) (by decide +kernel) rfl) ?_
      exact hj6 0 _
def aX12_keepsAll : StA := (RX12, cX12_keepsAll, 2, none, yX12_keepsAll, 8, [])
theorem flX12_23_11 : FL RX12 23 11 4 := ⟨_, TX12, 27, "ToolCourtModel", rfl, by decide, Or.inl (tblG_of 1669 (by decide +kernel) (by decide +kernel)), Or.inl rfl⟩
noncomputable def mX12_keepsAll_L2 (a0 : Nat) (x1 : Int32) : MM ((Int32) ⊕ (Unit)) :=
  if 1071 ≤ x1 then (
    mret (.inr ())
  ) else (
    mbnd (gR 11 4 a0) fun (v6 : Nat) =>
    mbnd (gR 11 1 a0) fun (v7 : Nat) =>
    mbnd (ldI 0 v7 x1) fun (v8 : Int32) =>
    mbnd (stI 0 v6 x1 v8) fun _ =>
    mret (.inl (x1 + 1))
  )
noncomputable def mX12_keepsAll (a0 : Nat) : MM Unit := onC 11 a0 (
  mbnd (loopM (mX12_keepsAll_L2 a0) 0) fun (e9 : Unit) =>
  mret ()
  )
theorem rcX12_keepsAll (a0 : Nat) : Rcv 11 a0 (mX12_keepsAll a0) := fun s r h => ⟨(onC_some h).1, (onC_some h).2.1⟩
set_option maxHeartbeats 4000000 in
set_option maxRecDepth 100000 in
theorem ctX12_keepsAll (a0 : Nat) : Ct aX12_keepsAll [vr a0] (mX12_keepsAll a0) rU := by
  unfold mX12_keepsAll
  refine ct_onC (ct_intro (by decide +kernel) rfl (Nat.le_of_ble_eq_true rfl) fun Y s => ?_)
  refine r_sub (lv' := [(0, vr a0)]) [0] rfl ?_
  refine r_p (pc' := 1) (p_iconst (n := 0) (v := 0) (by decide +kernel) rfl) ?_
  refine r_p (pc' := 2) (p_istore_n (k := 1) (lv' := [(1, vi 0), (0, vr a0)]) (by decide +kernel) (Nat.le_of_ble_eq_true rfl) rfl) ?_
  refine r_sub (lv' := [(0, vr a0), (1, vi 0)]) [1, 0] rfl ?_
  refine r_loop2 (fun _ => 27) (fun (e9 : Unit) => []) (fun (x1 : Int32) => [(0, vr a0), (1, vi x1)]) (fun e9 s => ?_) (fun K2 hb3 he4 x1 s => ?_) 0 _
  · exact r_vret (y9 := ()) rfl rfl rfl (by decide +kernel)
  · unfold mX12_keepsAll_L2
    refine r_p (pc' := 3) (p_iload_n 1 (k := 1) (by decide +kernel) rfl) ?_
    refine r_p (pc' := 6) (p_sipush (n := 1071) (v := 1071) (by decide +kernel) (by decide +kernel)) ?_
    refine r_icmpge (off := 21) (tgt := 27) (by decide +kernel) (by decide) (fun h5 => ?_) (fun h5 => ?_)
    · refine r_sub (lv' := []) [] rfl ?_
      exact he4 () _
    · refine r_p (pc' := 10) (p_aload_n 0 (k := 0) (by decide +kernel) rfl) ?_
      refine r_gR flX12_23_11 (by decide +kernel) fun v6 => ?_
      refine r_p (pc' := 14) (p_iload_n 1 (k := 1) (by decide +kernel) rfl) ?_
      refine r_p (pc' := 15) (p_aload_n 0 (k := 0) (by decide +kernel) rfl) ?_
      refine r_gR flX12_13_11 (by decide +kernel) fun v7 => ?_
      refine r_p (pc' := 19) (p_iload_n 1 (k := 1) (by decide +kernel) rfl) ?_
      refine r_ldI0 (by decide +kernel) fun v8 => ?_
      refine r_stI0 (by decide +kernel) fun s => ?_
      refine r_p (pc' := 24) (p_iinc 1 (i := 1) (n := 1) (x := x1) (v := x1 + 1) (lv' := [(1, vi (x1 + 1)), (0, vr a0)]) (by decide +kernel) rfl rfl (Nat.le_of_ble_eq_true rfl) rfl) ?_
      refine r_p (pc' := 2) (p_goto (off := -22) (tgt := 2) (by decide +kernel) (by decide)) ?_
      refine r_sub (lv' := [(0, vr a0), (1, vi (x1 + 1))]) [1, 0] rfl ?_
      exact hb3 (x1 + 1) _
def aX12_tries : StA := (RX12, cX12_tries, 4, some .int, yX12_tries, 13, [])
noncomputable def mX12_tries_L2 (a0 : Nat) (a1 : Int32) (x1 : Int32) : MM ((Int32) ⊕ (Unit)) :=
  if a1 ≤ x1 then (
    mret (.inr ())
  ) else (
    mbnd (mX12_oneDay a0) fun _ =>
    mret (.inl (x1 + 1))
  )
noncomputable def mX12_tries_L24 (a0 : Nat) (x8 : Int32) : MM ((Int32) ⊕ (Unit)) :=
  if 1071 ≤ x8 then (
    mret (.inr ())
  ) else (
    mbnd (gR 11 1 a0) fun (v13 : Nat) =>
    mbnd (gR 11 4 a0) fun (v14 : Nat) =>
    mbnd (ldI 0 v14 x8) fun (v15 : Int32) =>
    mbnd (stI 0 v13 x8 v15) fun _ =>
    mret (.inl (x8 + 1))
  )
noncomputable def mX12_tries (a0 : Nat) (a1 : Int32) : MM Int32 := onC 11 a0 (
  mbnd (loopM (mX12_tries_L2 a0 a1) 0) fun (e6 : Unit) =>
  mbnd (mX12_headsWear a0) fun (v7 : Int32) =>
  mbnd (loopM (mX12_tries_L24 a0) 0) fun (e16 : Unit) =>
  mret v7
  )
theorem rcX12_tries (a0 : Nat) (a1 : Int32) : Rcv 11 a0 (mX12_tries a0 a1) := fun s r h => ⟨(onC_some h).1, (onC_some h).2.1⟩
set_option maxHeartbeats 4000000 in
set_option maxRecDepth 100000 in
theorem ctX12_tries (a0 : Nat) (a1 : Int32) : Ct aX12_tries [vr a0, vi a1] (mX12_tries a0 a1) rI := by
  unfold mX12_tries
  refine ct_onC (ct_intro (by decide +kernel) rfl (Nat.le_of_ble_eq_true rfl) fun Y s => ?_)
  refine r_sub (lv' := [(0, vr a0), (1, vi a1)]) [0, 1] rfl ?_
  refine r_p (pc' := 1) (p_iconst (n := 0) (v := 0) (by decide +kernel) rfl) ?_
  refine r_p (pc' := 2) (p_istore_n (k := 2) (lv' := [(2, vi 0), (0, vr a0), (1, vi a1)]) (by decide +kernel) (Nat.le_of_ble_eq_true rfl) rfl) ?_
  refine r_sub (lv' := [(0, vr a0), (1, vi a1), (2, vi 0)]) [1, 2, 0] rfl ?_
  refine r_loop2 (fun _ => 17) (fun (e6 : Unit) => [(0, vr a0)]) (fun (x1 : Int32) => [(0, vr a0), (1, vi a1), (2, vi x1)]) (fun e6 s => ?_) (fun K2 hb3 he4 x1 s => ?_) 0 _
  · refine r_p (pc' := 18) (p_aload_n 0 (k := 0) (by decide +kernel) rfl) ?_
    refine r_callVI mvX12_379 (ctX12_headsWear a0) (rcX12_headsWear a0) ⟨_, _, rfl⟩ (as := []) (st := []) rfl rfl (by decide +kernel) rfl (Nat.le_of_ble_eq_true rfl) (Nat.le_of_ble_eq_true rfl) fun v7 s => ?_
    refine r_p (pc' := 22) (p_istore_n (k := 2) (lv' := [(2, vi v7), (0, vr a0)]) (by decide +kernel) (Nat.le_of_ble_eq_true rfl) rfl) ?_
    refine r_p (pc' := 23) (p_iconst (n := 0) (v := 0) (by decide +kernel) rfl) ?_
    refine r_p (pc' := 24) (p_istore_n (k := 3) (lv' := [(3, vi 0), (2, vi v7), (0, vr a0)]) (by decide +kernel) (Nat.le_of_ble_eq_true rfl) rfl) ?_
    refine r_sub (lv' := [(0, vr a0), (2, vi v7), (3, vi 0)]) [2, 1, 0] rfl ?_
    refine r_loop2 (fun _ => 49) (fun (e16 : Unit) => [(2, vi v7)]) (fun (x8 : Int32) => [(0, vr a0), (2, vi v7), (3, vi x8)]) (fun e16 s => ?_) (fun K9 hb10 he11 x8 s => ?_) 0 _
    · refine r_p (pc' := 50) (p_iload_n 0 (k := 2) (by decide +kernel) rfl) ?_
      exact r_iret rfl rfl _ rfl rfl (by decide +kernel)
    · unfold mX12_tries_L24
      refine r_p (pc' := 25) (p_iload_n 2 (k := 3) (by decide +kernel) rfl) ?_
      refine r_p (pc' := 28) (p_sipush (n := 1071) (v := 1071) (by decide +kernel) (by decide +kernel)) ?_
      refine r_icmpge (off := 21) (tgt := 49) (by decide +kernel) (by decide) (fun h12 => ?_) (fun h12 => ?_)
      · refine r_sub (lv' := [(2, vi v7)]) [1] rfl ?_
        exact he11 () _
      · refine r_p (pc' := 32) (p_aload_n 0 (k := 0) (by decide +kernel) rfl) ?_
        refine r_gR flX12_13_11 (by decide +kernel) fun v13 => ?_
        refine r_p (pc' := 36) (p_iload_n 2 (k := 3) (by decide +kernel) rfl) ?_
        refine r_p (pc' := 37) (p_aload_n 0 (k := 0) (by decide +kernel) rfl) ?_
        refine r_gR flX12_23_11 (by decide +kernel) fun v14 => ?_
        refine r_p (pc' := 41) (p_iload_n 2 (k := 3) (by decide +kernel) rfl) ?_
        refine r_ldI0 (by decide +kernel) fun v15 => ?_
        refine r_stI0 (by decide +kernel) fun s => ?_
        refine r_p (pc' := 46) (p_iinc 2 (i := 3) (n := 1) (x := x8) (v := x8 + 1) (lv' := [(3, vi (x8 + 1)), (0, vr a0), (2, vi v7)]) (by decide +kernel) rfl rfl (Nat.le_of_ble_eq_true rfl) rfl) ?_
        refine r_p (pc' := 24) (p_goto (off := -22) (tgt := 24) (by decide +kernel) (by decide)) ?_
        refine r_sub (lv' := [(0, vr a0), (2, vi v7), (3, vi (x8 + 1))]) [1, 2, 0] rfl ?_
        exact hb10 (x8 + 1) _
  · unfold mX12_tries_L2
    refine r_p (pc' := 3) (p_iload_n 2 (k := 2) (by decide +kernel) rfl) ?_
    refine r_p (pc' := 4) (p_iload_n 1 (k := 1) (by decide +kernel) rfl) ?_
    refine r_icmpge (off := 13) (tgt := 17) (by decide +kernel) (by decide) (fun h5 => ?_) (fun h5 => ?_)
    · refine r_sub (lv' := [(0, vr a0)]) [0] rfl ?_
      exact he4 () _
    · refine r_p (pc' := 8) (p_aload_n 0 (k := 0) (by decide +kernel) rfl) ?_
      refine r_callVU mvX12_382 (ctX12_oneDay a0) (rcX12_oneDay a0) ⟨_, _, rfl⟩ (as := []) (st := []) rfl rfl (by decide +kernel) rfl (Nat.le_of_ble_eq_true rfl) (Nat.le_of_ble_eq_true rfl) fun s => ?_
      refine r_p (pc' := 14) (p_iinc 2 (i := 2) (n := 1) (x := x1) (v := x1 + 1) (lv' := [(2, vi (x1 + 1)), (0, vr a0), (1, vi a1)]) (by decide +kernel) rfl rfl (Nat.le_of_ble_eq_true rfl) rfl) ?_
      refine r_p (pc' := 2) (p_goto (off := -12) (tgt := 2) (by decide +kernel) (by decide)) ?_
      refine r_sub (lv' := [(0, vr a0), (1, vi a1), (2, vi (x1 + 1))]) [1, 2, 0] rfl ?_
      exact hb3 (x1 + 1) _
def aX12_trial : StA := (RX12, cX12_trial, 2, some .int, yX12_trial, 14, [])
theorem mvX12_460 : MV RX12 460 aX12_keepsAll 0 := ⟨tblG_of 2302 (by decide +kernel) (by decide +kernel), tblG_of 2304 (by decide +kernel) (by decide +kernel), tblG_of 137 (by decide +kernel) (by decide +kernel), tblG_of 157 (by decide +kernel) (by decide +kernel), tblG_of 2305 (by decide +kernel) (by decide +kernel), rfl, ⟨by decide, by decide⟩, by decide +kernel, by decide⟩
theorem mvX12_463 : MV RX12 463 aX12_tries 1 := ⟨tblG_of 2306 (by decide +kernel) (by decide +kernel), tblG_of 2308 (by decide +kernel) (by decide +kernel), tblG_of 138 (by decide +kernel) (by decide +kernel), tblG_of 157 (by decide +kernel) (by decide +kernel), tblG_of 2309 (by decide +kernel) (by decide +kernel), rfl, ⟨by decide, by decide⟩, by decide +kernel, by decide⟩
noncomputable def mX12_trial (a0 : Nat) (a1 : Int32) : MM Int32 := onC 11 a0 (
  mbnd (pI 11 0 a0 0) fun _ =>
  mbnd (mX12_in a1 0 60) fun (v1 : Int32) =>
  mbnd (α := Int32) (
    if v1 = 0 then (
      mret 1
    ) else (
      mret 0
    )
  ) fun (x3 : Int32) =>
  mbnd (mX12_throwsIf a0 x3 1) fun (v6 : Int32) =>
  if v6 = 0 then (
    mbnd (mX12_keepsAll a0) fun _ =>
    mbnd (mX12_tries a0 a1) fun (v8 : Int32) =>
    mret v8
  ) else (
    mret 0
  )
  )
theorem rcX12_trial (a0 : Nat) (a1 : Int32) : Rcv 11 a0 (mX12_trial a0 a1) := fun s r h => ⟨(onC_some h).1, (onC_some h).2.1⟩
set_option maxHeartbeats 4000000 in
set_option maxRecDepth 100000 in
theorem ctX12_trial (a0 : Nat) (a1 : Int32) : Ct aX12_trial [vr a0, vi a1] (mX12_trial a0 a1) rI := by
  unfold mX12_trial
  refine ct_onC (ct_intro (by decide +kernel) rfl (Nat.le_of_ble_eq_true rfl) fun Y s => ?_)
  refine r_sub (lv' := [(0, vr a0), (1, vi a1)]) [0, 1] rfl ?_
  refine r_p (pc' := 1) (p_aload_n 0 (k := 0) (by decide +kernel) rfl) ?_
  refine r_p (pc' := 2) (p_iconst (n := 0) (v := 0) (by decide +kernel) rfl) ?_
  refine r_pI fpX12_3_11 (fun h => by cases h) (by decide +kernel) fun s => ?_
  refine r_p (pc' := 6) (p_aload_n 0 (k := 0) (by decide +kernel) rfl) ?_
  refine r_p (pc' := 7) (p_iload_n 1 (k := 1) (by decide +kernel) rfl) ?_
  refine r_p (pc' := 8) (p_iconst (n := 0) (v := 0) (by decide +kernel) rfl) ?_
  refine r_p (pc' := 10) (p_bipush (n := 60) (v := 60) (by decide +kernel) (by decide +kernel)) ?_
  refine r_callSI msX12_72 (ctX12_in a1 0 60) (as := [vi a1, vi 0, vi 60]) (st := [vr a0]) rfl rfl (by decide +kernel) rfl (Nat.le_of_ble_eq_true rfl) (Nat.le_of_ble_eq_true rfl) fun v1 s => ?_
  refine r_join 21 (fun (x3 : Int32) => [(0, vr a0), (1, vi a1)]) (fun (x3 : Int32) => [vi x3, vr a0]) (fun x3 s => ?_) (fun K4 hj5 => ?_)
  · refine r_p (pc' := 22) (p_iconst (n := 1) (v := 1) (by decide +kernel) rfl) ?_
    refine r_callVI mvX12_265 (ctX12_throwsIf a0 x3 1) (rcX12_throwsIf a0 x3 1) ⟨_, _, rfl⟩ (as := [vi x3, vi 1]) (st := []) rfl rfl (by decide +kernel) rfl (Nat.le_of_ble_eq_true rfl) (Nat.le_of_ble_eq_true rfl) fun v6 s => ?_
    refine r_ifeq (off := 5) (tgt := 30) (by decide +kernel) (by decide) (fun h7 => ?_) (fun h7 => ?_)
    · refine r_p (pc' := 31) (p_aload_n 0 (k := 0) (by decide +kernel) rfl) ?_
      refine r_callVU mvX12_460 (ctX12_keepsAll a0) (rcX12_keepsAll a0) ⟨_, _, rfl⟩ (as := []) (st := []) rfl rfl (by decide +kernel) rfl (Nat.le_of_ble_eq_true rfl) (Nat.le_of_ble_eq_true rfl) fun s => ?_
      refine r_p (pc' := 35) (p_aload_n 0 (k := 0) (by decide +kernel) rfl) ?_
      refine r_p (pc' := 36) (p_iload_n 1 (k := 1) (by decide +kernel) rfl) ?_
      refine r_callVI mvX12_463 (ctX12_tries a0 a1) (rcX12_tries a0 a1) ⟨_, _, rfl⟩ (as := [vi a1]) (st := []) rfl rfl (by decide +kernel) rfl (Nat.le_of_ble_eq_true rfl) (Nat.le_of_ble_eq_true rfl) fun v8 s => ?_
      exact r_iret rfl rfl _ rfl rfl (by decide +kernel)
    · refine r_p (pc' := 29) (p_iconst (n := 0) (v := 0) (by decide +kernel) rfl) ?_
      exact r_iret rfl rfl _ rfl rfl (by decide +kernel)
  · refine r_ifne (off := 7) (tgt := 20) (by decide +kernel) (by decide) (fun h2 => ?_) (fun h2 => ?_)
    · refine r_p (pc' := 17) (p_iconst (n := 1) (v := 1) (by decide +kernel) rfl) ?_
      refine r_p (pc' := 21) (p_goto (off := 4) (tgt := 21) (by decide +kernel) (by decide)) ?_
      exact hj5 1 _
    · refine r_p (pc' := 21) (p_iconst (n := 0) (v := 0) (by decide +kernel) rfl) ?_
      exact hj5 0 _
def aX12_span : StA := (RX12, cX12_span, 6, some .int, yX12_span, 14, [])
noncomputable def mX12_span_L39 (a0 : Nat) (a1 : Int32) (a2 : Int32) (x8 : Int32 × Int32) : MM ((Int32 × Int32) ⊕ (Int32)) :=
  if 6 < x8.2 then (
    mret (.inr x8.1)
  ) else (
    mbnd (gR 11 1 a0) fun (v13 : Nat) =>
    mbnd (stI 0 v13 12 x8.2) fun _ =>
    mbnd (mX12_tries a0 a1) fun (v14 : Int32) =>
    mbnd (α := Int32) (
      if 0 ≤ x8.1 then (
        if a2 = 0 then (
          mret (imin x8.1 v14)
        ) else (
          mret (imax x8.1 v14)
        )
      ) else (
        mret v14
      )
    ) fun (x16 : Int32) =>
    mret (.inl (x16, x8.2 + 1))
  )
noncomputable def mX12_span (a0 : Nat) (a1 : Int32) (a2 : Int32) : MM Int32 := onC 11 a0 (
  mbnd (pI 11 0 a0 0) fun _ =>
  mbnd (mX12_in a1 0 60) fun (v1 : Int32) =>
  mbnd (α := Int32) (
    if v1 = 0 then (
      mret 1
    ) else (
      mret 0
    )
  ) fun (x3 : Int32) =>
  mbnd (mX12_throwsIf a0 x3 1) fun (v6 : Int32) =>
  if v6 = 0 then (
    mbnd (mX12_keepsAll a0) fun _ =>
    mbnd (loopM (mX12_span_L39 a0 a1 a2) (((-1), 1))) fun (e20 : Int32) =>
    mret e20
  ) else (
    mret 0
  )
  )
theorem rcX12_span (a0 : Nat) (a1 : Int32) (a2 : Int32) : Rcv 11 a0 (mX12_span a0 a1 a2) := fun s r h => ⟨(onC_some h).1, (onC_some h).2.1⟩
set_option maxHeartbeats 4000000 in
set_option maxRecDepth 100000 in
theorem ctX12_span (a0 : Nat) (a1 : Int32) (a2 : Int32) : Ct aX12_span [vr a0, vi a1, vi a2] (mX12_span a0 a1 a2) rI := by
  unfold mX12_span
  refine ct_onC (ct_intro (by decide +kernel) rfl (Nat.le_of_ble_eq_true rfl) fun Y s => ?_)
  refine r_sub (lv' := [(0, vr a0), (1, vi a1), (2, vi a2)]) [0, 1, 2] rfl ?_
  refine r_p (pc' := 1) (p_aload_n 0 (k := 0) (by decide +kernel) rfl) ?_
  refine r_p (pc' := 2) (p_iconst (n := 0) (v := 0) (by decide +kernel) rfl) ?_
  refine r_pI fpX12_3_11 (fun h => by cases h) (by decide +kernel) fun s => ?_
  refine r_p (pc' := 6) (p_aload_n 0 (k := 0) (by decide +kernel) rfl) ?_
  refine r_p (pc' := 7) (p_iload_n 1 (k := 1) (by decide +kernel) rfl) ?_
  refine r_p (pc' := 8) (p_iconst (n := 0) (v := 0) (by decide +kernel) rfl) ?_
  refine r_p (pc' := 10) (p_bipush (n := 60) (v := 60) (by decide +kernel) (by decide +kernel)) ?_
  refine r_callSI msX12_72 (ctX12_in a1 0 60) (as := [vi a1, vi 0, vi 60]) (st := [vr a0]) rfl rfl (by decide +kernel) rfl (Nat.le_of_ble_eq_true rfl) (Nat.le_of_ble_eq_true rfl) fun v1 s => ?_
  refine r_join 21 (fun (x3 : Int32) => [(0, vr a0), (1, vi a1), (2, vi a2)]) (fun (x3 : Int32) => [vi x3, vr a0]) (fun x3 s => ?_) (fun K4 hj5 => ?_)
  · refine r_p (pc' := 22) (p_iconst (n := 1) (v := 1) (by decide +kernel) rfl) ?_
    refine r_callVI mvX12_265 (ctX12_throwsIf a0 x3 1) (rcX12_throwsIf a0 x3 1) ⟨_, _, rfl⟩ (as := [vi x3, vi 1]) (st := []) rfl rfl (by decide +kernel) rfl (Nat.le_of_ble_eq_true rfl) (Nat.le_of_ble_eq_true rfl) fun v6 s => ?_
    refine r_ifeq (off := 5) (tgt := 30) (by decide +kernel) (by decide) (fun h7 => ?_) (fun h7 => ?_)
    · refine r_p (pc' := 31) (p_aload_n 0 (k := 0) (by decide +kernel) rfl) ?_
      refine r_callVU mvX12_460 (ctX12_keepsAll a0) (rcX12_keepsAll a0) ⟨_, _, rfl⟩ (as := []) (st := []) rfl rfl (by decide +kernel) rfl (Nat.le_of_ble_eq_true rfl) (Nat.le_of_ble_eq_true rfl) fun s => ?_
      refine r_p (pc' := 35) (p_iconst (n := -1) (v := -1) (by decide +kernel) rfl) ?_
      refine r_p (pc' := 36) (p_istore_n (k := 3) (lv' := [(3, vi (-1)), (0, vr a0), (1, vi a1), (2, vi a2)]) (by decide +kernel) (Nat.le_of_ble_eq_true rfl) rfl) ?_
      refine r_p (pc' := 37) (p_iconst (n := 1) (v := 1) (by decide +kernel) rfl) ?_
      refine r_p (pc' := 39) (p_istore (i := 4) (lv' := [(4, vi 1), (3, vi (-1)), (0, vr a0), (1, vi a1), (2, vi a2)]) (by decide +kernel) (Nat.le_of_ble_eq_true rfl) rfl) ?_
      refine r_sub (lv' := [(0, vr a0), (1, vi a1), (2, vi a2), (3, vi (-1)), (4, vi 1)]) [2, 3, 4, 1, 0] rfl ?_
      refine r_loop2 (fun _ => 97) (fun (e20 : Int32) => [(3, vi e20)]) (fun (x8 : Int32 × Int32) => [(0, vr a0), (1, vi a1), (2, vi a2), (3, vi x8.1), (4, vi x8.2)]) (fun e20 s => ?_) (fun K9 hb10 he11 x8 s => ?_) (((-1), 1)) _
      · refine r_p (pc' := 98) (p_iload_n 0 (k := 3) (by decide +kernel) rfl) ?_
        exact r_iret rfl rfl _ rfl rfl (by decide +kernel)
      · unfold mX12_span_L39
        refine r_p (pc' := 41) (p_iload 4 (i := 4) (by decide +kernel) rfl) ?_
        refine r_p (pc' := 43) (p_bipush (n := 6) (v := 6) (by decide +kernel) (by decide +kernel)) ?_
        refine r_icmpgt (off := 54) (tgt := 97) (by decide +kernel) (by decide) (fun h12 => ?_) (fun h12 => ?_)
        · refine r_sub (lv' := [(3, vi x8.1)]) [3] rfl ?_
          exact he11 x8.1 _
        · refine r_p (pc' := 47) (p_aload_n 0 (k := 0) (by decide +kernel) rfl) ?_
          refine r_gR flX12_13_11 (by decide +kernel) fun v13 => ?_
          refine r_p (pc' := 52) (p_bipush (n := 12) (v := 12) (by decide +kernel) (by decide +kernel)) ?_
          refine r_p (pc' := 54) (p_iload 4 (i := 4) (by decide +kernel) rfl) ?_
          refine r_stI0 (by decide +kernel) fun s => ?_
          refine r_p (pc' := 56) (p_aload_n 0 (k := 0) (by decide +kernel) rfl) ?_
          refine r_p (pc' := 57) (p_iload_n 1 (k := 1) (by decide +kernel) rfl) ?_
          refine r_callVI mvX12_463 (ctX12_tries a0 a1) (rcX12_tries a0 a1) ⟨_, _, rfl⟩ (as := [vi a1]) (st := []) rfl rfl (by decide +kernel) rfl (Nat.le_of_ble_eq_true rfl) (Nat.le_of_ble_eq_true rfl) fun v14 s => ?_
          refine r_p (pc' := 62) (p_istore (i := 5) (lv' := [(5, vi v14), (0, vr a0), (1, vi a1), (2, vi a2), (3, vi x8.1), (4, vi x8.2)]) (by decide +kernel) (Nat.le_of_ble_eq_true rfl) rfl) ?_
          refine r_p (pc' := 63) (p_iload_n 4 (k := 3) (by decide +kernel) rfl) ?_
          refine r_join 90 (fun (x16 : Int32) => [(0, vr a0), (1, vi a1), (2, vi a2), (4, vi x8.2)]) (fun (x16 : Int32) => [vi x16]) (fun x16 s => ?_) (fun K17 hj18 => ?_)
          · refine r_p (pc' := 91) (p_istore_n (k := 3) (lv' := [(3, vi x16), (0, vr a0), (1, vi a1), (2, vi a2), (4, vi x8.2)]) (by decide +kernel) (Nat.le_of_ble_eq_true rfl) rfl) ?_
            refine r_p (pc' := 94) (p_iinc 4 (i := 4) (n := 1) (x := x8.2) (v := x8.2 + 1) (lv' := [(4, vi (x8.2 + 1)), (3, vi x16), (0, vr a0), (1, vi a1), (2, vi a2)]) (by decide +kernel) rfl rfl (Nat.le_of_ble_eq_true rfl) rfl) ?_
            refine r_p (pc' := 39) (p_goto (off := -55) (tgt := 39) (by decide +kernel) (by decide)) ?_
            refine r_sub (lv' := [(0, vr a0), (1, vi a1), (2, vi a2), (3, vi x16), (4, vi (x8.2 + 1))]) [2, 3, 4, 1, 0] rfl ?_
            exact hb10 (x16, x8.2 + 1) _
          · refine r_ifge (off := 8) (tgt := 71) (by decide +kernel) (by decide) (fun h15 => ?_) (fun h15 => ?_)
            · refine r_p (pc' := 72) (p_iload_n 3 (k := 2) (by decide +kernel) rfl) ?_
              refine r_ifeq (off := 12) (tgt := 84) (by decide +kernel) (by decide) (fun h19 => ?_) (fun h19 => ?_)
              · refine r_p (pc' := 85) (p_iload_n 4 (k := 3) (by decide +kernel) rfl) ?_
                refine r_p (pc' := 87) (p_iload 0 (i := 5) (by decide +kernel) rfl) ?_
                refine r_p (pc' := 90) (p_min (idx := 298) (tblG_of 2042 (by decide +kernel) (by decide +kernel)) (Nat.le_of_ble_eq_true rfl) (Nat.le_of_ble_eq_true rfl) (by decide +kernel)) ?_
                refine r_sub (lv' := [(0, vr a0), (1, vi a1), (2, vi a2), (4, vi x8.2)]) [1, 2, 3, 5] rfl ?_
                exact hj18 (imin x8.1 v14) _
              · refine r_p (pc' := 76) (p_iload_n 4 (k := 3) (by decide +kernel) rfl) ?_
                refine r_p (pc' := 78) (p_iload 0 (i := 5) (by decide +kernel) rfl) ?_
                refine r_p (pc' := 81) (p_max (idx := 284) (tblG_of 2041 (by decide +kernel) (by decide +kernel)) (Nat.le_of_ble_eq_true rfl) (Nat.le_of_ble_eq_true rfl) (by decide +kernel)) ?_
                refine r_p (pc' := 90) (p_goto (off := 9) (tgt := 90) (by decide +kernel) (by decide)) ?_
                refine r_sub (lv' := [(0, vr a0), (1, vi a1), (2, vi a2), (4, vi x8.2)]) [1, 2, 3, 5] rfl ?_
                exact hj18 (imax x8.1 v14) _
            · refine r_p (pc' := 68) (p_iload 0 (i := 5) (by decide +kernel) rfl) ?_
              refine r_p (pc' := 90) (p_goto (off := 22) (tgt := 90) (by decide +kernel) (by decide)) ?_
              refine r_sub (lv' := [(0, vr a0), (1, vi a1), (2, vi a2), (4, vi x8.2)]) [1, 2, 3, 5] rfl ?_
              exact hj18 v14 _
    · refine r_p (pc' := 29) (p_iconst (n := 0) (v := 0) (by decide +kernel) rfl) ?_
      exact r_iret rfl rfl _ rfl rfl (by decide +kernel)
  · refine r_ifne (off := 7) (tgt := 20) (by decide +kernel) (by decide) (fun h2 => ?_) (fun h2 => ?_)
    · refine r_p (pc' := 17) (p_iconst (n := 1) (v := 1) (by decide +kernel) rfl) ?_
      refine r_p (pc' := 21) (p_goto (off := 4) (tgt := 21) (by decide +kernel) (by decide)) ?_
      exact hj5 1 _
    · refine r_p (pc' := 21) (p_iconst (n := 0) (v := 0) (by decide +kernel) rfl) ?_
      exact hj5 0 _
def aX12_wouldAnswer : StA := (RX12, cX12_wouldAnswer, 7, some .int, yX12_wouldAnswer, 14, [])
noncomputable def mX12_wouldAnswer_L18 (a0 : Nat) (a1 : Int32) (x2 : Int32 × Int32) : MM ((Int32 × Int32) ⊕ (Int32)) :=
  if 3 ≤ x2.2 then (
    mret (.inr x2.1)
  ) else (
    mbnd (mX12_inTool a0 a1 x2.2) fun (v7 : Int32) =>
    mbnd (α := Int32) (
      if 0 ≤ v7 then (
        mbnd (mX12_inTool a0 a1 x2.2) fun (v12 : Int32) =>
        mbnd (mX12_gain a0 v12) fun (v13 : Int32) =>
        mret v13
      ) else (
        mret 0
      )
    ) fun (x9 : Int32) =>
    mbnd (mret (x2.1 + x9)) fun (v14 : Int32) =>
    mret (.inl (v14, x2.2 + 1))
  )
noncomputable def mX12_wouldAnswer (a0 : Nat) (a1 : Int32) (a2 : Int32) (a3 : Int32) (a4 : Int32) : MM Int32 := onC 11 a0 (
  mbnd (mX12_ofDeed a0 a2 a3 a4) fun _ =>
  mbnd (mX12_answered a0 a1) fun (v1 : Int32) =>
  mbnd (loopM (mX12_wouldAnswer_L18 a0 a1) (v1, 0)) fun (e15 : Int32) =>
  mret e15
  )
theorem rcX12_wouldAnswer (a0 : Nat) (a1 : Int32) (a2 : Int32) (a3 : Int32) (a4 : Int32) : Rcv 11 a0 (mX12_wouldAnswer a0 a1 a2 a3 a4) := fun s r h => ⟨(onC_some h).1, (onC_some h).2.1⟩
set_option maxHeartbeats 4000000 in
set_option maxRecDepth 100000 in
theorem ctX12_wouldAnswer (a0 : Nat) (a1 : Int32) (a2 : Int32) (a3 : Int32) (a4 : Int32) : Ct aX12_wouldAnswer [vr a0, vi a1, vi a2, vi a3, vi a4] (mX12_wouldAnswer a0 a1 a2 a3 a4) rI := by
  unfold mX12_wouldAnswer
  refine ct_onC (ct_intro (by decide +kernel) rfl (Nat.le_of_ble_eq_true rfl) fun Y s => ?_)
  refine r_sub (lv' := [(0, vr a0), (1, vi a1), (2, vi a2), (3, vi a3), (4, vi a4)]) [0, 1, 2, 3, 4] rfl ?_
  refine r_p (pc' := 1) (p_aload_n 0 (k := 0) (by decide +kernel) rfl) ?_
  refine r_p (pc' := 2) (p_iload_n 2 (k := 2) (by decide +kernel) rfl) ?_
  refine r_p (pc' := 3) (p_iload_n 3 (k := 3) (by decide +kernel) rfl) ?_
  refine r_p (pc' := 5) (p_iload 4 (i := 4) (by decide +kernel) rfl) ?_
  refine r_callVU mvX12_268 (ctX12_ofDeed a0 a2 a3 a4) (rcX12_ofDeed a0 a2 a3 a4) ⟨_, _, rfl⟩ (as := [vi a2, vi a3, vi a4]) (st := []) rfl rfl (by decide +kernel) rfl (Nat.le_of_ble_eq_true rfl) (Nat.le_of_ble_eq_true rfl) fun s => ?_
  refine r_p (pc' := 9) (p_aload_n 0 (k := 0) (by decide +kernel) rfl) ?_
  refine r_p (pc' := 10) (p_iload_n 1 (k := 1) (by decide +kernel) rfl) ?_
  refine r_callVI mvX12_307 (ctX12_answered a0 a1) (rcX12_answered a0 a1) ⟨_, _, rfl⟩ (as := [vi a1]) (st := []) rfl rfl (by decide +kernel) rfl (Nat.le_of_ble_eq_true rfl) (Nat.le_of_ble_eq_true rfl) fun v1 s => ?_
  refine r_p (pc' := 15) (p_istore (i := 5) (lv' := [(5, vi v1), (0, vr a0), (1, vi a1), (2, vi a2), (3, vi a3), (4, vi a4)]) (by decide +kernel) (Nat.le_of_ble_eq_true rfl) rfl) ?_
  refine r_p (pc' := 16) (p_iconst (n := 0) (v := 0) (by decide +kernel) rfl) ?_
  refine r_p (pc' := 18) (p_istore (i := 6) (lv' := [(6, vi 0), (5, vi v1), (0, vr a0), (1, vi a1), (2, vi a2), (3, vi a3), (4, vi a4)]) (by decide +kernel) (Nat.le_of_ble_eq_true rfl) rfl) ?_
  refine r_sub (lv' := [(0, vr a0), (1, vi a1), (5, vi v1), (6, vi 0)]) [2, 3, 1, 0] rfl ?_
  refine r_loop2 (fun _ => 60) (fun (e15 : Int32) => [(5, vi e15)]) (fun (x2 : Int32 × Int32) => [(0, vr a0), (1, vi a1), (5, vi x2.1), (6, vi x2.2)]) (fun e15 s => ?_) (fun K3 hb4 he5 x2 s => ?_) (v1, 0) _
  · refine r_p (pc' := 62) (p_iload 0 (i := 5) (by decide +kernel) rfl) ?_
    exact r_iret rfl rfl _ rfl rfl (by decide +kernel)
  · unfold mX12_wouldAnswer_L18
    refine r_p (pc' := 20) (p_iload 3 (i := 6) (by decide +kernel) rfl) ?_
    refine r_p (pc' := 21) (p_iconst (n := 3) (v := 3) (by decide +kernel) rfl) ?_
    refine r_icmpge (off := 39) (tgt := 60) (by decide +kernel) (by decide) (fun h6 => ?_) (fun h6 => ?_)
    · refine r_sub (lv' := [(5, vi x2.1)]) [2] rfl ?_
      exact he5 x2.1 _
    · refine r_p (pc' := 26) (p_iload 2 (i := 5) (by decide +kernel) rfl) ?_
      refine r_p (pc' := 27) (p_aload_n 0 (k := 0) (by decide +kernel) rfl) ?_
      refine r_p (pc' := 28) (p_iload_n 1 (k := 1) (by decide +kernel) rfl) ?_
      refine r_p (pc' := 30) (p_iload 3 (i := 6) (by decide +kernel) rfl) ?_
      refine r_callVI mvX12_149 (ctX12_inTool a0 a1 x2.2) (rcX12_inTool a0 a1 x2.2) ⟨_, _, rfl⟩ (as := [vi a1, vi x2.2]) (st := [vi x2.1]) rfl rfl (by decide +kernel) rfl (Nat.le_of_ble_eq_true rfl) (Nat.le_of_ble_eq_true rfl) fun v7 s => ?_
      refine r_join 51 (fun (x9 : Int32) => [(0, vr a0), (1, vi a1), (6, vi x2.2)]) (fun (x9 : Int32) => [vi x9, vi x2.1]) (fun x9 s => ?_) (fun K10 hj11 => ?_)
      · refine r_p (pc' := 52) (p_iadd (by decide +kernel)) ?_
        refine r_letI fun v14 => ?_
        refine r_p (pc' := 54) (p_istore (i := 5) (lv' := [(5, vi v14), (0, vr a0), (1, vi a1), (6, vi x2.2)]) (by decide +kernel) (Nat.le_of_ble_eq_true rfl) rfl) ?_
        refine r_p (pc' := 57) (p_iinc 3 (i := 6) (n := 1) (x := x2.2) (v := x2.2 + 1) (lv' := [(6, vi (x2.2 + 1)), (5, vi v14), (0, vr a0), (1, vi a1)]) (by decide +kernel) rfl rfl (Nat.le_of_ble_eq_true rfl) rfl) ?_
        refine r_p (pc' := 18) (p_goto (off := -39) (tgt := 18) (by decide +kernel) (by decide)) ?_
        refine r_sub (lv' := [(0, vr a0), (1, vi a1), (5, vi v14), (6, vi (x2.2 + 1))]) [2, 3, 1, 0] rfl ?_
        exact hb4 (v14, x2.2 + 1) _
      · refine r_ifge (off := 7) (tgt := 40) (by decide +kernel) (by decide) (fun h8 => ?_) (fun h8 => ?_)
        · refine r_p (pc' := 41) (p_aload_n 0 (k := 0) (by decide +kernel) rfl) ?_
          refine r_p (pc' := 42) (p_aload_n 0 (k := 0) (by decide +kernel) rfl) ?_
          refine r_p (pc' := 43) (p_iload_n 1 (k := 1) (by decide +kernel) rfl) ?_
          refine r_p (pc' := 45) (p_iload 3 (i := 6) (by decide +kernel) rfl) ?_
          refine r_callVI mvX12_149 (ctX12_inTool a0 a1 x2.2) (rcX12_inTool a0 a1 x2.2) ⟨_, _, rfl⟩ (as := [vi a1, vi x2.2]) (st := [vr a0, vi x2.1]) rfl rfl (by decide +kernel) rfl (Nat.le_of_ble_eq_true rfl) (Nat.le_of_ble_eq_true rfl) fun v12 s => ?_
          refine r_callVI mvX12_346 (ctX12_gain a0 v12) (rcX12_gain a0 v12) ⟨_, _, rfl⟩ (as := [vi v12]) (st := [vi x2.1]) rfl rfl (by decide +kernel) rfl (Nat.le_of_ble_eq_true rfl) (Nat.le_of_ble_eq_true rfl) fun v13 s => ?_
          refine r_sub (lv' := [(0, vr a0), (1, vi a1), (6, vi x2.2)]) [0, 1, 3] rfl ?_
          exact hj11 v13 _
        · refine r_p (pc' := 37) (p_iconst (n := 0) (v := 0) (by decide +kernel) rfl) ?_
          refine r_p (pc' := 51) (p_goto (off := 14) (tgt := 51) (by decide +kernel) (by decide)) ?_
          refine r_sub (lv' := [(0, vr a0), (1, vi a1), (6, vi x2.2)]) [0, 1, 3] rfl ?_
          exact hj11 0 _
def aX12_after_ : StA := (RX12, cX12_after_, 5, some .int, yX12_after_, 15, [])
theorem mvX12_466 : MV RX12 466 aX12_wouldAnswer 4 := ⟨tblG_of 2318 (by decide +kernel) (by decide +kernel), tblG_of 2320 (by decide +kernel) (by decide +kernel), tblG_of 139 (by decide +kernel) (by decide +kernel), tblG_of 157 (by decide +kernel) (by decide +kernel), tblG_of 2321 (by decide +kernel) (by decide +kernel), rfl, ⟨by decide, by decide⟩, by decide +kernel, by decide⟩
noncomputable def mX12_after_ (a0 : Nat) (a1 : Int32) (a2 : Int32) (a3 : Int32) (a4 : Int32) : MM Int32 := onC 11 a0 (
  mbnd (pI 11 0 a0 0) fun _ =>
  mbnd (mX12_noTool a0 a1) fun (v1 : Int32) =>
  mbnd (α := Int32) (
    if v1 = 0 then (
      mbnd (mX12_noMaster a0 a2) fun (v6 : Int32) =>
      if v6 = 0 then (
        mret 0
      ) else (
        mret 1
      )
    ) else (
      mret 1
    )
  ) fun (x3 : Int32) =>
  mbnd (mX12_throwsIf a0 x3 1) fun (v8 : Int32) =>
  if v8 = 0 then (
    mbnd (mX12_noHarm a3 a4) fun (v10 : Int32) =>
    mbnd (mX12_throwsIf a0 v10 2) fun (v11 : Int32) =>
    if v11 = 0 then (
      mbnd (mX12_inTool a0 a1 1) fun (v13 : Int32) =>
      mbnd (α := Int32) (
        if 0 ≤ v13 then (
          mret 0
        ) else (
          mret 1
        )
      ) fun (x15 : Int32) =>
      mbnd (mX12_throwsIf a0 x15 3) fun (v18 : Int32) =>
      if v18 = 0 then (
        mbnd (mX12_wouldAnswer a0 a1 a2 a3 a4) fun (v20 : Int32) =>
        mret v20
      ) else (
        mret 0
      )
    ) else (
      mret 0
    )
  ) else (
    mret 0
  )
  )
theorem rcX12_after_ (a0 : Nat) (a1 : Int32) (a2 : Int32) (a3 : Int32) (a4 : Int32) : Rcv 11 a0 (mX12_after_ a0 a1 a2 a3 a4) := fun s r h => ⟨(onC_some h).1, (onC_some h).2.1⟩
set_option maxHeartbeats 4000000 in
set_option maxRecDepth 100000 in
theorem ctX12_after_ (a0 : Nat) (a1 : Int32) (a2 : Int32) (a3 : Int32) (a4 : Int32) : Ct aX12_after_ [vr a0, vi a1, vi a2, vi a3, vi a4] (mX12_after_ a0 a1 a2 a3 a4) rI := by
  unfold mX12_after_
  refine ct_onC (ct_intro (by decide +kernel) rfl (Nat.le_of_ble_eq_true rfl) fun Y s => ?_)
  refine r_sub (lv' := [(0, vr a0), (1, vi a1), (2, vi a2), (3, vi a3), (4, vi a4)]) [0, 1, 2, 3, 4] rfl ?_
  refine r_p (pc' := 1) (p_aload_n 0 (k := 0) (by decide +kernel) rfl) ?_
  refine r_p (pc' := 2) (p_iconst (n := 0) (v := 0) (by decide +kernel) rfl) ?_
  refine r_pI fpX12_3_11 (fun h => by cases h) (by decide +kernel) fun s => ?_
  refine r_p (pc' := 6) (p_aload_n 0 (k := 0) (by decide +kernel) rfl) ?_
  refine r_p (pc' := 7) (p_aload_n 0 (k := 0) (by decide +kernel) rfl) ?_
  refine r_p (pc' := 8) (p_iload_n 1 (k := 1) (by decide +kernel) rfl) ?_
  refine r_callVI mvX12_319 (ctX12_noTool a0 a1) (rcX12_noTool a0 a1) ⟨_, _, rfl⟩ (as := [vi a1]) (st := [vr a0]) rfl rfl (by decide +kernel) rfl (Nat.le_of_ble_eq_true rfl) (Nat.le_of_ble_eq_true rfl) fun v1 s => ?_
  refine r_join 27 (fun (x3 : Int32) => [(0, vr a0), (1, vi a1), (2, vi a2), (3, vi a3), (4, vi a4)]) (fun (x3 : Int32) => [vi x3, vr a0]) (fun x3 s => ?_) (fun K4 hj5 => ?_)
  · refine r_p (pc' := 28) (p_iconst (n := 1) (v := 1) (by decide +kernel) rfl) ?_
    refine r_callVI mvX12_265 (ctX12_throwsIf a0 x3 1) (rcX12_throwsIf a0 x3 1) ⟨_, _, rfl⟩ (as := [vi x3, vi 1]) (st := []) rfl rfl (by decide +kernel) rfl (Nat.le_of_ble_eq_true rfl) (Nat.le_of_ble_eq_true rfl) fun v8 s => ?_
    refine r_ifne (off := 39) (tgt := 70) (by decide +kernel) (by decide) (fun h9 => ?_) (fun h9 => ?_)
    · refine r_p (pc' := 35) (p_aload_n 0 (k := 0) (by decide +kernel) rfl) ?_
      refine r_p (pc' := 36) (p_iload_n 3 (k := 3) (by decide +kernel) rfl) ?_
      refine r_p (pc' := 38) (p_iload 4 (i := 4) (by decide +kernel) rfl) ?_
      refine r_callSI msX12_340 (ctX12_noHarm a3 a4) (as := [vi a3, vi a4]) (st := [vr a0]) rfl rfl (by decide +kernel) rfl (Nat.le_of_ble_eq_true rfl) (Nat.le_of_ble_eq_true rfl) fun v10 s => ?_
      refine r_p (pc' := 42) (p_iconst (n := 2) (v := 2) (by decide +kernel) rfl) ?_
      refine r_callVI mvX12_265 (ctX12_throwsIf a0 v10 2) (rcX12_throwsIf a0 v10 2) ⟨_, _, rfl⟩ (as := [vi v10, vi 2]) (st := []) rfl rfl (by decide +kernel) rfl (Nat.le_of_ble_eq_true rfl) (Nat.le_of_ble_eq_true rfl) fun v11 s => ?_
      refine r_ifne (off := 25) (tgt := 70) (by decide +kernel) (by decide) (fun h12 => ?_) (fun h12 => ?_)
      · refine r_p (pc' := 49) (p_aload_n 0 (k := 0) (by decide +kernel) rfl) ?_
        refine r_p (pc' := 50) (p_aload_n 0 (k := 0) (by decide +kernel) rfl) ?_
        refine r_p (pc' := 51) (p_iload_n 1 (k := 1) (by decide +kernel) rfl) ?_
        refine r_p (pc' := 52) (p_iconst (n := 1) (v := 1) (by decide +kernel) rfl) ?_
        refine r_callVI mvX12_149 (ctX12_inTool a0 a1 1) (rcX12_inTool a0 a1 1) ⟨_, _, rfl⟩ (as := [vi a1, vi 1]) (st := [vr a0]) rfl rfl (by decide +kernel) rfl (Nat.le_of_ble_eq_true rfl) (Nat.le_of_ble_eq_true rfl) fun v13 s => ?_
        refine r_join 63 (fun (x15 : Int32) => [(0, vr a0), (1, vi a1), (2, vi a2), (3, vi a3), (4, vi a4)]) (fun (x15 : Int32) => [vi x15, vr a0]) (fun x15 s => ?_) (fun K16 hj17 => ?_)
        · refine r_p (pc' := 64) (p_iconst (n := 3) (v := 3) (by decide +kernel) rfl) ?_
          refine r_callVI mvX12_265 (ctX12_throwsIf a0 x15 3) (rcX12_throwsIf a0 x15 3) ⟨_, _, rfl⟩ (as := [vi x15, vi 3]) (st := []) rfl rfl (by decide +kernel) rfl (Nat.le_of_ble_eq_true rfl) (Nat.le_of_ble_eq_true rfl) fun v18 s => ?_
          refine r_ifeq (off := 5) (tgt := 72) (by decide +kernel) (by decide) (fun h19 => ?_) (fun h19 => ?_)
          · refine r_p (pc' := 73) (p_aload_n 0 (k := 0) (by decide +kernel) rfl) ?_
            refine r_p (pc' := 74) (p_iload_n 1 (k := 1) (by decide +kernel) rfl) ?_
            refine r_p (pc' := 75) (p_iload_n 2 (k := 2) (by decide +kernel) rfl) ?_
            refine r_p (pc' := 76) (p_iload_n 3 (k := 3) (by decide +kernel) rfl) ?_
            refine r_p (pc' := 78) (p_iload 4 (i := 4) (by decide +kernel) rfl) ?_
            refine r_callVI mvX12_466 (ctX12_wouldAnswer a0 a1 a2 a3 a4) (rcX12_wouldAnswer a0 a1 a2 a3 a4) ⟨_, _, rfl⟩ (as := [vi a1, vi a2, vi a3, vi a4]) (st := []) rfl rfl (by decide +kernel) rfl (Nat.le_of_ble_eq_true rfl) (Nat.le_of_ble_eq_true rfl) fun v20 s => ?_
            exact r_iret rfl rfl _ rfl rfl (by decide +kernel)
          · refine r_p (pc' := 71) (p_iconst (n := 0) (v := 0) (by decide +kernel) rfl) ?_
            exact r_iret rfl rfl _ rfl rfl (by decide +kernel)
        · refine r_ifge (off := 7) (tgt := 62) (by decide +kernel) (by decide) (fun h14 => ?_) (fun h14 => ?_)
          · refine r_p (pc' := 63) (p_iconst (n := 0) (v := 0) (by decide +kernel) rfl) ?_
            exact hj17 0 _
          · refine r_p (pc' := 59) (p_iconst (n := 1) (v := 1) (by decide +kernel) rfl) ?_
            refine r_p (pc' := 63) (p_goto (off := 4) (tgt := 63) (by decide +kernel) (by decide)) ?_
            exact hj17 1 _
      · refine r_p (pc' := 71) (p_iconst (n := 0) (v := 0) (by decide +kernel) rfl) ?_
        exact r_iret rfl rfl _ rfl rfl (by decide +kernel)
    · refine r_p (pc' := 71) (p_iconst (n := 0) (v := 0) (by decide +kernel) rfl) ?_
      exact r_iret rfl rfl _ rfl rfl (by decide +kernel)
  · refine r_ifne (off := 11) (tgt := 22) (by decide +kernel) (by decide) (fun h2 => ?_) (fun h2 => ?_)
    · refine r_p (pc' := 15) (p_aload_n 0 (k := 0) (by decide +kernel) rfl) ?_
      refine r_p (pc' := 16) (p_iload_n 2 (k := 2) (by decide +kernel) rfl) ?_
      refine r_callVI mvX12_331 (ctX12_noMaster a0 a2) (rcX12_noMaster a0 a2) ⟨_, _, rfl⟩ (as := [vi a2]) (st := [vr a0]) rfl rfl (by decide +kernel) rfl (Nat.le_of_ble_eq_true rfl) (Nat.le_of_ble_eq_true rfl) fun v6 s => ?_
      refine r_ifeq (off := 7) (tgt := 26) (by decide +kernel) (by decide) (fun h7 => ?_) (fun h7 => ?_)
      · refine r_p (pc' := 27) (p_iconst (n := 0) (v := 0) (by decide +kernel) rfl) ?_
        exact hj5 0 _
      · refine r_p (pc' := 23) (p_iconst (n := 1) (v := 1) (by decide +kernel) rfl) ?_
        refine r_p (pc' := 27) (p_goto (off := 4) (tgt := 27) (by decide +kernel) (by decide)) ?_
        exact hj5 1 _
    · refine r_p (pc' := 23) (p_iconst (n := 1) (v := 1) (by decide +kernel) rfl) ?_
      refine r_p (pc' := 27) (p_goto (off := 4) (tgt := 27) (by decide +kernel) (by decide)) ?_
      exact hj5 1 _
