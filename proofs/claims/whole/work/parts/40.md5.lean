/-! PRINTED BY wip/whole/gen.py -/
def aX12_worst : StA := (RX12, cX12_worst, 5, some .int, yX12_worst, 15, [])
noncomputable def mX12_worst_L94 (a0 : Nat) (a1 : Int32) (a2 : Int32) (a3 : Int32) (x26 : Int32) : MM ((Int32) ⊕ (Int32 ⊕ Unit)) :=
  if 999 < x26 then (
    mret (.inr ((.inr ())))
  ) else (
    mbnd (mX12_wouldAnswer a0 a1 a2 x26 a3) fun (v31 : Int32) =>
    mbnd (gR 11 1 a0) fun (v32 : Nat) =>
    mbnd (ldI 0 v32 7) fun (v33 : Int32) =>
    if v31 ≤ v33 then (
      mret (.inl (x26 + 1))
    ) else (
      mret (.inr (.inl x26))
    )
  )
noncomputable def mX12_worst (a0 : Nat) (a1 : Int32) (a2 : Int32) (a3 : Int32) : MM Int32 := onC 11 a0 (
  mbnd (pI 11 0 a0 0) fun _ =>
  mbnd (mX12_noTool a0 a1) fun (v1 : Int32) =>
  mbnd (α := Int32) (
    if v1 = 0 then (
      mbnd (mX12_noMaster a0 a2) fun (v6 : Int32) =>
      if v6 = 0 then (
        mret 0
      ) else (
        mret 1
      )
    ) else (
      mret 1
    )
  ) fun (x3 : Int32) =>
  mbnd (mX12_throwsIf a0 x3 1) fun (v8 : Int32) =>
  if v8 = 0 then (
    mbnd (mX12_in a3 0 9) fun (v10 : Int32) =>
    mbnd (α := Int32) (
      if v10 = 0 then (
        mret 1
      ) else (
        mret 0
      )
    ) fun (x12 : Int32) =>
    mbnd (mX12_throwsIf a0 x12 2) fun (v15 : Int32) =>
    if v15 = 0 then (
      mbnd (mX12_inTool a0 a1 1) fun (v17 : Int32) =>
      mbnd (α := Int32) (
        if 0 ≤ v17 then (
          mret 0
        ) else (
          mret 1
        )
      ) fun (x19 : Int32) =>
      mbnd (mX12_throwsIf a0 x19 3) fun (v22 : Int32) =>
      if v22 = 0 then (
        mbnd (mX12_isGuilty a0 a1) fun (v24 : Int32) =>
        if v24 = 0 then (
          mbnd (loopM (mX12_worst_L94 a0 a1 a2 a3) 1) fun (e35 : Int32 ⊕ Unit) => match e35 with
            | .inl e35 => (
              mret e35
              )
            | .inr e35 => (
              mret (-1)
              )
        ) else (
          mret (-1)
        )
      ) else (
        mret 0
      )
    ) else (
      mret 0
    )
  ) else (
    mret 0
  )
  )
theorem rcX12_worst (a0 : Nat) (a1 : Int32) (a2 : Int32) (a3 : Int32) : Rcv 11 a0 (mX12_worst a0 a1 a2 a3) := fun s r h => ⟨(onC_some h).1, (onC_some h).2.1⟩
set_option maxHeartbeats 4000000 in
set_option maxRecDepth 100000 in
theorem ctX12_worst (a0 : Nat) (a1 : Int32) (a2 : Int32) (a3 : Int32) : Ct aX12_worst [vr a0, vi a1, vi a2, vi a3] (mX12_worst a0 a1 a2 a3) rI := by
  unfold mX12_worst
  refine ct_onC (ct_intro (by decide +kernel) rfl (Nat.le_of_ble_eq_true rfl) fun Y s => ?_)
  refine r_sub (lv' := [(0, vr a0), (1, vi a1), (2, vi a2), (3, vi a3)]) [0, 1, 2, 3] rfl ?_
  refine r_p (pc' := 1) (p_aload_n 0 (k := 0) (by decide +kernel) rfl) ?_
  refine r_p (pc' := 2) (p_iconst (n := 0) (v := 0) (by decide +kernel) rfl) ?_
  refine r_pI fpX12_3_11 (fun h => by cases h) (by decide +kernel) fun s => ?_
  refine r_p (pc' := 6) (p_aload_n 0 (k := 0) (by decide +kernel) rfl) ?_
  refine r_p (pc' := 7) (p_aload_n 0 (k := 0) (by decide +kernel) rfl) ?_
  refine r_p (pc' := 8) (p_iload_n 1 (k := 1) (by decide +kernel) rfl) ?_
  refine r_callVI mvX12_319 (ctX12_noTool a0 a1) (rcX12_noTool a0 a1) ⟨_, _, rfl⟩ (as := [vi a1]) (st := [vr a0]) rfl rfl (by decide +kernel) rfl (Nat.le_of_ble_eq_true rfl) (Nat.le_of_ble_eq_true rfl) fun v1 s => ?_
  refine r_join 27 (fun (x3 : Int32) => [(0, vr a0), (1, vi a1), (2, vi a2), (3, vi a3)]) (fun (x3 : Int32) => [vi x3, vr a0]) (fun x3 s => ?_) (fun K4 hj5 => ?_)
  · refine r_p (pc' := 28) (p_iconst (n := 1) (v := 1) (by decide +kernel) rfl) ?_
    refine r_callVI mvX12_265 (ctX12_throwsIf a0 x3 1) (rcX12_throwsIf a0 x3 1) ⟨_, _, rfl⟩ (as := [vi x3, vi 1]) (st := []) rfl rfl (by decide +kernel) rfl (Nat.le_of_ble_eq_true rfl) (Nat.le_of_ble_eq_true rfl) fun v8 s => ?_
    refine r_ifne (off := 48) (tgt := 79) (by decide +kernel) (by decide) (fun h9 => ?_) (fun h9 => ?_)
    · refine r_p (pc' := 35) (p_aload_n 0 (k := 0) (by decide +kernel) rfl) ?_
      refine r_p (pc' := 36) (p_iload_n 3 (k := 3) (by decide +kernel) rfl) ?_
      refine r_p (pc' := 37) (p_iconst (n := 0) (v := 0) (by decide +kernel) rfl) ?_
      refine r_p (pc' := 39) (p_bipush (n := 9) (v := 9) (by decide +kernel) (by decide +kernel)) ?_
      refine r_callSI msX12_72 (ctX12_in a3 0 9) (as := [vi a3, vi 0, vi 9]) (st := [vr a0]) rfl rfl (by decide +kernel) rfl (Nat.le_of_ble_eq_true rfl) (Nat.le_of_ble_eq_true rfl) fun v10 s => ?_
      refine r_join 50 (fun (x12 : Int32) => [(0, vr a0), (1, vi a1), (2, vi a2), (3, vi a3)]) (fun (x12 : Int32) => [vi x12, vr a0]) (fun x12 s => ?_) (fun K13 hj14 => ?_)
      · refine r_p (pc' := 51) (p_iconst (n := 2) (v := 2) (by decide +kernel) rfl) ?_
        refine r_callVI mvX12_265 (ctX12_throwsIf a0 x12 2) (rcX12_throwsIf a0 x12 2) ⟨_, _, rfl⟩ (as := [vi x12, vi 2]) (st := []) rfl rfl (by decide +kernel) rfl (Nat.le_of_ble_eq_true rfl) (Nat.le_of_ble_eq_true rfl) fun v15 s => ?_
        refine r_ifne (off := 25) (tgt := 79) (by decide +kernel) (by decide) (fun h16 => ?_) (fun h16 => ?_)
        · refine r_p (pc' := 58) (p_aload_n 0 (k := 0) (by decide +kernel) rfl) ?_
          refine r_p (pc' := 59) (p_aload_n 0 (k := 0) (by decide +kernel) rfl) ?_
          refine r_p (pc' := 60) (p_iload_n 1 (k := 1) (by decide +kernel) rfl) ?_
          refine r_p (pc' := 61) (p_iconst (n := 1) (v := 1) (by decide +kernel) rfl) ?_
          refine r_callVI mvX12_149 (ctX12_inTool a0 a1 1) (rcX12_inTool a0 a1 1) ⟨_, _, rfl⟩ (as := [vi a1, vi 1]) (st := [vr a0]) rfl rfl (by decide +kernel) rfl (Nat.le_of_ble_eq_true rfl) (Nat.le_of_ble_eq_true rfl) fun v17 s => ?_
          refine r_join 72 (fun (x19 : Int32) => [(0, vr a0), (1, vi a1), (2, vi a2), (3, vi a3)]) (fun (x19 : Int32) => [vi x19, vr a0]) (fun x19 s => ?_) (fun K20 hj21 => ?_)
          · refine r_p (pc' := 73) (p_iconst (n := 3) (v := 3) (by decide +kernel) rfl) ?_
            refine r_callVI mvX12_265 (ctX12_throwsIf a0 x19 3) (rcX12_throwsIf a0 x19 3) ⟨_, _, rfl⟩ (as := [vi x19, vi 3]) (st := []) rfl rfl (by decide +kernel) rfl (Nat.le_of_ble_eq_true rfl) (Nat.le_of_ble_eq_true rfl) fun v22 s => ?_
            refine r_ifeq (off := 5) (tgt := 81) (by decide +kernel) (by decide) (fun h23 => ?_) (fun h23 => ?_)
            · refine r_p (pc' := 82) (p_aload_n 0 (k := 0) (by decide +kernel) rfl) ?_
              refine r_p (pc' := 83) (p_iload_n 1 (k := 1) (by decide +kernel) rfl) ?_
              refine r_callVI mvX12_385 (ctX12_isGuilty a0 a1) (rcX12_isGuilty a0 a1) ⟨_, _, rfl⟩ (as := [vi a1]) (st := []) rfl rfl (by decide +kernel) rfl (Nat.le_of_ble_eq_true rfl) (Nat.le_of_ble_eq_true rfl) fun v24 s => ?_
              refine r_ifeq (off := 5) (tgt := 91) (by decide +kernel) (by decide) (fun h25 => ?_) (fun h25 => ?_)
              · refine r_p (pc' := 92) (p_iconst (n := 1) (v := 1) (by decide +kernel) rfl) ?_
                refine r_p (pc' := 94) (p_istore (i := 4) (lv' := [(4, vi 1), (0, vr a0), (1, vi a1), (2, vi a2), (3, vi a3)]) (by decide +kernel) (Nat.le_of_ble_eq_true rfl) rfl) ?_
                refine r_sub (lv' := [(0, vr a0), (1, vi a1), (2, vi a2), (3, vi a3), (4, vi 1)]) [1, 2, 3, 4, 0] rfl ?_
                refine r_loop2 (fun (e35 : Int32 ⊕ Unit) => match e35 with | .inl _ => 121 | .inr _ => 130) (fun (e35 : Int32 ⊕ Unit) => match e35 with | .inl e35 => [(4, vi e35)] | .inr e35 => []) (fun (x26 : Int32) => [(0, vr a0), (1, vi a1), (2, vi a2), (3, vi a3), (4, vi x26)]) (fun e35 s => ?_) (fun K27 hb28 he29 x26 s => ?_) 1 _
                · rcases e35 with e35 | e35
                  · show Rr _ _ 121 [(4, vi e35)] [] _ _ _ _
                    refine r_p (pc' := 123) (p_iload 0 (i := 4) (by decide +kernel) rfl) ?_
                    exact r_iret rfl rfl _ rfl rfl (by decide +kernel)
                  · show Rr _ _ 130 [] [] _ _ _ _
                    refine r_p (pc' := 131) (p_iconst (n := -1) (v := -1) (by decide +kernel) rfl) ?_
                    exact r_iret rfl rfl _ rfl rfl (by decide +kernel)
                · unfold mX12_worst_L94
                  refine r_p (pc' := 96) (p_iload 4 (i := 4) (by decide +kernel) rfl) ?_
                  refine r_p (pc' := 99) (p_sipush (n := 999) (v := 999) (by decide +kernel) (by decide +kernel)) ?_
                  refine r_icmpgt (off := 31) (tgt := 130) (by decide +kernel) (by decide) (fun h30 => ?_) (fun h30 => ?_)
                  · refine r_sub (lv' := []) [] rfl ?_
                    exact he29 ((.inr ())) _
                  · refine r_p (pc' := 103) (p_aload_n 0 (k := 0) (by decide +kernel) rfl) ?_
                    refine r_p (pc' := 104) (p_iload_n 1 (k := 1) (by decide +kernel) rfl) ?_
                    refine r_p (pc' := 105) (p_iload_n 2 (k := 2) (by decide +kernel) rfl) ?_
                    refine r_p (pc' := 107) (p_iload 4 (i := 4) (by decide +kernel) rfl) ?_
                    refine r_p (pc' := 108) (p_iload_n 3 (k := 3) (by decide +kernel) rfl) ?_
                    refine r_callVI mvX12_466 (ctX12_wouldAnswer a0 a1 a2 x26 a3) (rcX12_wouldAnswer a0 a1 a2 x26 a3) ⟨_, _, rfl⟩ (as := [vi a1, vi a2, vi x26, vi a3]) (st := []) rfl rfl (by decide +kernel) rfl (Nat.le_of_ble_eq_true rfl) (Nat.le_of_ble_eq_true rfl) fun v31 s => ?_
                    refine r_p (pc' := 112) (p_aload_n 0 (k := 0) (by decide +kernel) rfl) ?_
                    refine r_gR flX12_13_11 (by decide +kernel) fun v32 => ?_
                    refine r_p (pc' := 117) (p_bipush (n := 7) (v := 7) (by decide +kernel) (by decide +kernel)) ?_
                    refine r_ldI0 (by decide +kernel) fun v33 => ?_
                    refine r_icmple (off := 6) (tgt := 124) (by decide +kernel) (by decide) (fun h34 => ?_) (fun h34 => ?_)
                    · refine r_p (pc' := 127) (p_iinc 4 (i := 4) (n := 1) (x := x26) (v := x26 + 1) (lv' := [(4, vi (x26 + 1)), (0, vr a0), (1, vi a1), (2, vi a2), (3, vi a3)]) (by decide +kernel) rfl rfl (Nat.le_of_ble_eq_true rfl) rfl) ?_
                      refine r_p (pc' := 94) (p_goto (off := -33) (tgt := 94) (by decide +kernel) (by decide)) ?_
                      refine r_sub (lv' := [(0, vr a0), (1, vi a1), (2, vi a2), (3, vi a3), (4, vi (x26 + 1))]) [1, 2, 3, 4, 0] rfl ?_
                      exact hb28 (x26 + 1) _
                    · refine r_sub (lv' := [(4, vi x26)]) [4] rfl ?_
                      exact he29 (.inl x26) _
              · refine r_p (pc' := 90) (p_iconst (n := -1) (v := -1) (by decide +kernel) rfl) ?_
                exact r_iret rfl rfl _ rfl rfl (by decide +kernel)
            · refine r_p (pc' := 80) (p_iconst (n := 0) (v := 0) (by decide +kernel) rfl) ?_
              exact r_iret rfl rfl _ rfl rfl (by decide +kernel)
          · refine r_ifge (off := 7) (tgt := 71) (by decide +kernel) (by decide) (fun h18 => ?_) (fun h18 => ?_)
            · refine r_p (pc' := 72) (p_iconst (n := 0) (v := 0) (by decide +kernel) rfl) ?_
              exact hj21 0 _
            · refine r_p (pc' := 68) (p_iconst (n := 1) (v := 1) (by decide +kernel) rfl) ?_
              refine r_p (pc' := 72) (p_goto (off := 4) (tgt := 72) (by decide +kernel) (by decide)) ?_
              exact hj21 1 _
        · refine r_p (pc' := 80) (p_iconst (n := 0) (v := 0) (by decide +kernel) rfl) ?_
          exact r_iret rfl rfl _ rfl rfl (by decide +kernel)
      · refine r_ifne (off := 7) (tgt := 49) (by decide +kernel) (by decide) (fun h11 => ?_) (fun h11 => ?_)
        · refine r_p (pc' := 46) (p_iconst (n := 1) (v := 1) (by decide +kernel) rfl) ?_
          refine r_p (pc' := 50) (p_goto (off := 4) (tgt := 50) (by decide +kernel) (by decide)) ?_
          exact hj14 1 _
        · refine r_p (pc' := 50) (p_iconst (n := 0) (v := 0) (by decide +kernel) rfl) ?_
          exact hj14 0 _
    · refine r_p (pc' := 80) (p_iconst (n := 0) (v := 0) (by decide +kernel) rfl) ?_
      exact r_iret rfl rfl _ rfl rfl (by decide +kernel)
  · refine r_ifne (off := 11) (tgt := 22) (by decide +kernel) (by decide) (fun h2 => ?_) (fun h2 => ?_)
    · refine r_p (pc' := 15) (p_aload_n 0 (k := 0) (by decide +kernel) rfl) ?_
      refine r_p (pc' := 16) (p_iload_n 2 (k := 2) (by decide +kernel) rfl) ?_
      refine r_callVI mvX12_331 (ctX12_noMaster a0 a2) (rcX12_noMaster a0 a2) ⟨_, _, rfl⟩ (as := [vi a2]) (st := [vr a0]) rfl rfl (by decide +kernel) rfl (Nat.le_of_ble_eq_true rfl) (Nat.le_of_ble_eq_true rfl) fun v6 s => ?_
      refine r_ifeq (off := 7) (tgt := 26) (by decide +kernel) (by decide) (fun h7 => ?_) (fun h7 => ?_)
      · refine r_p (pc' := 27) (p_iconst (n := 0) (v := 0) (by decide +kernel) rfl) ?_
        exact hj5 0 _
      · refine r_p (pc' := 23) (p_iconst (n := 1) (v := 1) (by decide +kernel) rfl) ?_
        refine r_p (pc' := 27) (p_goto (off := 4) (tgt := 27) (by decide +kernel) (by decide)) ?_
        exact hj5 1 _
    · refine r_p (pc' := 23) (p_iconst (n := 1) (v := 1) (by decide +kernel) rfl) ?_
      refine r_p (pc' := 27) (p_goto (off := 4) (tgt := 27) (by decide +kernel) (by decide)) ?_
      exact hj5 1 _
def aX12_ofLog : StA := (RX12, cX12_ofLog, 3, some .int, yX12_ofLog, 8, [])
noncomputable def mX12_ofLog (a0 : Nat) (a1 : Int32) (a2 : Int32) : MM Int32 := onC 11 a0 (
  mbnd (gR 11 1 a0) fun (v1 : Nat) =>
  mbnd (ldI 0 v1 ((771 + (5 * a1)) + a2)) fun (v2 : Int32) =>
  mret v2
  )
theorem rcX12_ofLog (a0 : Nat) (a1 : Int32) (a2 : Int32) : Rcv 11 a0 (mX12_ofLog a0 a1 a2) := fun s r h => ⟨(onC_some h).1, (onC_some h).2.1⟩
set_option maxHeartbeats 4000000 in
set_option maxRecDepth 100000 in
theorem ctX12_ofLog (a0 : Nat) (a1 : Int32) (a2 : Int32) : Ct aX12_ofLog [vr a0, vi a1, vi a2] (mX12_ofLog a0 a1 a2) rI := by
  unfold mX12_ofLog
  refine ct_onC (ct_intro (by decide +kernel) rfl (Nat.le_of_ble_eq_true rfl) fun Y s => ?_)
  refine r_sub (lv' := [(0, vr a0), (1, vi a1), (2, vi a2)]) [0, 1, 2] rfl ?_
  refine r_p (pc' := 1) (p_aload_n 0 (k := 0) (by decide +kernel) rfl) ?_
  refine r_gR flX12_13_11 (by decide +kernel) fun v1 => ?_
  refine r_p (pc' := 7) (p_sipush (n := 771) (v := 771) (by decide +kernel) (by decide +kernel)) ?_
  refine r_p (pc' := 8) (p_iconst (n := 5) (v := 5) (by decide +kernel) rfl) ?_
  refine r_p (pc' := 9) (p_iload_n 1 (k := 1) (by decide +kernel) rfl) ?_
  refine r_p (pc' := 10) (p_imul (by decide +kernel)) ?_
  refine r_p (pc' := 11) (p_iadd (by decide +kernel)) ?_
  refine r_p (pc' := 12) (p_iload_n 2 (k := 2) (by decide +kernel) rfl) ?_
  refine r_p (pc' := 13) (p_iadd (by decide +kernel)) ?_
  refine r_ldI0 (by decide +kernel) fun v2 => ?_
  exact r_iret rfl rfl _ rfl rfl (by decide +kernel)
def aX12_log : StA := (RX12, cX12_log, 3, some .int, yX12_log, 9, [])
theorem mvX12_470 : MV RX12 470 aX12_ofLog 2 := ⟨tblG_of 2330 (by decide +kernel) (by decide +kernel), tblG_of 2332 (by decide +kernel) (by decide +kernel), tblG_of 140 (by decide +kernel) (by decide +kernel), tblG_of 157 (by decide +kernel) (by decide +kernel), tblG_of 2333 (by decide +kernel) (by decide +kernel), rfl, ⟨by decide, by decide⟩, by decide +kernel, by decide⟩
noncomputable def mX12_log (a0 : Nat) (a1 : Int32) (a2 : Int32) : MM Int32 := onC 11 a0 (
  mbnd (pI 11 0 a0 0) fun _ =>
  mbnd (mX12_in a2 0 4) fun (v1 : Int32) =>
  mbnd (α := Int32) (
    if v1 = 0 then (
      mret 1
    ) else (
      mret 0
    )
  ) fun (x3 : Int32) =>
  mbnd (mX12_throwsIf a0 x3 1) fun (v6 : Int32) =>
  if v6 = 0 then (
    mbnd (gR 11 1 a0) fun (v8 : Nat) =>
    mbnd (ldI 0 v8 10) fun (v9 : Int32) =>
    mbnd (mX12_in a1 0 (v9 - 1)) fun (v10 : Int32) =>
    if v10 = 0 then (
      mret (-99)
    ) else (
      mbnd (mX12_ofLog a0 a1 a2) fun (v12 : Int32) =>
      mret v12
    )
  ) else (
    mret 0
  )
  )
theorem rcX12_log (a0 : Nat) (a1 : Int32) (a2 : Int32) : Rcv 11 a0 (mX12_log a0 a1 a2) := fun s r h => ⟨(onC_some h).1, (onC_some h).2.1⟩
set_option maxHeartbeats 4000000 in
set_option maxRecDepth 100000 in
theorem ctX12_log (a0 : Nat) (a1 : Int32) (a2 : Int32) : Ct aX12_log [vr a0, vi a1, vi a2] (mX12_log a0 a1 a2) rI := by
  unfold mX12_log
  refine ct_onC (ct_intro (by decide +kernel) rfl (Nat.le_of_ble_eq_true rfl) fun Y s => ?_)
  refine r_sub (lv' := [(0, vr a0), (1, vi a1), (2, vi a2)]) [0, 1, 2] rfl ?_
  refine r_p (pc' := 1) (p_aload_n 0 (k := 0) (by decide +kernel) rfl) ?_
  refine r_p (pc' := 2) (p_iconst (n := 0) (v := 0) (by decide +kernel) rfl) ?_
  refine r_pI fpX12_3_11 (fun h => by cases h) (by decide +kernel) fun s => ?_
  refine r_p (pc' := 6) (p_aload_n 0 (k := 0) (by decide +kernel) rfl) ?_
  refine r_p (pc' := 7) (p_iload_n 2 (k := 2) (by decide +kernel) rfl) ?_
  refine r_p (pc' := 8) (p_iconst (n := 0) (v := 0) (by decide +kernel) rfl) ?_
  refine r_p (pc' := 9) (p_iconst (n := 4) (v := 4) (by decide +kernel) rfl) ?_
  refine r_callSI msX12_72 (ctX12_in a2 0 4) (as := [vi a2, vi 0, vi 4]) (st := [vr a0]) rfl rfl (by decide +kernel) rfl (Nat.le_of_ble_eq_true rfl) (Nat.le_of_ble_eq_true rfl) fun v1 s => ?_
  refine r_join 20 (fun (x3 : Int32) => [(0, vr a0), (1, vi a1), (2, vi a2)]) (fun (x3 : Int32) => [vi x3, vr a0]) (fun x3 s => ?_) (fun K4 hj5 => ?_)
  · refine r_p (pc' := 21) (p_iconst (n := 1) (v := 1) (by decide +kernel) rfl) ?_
    refine r_callVI mvX12_265 (ctX12_throwsIf a0 x3 1) (rcX12_throwsIf a0 x3 1) ⟨_, _, rfl⟩ (as := [vi x3, vi 1]) (st := []) rfl rfl (by decide +kernel) rfl (Nat.le_of_ble_eq_true rfl) (Nat.le_of_ble_eq_true rfl) fun v6 s => ?_
    refine r_ifeq (off := 5) (tgt := 29) (by decide +kernel) (by decide) (fun h7 => ?_) (fun h7 => ?_)
    · refine r_p (pc' := 30) (p_iload_n 1 (k := 1) (by decide +kernel) rfl) ?_
      refine r_p (pc' := 31) (p_iconst (n := 0) (v := 0) (by decide +kernel) rfl) ?_
      refine r_p (pc' := 32) (p_aload_n 0 (k := 0) (by decide +kernel) rfl) ?_
      refine r_gR flX12_13_11 (by decide +kernel) fun v8 => ?_
      refine r_p (pc' := 37) (p_bipush (n := 10) (v := 10) (by decide +kernel) (by decide +kernel)) ?_
      refine r_ldI0 (by decide +kernel) fun v9 => ?_
      refine r_p (pc' := 39) (p_iconst (n := 1) (v := 1) (by decide +kernel) rfl) ?_
      refine r_p (pc' := 40) (p_isub (by decide +kernel)) ?_
      refine r_callSI msX12_72 (ctX12_in a1 0 (v9 - 1)) (as := [vi a1, vi 0, vi (v9 - 1)]) (st := []) rfl rfl (by decide +kernel) rfl (Nat.le_of_ble_eq_true rfl) (Nat.le_of_ble_eq_true rfl) fun v10 s => ?_
      refine r_ifeq (off := 12) (tgt := 55) (by decide +kernel) (by decide) (fun h11 => ?_) (fun h11 => ?_)
      · refine r_p (pc' := 57) (p_bipush (n := -99) (v := -99) (by decide +kernel) (by decide +kernel)) ?_
        exact r_iret rfl rfl _ rfl rfl (by decide +kernel)
      · refine r_p (pc' := 47) (p_aload_n 0 (k := 0) (by decide +kernel) rfl) ?_
        refine r_p (pc' := 48) (p_iload_n 1 (k := 1) (by decide +kernel) rfl) ?_
        refine r_p (pc' := 49) (p_iload_n 2 (k := 2) (by decide +kernel) rfl) ?_
        refine r_callVI mvX12_470 (ctX12_ofLog a0 a1 a2) (rcX12_ofLog a0 a1 a2) ⟨_, _, rfl⟩ (as := [vi a1, vi a2]) (st := []) rfl rfl (by decide +kernel) rfl (Nat.le_of_ble_eq_true rfl) (Nat.le_of_ble_eq_true rfl) fun v12 s => ?_
        refine r_p (pc' := 57) (p_goto (off := 5) (tgt := 57) (by decide +kernel) (by decide)) ?_
        exact r_iret rfl rfl _ rfl rfl (by decide +kernel)
    · refine r_p (pc' := 28) (p_iconst (n := 0) (v := 0) (by decide +kernel) rfl) ?_
      exact r_iret rfl rfl _ rfl rfl (by decide +kernel)
  · refine r_ifne (off := 7) (tgt := 19) (by decide +kernel) (by decide) (fun h2 => ?_) (fun h2 => ?_)
    · refine r_p (pc' := 16) (p_iconst (n := 1) (v := 1) (by decide +kernel) rfl) ?_
      refine r_p (pc' := 20) (p_goto (off := 4) (tgt := 20) (by decide +kernel) (by decide)) ?_
      exact hj5 1 _
    · refine r_p (pc' := 20) (p_iconst (n := 0) (v := 0) (by decide +kernel) rfl) ?_
      exact hj5 0 _
def aX12_led : StA := (RX12, cX12_led, 4, some .int, yX12_led, 10, [])
noncomputable def mX12_led_L24 (a0 : Nat) (a1 : Int32) (x4 : Int32 × Int32) : MM ((Int32 × Int32) ⊕ (Int32)) :=
  mbnd (gR 11 1 a0) fun (v8 : Nat) =>
  mbnd (ldI 0 v8 10) fun (v9 : Int32) =>
  if v9 ≤ x4.2 then (
    mret (.inr x4.1)
  ) else (
    mbnd (mX12_ofLog a0 x4.2 1) fun (v11 : Int32) =>
    mbnd (α := Int32) (
      if v11 = a1 then (
        mret 1
      ) else (
        mret 0
      )
    ) fun (x13 : Int32) =>
    mbnd (mret (x4.1 + x13)) fun (v16 : Int32) =>
    mret (.inl (v16, x4.2 + 1))
  )
noncomputable def mX12_led (a0 : Nat) (a1 : Int32) : MM Int32 := onC 11 a0 (
  mbnd (pI 11 0 a0 0) fun _ =>
  mbnd (mX12_noPart a0 a1) fun (v1 : Int32) =>
  mbnd (mX12_throwsIf a0 v1 1) fun (v2 : Int32) =>
  if v2 = 0 then (
    mbnd (loopM (mX12_led_L24 a0 a1) (0, 0)) fun (e17 : Int32) =>
    mret e17
  ) else (
    mret 0
  )
  )
theorem rcX12_led (a0 : Nat) (a1 : Int32) : Rcv 11 a0 (mX12_led a0 a1) := fun s r h => ⟨(onC_some h).1, (onC_some h).2.1⟩
set_option maxHeartbeats 4000000 in
set_option maxRecDepth 100000 in
theorem ctX12_led (a0 : Nat) (a1 : Int32) : Ct aX12_led [vr a0, vi a1] (mX12_led a0 a1) rI := by
  unfold mX12_led
  refine ct_onC (ct_intro (by decide +kernel) rfl (Nat.le_of_ble_eq_true rfl) fun Y s => ?_)
  refine r_sub (lv' := [(0, vr a0), (1, vi a1)]) [0, 1] rfl ?_
  refine r_p (pc' := 1) (p_aload_n 0 (k := 0) (by decide +kernel) rfl) ?_
  refine r_p (pc' := 2) (p_iconst (n := 0) (v := 0) (by decide +kernel) rfl) ?_
  refine r_pI fpX12_3_11 (fun h => by cases h) (by decide +kernel) fun s => ?_
  refine r_p (pc' := 6) (p_aload_n 0 (k := 0) (by decide +kernel) rfl) ?_
  refine r_p (pc' := 7) (p_aload_n 0 (k := 0) (by decide +kernel) rfl) ?_
  refine r_p (pc' := 8) (p_iload_n 1 (k := 1) (by decide +kernel) rfl) ?_
  refine r_callVI mvX12_313 (ctX12_noPart a0 a1) (rcX12_noPart a0 a1) ⟨_, _, rfl⟩ (as := [vi a1]) (st := [vr a0]) rfl rfl (by decide +kernel) rfl (Nat.le_of_ble_eq_true rfl) (Nat.le_of_ble_eq_true rfl) fun v1 s => ?_
  refine r_p (pc' := 12) (p_iconst (n := 1) (v := 1) (by decide +kernel) rfl) ?_
  refine r_callVI mvX12_265 (ctX12_throwsIf a0 v1 1) (rcX12_throwsIf a0 v1 1) ⟨_, _, rfl⟩ (as := [vi v1, vi 1]) (st := []) rfl rfl (by decide +kernel) rfl (Nat.le_of_ble_eq_true rfl) (Nat.le_of_ble_eq_true rfl) fun v2 s => ?_
  refine r_ifeq (off := 5) (tgt := 20) (by decide +kernel) (by decide) (fun h3 => ?_) (fun h3 => ?_)
  · refine r_p (pc' := 21) (p_iconst (n := 0) (v := 0) (by decide +kernel) rfl) ?_
    refine r_p (pc' := 22) (p_istore_n (k := 2) (lv' := [(2, vi 0), (0, vr a0), (1, vi a1)]) (by decide +kernel) (Nat.le_of_ble_eq_true rfl) rfl) ?_
    refine r_p (pc' := 23) (p_iconst (n := 0) (v := 0) (by decide +kernel) rfl) ?_
    refine r_p (pc' := 24) (p_istore_n (k := 3) (lv' := [(3, vi 0), (2, vi 0), (0, vr a0), (1, vi a1)]) (by decide +kernel) (Nat.le_of_ble_eq_true rfl) rfl) ?_
    refine r_sub (lv' := [(0, vr a0), (1, vi a1), (2, vi 0), (3, vi 0)]) [2, 3, 1, 0] rfl ?_
    refine r_loop2 (fun _ => 59) (fun (e17 : Int32) => [(2, vi e17)]) (fun (x4 : Int32 × Int32) => [(0, vr a0), (1, vi a1), (2, vi x4.1), (3, vi x4.2)]) (fun e17 s => ?_) (fun K5 hb6 he7 x4 s => ?_) (0, 0) _
    · refine r_p (pc' := 60) (p_iload_n 0 (k := 2) (by decide +kernel) rfl) ?_
      exact r_iret rfl rfl _ rfl rfl (by decide +kernel)
    · unfold mX12_led_L24
      refine r_p (pc' := 25) (p_iload_n 3 (k := 3) (by decide +kernel) rfl) ?_
      refine r_p (pc' := 26) (p_aload_n 0 (k := 0) (by decide +kernel) rfl) ?_
      refine r_gR flX12_13_11 (by decide +kernel) fun v8 => ?_
      refine r_p (pc' := 31) (p_bipush (n := 10) (v := 10) (by decide +kernel) (by decide +kernel)) ?_
      refine r_ldI0 (by decide +kernel) fun v9 => ?_
      refine r_icmpge (off := 27) (tgt := 59) (by decide +kernel) (by decide) (fun h10 => ?_) (fun h10 => ?_)
      · refine r_sub (lv' := [(2, vi x4.1)]) [2] rfl ?_
        exact he7 x4.1 _
      · refine r_p (pc' := 36) (p_iload_n 2 (k := 2) (by decide +kernel) rfl) ?_
        refine r_p (pc' := 37) (p_aload_n 0 (k := 0) (by decide +kernel) rfl) ?_
        refine r_p (pc' := 38) (p_iload_n 3 (k := 3) (by decide +kernel) rfl) ?_
        refine r_p (pc' := 39) (p_iconst (n := 1) (v := 1) (by decide +kernel) rfl) ?_
        refine r_callVI mvX12_470 (ctX12_ofLog a0 x4.2 1) (rcX12_ofLog a0 x4.2 1) ⟨_, _, rfl⟩ (as := [vi x4.2, vi 1]) (st := [vi x4.1]) rfl rfl (by decide +kernel) rfl (Nat.le_of_ble_eq_true rfl) (Nat.le_of_ble_eq_true rfl) fun v11 s => ?_
        refine r_p (pc' := 43) (p_iload_n 1 (k := 1) (by decide +kernel) rfl) ?_
        refine r_join 51 (fun (x13 : Int32) => [(0, vr a0), (1, vi a1), (3, vi x4.2)]) (fun (x13 : Int32) => [vi x13, vi x4.1]) (fun x13 s => ?_) (fun K14 hj15 => ?_)
        · refine r_p (pc' := 52) (p_iadd (by decide +kernel)) ?_
          refine r_letI fun v16 => ?_
          refine r_p (pc' := 53) (p_istore_n (k := 2) (lv' := [(2, vi v16), (0, vr a0), (1, vi a1), (3, vi x4.2)]) (by decide +kernel) (Nat.le_of_ble_eq_true rfl) rfl) ?_
          refine r_p (pc' := 56) (p_iinc 3 (i := 3) (n := 1) (x := x4.2) (v := x4.2 + 1) (lv' := [(3, vi (x4.2 + 1)), (2, vi v16), (0, vr a0), (1, vi a1)]) (by decide +kernel) rfl rfl (Nat.le_of_ble_eq_true rfl) rfl) ?_
          refine r_p (pc' := 24) (p_goto (off := -32) (tgt := 24) (by decide +kernel) (by decide)) ?_
          refine r_sub (lv' := [(0, vr a0), (1, vi a1), (2, vi v16), (3, vi (x4.2 + 1))]) [2, 3, 1, 0] rfl ?_
          exact hb6 (v16, x4.2 + 1) _
        · refine r_icmpne (off := 7) (tgt := 50) (by decide +kernel) (by decide) (fun h12 => ?_) (fun h12 => ?_)
          · refine r_p (pc' := 47) (p_iconst (n := 1) (v := 1) (by decide +kernel) rfl) ?_
            refine r_p (pc' := 51) (p_goto (off := 4) (tgt := 51) (by decide +kernel) (by decide)) ?_
            refine r_sub (lv' := [(0, vr a0), (1, vi a1), (3, vi x4.2)]) [0, 1, 3] rfl ?_
            exact hj15 1 _
          · refine r_p (pc' := 51) (p_iconst (n := 0) (v := 0) (by decide +kernel) rfl) ?_
            refine r_sub (lv' := [(0, vr a0), (1, vi a1), (3, vi x4.2)]) [0, 1, 3] rfl ?_
            exact hj15 0 _
  · refine r_p (pc' := 19) (p_iconst (n := 0) (v := 0) (by decide +kernel) rfl) ?_
    exact r_iret rfl rfl _ rfl rfl (by decide +kernel)
def aX12_seed : StA := (RX12, cX12_seed, 3, some .int, yX12_seed, 8, [])
noncomputable def mX12_seed (a0 : Nat) (a1 : Int32) : MM Int32 := onC 11 a0 (
  mbnd (pI 11 0 a0 0) fun _ =>
  mbnd (gR 11 1 a0) fun (v1 : Nat) =>
  mbnd (ldI 0 v1 12) fun (v2 : Int32) =>
  mbnd (gR 11 1 a0) fun (v3 : Nat) =>
  mbnd (stI 0 v3 12 a1) fun _ =>
  mret v2
  )
theorem rcX12_seed (a0 : Nat) (a1 : Int32) : Rcv 11 a0 (mX12_seed a0 a1) := fun s r h => ⟨(onC_some h).1, (onC_some h).2.1⟩
set_option maxHeartbeats 4000000 in
set_option maxRecDepth 100000 in
theorem ctX12_seed (a0 : Nat) (a1 : Int32) : Ct aX12_seed [vr a0, vi a1] (mX12_seed a0 a1) rI := by
  unfold mX12_seed
  refine ct_onC (ct_intro (by decide +kernel) rfl (Nat.le_of_ble_eq_true rfl) fun Y s => ?_)
  refine r_sub (lv' := [(0, vr a0), (1, vi a1)]) [0, 1] rfl ?_
  refine r_p (pc' := 1) (p_aload_n 0 (k := 0) (by decide +kernel) rfl) ?_
  refine r_p (pc' := 2) (p_iconst (n := 0) (v := 0) (by decide +kernel) rfl) ?_
  refine r_pI fpX12_3_11 (fun h => by cases h) (by decide +kernel) fun s => ?_
  refine r_p (pc' := 6) (p_aload_n 0 (k := 0) (by decide +kernel) rfl) ?_
  refine r_gR flX12_13_11 (by decide +kernel) fun v1 => ?_
  refine r_p (pc' := 11) (p_bipush (n := 12) (v := 12) (by decide +kernel) (by decide +kernel)) ?_
  refine r_ldI0 (by decide +kernel) fun v2 => ?_
  refine r_p (pc' := 13) (p_istore_n (k := 2) (lv' := [(2, vi v2), (0, vr a0), (1, vi a1)]) (by decide +kernel) (Nat.le_of_ble_eq_true rfl) rfl) ?_
  refine r_p (pc' := 14) (p_aload_n 1 (k := 0) (by decide +kernel) rfl) ?_
  refine r_gR flX12_13_11 (by decide +kernel) fun v3 => ?_
  refine r_p (pc' := 19) (p_bipush (n := 12) (v := 12) (by decide +kernel) (by decide +kernel)) ?_
  refine r_p (pc' := 20) (p_iload_n 2 (k := 1) (by decide +kernel) rfl) ?_
  refine r_stI0 (by decide +kernel) fun s => ?_
  refine r_p (pc' := 22) (p_iload_n 0 (k := 2) (by decide +kernel) rfl) ?_
  exact r_iret rfl rfl _ rfl rfl (by decide +kernel)
def aX12_spares : StA := (RX12, cX12_spares, 3, some .int, yX12_spares, 11, [])
noncomputable def mX12_spares_L4 (a0 : Nat) (x1 : Int32 × Int32) : MM ((Int32 × Int32) ⊕ (Int32)) :=
  mbnd (mX12_parts a0) fun (v5 : Int32) =>
  if v5 ≤ x1.2 then (
    mret (.inr x1.1)
  ) else (
    mbnd (mX12_isSpare a0 x1.2) fun (v7 : Int32) =>
    mbnd (α := Int32) (
      if v7 = 0 then (
        mret 0
      ) else (
        mret (1 <<< (x1.2 &&& (31 : Int32)))
      )
    ) fun (x9 : Int32) =>
    mbnd (mret (x1.1 ||| x9)) fun (v12 : Int32) =>
    mret (.inl (v12, x1.2 + 1))
  )
noncomputable def mX12_spares (a0 : Nat) : MM Int32 := onC 11 a0 (
  mbnd (loopM (mX12_spares_L4 a0) (0, 0)) fun (e13 : Int32) =>
  mret e13
  )
theorem rcX12_spares (a0 : Nat) : Rcv 11 a0 (mX12_spares a0) := fun s r h => ⟨(onC_some h).1, (onC_some h).2.1⟩
set_option maxHeartbeats 4000000 in
set_option maxRecDepth 100000 in
theorem ctX12_spares (a0 : Nat) : Ct aX12_spares [vr a0] (mX12_spares a0) rI := by
  unfold mX12_spares
  refine ct_onC (ct_intro (by decide +kernel) rfl (Nat.le_of_ble_eq_true rfl) fun Y s => ?_)
  refine r_sub (lv' := [(0, vr a0)]) [0] rfl ?_
  refine r_p (pc' := 1) (p_iconst (n := 0) (v := 0) (by decide +kernel) rfl) ?_
  refine r_p (pc' := 2) (p_istore_n (k := 1) (lv' := [(1, vi 0), (0, vr a0)]) (by decide +kernel) (Nat.le_of_ble_eq_true rfl) rfl) ?_
  refine r_p (pc' := 3) (p_iconst (n := 0) (v := 0) (by decide +kernel) rfl) ?_
  refine r_p (pc' := 4) (p_istore_n (k := 2) (lv' := [(2, vi 0), (1, vi 0), (0, vr a0)]) (by decide +kernel) (Nat.le_of_ble_eq_true rfl) rfl) ?_
  refine r_sub (lv' := [(0, vr a0), (1, vi 0), (2, vi 0)]) [2, 1, 0] rfl ?_
  refine r_loop2 (fun _ => 36) (fun (e13 : Int32) => [(1, vi e13)]) (fun (x1 : Int32 × Int32) => [(0, vr a0), (1, vi x1.1), (2, vi x1.2)]) (fun e13 s => ?_) (fun K2 hb3 he4 x1 s => ?_) (0, 0) _
  · refine r_p (pc' := 37) (p_iload_n 0 (k := 1) (by decide +kernel) rfl) ?_
    exact r_iret rfl rfl _ rfl rfl (by decide +kernel)
  · unfold mX12_spares_L4
    refine r_p (pc' := 5) (p_iload_n 2 (k := 2) (by decide +kernel) rfl) ?_
    refine r_p (pc' := 6) (p_aload_n 0 (k := 0) (by decide +kernel) rfl) ?_
    refine r_callVI mvX12_68 (ctX12_parts a0) (rcX12_parts a0) ⟨_, _, rfl⟩ (as := []) (st := [vi x1.2]) rfl rfl (by decide +kernel) rfl (Nat.le_of_ble_eq_true rfl) (Nat.le_of_ble_eq_true rfl) fun v5 s => ?_
    refine r_icmpge (off := 27) (tgt := 36) (by decide +kernel) (by decide) (fun h6 => ?_) (fun h6 => ?_)
    · refine r_sub (lv' := [(1, vi x1.1)]) [1] rfl ?_
      exact he4 x1.1 _
    · refine r_p (pc' := 13) (p_iload_n 1 (k := 1) (by decide +kernel) rfl) ?_
      refine r_p (pc' := 14) (p_aload_n 0 (k := 0) (by decide +kernel) rfl) ?_
      refine r_p (pc' := 15) (p_iload_n 2 (k := 2) (by decide +kernel) rfl) ?_
      refine r_callVI mvX12_145 (ctX12_isSpare a0 x1.2) (rcX12_isSpare a0 x1.2) ⟨_, _, rfl⟩ (as := [vi x1.2]) (st := [vi x1.1]) rfl rfl (by decide +kernel) rfl (Nat.le_of_ble_eq_true rfl) (Nat.le_of_ble_eq_true rfl) fun v7 s => ?_
      refine r_join 28 (fun (x9 : Int32) => [(0, vr a0), (2, vi x1.2)]) (fun (x9 : Int32) => [vi x9, vi x1.1]) (fun x9 s => ?_) (fun K10 hj11 => ?_)
      · refine r_p (pc' := 29) (p_ior (by decide +kernel)) ?_
        refine r_letI fun v12 => ?_
        refine r_p (pc' := 30) (p_istore_n (k := 1) (lv' := [(1, vi v12), (0, vr a0), (2, vi x1.2)]) (by decide +kernel) (Nat.le_of_ble_eq_true rfl) rfl) ?_
        refine r_p (pc' := 33) (p_iinc 2 (i := 2) (n := 1) (x := x1.2) (v := x1.2 + 1) (lv' := [(2, vi (x1.2 + 1)), (1, vi v12), (0, vr a0)]) (by decide +kernel) rfl rfl (Nat.le_of_ble_eq_true rfl) rfl) ?_
        refine r_p (pc' := 4) (p_goto (off := -29) (tgt := 4) (by decide +kernel) (by decide)) ?_
        refine r_sub (lv' := [(0, vr a0), (1, vi v12), (2, vi (x1.2 + 1))]) [2, 1, 0] rfl ?_
        exact hb3 (v12, x1.2 + 1) _
      · refine r_ifeq (off := 9) (tgt := 27) (by decide +kernel) (by decide) (fun h8 => ?_) (fun h8 => ?_)
        · refine r_p (pc' := 28) (p_iconst (n := 0) (v := 0) (by decide +kernel) rfl) ?_
          refine r_sub (lv' := [(0, vr a0), (2, vi x1.2)]) [0, 2] rfl ?_
          exact hj11 0 _
        · refine r_p (pc' := 22) (p_iconst (n := 1) (v := 1) (by decide +kernel) rfl) ?_
          refine r_p (pc' := 23) (p_iload_n 2 (k := 2) (by decide +kernel) rfl) ?_
          refine r_p (pc' := 24) (p_ishl (by decide +kernel)) ?_
          refine r_p (pc' := 28) (p_goto (off := 4) (tgt := 28) (by decide +kernel) (by decide)) ?_
          refine r_sub (lv' := [(0, vr a0), (2, vi x1.2)]) [0, 2] rfl ?_
          exact hj11 (1 <<< (x1.2 &&& (31 : Int32))) _
def aX12_allGuilt : StA := (RX12, cX12_allGuilt, 3, some .int, yX12_allGuilt, 10, [])
noncomputable def mX12_allGuilt_L4 (a0 : Nat) (x1 : Int32 × Int32) : MM ((Int32 × Int32) ⊕ (Int32)) :=
  mbnd (mX12_parts a0) fun (v5 : Int32) =>
  if v5 ≤ x1.2 then (
    mret (.inr x1.1)
  ) else (
    mbnd (mX12_of a0 x1.2 3) fun (v7 : Int32) =>
    mbnd (mret (x1.1 + v7)) fun (v8 : Int32) =>
    mret (.inl (v8, x1.2 + 1))
  )
noncomputable def mX12_allGuilt (a0 : Nat) : MM Int32 := onC 11 a0 (
  mbnd (loopM (mX12_allGuilt_L4 a0) (0, 0)) fun (e9 : Int32) =>
  mret e9
  )
theorem rcX12_allGuilt (a0 : Nat) : Rcv 11 a0 (mX12_allGuilt a0) := fun s r h => ⟨(onC_some h).1, (onC_some h).2.1⟩
set_option maxHeartbeats 4000000 in
set_option maxRecDepth 100000 in
theorem ctX12_allGuilt (a0 : Nat) : Ct aX12_allGuilt [vr a0] (mX12_allGuilt a0) rI := by
  unfold mX12_allGuilt
  refine ct_onC (ct_intro (by decide +kernel) rfl (Nat.le_of_ble_eq_true rfl) fun Y s => ?_)
  refine r_sub (lv' := [(0, vr a0)]) [0] rfl ?_
  refine r_p (pc' := 1) (p_iconst (n := 0) (v := 0) (by decide +kernel) rfl) ?_
  refine r_p (pc' := 2) (p_istore_n (k := 1) (lv' := [(1, vi 0), (0, vr a0)]) (by decide +kernel) (Nat.le_of_ble_eq_true rfl) rfl) ?_
  refine r_p (pc' := 3) (p_iconst (n := 0) (v := 0) (by decide +kernel) rfl) ?_
  refine r_p (pc' := 4) (p_istore_n (k := 2) (lv' := [(2, vi 0), (1, vi 0), (0, vr a0)]) (by decide +kernel) (Nat.le_of_ble_eq_true rfl) rfl) ?_
  refine r_sub (lv' := [(0, vr a0), (1, vi 0), (2, vi 0)]) [2, 1, 0] rfl ?_
  refine r_loop2 (fun _ => 27) (fun (e9 : Int32) => [(1, vi e9)]) (fun (x1 : Int32 × Int32) => [(0, vr a0), (1, vi x1.1), (2, vi x1.2)]) (fun e9 s => ?_) (fun K2 hb3 he4 x1 s => ?_) (0, 0) _
  · refine r_p (pc' := 28) (p_iload_n 0 (k := 1) (by decide +kernel) rfl) ?_
    exact r_iret rfl rfl _ rfl rfl (by decide +kernel)
  · unfold mX12_allGuilt_L4
    refine r_p (pc' := 5) (p_iload_n 2 (k := 2) (by decide +kernel) rfl) ?_
    refine r_p (pc' := 6) (p_aload_n 0 (k := 0) (by decide +kernel) rfl) ?_
    refine r_callVI mvX12_68 (ctX12_parts a0) (rcX12_parts a0) ⟨_, _, rfl⟩ (as := []) (st := [vi x1.2]) rfl rfl (by decide +kernel) rfl (Nat.le_of_ble_eq_true rfl) (Nat.le_of_ble_eq_true rfl) fun v5 s => ?_
    refine r_icmpge (off := 18) (tgt := 27) (by decide +kernel) (by decide) (fun h6 => ?_) (fun h6 => ?_)
    · refine r_sub (lv' := [(1, vi x1.1)]) [1] rfl ?_
      exact he4 x1.1 _
    · refine r_p (pc' := 13) (p_iload_n 1 (k := 1) (by decide +kernel) rfl) ?_
      refine r_p (pc' := 14) (p_aload_n 0 (k := 0) (by decide +kernel) rfl) ?_
      refine r_p (pc' := 15) (p_iload_n 2 (k := 2) (by decide +kernel) rfl) ?_
      refine r_p (pc' := 16) (p_iconst (n := 3) (v := 3) (by decide +kernel) rfl) ?_
      refine r_callVI mvX12_65 (ctX12_of a0 x1.2 3) (rcX12_of a0 x1.2 3) ⟨_, _, rfl⟩ (as := [vi x1.2, vi 3]) (st := [vi x1.1]) rfl rfl (by decide +kernel) rfl (Nat.le_of_ble_eq_true rfl) (Nat.le_of_ble_eq_true rfl) fun v7 s => ?_
      refine r_p (pc' := 20) (p_iadd (by decide +kernel)) ?_
      refine r_letI fun v8 => ?_
      refine r_p (pc' := 21) (p_istore_n (k := 1) (lv' := [(1, vi v8), (0, vr a0), (2, vi x1.2)]) (by decide +kernel) (Nat.le_of_ble_eq_true rfl) rfl) ?_
      refine r_p (pc' := 24) (p_iinc 2 (i := 2) (n := 1) (x := x1.2) (v := x1.2 + 1) (lv' := [(2, vi (x1.2 + 1)), (1, vi v8), (0, vr a0)]) (by decide +kernel) rfl rfl (Nat.le_of_ble_eq_true rfl) rfl) ?_
      refine r_p (pc' := 4) (p_goto (off := -20) (tgt := 4) (by decide +kernel) (by decide)) ?_
      refine r_sub (lv' := [(0, vr a0), (1, vi v8), (2, vi (x1.2 + 1))]) [2, 1, 0] rfl ?_
      exact hb3 (v8, x1.2 + 1) _
def aX12_count : StA := (RX12, cX12_count, 2, some .int, yX12_count, 12, [])
theorem mvX12_473 : MV RX12 473 aX12_spares 0 := ⟨tblG_of 2346 (by decide +kernel) (by decide +kernel), tblG_of 2348 (by decide +kernel) (by decide +kernel), tblG_of 141 (by decide +kernel) (by decide +kernel), tblG_of 157 (by decide +kernel) (by decide +kernel), tblG_of 2349 (by decide +kernel) (by decide +kernel), rfl, ⟨by decide, by decide⟩, by decide +kernel, by decide⟩
theorem mvX12_476 : MV RX12 476 aX12_allGuilt 0 := ⟨tblG_of 2350 (by decide +kernel) (by decide +kernel), tblG_of 2352 (by decide +kernel) (by decide +kernel), tblG_of 142 (by decide +kernel) (by decide +kernel), tblG_of 157 (by decide +kernel) (by decide +kernel), tblG_of 2353 (by decide +kernel) (by decide +kernel), rfl, ⟨by decide, by decide⟩, by decide +kernel, by decide⟩
noncomputable def mX12_count (a0 : Nat) (a1 : Int32) : MM Int32 := onC 11 a0 (
  mbnd (pI 11 0 a0 0) fun _ =>
  if a1 = 4 then (
    mbnd (gR 11 1 a0) fun (v2 : Nat) =>
    mbnd (ldI 0 v2 4) fun (v3 : Int32) =>
    if v3 = 1 then (
      mbnd (gR 11 1 a0) fun (v5 : Nat) =>
      mbnd (ldI 0 v5 1071) fun (v6 : Int32) =>
      mret v6
    ) else (
      mret (-1)
    )
  ) else (
    if a1 = 5 then (
      mbnd (mX12_in a1 0 8) fun (v8 : Int32) =>
      if v8 = 0 then (
        mret (-1)
      ) else (
        mbnd (gR 11 1 a0) fun (v10 : Nat) =>
        mbnd (ldI 0 v10 a1) fun (v11 : Int32) =>
        mret v11
      )
    ) else (
      if a1 = 6 then (
        mbnd (mX12_in a1 0 8) fun (v13 : Int32) =>
        if v13 = 0 then (
          mret (-1)
        ) else (
          mbnd (gR 11 1 a0) fun (v15 : Nat) =>
          mbnd (ldI 0 v15 a1) fun (v16 : Int32) =>
          mret v16
        )
      ) else (
        if a1 = 7 then (
          mbnd (mX12_in a1 0 8) fun (v18 : Int32) =>
          if v18 = 0 then (
            mret (-1)
          ) else (
            mbnd (gR 11 1 a0) fun (v20 : Nat) =>
            mbnd (ldI 0 v20 a1) fun (v21 : Int32) =>
            mret v21
          )
        ) else (
          if a1 = 8 then (
            mbnd (mX12_in a1 0 8) fun (v23 : Int32) =>
            if v23 = 0 then (
              mret (-1)
            ) else (
              mbnd (gR 11 1 a0) fun (v25 : Nat) =>
              mbnd (ldI 0 v25 a1) fun (v26 : Int32) =>
              mret v26
            )
          ) else (
            if a1 = 9 then (
              mbnd (mX12_spares a0) fun (v28 : Int32) =>
              mret v28
            ) else (
              if a1 = 10 then (
                mbnd (mX12_allGuilt a0) fun (v30 : Int32) =>
                mret v30
              ) else (
                if a1 = 11 then (
                  mbnd (gR 11 1 a0) fun (v32 : Nat) =>
                  mbnd (ldI 0 v32 9) fun (v33 : Int32) =>
                  mret v33
                ) else (
                  if a1 = 12 then (
                    mbnd (gR 11 1 a0) fun (v35 : Nat) =>
                    mbnd (ldI 0 v35 10) fun (v36 : Int32) =>
                    mret v36
                  ) else (
                    if a1 = 13 then (
                      mbnd (gI 11 7 a0) fun (v38 : Int32) =>
                      mret v38
                    ) else (
                      if a1 = 14 then (
                        mbnd (gR 11 1 a0) fun (v40 : Nat) =>
                        mbnd (ldI 0 v40 11) fun (v41 : Int32) =>
                        mret v41
                      ) else (
                        mbnd (mX12_in a1 0 8) fun (v42 : Int32) =>
                        if v42 = 0 then (
                          mret (-1)
                        ) else (
                          mbnd (gR 11 1 a0) fun (v44 : Nat) =>
                          mbnd (ldI 0 v44 a1) fun (v45 : Int32) =>
                          mret v45
                        )
                      )
                    )
                  )
                )
              )
            )
          )
        )
      )
    )
  )
  )
theorem rcX12_count (a0 : Nat) (a1 : Int32) : Rcv 11 a0 (mX12_count a0 a1) := fun s r h => ⟨(onC_some h).1, (onC_some h).2.1⟩
set_option maxHeartbeats 4000000 in
set_option maxRecDepth 100000 in
theorem ctX12_count (a0 : Nat) (a1 : Int32) : Ct aX12_count [vr a0, vi a1] (mX12_count a0 a1) rI := by
  unfold mX12_count
  refine ct_onC (ct_intro (by decide +kernel) rfl (Nat.le_of_ble_eq_true rfl) fun Y s => ?_)
  refine r_sub (lv' := [(0, vr a0), (1, vi a1)]) [0, 1] rfl ?_
  refine r_p (pc' := 1) (p_aload_n 0 (k := 0) (by decide +kernel) rfl) ?_
  refine r_p (pc' := 2) (p_iconst (n := 0) (v := 0) (by decide +kernel) rfl) ?_
  refine r_pI fpX12_3_11 (fun h => by cases h) (by decide +kernel) fun s => ?_
  refine r_p (pc' := 6) (p_iload_n 1 (k := 1) (by decide +kernel) rfl) ?_
  refine r_tcase (fun h1 => ?_) (fun h1 => ?_)
  · refine r_tsin (tgt := 64) (lo := 4) (hi := 14) (dflt := 120) (offs := #[58, 120, 120, 120, 120, 81, 86, 91, 99, 107, 112]) (len := 58) (off := 58) (by decide +kernel) (by rw [h1]; decide) (by rw [h1]; decide) (by rw [h1]; rfl) (by decide) ?_
    refine r_p (pc' := 65) (p_aload_n 0 (k := 0) (by decide +kernel) rfl) ?_
    refine r_gR flX12_13_11 (by decide +kernel) fun v2 => ?_
    refine r_p (pc' := 69) (p_iconst (n := 4) (v := 4) (by decide +kernel) rfl) ?_
    refine r_ldI0 (by decide +kernel) fun v3 => ?_
    refine r_p (pc' := 71) (p_iconst (n := 1) (v := 1) (by decide +kernel) rfl) ?_
    refine r_icmpne (off := 14) (tgt := 85) (by decide +kernel) (by decide) (fun h4 => ?_) (fun h4 => ?_)
    · refine r_p (pc' := 75) (p_aload_n 0 (k := 0) (by decide +kernel) rfl) ?_
      refine r_gR flX12_13_11 (by decide +kernel) fun v5 => ?_
      refine r_p (pc' := 81) (p_sipush (n := 1071) (v := 1071) (by decide +kernel) (by decide +kernel)) ?_
      refine r_ldI0 (by decide +kernel) fun v6 => ?_
      refine r_p (pc' := 86) (p_goto (off := 4) (tgt := 86) (by decide +kernel) (by decide)) ?_
      exact r_iret rfl rfl _ rfl rfl (by decide +kernel)
    · refine r_p (pc' := 86) (p_iconst (n := -1) (v := -1) (by decide +kernel) rfl) ?_
      exact r_iret rfl rfl _ rfl rfl (by decide +kernel)
  · refine r_tcase (fun h7 => ?_) (fun h7 => ?_)
    · refine r_tsin (tgt := 126) (lo := 4) (hi := 14) (dflt := 120) (offs := #[58, 120, 120, 120, 120, 81, 86, 91, 99, 107, 112]) (len := 58) (off := 120) (by decide +kernel) (by rw [h7]; decide) (by rw [h7]; decide) (by rw [h7]; rfl) (by decide) ?_
      refine r_p (pc' := 127) (p_iload_n 1 (k := 1) (by decide +kernel) rfl) ?_
      refine r_p (pc' := 128) (p_iconst (n := 0) (v := 0) (by decide +kernel) rfl) ?_
      refine r_p (pc' := 130) (p_bipush (n := 8) (v := 8) (by decide +kernel) (by decide +kernel)) ?_
      refine r_callSI msX12_72 (ctX12_in a1 0 8) (as := [vi a1, vi 0, vi 8]) (st := []) rfl rfl (by decide +kernel) rfl (Nat.le_of_ble_eq_true rfl) (Nat.le_of_ble_eq_true rfl) fun v8 s => ?_
      refine r_ifeq (off := 12) (tgt := 145) (by decide +kernel) (by decide) (fun h9 => ?_) (fun h9 => ?_)
      · refine r_p (pc' := 146) (p_iconst (n := -1) (v := -1) (by decide +kernel) rfl) ?_
        exact r_iret rfl rfl _ rfl rfl (by decide +kernel)
      · refine r_p (pc' := 137) (p_aload_n 0 (k := 0) (by decide +kernel) rfl) ?_
        refine r_gR flX12_13_11 (by decide +kernel) fun v10 => ?_
        refine r_p (pc' := 141) (p_iload_n 1 (k := 1) (by decide +kernel) rfl) ?_
        refine r_ldI0 (by decide +kernel) fun v11 => ?_
        refine r_p (pc' := 146) (p_goto (off := 4) (tgt := 146) (by decide +kernel) (by decide)) ?_
        exact r_iret rfl rfl _ rfl rfl (by decide +kernel)
    · refine r_tcase (fun h12 => ?_) (fun h12 => ?_)
      · refine r_tsin (tgt := 126) (lo := 4) (hi := 14) (dflt := 120) (offs := #[58, 120, 120, 120, 120, 81, 86, 91, 99, 107, 112]) (len := 58) (off := 120) (by decide +kernel) (by rw [h12]; decide) (by rw [h12]; decide) (by rw [h12]; rfl) (by decide) ?_
        refine r_p (pc' := 127) (p_iload_n 1 (k := 1) (by decide +kernel) rfl) ?_
        refine r_p (pc' := 128) (p_iconst (n := 0) (v := 0) (by decide +kernel) rfl) ?_
        refine r_p (pc' := 130) (p_bipush (n := 8) (v := 8) (by decide +kernel) (by decide +kernel)) ?_
        refine r_callSI msX12_72 (ctX12_in a1 0 8) (as := [vi a1, vi 0, vi 8]) (st := []) rfl rfl (by decide +kernel) rfl (Nat.le_of_ble_eq_true rfl) (Nat.le_of_ble_eq_true rfl) fun v13 s => ?_
        refine r_ifeq (off := 12) (tgt := 145) (by decide +kernel) (by decide) (fun h14 => ?_) (fun h14 => ?_)
        · refine r_p (pc' := 146) (p_iconst (n := -1) (v := -1) (by decide +kernel) rfl) ?_
          exact r_iret rfl rfl _ rfl rfl (by decide +kernel)
        · refine r_p (pc' := 137) (p_aload_n 0 (k := 0) (by decide +kernel) rfl) ?_
          refine r_gR flX12_13_11 (by decide +kernel) fun v15 => ?_
          refine r_p (pc' := 141) (p_iload_n 1 (k := 1) (by decide +kernel) rfl) ?_
          refine r_ldI0 (by decide +kernel) fun v16 => ?_
          refine r_p (pc' := 146) (p_goto (off := 4) (tgt := 146) (by decide +kernel) (by decide)) ?_
          exact r_iret rfl rfl _ rfl rfl (by decide +kernel)
      · refine r_tcase (fun h17 => ?_) (fun h17 => ?_)
        · refine r_tsin (tgt := 126) (lo := 4) (hi := 14) (dflt := 120) (offs := #[58, 120, 120, 120, 120, 81, 86, 91, 99, 107, 112]) (len := 58) (off := 120) (by decide +kernel) (by rw [h17]; decide) (by rw [h17]; decide) (by rw [h17]; rfl) (by decide) ?_
          refine r_p (pc' := 127) (p_iload_n 1 (k := 1) (by decide +kernel) rfl) ?_
          refine r_p (pc' := 128) (p_iconst (n := 0) (v := 0) (by decide +kernel) rfl) ?_
          refine r_p (pc' := 130) (p_bipush (n := 8) (v := 8) (by decide +kernel) (by decide +kernel)) ?_
          refine r_callSI msX12_72 (ctX12_in a1 0 8) (as := [vi a1, vi 0, vi 8]) (st := []) rfl rfl (by decide +kernel) rfl (Nat.le_of_ble_eq_true rfl) (Nat.le_of_ble_eq_true rfl) fun v18 s => ?_
          refine r_ifeq (off := 12) (tgt := 145) (by decide +kernel) (by decide) (fun h19 => ?_) (fun h19 => ?_)
          · refine r_p (pc' := 146) (p_iconst (n := -1) (v := -1) (by decide +kernel) rfl) ?_
            exact r_iret rfl rfl _ rfl rfl (by decide +kernel)
          · refine r_p (pc' := 137) (p_aload_n 0 (k := 0) (by decide +kernel) rfl) ?_
            refine r_gR flX12_13_11 (by decide +kernel) fun v20 => ?_
            refine r_p (pc' := 141) (p_iload_n 1 (k := 1) (by decide +kernel) rfl) ?_
            refine r_ldI0 (by decide +kernel) fun v21 => ?_
            refine r_p (pc' := 146) (p_goto (off := 4) (tgt := 146) (by decide +kernel) (by decide)) ?_
            exact r_iret rfl rfl _ rfl rfl (by decide +kernel)
        · refine r_tcase (fun h22 => ?_) (fun h22 => ?_)
          · refine r_tsin (tgt := 126) (lo := 4) (hi := 14) (dflt := 120) (offs := #[58, 120, 120, 120, 120, 81, 86, 91, 99, 107, 112]) (len := 58) (off := 120) (by decide +kernel) (by rw [h22]; decide) (by rw [h22]; decide) (by rw [h22]; rfl) (by decide) ?_
            refine r_p (pc' := 127) (p_iload_n 1 (k := 1) (by decide +kernel) rfl) ?_
            refine r_p (pc' := 128) (p_iconst (n := 0) (v := 0) (by decide +kernel) rfl) ?_
            refine r_p (pc' := 130) (p_bipush (n := 8) (v := 8) (by decide +kernel) (by decide +kernel)) ?_
            refine r_callSI msX12_72 (ctX12_in a1 0 8) (as := [vi a1, vi 0, vi 8]) (st := []) rfl rfl (by decide +kernel) rfl (Nat.le_of_ble_eq_true rfl) (Nat.le_of_ble_eq_true rfl) fun v23 s => ?_
            refine r_ifeq (off := 12) (tgt := 145) (by decide +kernel) (by decide) (fun h24 => ?_) (fun h24 => ?_)
            · refine r_p (pc' := 146) (p_iconst (n := -1) (v := -1) (by decide +kernel) rfl) ?_
              exact r_iret rfl rfl _ rfl rfl (by decide +kernel)
            · refine r_p (pc' := 137) (p_aload_n 0 (k := 0) (by decide +kernel) rfl) ?_
              refine r_gR flX12_13_11 (by decide +kernel) fun v25 => ?_
              refine r_p (pc' := 141) (p_iload_n 1 (k := 1) (by decide +kernel) rfl) ?_
              refine r_ldI0 (by decide +kernel) fun v26 => ?_
              refine r_p (pc' := 146) (p_goto (off := 4) (tgt := 146) (by decide +kernel) (by decide)) ?_
              exact r_iret rfl rfl _ rfl rfl (by decide +kernel)
          · refine r_tcase (fun h27 => ?_) (fun h27 => ?_)
            · refine r_tsin (tgt := 87) (lo := 4) (hi := 14) (dflt := 120) (offs := #[58, 120, 120, 120, 120, 81, 86, 91, 99, 107, 112]) (len := 58) (off := 81) (by decide +kernel) (by rw [h27]; decide) (by rw [h27]; decide) (by rw [h27]; rfl) (by decide) ?_
              refine r_p (pc' := 88) (p_aload_n 0 (k := 0) (by decide +kernel) rfl) ?_
              refine r_callVI mvX12_473 (ctX12_spares a0) (rcX12_spares a0) ⟨_, _, rfl⟩ (as := []) (st := []) rfl rfl (by decide +kernel) rfl (Nat.le_of_ble_eq_true rfl) (Nat.le_of_ble_eq_true rfl) fun v28 s => ?_
              exact r_iret rfl rfl _ rfl rfl (by decide +kernel)
            · refine r_tcase (fun h29 => ?_) (fun h29 => ?_)
              · refine r_tsin (tgt := 92) (lo := 4) (hi := 14) (dflt := 120) (offs := #[58, 120, 120, 120, 120, 81, 86, 91, 99, 107, 112]) (len := 58) (off := 86) (by decide +kernel) (by rw [h29]; decide) (by rw [h29]; decide) (by rw [h29]; rfl) (by decide) ?_
                refine r_p (pc' := 93) (p_aload_n 0 (k := 0) (by decide +kernel) rfl) ?_
                refine r_callVI mvX12_476 (ctX12_allGuilt a0) (rcX12_allGuilt a0) ⟨_, _, rfl⟩ (as := []) (st := []) rfl rfl (by decide +kernel) rfl (Nat.le_of_ble_eq_true rfl) (Nat.le_of_ble_eq_true rfl) fun v30 s => ?_
                exact r_iret rfl rfl _ rfl rfl (by decide +kernel)
              · refine r_tcase (fun h31 => ?_) (fun h31 => ?_)
                · refine r_tsin (tgt := 97) (lo := 4) (hi := 14) (dflt := 120) (offs := #[58, 120, 120, 120, 120, 81, 86, 91, 99, 107, 112]) (len := 58) (off := 91) (by decide +kernel) (by rw [h31]; decide) (by rw [h31]; decide) (by rw [h31]; rfl) (by decide) ?_
                  refine r_p (pc' := 98) (p_aload_n 0 (k := 0) (by decide +kernel) rfl) ?_
                  refine r_gR flX12_13_11 (by decide +kernel) fun v32 => ?_
                  refine r_p (pc' := 103) (p_bipush (n := 9) (v := 9) (by decide +kernel) (by decide +kernel)) ?_
                  refine r_ldI0 (by decide +kernel) fun v33 => ?_
                  exact r_iret rfl rfl _ rfl rfl (by decide +kernel)
                · refine r_tcase (fun h34 => ?_) (fun h34 => ?_)
                  · refine r_tsin (tgt := 105) (lo := 4) (hi := 14) (dflt := 120) (offs := #[58, 120, 120, 120, 120, 81, 86, 91, 99, 107, 112]) (len := 58) (off := 99) (by decide +kernel) (by rw [h34]; decide) (by rw [h34]; decide) (by rw [h34]; rfl) (by decide) ?_
                    refine r_p (pc' := 106) (p_aload_n 0 (k := 0) (by decide +kernel) rfl) ?_
                    refine r_gR flX12_13_11 (by decide +kernel) fun v35 => ?_
                    refine r_p (pc' := 111) (p_bipush (n := 10) (v := 10) (by decide +kernel) (by decide +kernel)) ?_
                    refine r_ldI0 (by decide +kernel) fun v36 => ?_
                    exact r_iret rfl rfl _ rfl rfl (by decide +kernel)
                  · refine r_tcase (fun h37 => ?_) (fun h37 => ?_)
                    · refine r_tsin (tgt := 113) (lo := 4) (hi := 14) (dflt := 120) (offs := #[58, 120, 120, 120, 120, 81, 86, 91, 99, 107, 112]) (len := 58) (off := 107) (by decide +kernel) (by rw [h37]; decide) (by rw [h37]; decide) (by rw [h37]; rfl) (by decide) ?_
                      refine r_p (pc' := 114) (p_aload_n 0 (k := 0) (by decide +kernel) rfl) ?_
                      refine r_gI flX12_58_11 (by decide +kernel) fun v38 => ?_
                      exact r_iret rfl rfl _ rfl rfl (by decide +kernel)
                    · refine r_tcase (fun h39 => ?_) (fun h39 => ?_)
                      · refine r_tsin (tgt := 118) (lo := 4) (hi := 14) (dflt := 120) (offs := #[58, 120, 120, 120, 120, 81, 86, 91, 99, 107, 112]) (len := 58) (off := 112) (by decide +kernel) (by rw [h39]; decide) (by rw [h39]; decide) (by rw [h39]; rfl) (by decide) ?_
                        refine r_p (pc' := 119) (p_aload_n 0 (k := 0) (by decide +kernel) rfl) ?_
                        refine r_gR flX12_13_11 (by decide +kernel) fun v40 => ?_
                        refine r_p (pc' := 124) (p_bipush (n := 11) (v := 11) (by decide +kernel) (by decide +kernel)) ?_
                        refine r_ldI0 (by decide +kernel) fun v41 => ?_
                        exact r_iret rfl rfl _ rfl rfl (by decide +kernel)
                      · have h1i := lv_neT (a := 4) h1 rfl
                        have h7i := lv_neT (a := 5) h7 rfl
                        have h12i := lv_neT (a := 6) h12 rfl
                        have h17i := lv_neT (a := 7) h17 rfl
                        have h22i := lv_neT (a := 8) h22 rfl
                        have h27i := lv_neT (a := 9) h27 rfl
                        have h29i := lv_neT (a := 10) h29 rfl
                        have h31i := lv_neT (a := 11) h31 rfl
                        have h34i := lv_neT (a := 12) h34 rfl
                        have h37i := lv_neT (a := 13) h37 rfl
                        have h39i := lv_neT (a := 14) h39 rfl
                        refine r_tsout (tgt := 126) (lo := 4) (hi := 14) (dflt := 120) (offs := #[58, 120, 120, 120, 120, 81, 86, 91, 99, 107, 112]) (len := 58) (by decide +kernel) (by omega) (by decide) ?_
                        refine r_p (pc' := 127) (p_iload_n 1 (k := 1) (by decide +kernel) rfl) ?_
                        refine r_p (pc' := 128) (p_iconst (n := 0) (v := 0) (by decide +kernel) rfl) ?_
                        refine r_p (pc' := 130) (p_bipush (n := 8) (v := 8) (by decide +kernel) (by decide +kernel)) ?_
                        refine r_callSI msX12_72 (ctX12_in a1 0 8) (as := [vi a1, vi 0, vi 8]) (st := []) rfl rfl (by decide +kernel) rfl (Nat.le_of_ble_eq_true rfl) (Nat.le_of_ble_eq_true rfl) fun v42 s => ?_
                        refine r_ifeq (off := 12) (tgt := 145) (by decide +kernel) (by decide) (fun h43 => ?_) (fun h43 => ?_)
                        · refine r_p (pc' := 146) (p_iconst (n := -1) (v := -1) (by decide +kernel) rfl) ?_
                          exact r_iret rfl rfl _ rfl rfl (by decide +kernel)
                        · refine r_p (pc' := 137) (p_aload_n 0 (k := 0) (by decide +kernel) rfl) ?_
                          refine r_gR flX12_13_11 (by decide +kernel) fun v44 => ?_
                          refine r_p (pc' := 141) (p_iload_n 1 (k := 1) (by decide +kernel) rfl) ?_
                          refine r_ldI0 (by decide +kernel) fun v45 => ?_
                          refine r_p (pc' := 146) (p_goto (off := 4) (tgt := 146) (by decide +kernel) (by decide)) ?_
                          exact r_iret rfl rfl _ rfl rfl (by decide +kernel)
