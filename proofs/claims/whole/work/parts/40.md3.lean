/-! PRINTED BY wip/whole/gen.py -/
def aX12_guilty : StA := (RX12, cX12_guilty, 1, some .int, yX12_guilty, 13, [])
theorem mvX12_388 : MV RX12 388 aX12_allGuilty 0 := ⟨tblG_of 2132 (by decide +kernel) (by decide +kernel), tblG_of 2134 (by decide +kernel) (by decide +kernel), tblG_of 118 (by decide +kernel) (by decide +kernel), tblG_of 157 (by decide +kernel) (by decide +kernel), tblG_of 2135 (by decide +kernel) (by decide +kernel), rfl, ⟨by decide, by decide⟩, by decide +kernel, by decide⟩
noncomputable def mX12_guilty (a0 : Nat) : MM Int32 := onC 11 a0 (
  mbnd (pI 11 0 a0 0) fun _ =>
  mbnd (mX12_allGuilty a0) fun (v1 : Int32) =>
  mret v1
  )
theorem rcX12_guilty (a0 : Nat) : Rcv 11 a0 (mX12_guilty a0) := fun s r h => ⟨(onC_some h).1, (onC_some h).2.1⟩
set_option maxHeartbeats 4000000 in
set_option maxRecDepth 100000 in
theorem ctX12_guilty (a0 : Nat) : Ct aX12_guilty [vr a0] (mX12_guilty a0) rI := by
  unfold mX12_guilty
  refine ct_onC (ct_intro (by decide +kernel) rfl (Nat.le_of_ble_eq_true rfl) fun Y s => ?_)
  refine r_sub (lv' := [(0, vr a0)]) [0] rfl ?_
  refine r_p (pc' := 1) (p_aload_n 0 (k := 0) (by decide +kernel) rfl) ?_
  refine r_p (pc' := 2) (p_iconst (n := 0) (v := 0) (by decide +kernel) rfl) ?_
  refine r_pI fpX12_3_11 (fun h => by cases h) (by decide +kernel) fun s => ?_
  refine r_p (pc' := 6) (p_aload_n 0 (k := 0) (by decide +kernel) rfl) ?_
  refine r_callVI mvX12_388 (ctX12_allGuilty a0) (rcX12_allGuilty a0) ⟨_, _, rfl⟩ (as := []) (st := []) rfl rfl (by decide +kernel) rfl (Nat.le_of_ble_eq_true rfl) (Nat.le_of_ble_eq_true rfl) fun v1 s => ?_
  exact r_iret rfl rfl _ rfl rfl (by decide +kernel)
def aX12_culprits : StA := (RX12, cX12_culprits, 7, some .int, yX12_culprits, 11, [])
noncomputable def mX12_culprits_L82 (a0 : Nat) (a1 : Int32) (a2 : Int32) (v14 : Int32) (x18 : Int32 × Int32) : MM ((Int32 × Int32) ⊕ (Int32)) :=
  mbnd (mX12_tools a0) fun (v22 : Int32) =>
  if v22 ≤ x18.2 then (
    mret (.inr x18.1)
  ) else (
    mbnd (α := Int32) (
      if 0 ≤ v14 then (
        mbnd (gR 11 1 a0) fun (v28 : Nat) =>
        mbnd (ldI 0 v28 ((591 + (6 * v14)) + x18.2)) fun (v29 : Int32) =>
        mret v29
      ) else (
        mbnd (mX12_markNow a0 x18.2) fun (v30 : Int32) =>
        mret v30
      )
    ) fun (x25 : Int32) =>
    mbnd (α := Int32) (
      if x25 = ((10 * a1) + a2) then (
        mret (1 <<< (x18.2 &&& (31 : Int32)))
      ) else (
        mret 0
      )
    ) fun (x32 : Int32) =>
    mbnd (mret (x18.1 ||| x32)) fun (v35 : Int32) =>
    mret (.inl (v35, x18.2 + 1))
  )
noncomputable def mX12_culprits (a0 : Nat) (a1 : Int32) (a2 : Int32) (a3 : Int32) : MM Int32 := onC 11 a0 (
  mbnd (pI 11 0 a0 0) fun _ =>
  mbnd (mX12_in a1 0 9) fun (v1 : Int32) =>
  mbnd (α := Int32) (
    if v1 = 0 then (
      mret 1
    ) else (
      mbnd (mX12_in a2 0 9) fun (v6 : Int32) =>
      if v6 = 0 then (
        mret 1
      ) else (
        mbnd (mX12_today a0) fun (v8 : Int32) =>
        mbnd (mX12_in a3 0 v8) fun (v9 : Int32) =>
        if v9 = 0 then (
          mret 1
        ) else (
          mret 0
        )
      )
    )
  ) fun (x3 : Int32) =>
  mbnd (mX12_throwsIf a0 x3 1) fun (v11 : Int32) =>
  if v11 = 0 then (
    mbnd (mX12_today a0) fun (v13 : Int32) =>
    mbnd (mret ((v13 - a3) - 1)) fun (v14 : Int32) =>
    mbnd (gR 11 1 a0) fun (v15 : Nat) =>
    mbnd (ldI 0 v15 11) fun (v16 : Int32) =>
    if v14 < v16 then (
      mbnd (loopM (mX12_culprits_L82 a0 a1 a2 v14) (0, 0)) fun (e36 : Int32) =>
      mret e36
    ) else (
      mret (-1)
    )
  ) else (
    mret 0
  )
  )
theorem rcX12_culprits (a0 : Nat) (a1 : Int32) (a2 : Int32) (a3 : Int32) : Rcv 11 a0 (mX12_culprits a0 a1 a2 a3) := fun s r h => ⟨(onC_some h).1, (onC_some h).2.1⟩
set_option maxHeartbeats 4000000 in
set_option maxRecDepth 100000 in
theorem ctX12_culprits (a0 : Nat) (a1 : Int32) (a2 : Int32) (a3 : Int32) : Ct aX12_culprits [vr a0, vi a1, vi a2, vi a3] (mX12_culprits a0 a1 a2 a3) rI := by
  unfold mX12_culprits
  refine ct_onC (ct_intro (by decide +kernel) rfl (Nat.le_of_ble_eq_true rfl) fun Y s => ?_)
  refine r_sub (lv' := [(0, vr a0), (1, vi a1), (2, vi a2), (3, vi a3)]) [0, 1, 2, 3] rfl ?_
  refine r_p (pc' := 1) (p_aload_n 0 (k := 0) (by decide +kernel) rfl) ?_
  refine r_p (pc' := 2) (p_iconst (n := 0) (v := 0) (by decide +kernel) rfl) ?_
  refine r_pI fpX12_3_11 (fun h => by cases h) (by decide +kernel) fun s => ?_
  refine r_p (pc' := 6) (p_aload_n 0 (k := 0) (by decide +kernel) rfl) ?_
  refine r_p (pc' := 7) (p_iload_n 1 (k := 1) (by decide +kernel) rfl) ?_
  refine r_p (pc' := 8) (p_iconst (n := 0) (v := 0) (by decide +kernel) rfl) ?_
  refine r_p (pc' := 10) (p_bipush (n := 9) (v := 9) (by decide +kernel) (by decide +kernel)) ?_
  refine r_callSI msX12_72 (ctX12_in a1 0 9) (as := [vi a1, vi 0, vi 9]) (st := [vr a0]) rfl rfl (by decide +kernel) rfl (Nat.le_of_ble_eq_true rfl) (Nat.le_of_ble_eq_true rfl) fun v1 s => ?_
  refine r_join 43 (fun (x3 : Int32) => [(0, vr a0), (1, vi a1), (2, vi a2), (3, vi a3)]) (fun (x3 : Int32) => [vi x3, vr a0]) (fun x3 s => ?_) (fun K4 hj5 => ?_)
  · refine r_p (pc' := 44) (p_iconst (n := 1) (v := 1) (by decide +kernel) rfl) ?_
    refine r_callVI mvX12_265 (ctX12_throwsIf a0 x3 1) (rcX12_throwsIf a0 x3 1) ⟨_, _, rfl⟩ (as := [vi x3, vi 1]) (st := []) rfl rfl (by decide +kernel) rfl (Nat.le_of_ble_eq_true rfl) (Nat.le_of_ble_eq_true rfl) fun v11 s => ?_
    refine r_ifeq (off := 5) (tgt := 52) (by decide +kernel) (by decide) (fun h12 => ?_) (fun h12 => ?_)
    · refine r_p (pc' := 53) (p_aload_n 0 (k := 0) (by decide +kernel) rfl) ?_
      refine r_callVI mvX12_281 (ctX12_today a0) (rcX12_today a0) ⟨_, _, rfl⟩ (as := []) (st := []) rfl rfl (by decide +kernel) rfl (Nat.le_of_ble_eq_true rfl) (Nat.le_of_ble_eq_true rfl) fun v13 s => ?_
      refine r_p (pc' := 57) (p_iload_n 3 (k := 3) (by decide +kernel) rfl) ?_
      refine r_p (pc' := 58) (p_isub (by decide +kernel)) ?_
      refine r_p (pc' := 59) (p_iconst (n := 1) (v := 1) (by decide +kernel) rfl) ?_
      refine r_p (pc' := 60) (p_isub (by decide +kernel)) ?_
      refine r_letI fun v14 => ?_
      refine r_p (pc' := 62) (p_istore (i := 4) (lv' := [(4, vi v14), (0, vr a0), (1, vi a1), (2, vi a2), (3, vi a3)]) (by decide +kernel) (Nat.le_of_ble_eq_true rfl) rfl) ?_
      refine r_p (pc' := 64) (p_iload 0 (i := 4) (by decide +kernel) rfl) ?_
      refine r_p (pc' := 65) (p_aload_n 1 (k := 0) (by decide +kernel) rfl) ?_
      refine r_gR flX12_13_11 (by decide +kernel) fun v15 => ?_
      refine r_p (pc' := 70) (p_bipush (n := 11) (v := 11) (by decide +kernel) (by decide +kernel)) ?_
      refine r_ldI0 (by decide +kernel) fun v16 => ?_
      refine r_icmplt (off := 5) (tgt := 76) (by decide +kernel) (by decide) (fun h17 => ?_) (fun h17 => ?_)
      · refine r_p (pc' := 77) (p_iconst (n := 0) (v := 0) (by decide +kernel) rfl) ?_
        refine r_p (pc' := 79) (p_istore (i := 5) (lv' := [(5, vi 0), (4, vi v14), (0, vr a0), (1, vi a1), (2, vi a2), (3, vi a3)]) (by decide +kernel) (Nat.le_of_ble_eq_true rfl) rfl) ?_
        refine r_p (pc' := 80) (p_iconst (n := 0) (v := 0) (by decide +kernel) rfl) ?_
        refine r_p (pc' := 82) (p_istore (i := 6) (lv' := [(6, vi 0), (5, vi 0), (4, vi v14), (0, vr a0), (1, vi a1), (2, vi a2), (3, vi a3)]) (by decide +kernel) (Nat.le_of_ble_eq_true rfl) rfl) ?_
        refine r_sub (lv' := [(0, vr a0), (1, vi a1), (2, vi a2), (4, vi v14), (5, vi 0), (6, vi 0)]) [3, 4, 5, 2, 1, 0] rfl ?_
        refine r_loop2 (fun _ => 150) (fun (e36 : Int32) => [(5, vi e36)]) (fun (x18 : Int32 × Int32) => [(0, vr a0), (1, vi a1), (2, vi a2), (4, vi v14), (5, vi x18.1), (6, vi x18.2)]) (fun e36 s => ?_) (fun K19 hb20 he21 x18 s => ?_) (0, 0) _
        · refine r_p (pc' := 152) (p_iload 0 (i := 5) (by decide +kernel) rfl) ?_
          exact r_iret rfl rfl _ rfl rfl (by decide +kernel)
        · unfold mX12_culprits_L82
          refine r_p (pc' := 84) (p_iload 5 (i := 6) (by decide +kernel) rfl) ?_
          refine r_p (pc' := 85) (p_aload_n 0 (k := 0) (by decide +kernel) rfl) ?_
          refine r_callVI mvX12_76 (ctX12_tools a0) (rcX12_tools a0) ⟨_, _, rfl⟩ (as := []) (st := [vi x18.2]) rfl rfl (by decide +kernel) rfl (Nat.le_of_ble_eq_true rfl) (Nat.le_of_ble_eq_true rfl) fun v22 s => ?_
          refine r_icmpge (off := 62) (tgt := 150) (by decide +kernel) (by decide) (fun h23 => ?_) (fun h23 => ?_)
          · refine r_sub (lv' := [(5, vi x18.1)]) [4] rfl ?_
            exact he21 x18.1 _
          · refine r_p (pc' := 93) (p_iload 4 (i := 5) (by decide +kernel) rfl) ?_
            refine r_p (pc' := 95) (p_iload 3 (i := 4) (by decide +kernel) rfl) ?_
            refine r_join 124 (fun (x25 : Int32) => [(0, vr a0), (1, vi a1), (2, vi a2), (4, vi v14), (6, vi x18.2)]) (fun (x25 : Int32) => [vi x25, vi x18.1]) (fun x25 s => ?_) (fun K26 hj27 => ?_)
            · refine r_p (pc' := 126) (p_bipush (n := 10) (v := 10) (by decide +kernel) (by decide +kernel)) ?_
              refine r_p (pc' := 127) (p_iload_n 1 (k := 1) (by decide +kernel) rfl) ?_
              refine r_p (pc' := 128) (p_imul (by decide +kernel)) ?_
              refine r_p (pc' := 129) (p_iload_n 2 (k := 2) (by decide +kernel) rfl) ?_
              refine r_p (pc' := 130) (p_iadd (by decide +kernel)) ?_
              refine r_join 141 (fun (x32 : Int32) => [(0, vr a0), (1, vi a1), (2, vi a2), (4, vi v14), (6, vi x18.2)]) (fun (x32 : Int32) => [vi x32, vi x18.1]) (fun x32 s => ?_) (fun K33 hj34 => ?_)
              · refine r_p (pc' := 142) (p_ior (by decide +kernel)) ?_
                refine r_letI fun v35 => ?_
                refine r_p (pc' := 144) (p_istore (i := 5) (lv' := [(5, vi v35), (0, vr a0), (1, vi a1), (2, vi a2), (4, vi v14), (6, vi x18.2)]) (by decide +kernel) (Nat.le_of_ble_eq_true rfl) rfl) ?_
                refine r_p (pc' := 147) (p_iinc 5 (i := 6) (n := 1) (x := x18.2) (v := x18.2 + 1) (lv' := [(6, vi (x18.2 + 1)), (5, vi v35), (0, vr a0), (1, vi a1), (2, vi a2), (4, vi v14)]) (by decide +kernel) rfl rfl (Nat.le_of_ble_eq_true rfl) rfl) ?_
                refine r_p (pc' := 82) (p_goto (off := -65) (tgt := 82) (by decide +kernel) (by decide)) ?_
                refine r_sub (lv' := [(0, vr a0), (1, vi a1), (2, vi a2), (4, vi v14), (5, vi v35), (6, vi (x18.2 + 1))]) [2, 3, 4, 5, 1, 0] rfl ?_
                exact hb20 (v35, x18.2 + 1) _
              · refine r_icmpne (off := 10) (tgt := 140) (by decide +kernel) (by decide) (fun h31 => ?_) (fun h31 => ?_)
                · refine r_p (pc' := 134) (p_iconst (n := 1) (v := 1) (by decide +kernel) rfl) ?_
                  refine r_p (pc' := 136) (p_iload 4 (i := 6) (by decide +kernel) rfl) ?_
                  refine r_p (pc' := 137) (p_ishl (by decide +kernel)) ?_
                  refine r_p (pc' := 141) (p_goto (off := 4) (tgt := 141) (by decide +kernel) (by decide)) ?_
                  exact hj34 (1 <<< (x18.2 &&& (31 : Int32))) _
                · refine r_p (pc' := 141) (p_iconst (n := 0) (v := 0) (by decide +kernel) rfl) ?_
                  exact hj34 0 _
            · refine r_ifge (off := 12) (tgt := 107) (by decide +kernel) (by decide) (fun h24 => ?_) (fun h24 => ?_)
              · refine r_p (pc' := 108) (p_aload_n 0 (k := 0) (by decide +kernel) rfl) ?_
                refine r_gR flX12_13_11 (by decide +kernel) fun v28 => ?_
                refine r_p (pc' := 114) (p_sipush (n := 591) (v := 591) (by decide +kernel) (by decide +kernel)) ?_
                refine r_p (pc' := 116) (p_bipush (n := 6) (v := 6) (by decide +kernel) (by decide +kernel)) ?_
                refine r_p (pc' := 118) (p_iload 3 (i := 4) (by decide +kernel) rfl) ?_
                refine r_p (pc' := 119) (p_imul (by decide +kernel)) ?_
                refine r_p (pc' := 120) (p_iadd (by decide +kernel)) ?_
                refine r_p (pc' := 122) (p_iload 5 (i := 6) (by decide +kernel) rfl) ?_
                refine r_p (pc' := 123) (p_iadd (by decide +kernel)) ?_
                refine r_ldI0 (by decide +kernel) fun v29 => ?_
                refine r_sub (lv' := [(0, vr a0), (1, vi a1), (2, vi a2), (4, vi v14), (6, vi x18.2)]) [0, 1, 2, 3, 5] rfl ?_
                exact hj27 v29 _
              · refine r_p (pc' := 99) (p_aload_n 0 (k := 0) (by decide +kernel) rfl) ?_
                refine r_p (pc' := 101) (p_iload 5 (i := 6) (by decide +kernel) rfl) ?_
                refine r_callVI mvX12_352 (ctX12_markNow a0 x18.2) (rcX12_markNow a0 x18.2) ⟨_, _, rfl⟩ (as := [vi x18.2]) (st := [vi x18.1]) rfl rfl (by decide +kernel) rfl (Nat.le_of_ble_eq_true rfl) (Nat.le_of_ble_eq_true rfl) fun v30 s => ?_
                refine r_p (pc' := 124) (p_goto (off := 20) (tgt := 124) (by decide +kernel) (by decide)) ?_
                refine r_sub (lv' := [(0, vr a0), (1, vi a1), (2, vi a2), (4, vi v14), (6, vi x18.2)]) [0, 1, 2, 3, 5] rfl ?_
                exact hj27 v30 _
      · refine r_p (pc' := 75) (p_iconst (n := -1) (v := -1) (by decide +kernel) rfl) ?_
        exact r_iret rfl rfl _ rfl rfl (by decide +kernel)
    · refine r_p (pc' := 51) (p_iconst (n := 0) (v := 0) (by decide +kernel) rfl) ?_
      exact r_iret rfl rfl _ rfl rfl (by decide +kernel)
  · refine r_ifeq (off := 25) (tgt := 38) (by decide +kernel) (by decide) (fun h2 => ?_) (fun h2 => ?_)
    · refine r_p (pc' := 39) (p_iconst (n := 1) (v := 1) (by decide +kernel) rfl) ?_
      refine r_p (pc' := 43) (p_goto (off := 4) (tgt := 43) (by decide +kernel) (by decide)) ?_
      exact hj5 1 _
    · refine r_p (pc' := 17) (p_iload_n 2 (k := 2) (by decide +kernel) rfl) ?_
      refine r_p (pc' := 18) (p_iconst (n := 0) (v := 0) (by decide +kernel) rfl) ?_
      refine r_p (pc' := 20) (p_bipush (n := 9) (v := 9) (by decide +kernel) (by decide +kernel)) ?_
      refine r_callSI msX12_72 (ctX12_in a2 0 9) (as := [vi a2, vi 0, vi 9]) (st := [vr a0]) rfl rfl (by decide +kernel) rfl (Nat.le_of_ble_eq_true rfl) (Nat.le_of_ble_eq_true rfl) fun v6 s => ?_
      refine r_ifeq (off := 15) (tgt := 38) (by decide +kernel) (by decide) (fun h7 => ?_) (fun h7 => ?_)
      · refine r_p (pc' := 39) (p_iconst (n := 1) (v := 1) (by decide +kernel) rfl) ?_
        refine r_p (pc' := 43) (p_goto (off := 4) (tgt := 43) (by decide +kernel) (by decide)) ?_
        exact hj5 1 _
      · refine r_p (pc' := 27) (p_iload_n 3 (k := 3) (by decide +kernel) rfl) ?_
        refine r_p (pc' := 28) (p_iconst (n := 0) (v := 0) (by decide +kernel) rfl) ?_
        refine r_p (pc' := 29) (p_aload_n 0 (k := 0) (by decide +kernel) rfl) ?_
        refine r_callVI mvX12_281 (ctX12_today a0) (rcX12_today a0) ⟨_, _, rfl⟩ (as := []) (st := [vi 0, vi a3, vr a0]) rfl rfl (by decide +kernel) rfl (Nat.le_of_ble_eq_true rfl) (Nat.le_of_ble_eq_true rfl) fun v8 s => ?_
        refine r_callSI msX12_72 (ctX12_in a3 0 v8) (as := [vi a3, vi 0, vi v8]) (st := [vr a0]) rfl rfl (by decide +kernel) rfl (Nat.le_of_ble_eq_true rfl) (Nat.le_of_ble_eq_true rfl) fun v9 s => ?_
        refine r_ifne (off := 7) (tgt := 42) (by decide +kernel) (by decide) (fun h10 => ?_) (fun h10 => ?_)
        · refine r_p (pc' := 39) (p_iconst (n := 1) (v := 1) (by decide +kernel) rfl) ?_
          refine r_p (pc' := 43) (p_goto (off := 4) (tgt := 43) (by decide +kernel) (by decide)) ?_
          exact hj5 1 _
        · refine r_p (pc' := 43) (p_iconst (n := 0) (v := 0) (by decide +kernel) rfl) ?_
          exact hj5 0 _
def aX12_alike : StA := (RX12, cX12_alike, 7, some .int, yX12_alike, 11, [])
noncomputable def mX12_alike_L16 (a0 : Nat) (a1 : Int32) (x1 : Int32 × Int32) (x6 : Int32 × Int32) : MM ((Int32 × Int32) ⊕ (Int32)) :=
  mbnd (mX12_tools a0) fun (v10 : Int32) =>
  if v10 ≤ x6.2 then (
    mret (.inr x6.1)
  ) else (
    mbnd (mX12_markNow a0 x6.2) fun (v12 : Int32) =>
    mbnd (α := Int32) (
      if v12 < 0 then (
        mret 0
      ) else (
        mbnd (α := Int32) (
          if a1 = 0 then (
            mret (v12 / 10)
          ) else (
            mret (v12 - v12 / 10 * 10)
          )
        ) fun (x18 : Int32) =>
        if x18 = x1.2 then (
          mret 1
        ) else (
          mret 0
        )
      )
    ) fun (x14 : Int32) =>
    mbnd (mret (x6.1 + x14)) fun (v22 : Int32) =>
    mret (.inl (v22, x6.2 + 1))
  )
noncomputable def mX12_alike_L4 (a0 : Nat) (a1 : Int32) (x1 : Int32 × Int32) : MM ((Int32 × Int32) ⊕ (Int32)) :=
  if 10 ≤ x1.2 then (
    mret (.inr x1.1)
  ) else (
    mbnd (loopM (mX12_alike_L16 a0 a1 x1) (0, 0)) fun (e23 : Int32) =>
    mbnd (mret (imax x1.1 e23)) fun (v24 : Int32) =>
    mret (.inl (v24, x1.2 + 1))
  )
noncomputable def mX12_alike (a0 : Nat) (a1 : Int32) : MM Int32 := onC 11 a0 (
  mbnd (loopM (mX12_alike_L4 a0 a1) (0, 0)) fun (e25 : Int32) =>
  mret e25
  )
theorem rcX12_alike (a0 : Nat) (a1 : Int32) : Rcv 11 a0 (mX12_alike a0 a1) := fun s r h => ⟨(onC_some h).1, (onC_some h).2.1⟩
set_option maxHeartbeats 4000000 in
set_option maxRecDepth 100000 in
theorem ctX12_alike (a0 : Nat) (a1 : Int32) : Ct aX12_alike [vr a0, vi a1] (mX12_alike a0 a1) rI := by
  unfold mX12_alike
  refine ct_onC (ct_intro (by decide +kernel) rfl (Nat.le_of_ble_eq_true rfl) fun Y s => ?_)
  refine r_sub (lv' := [(0, vr a0), (1, vi a1)]) [0, 1] rfl ?_
  refine r_p (pc' := 1) (p_iconst (n := 0) (v := 0) (by decide +kernel) rfl) ?_
  refine r_p (pc' := 2) (p_istore_n (k := 2) (lv' := [(2, vi 0), (0, vr a0), (1, vi a1)]) (by decide +kernel) (Nat.le_of_ble_eq_true rfl) rfl) ?_
  refine r_p (pc' := 3) (p_iconst (n := 0) (v := 0) (by decide +kernel) rfl) ?_
  refine r_p (pc' := 4) (p_istore_n (k := 3) (lv' := [(3, vi 0), (2, vi 0), (0, vr a0), (1, vi a1)]) (by decide +kernel) (Nat.le_of_ble_eq_true rfl) rfl) ?_
  refine r_sub (lv' := [(0, vr a0), (1, vi a1), (2, vi 0), (3, vi 0)]) [2, 3, 1, 0] rfl ?_
  refine r_loop2 (fun _ => 88) (fun (e25 : Int32) => [(2, vi e25)]) (fun (x1 : Int32 × Int32) => [(0, vr a0), (1, vi a1), (2, vi x1.1), (3, vi x1.2)]) (fun e25 s => ?_) (fun K2 hb3 he4 x1 s => ?_) (0, 0) _
  · refine r_p (pc' := 89) (p_iload_n 0 (k := 2) (by decide +kernel) rfl) ?_
    exact r_iret rfl rfl _ rfl rfl (by decide +kernel)
  · unfold mX12_alike_L4
    refine r_p (pc' := 5) (p_iload_n 3 (k := 3) (by decide +kernel) rfl) ?_
    refine r_p (pc' := 7) (p_bipush (n := 10) (v := 10) (by decide +kernel) (by decide +kernel)) ?_
    refine r_icmpge (off := 81) (tgt := 88) (by decide +kernel) (by decide) (fun h5 => ?_) (fun h5 => ?_)
    · refine r_sub (lv' := [(2, vi x1.1)]) [2] rfl ?_
      exact he4 x1.1 _
    · refine r_p (pc' := 11) (p_iconst (n := 0) (v := 0) (by decide +kernel) rfl) ?_
      refine r_p (pc' := 13) (p_istore (i := 4) (lv' := [(4, vi 0), (0, vr a0), (1, vi a1), (2, vi x1.1), (3, vi x1.2)]) (by decide +kernel) (Nat.le_of_ble_eq_true rfl) rfl) ?_
      refine r_p (pc' := 14) (p_iconst (n := 0) (v := 0) (by decide +kernel) rfl) ?_
      refine r_p (pc' := 16) (p_istore (i := 5) (lv' := [(5, vi 0), (4, vi 0), (0, vr a0), (1, vi a1), (2, vi x1.1), (3, vi x1.2)]) (by decide +kernel) (Nat.le_of_ble_eq_true rfl) rfl) ?_
      refine r_sub (lv' := [(0, vr a0), (1, vi a1), (2, vi x1.1), (3, vi x1.2), (4, vi 0), (5, vi 0)]) [2, 3, 4, 5, 1, 0] rfl ?_
      refine r_loop2 (fun _ => 75) (fun (e23 : Int32) => [(0, vr a0), (1, vi a1), (2, vi x1.1), (3, vi x1.2), (4, vi e23)]) (fun (x6 : Int32 × Int32) => [(0, vr a0), (1, vi a1), (2, vi x1.1), (3, vi x1.2), (4, vi x6.1), (5, vi x6.2)]) (fun e23 s => ?_) (fun K7 hb8 he9 x6 s => ?_) (0, 0) _
      · refine r_p (pc' := 76) (p_iload_n 2 (k := 2) (by decide +kernel) rfl) ?_
        refine r_p (pc' := 78) (p_iload 4 (i := 4) (by decide +kernel) rfl) ?_
        refine r_p (pc' := 81) (p_max (idx := 284) (tblG_of 2041 (by decide +kernel) (by decide +kernel)) (Nat.le_of_ble_eq_true rfl) (Nat.le_of_ble_eq_true rfl) (by decide +kernel)) ?_
        refine r_letI fun v24 => ?_
        refine r_p (pc' := 82) (p_istore_n (k := 2) (lv' := [(2, vi v24), (0, vr a0), (1, vi a1), (3, vi x1.2), (4, vi e23)]) (by decide +kernel) (Nat.le_of_ble_eq_true rfl) rfl) ?_
        refine r_p (pc' := 85) (p_iinc 3 (i := 3) (n := 1) (x := x1.2) (v := x1.2 + 1) (lv' := [(3, vi (x1.2 + 1)), (2, vi v24), (0, vr a0), (1, vi a1), (4, vi e23)]) (by decide +kernel) rfl rfl (Nat.le_of_ble_eq_true rfl) rfl) ?_
        refine r_p (pc' := 4) (p_goto (off := -81) (tgt := 4) (by decide +kernel) (by decide)) ?_
        refine r_sub (lv' := [(0, vr a0), (1, vi a1), (2, vi v24), (3, vi (x1.2 + 1))]) [2, 3, 1, 0] rfl ?_
        exact hb3 (v24, x1.2 + 1) _
      · unfold mX12_alike_L16
        refine r_p (pc' := 18) (p_iload 5 (i := 5) (by decide +kernel) rfl) ?_
        refine r_p (pc' := 19) (p_aload_n 0 (k := 0) (by decide +kernel) rfl) ?_
        refine r_callVI mvX12_76 (ctX12_tools a0) (rcX12_tools a0) ⟨_, _, rfl⟩ (as := []) (st := [vi x6.2]) rfl rfl (by decide +kernel) rfl (Nat.le_of_ble_eq_true rfl) (Nat.le_of_ble_eq_true rfl) fun v10 s => ?_
        refine r_icmpge (off := 53) (tgt := 75) (by decide +kernel) (by decide) (fun h11 => ?_) (fun h11 => ?_)
        · refine r_sub (lv' := [(0, vr a0), (1, vi a1), (2, vi x1.1), (3, vi x1.2), (4, vi x6.1)]) [0, 1, 2, 3, 4] rfl ?_
          exact he9 x6.1 _
        · refine r_p (pc' := 26) (p_aload_n 0 (k := 0) (by decide +kernel) rfl) ?_
          refine r_p (pc' := 28) (p_iload 5 (i := 5) (by decide +kernel) rfl) ?_
          refine r_callVI mvX12_352 (ctX12_markNow a0 x6.2) (rcX12_markNow a0 x6.2) ⟨_, _, rfl⟩ (as := [vi x6.2]) (st := []) rfl rfl (by decide +kernel) rfl (Nat.le_of_ble_eq_true rfl) (Nat.le_of_ble_eq_true rfl) fun v12 s => ?_
          refine r_p (pc' := 33) (p_istore (i := 6) (lv' := [(6, vi v12), (0, vr a0), (1, vi a1), (2, vi x1.1), (3, vi x1.2), (4, vi x6.1), (5, vi x6.2)]) (by decide +kernel) (Nat.le_of_ble_eq_true rfl) rfl) ?_
          refine r_p (pc' := 35) (p_iload 5 (i := 4) (by decide +kernel) rfl) ?_
          refine r_p (pc' := 37) (p_iload 0 (i := 6) (by decide +kernel) rfl) ?_
          refine r_join 66 (fun (x14 : Int32) => [(0, vr a0), (1, vi a1), (2, vi x1.1), (3, vi x1.2), (5, vi x6.2)]) (fun (x14 : Int32) => [vi x14, vi x6.1]) (fun x14 s => ?_) (fun K15 hj16 => ?_)
          · refine r_p (pc' := 67) (p_iadd (by decide +kernel)) ?_
            refine r_letI fun v22 => ?_
            refine r_p (pc' := 69) (p_istore (i := 4) (lv' := [(4, vi v22), (0, vr a0), (1, vi a1), (2, vi x1.1), (3, vi x1.2), (5, vi x6.2)]) (by decide +kernel) (Nat.le_of_ble_eq_true rfl) rfl) ?_
            refine r_p (pc' := 72) (p_iinc 5 (i := 5) (n := 1) (x := x6.2) (v := x6.2 + 1) (lv' := [(5, vi (x6.2 + 1)), (4, vi v22), (0, vr a0), (1, vi a1), (2, vi x1.1), (3, vi x1.2)]) (by decide +kernel) rfl rfl (Nat.le_of_ble_eq_true rfl) rfl) ?_
            refine r_p (pc' := 16) (p_goto (off := -56) (tgt := 16) (by decide +kernel) (by decide)) ?_
            refine r_sub (lv' := [(0, vr a0), (1, vi a1), (2, vi x1.1), (3, vi x1.2), (4, vi v22), (5, vi (x6.2 + 1))]) [2, 3, 4, 5, 1, 0] rfl ?_
            exact hb8 (v22, x6.2 + 1) _
          · refine r_iflt (off := 28) (tgt := 65) (by decide +kernel) (by decide) (fun h13 => ?_) (fun h13 => ?_)
            · refine r_p (pc' := 66) (p_iconst (n := 0) (v := 0) (by decide +kernel) rfl) ?_
              refine r_sub (lv' := [(0, vr a0), (1, vi a1), (2, vi x1.1), (3, vi x1.2), (5, vi x6.2)]) [1, 2, 3, 4, 6] rfl ?_
              exact hj16 0 _
            · refine r_p (pc' := 41) (p_iload_n 2 (k := 1) (by decide +kernel) rfl) ?_
              refine r_join 57 (fun (x18 : Int32) => [(0, vr a0), (1, vi a1), (2, vi x1.1), (3, vi x1.2), (5, vi x6.2)]) (fun (x18 : Int32) => [vi x18, vi x6.1]) (fun x18 s => ?_) (fun K19 hj20 => ?_)
              · refine r_p (pc' := 58) (p_iload_n 3 (k := 3) (by decide +kernel) rfl) ?_
                refine r_icmpne (off := 7) (tgt := 65) (by decide +kernel) (by decide) (fun h21 => ?_) (fun h21 => ?_)
                · refine r_p (pc' := 62) (p_iconst (n := 1) (v := 1) (by decide +kernel) rfl) ?_
                  refine r_p (pc' := 66) (p_goto (off := 4) (tgt := 66) (by decide +kernel) (by decide)) ?_
                  exact hj16 1 _
                · refine r_p (pc' := 66) (p_iconst (n := 0) (v := 0) (by decide +kernel) rfl) ?_
                  exact hj16 0 _
              · refine r_ifeq (off := 11) (tgt := 52) (by decide +kernel) (by decide) (fun h17 => ?_) (fun h17 => ?_)
                · refine r_p (pc' := 54) (p_iload 0 (i := 6) (by decide +kernel) rfl) ?_
                  refine r_p (pc' := 56) (p_bipush (n := 10) (v := 10) (by decide +kernel) (by decide +kernel)) ?_
                  refine r_p (pc' := 57) (p_idiv (by decide +kernel) (by decide)) ?_
                  refine r_sub (lv' := [(0, vr a0), (1, vi a1), (2, vi x1.1), (3, vi x1.2), (5, vi x6.2)]) [1, 2, 3, 4, 6] rfl ?_
                  exact hj20 (v12 / 10) _
                · refine r_p (pc' := 46) (p_iload 0 (i := 6) (by decide +kernel) rfl) ?_
                  refine r_p (pc' := 48) (p_bipush (n := 10) (v := 10) (by decide +kernel) (by decide +kernel)) ?_
                  refine r_p (pc' := 49) (p_irem (by decide +kernel) (by decide)) ?_
                  refine r_p (pc' := 57) (p_goto (off := 8) (tgt := 57) (by decide +kernel) (by decide)) ?_
                  refine r_sub (lv' := [(0, vr a0), (1, vi a1), (2, vi x1.1), (3, vi x1.2), (5, vi x6.2)]) [1, 2, 3, 4, 6] rfl ?_
                  exact hj20 (v12 - v12 / 10 * 10) _
def aX12_ask : StA := (RX12, cX12_ask, 4, some .int, yX12_ask, 12, [])
theorem mvX12_391 : MV RX12 391 aX12_alike 1 := ⟨tblG_of 2148 (by decide +kernel) (by decide +kernel), tblG_of 2150 (by decide +kernel) (by decide +kernel), tblG_of 120 (by decide +kernel) (by decide +kernel), tblG_of 157 (by decide +kernel) (by decide +kernel), tblG_of 2151 (by decide +kernel) (by decide +kernel), rfl, ⟨by decide, by decide⟩, by decide +kernel, by decide⟩
noncomputable def mX12_ask (a0 : Nat) (a1 : Int32) : MM Int32 := onC 11 a0 (
  mbnd (pI 11 0 a0 0) fun _ =>
  mbnd (mX12_alike a0 0) fun (v1 : Int32) =>
  mbnd (mX12_alike a0 1) fun (v2 : Int32) =>
  if a1 = 0 then (
    if v1 ≤ v2 then (
      mret 0
    ) else (
      mret 1
    )
  ) else (
    mret (imin v1 v2)
  )
  )
theorem rcX12_ask (a0 : Nat) (a1 : Int32) : Rcv 11 a0 (mX12_ask a0 a1) := fun s r h => ⟨(onC_some h).1, (onC_some h).2.1⟩
set_option maxHeartbeats 4000000 in
set_option maxRecDepth 100000 in
theorem ctX12_ask (a0 : Nat) (a1 : Int32) : Ct aX12_ask [vr a0, vi a1] (mX12_ask a0 a1) rI := by
  unfold mX12_ask
  refine ct_onC (ct_intro (by decide +kernel) rfl (Nat.le_of_ble_eq_true rfl) fun Y s => ?_)
  refine r_sub (lv' := [(0, vr a0), (1, vi a1)]) [0, 1] rfl ?_
  refine r_p (pc' := 1) (p_aload_n 0 (k := 0) (by decide +kernel) rfl) ?_
  refine r_p (pc' := 2) (p_iconst (n := 0) (v := 0) (by decide +kernel) rfl) ?_
  refine r_pI fpX12_3_11 (fun h => by cases h) (by decide +kernel) fun s => ?_
  refine r_p (pc' := 6) (p_aload_n 0 (k := 0) (by decide +kernel) rfl) ?_
  refine r_p (pc' := 7) (p_iconst (n := 0) (v := 0) (by decide +kernel) rfl) ?_
  refine r_callVI mvX12_391 (ctX12_alike a0 0) (rcX12_alike a0 0) ⟨_, _, rfl⟩ (as := [vi 0]) (st := []) rfl rfl (by decide +kernel) rfl (Nat.le_of_ble_eq_true rfl) (Nat.le_of_ble_eq_true rfl) fun v1 s => ?_
  refine r_p (pc' := 11) (p_istore_n (k := 2) (lv' := [(2, vi v1), (0, vr a0), (1, vi a1)]) (by decide +kernel) (Nat.le_of_ble_eq_true rfl) rfl) ?_
  refine r_p (pc' := 12) (p_aload_n 1 (k := 0) (by decide +kernel) rfl) ?_
  refine r_p (pc' := 13) (p_iconst (n := 1) (v := 1) (by decide +kernel) rfl) ?_
  refine r_callVI mvX12_391 (ctX12_alike a0 1) (rcX12_alike a0 1) ⟨_, _, rfl⟩ (as := [vi 1]) (st := []) rfl rfl (by decide +kernel) rfl (Nat.le_of_ble_eq_true rfl) (Nat.le_of_ble_eq_true rfl) fun v2 s => ?_
  refine r_p (pc' := 17) (p_istore_n (k := 3) (lv' := [(3, vi v2), (2, vi v1), (0, vr a0), (1, vi a1)]) (by decide +kernel) (Nat.le_of_ble_eq_true rfl) rfl) ?_
  refine r_p (pc' := 18) (p_iload_n 3 (k := 1) (by decide +kernel) rfl) ?_
  refine r_ifeq (off := 11) (tgt := 29) (by decide +kernel) (by decide) (fun h3 => ?_) (fun h3 => ?_)
  · refine r_p (pc' := 30) (p_iload_n 0 (k := 3) (by decide +kernel) rfl) ?_
    refine r_p (pc' := 31) (p_iload_n 1 (k := 2) (by decide +kernel) rfl) ?_
    refine r_icmpge (off := 7) (tgt := 38) (by decide +kernel) (by decide) (fun h4 => ?_) (fun h4 => ?_)
    · refine r_p (pc' := 39) (p_iconst (n := 0) (v := 0) (by decide +kernel) rfl) ?_
      exact r_iret rfl rfl _ rfl rfl (by decide +kernel)
    · refine r_p (pc' := 35) (p_iconst (n := 1) (v := 1) (by decide +kernel) rfl) ?_
      refine r_p (pc' := 39) (p_goto (off := 4) (tgt := 39) (by decide +kernel) (by decide)) ?_
      exact r_iret rfl rfl _ rfl rfl (by decide +kernel)
  · refine r_p (pc' := 22) (p_iload_n 1 (k := 2) (by decide +kernel) rfl) ?_
    refine r_p (pc' := 23) (p_iload_n 0 (k := 3) (by decide +kernel) rfl) ?_
    refine r_p (pc' := 26) (p_min (idx := 298) (tblG_of 2042 (by decide +kernel) (by decide +kernel)) (Nat.le_of_ble_eq_true rfl) (Nat.le_of_ble_eq_true rfl) (by decide +kernel)) ?_
    refine r_p (pc' := 39) (p_goto (off := 13) (tgt := 39) (by decide +kernel) (by decide)) ?_
    exact r_iret rfl rfl _ rfl rfl (by decide +kernel)
def aX12_launders : StA := (RX12, cX12_launders, 2, some .int, yX12_launders, 15, [])
theorem flX12_394_11 : FL RX12 394 11 23 := ⟨_, TX12, 27, "ToolCourtModel", rfl, by decide, Or.inl (tblG_of 1688 (by decide +kernel) (by decide +kernel)), Or.inl rfl⟩
noncomputable def mX12_launders (a0 : Nat) (a1 : Int32) : MM Int32 := onC 11 a0 (
  mbnd (gI 11 23 a0) fun (v1 : Int32) =>
  if 0 ≤ v1 then (
    mbnd (mX12_of a0 a1 3) fun (v3 : Int32) =>
    mbnd (gI 11 23 a0) fun (v4 : Int32) =>
    mret ((((v3.toInt64) * (v4.toInt64)) / 100).toInt32)
  ) else (
    mbnd (mX12_goesOver a0 a1) fun (v5 : Int32) =>
    mret v5
  )
  )
theorem rcX12_launders (a0 : Nat) (a1 : Int32) : Rcv 11 a0 (mX12_launders a0 a1) := fun s r h => ⟨(onC_some h).1, (onC_some h).2.1⟩
set_option maxHeartbeats 4000000 in
set_option maxRecDepth 100000 in
theorem ctX12_launders (a0 : Nat) (a1 : Int32) : Ct aX12_launders [vr a0, vi a1] (mX12_launders a0 a1) rI := by
  unfold mX12_launders
  refine ct_onC (ct_intro (by decide +kernel) rfl (Nat.le_of_ble_eq_true rfl) fun Y s => ?_)
  refine r_sub (lv' := [(0, vr a0), (1, vi a1)]) [0, 1] rfl ?_
  refine r_p (pc' := 1) (p_aload_n 0 (k := 0) (by decide +kernel) rfl) ?_
  refine r_gI flX12_394_11 (by decide +kernel) fun v1 => ?_
  refine r_ifge (off := 11) (tgt := 15) (by decide +kernel) (by decide) (fun h2 => ?_) (fun h2 => ?_)
  · refine r_p (pc' := 16) (p_aload_n 0 (k := 0) (by decide +kernel) rfl) ?_
    refine r_p (pc' := 17) (p_iload_n 1 (k := 1) (by decide +kernel) rfl) ?_
    refine r_p (pc' := 18) (p_iconst (n := 3) (v := 3) (by decide +kernel) rfl) ?_
    refine r_callVI mvX12_65 (ctX12_of a0 a1 3) (rcX12_of a0 a1 3) ⟨_, _, rfl⟩ (as := [vi a1, vi 3]) (st := []) rfl rfl (by decide +kernel) rfl (Nat.le_of_ble_eq_true rfl) (Nat.le_of_ble_eq_true rfl) fun v3 s => ?_
    refine r_p (pc' := 22) (p_i2l (by decide +kernel)) ?_
    refine r_p (pc' := 23) (p_aload_n 0 (k := 0) (by decide +kernel) rfl) ?_
    refine r_gI flX12_394_11 (by decide +kernel) fun v4 => ?_
    refine r_p (pc' := 27) (p_i2l (by decide +kernel)) ?_
    refine r_p (pc' := 28) (p_lmul (by decide +kernel)) ?_
    refine r_p (pc' := 31) (p_ldc2 (i := 365) (v := 100) (by decide +kernel) (tblG_of 2094 (by decide +kernel) (by decide +kernel))) ?_
    refine r_p (pc' := 32) (p_ldiv (by decide +kernel) (by decide)) ?_
    refine r_p (pc' := 33) (p_l2i (by decide +kernel)) ?_
    exact r_iret rfl rfl _ rfl rfl (by decide +kernel)
  · refine r_p (pc' := 8) (p_aload_n 0 (k := 0) (by decide +kernel) rfl) ?_
    refine r_p (pc' := 9) (p_iload_n 1 (k := 1) (by decide +kernel) rfl) ?_
    refine r_callVI mvX12_370 (ctX12_goesOver a0 a1) (rcX12_goesOver a0 a1) ⟨_, _, rfl⟩ (as := [vi a1]) (st := []) rfl rfl (by decide +kernel) rfl (Nat.le_of_ble_eq_true rfl) (Nat.le_of_ble_eq_true rfl) fun v5 s => ?_
    refine r_p (pc' := 33) (p_goto (off := 21) (tgt := 33) (by decide +kernel) (by decide)) ?_
    exact r_iret rfl rfl _ rfl rfl (by decide +kernel)
def aX12_answersBy : StA := (RX12, cX12_answersBy, 6, some .int, yX12_answersBy, 16, [])
theorem flX12_397_11 : FL RX12 397 11 24 := ⟨_, TX12, 27, "ToolCourtModel", rfl, by decide, Or.inl (tblG_of 1689 (by decide +kernel) (by decide +kernel)), Or.inl rfl⟩
theorem msX12_400 : MS RX12 400 aX12_has 2 := ⟨tblG_of 2169 (by decide +kernel) (by decide +kernel), tblG_of 2170 (by decide +kernel) (by decide +kernel), tblG_of 157 (by decide +kernel) (by decide +kernel), tblG_of 2171 (by decide +kernel) (by decide +kernel), rfl, ⟨by decide, by decide⟩, by decide +kernel, by decide⟩
theorem mvX12_403 : MV RX12 403 aX12_launders 1 := ⟨tblG_of 2180 (by decide +kernel) (by decide +kernel), tblG_of 2182 (by decide +kernel) (by decide +kernel), tblG_of 126 (by decide +kernel) (by decide +kernel), tblG_of 157 (by decide +kernel) (by decide +kernel), tblG_of 2183 (by decide +kernel) (by decide +kernel), rfl, ⟨by decide, by decide⟩, by decide +kernel, by decide⟩
noncomputable def mX12_answersBy (a0 : Nat) (a1 : Int32) (a2 : Int32) (a3 : Int32) : MM Int32 := onC 11 a0 (
  mbnd (mX12_inTool a0 a1 a2) fun (v1 : Int32) =>
  if 0 ≤ a3 then (
    mbnd (α := Int32) (
      if v1 < 0 then (
        mret 0
      ) else (
        mbnd (mX12_isNailed a0 v1) fun (v7 : Int32) =>
        if v7 = 0 then (
          mbnd (gI 11 24 a0) fun (v9 : Int32) =>
          mbnd (mX12_has v9 a2) fun (v10 : Int32) =>
          if v10 = 0 then (
            mbnd (mX12_of a0 a3 0) fun (v12 : Int32) =>
            if v12 = a2 then (
              mbnd (mX12_isSpare a0 a3) fun (v14 : Int32) =>
              if v14 = 0 then (
                mret 0
              ) else (
                mret 1
              )
            ) else (
              mret 0
            )
          ) else (
            mret 0
          )
        ) else (
          mret 0
        )
      )
    ) fun (x4 : Int32) =>
    if x4 = 0 then (
      mret 1000000
    ) else (
      mbnd (mX12_of a0 a3 3) fun (v17 : Int32) =>
      mbnd (mX12_launders a0 v1) fun (v18 : Int32) =>
      mret (v17 + v18)
    )
  ) else (
    if 0 ≤ v1 then (
      mbnd (mX12_of a0 v1 3) fun (v20 : Int32) =>
      mret v20
    ) else (
      mret 0
    )
  )
  )
theorem rcX12_answersBy (a0 : Nat) (a1 : Int32) (a2 : Int32) (a3 : Int32) : Rcv 11 a0 (mX12_answersBy a0 a1 a2 a3) := fun s r h => ⟨(onC_some h).1, (onC_some h).2.1⟩
set_option maxHeartbeats 4000000 in
set_option maxRecDepth 100000 in
theorem ctX12_answersBy (a0 : Nat) (a1 : Int32) (a2 : Int32) (a3 : Int32) : Ct aX12_answersBy [vr a0, vi a1, vi a2, vi a3] (mX12_answersBy a0 a1 a2 a3) rI := by
  unfold mX12_answersBy
  refine ct_onC (ct_intro (by decide +kernel) rfl (Nat.le_of_ble_eq_true rfl) fun Y s => ?_)
  refine r_sub (lv' := [(0, vr a0), (1, vi a1), (2, vi a2), (3, vi a3)]) [0, 1, 2, 3] rfl ?_
  refine r_p (pc' := 1) (p_aload_n 0 (k := 0) (by decide +kernel) rfl) ?_
  refine r_p (pc' := 2) (p_iload_n 1 (k := 1) (by decide +kernel) rfl) ?_
  refine r_p (pc' := 3) (p_iload_n 2 (k := 2) (by decide +kernel) rfl) ?_
  refine r_callVI mvX12_149 (ctX12_inTool a0 a1 a2) (rcX12_inTool a0 a1 a2) ⟨_, _, rfl⟩ (as := [vi a1, vi a2]) (st := []) rfl rfl (by decide +kernel) rfl (Nat.le_of_ble_eq_true rfl) (Nat.le_of_ble_eq_true rfl) fun v1 s => ?_
  refine r_p (pc' := 8) (p_istore (i := 4) (lv' := [(4, vi v1), (0, vr a0), (1, vi a1), (2, vi a2), (3, vi a3)]) (by decide +kernel) (Nat.le_of_ble_eq_true rfl) rfl) ?_
  refine r_p (pc' := 9) (p_iload_n 4 (k := 3) (by decide +kernel) rfl) ?_
  refine r_ifge (off := 20) (tgt := 29) (by decide +kernel) (by decide) (fun h2 => ?_) (fun h2 => ?_)
  · refine r_p (pc' := 31) (p_iload 0 (i := 4) (by decide +kernel) rfl) ?_
    refine r_join 77 (fun (x4 : Int32) => [(0, vr a0), (3, vi a3), (4, vi v1)]) (fun (x4 : Int32) => [vi x4]) (fun x4 s => ?_) (fun K5 hj6 => ?_)
    · refine r_p (pc' := 79) (p_istore (i := 5) (lv' := [(5, vi x4), (0, vr a0), (3, vi a3), (4, vi v1)]) (by decide +kernel) (Nat.le_of_ble_eq_true rfl) rfl) ?_
      refine r_p (pc' := 81) (p_iload 0 (i := 5) (by decide +kernel) rfl) ?_
      refine r_ifeq (off := 19) (tgt := 100) (by decide +kernel) (by decide) (fun h16 => ?_) (fun h16 => ?_)
      · refine r_p (pc' := 103) (p_ldcw (i := 406) (v := 1000000) (by decide +kernel) (tblG_of 2168 (by decide +kernel) (by decide +kernel))) ?_
        exact r_iret rfl rfl _ rfl rfl (by decide +kernel)
      · refine r_p (pc' := 85) (p_aload_n 1 (k := 0) (by decide +kernel) rfl) ?_
        refine r_p (pc' := 86) (p_iload_n 2 (k := 3) (by decide +kernel) rfl) ?_
        refine r_p (pc' := 87) (p_iconst (n := 3) (v := 3) (by decide +kernel) rfl) ?_
        refine r_callVI mvX12_65 (ctX12_of a0 a3 3) (rcX12_of a0 a3 3) ⟨_, _, rfl⟩ (as := [vi a3, vi 3]) (st := []) rfl rfl (by decide +kernel) rfl (Nat.le_of_ble_eq_true rfl) (Nat.le_of_ble_eq_true rfl) fun v17 s => ?_
        refine r_p (pc' := 91) (p_aload_n 1 (k := 0) (by decide +kernel) rfl) ?_
        refine r_p (pc' := 93) (p_iload 3 (i := 4) (by decide +kernel) rfl) ?_
        refine r_callVI mvX12_403 (ctX12_launders a0 v1) (rcX12_launders a0 v1) ⟨_, _, rfl⟩ (as := [vi v1]) (st := [vi v17]) rfl rfl (by decide +kernel) rfl (Nat.le_of_ble_eq_true rfl) (Nat.le_of_ble_eq_true rfl) fun v18 s => ?_
        refine r_p (pc' := 97) (p_iadd (by decide +kernel)) ?_
        refine r_p (pc' := 103) (p_goto (off := 6) (tgt := 103) (by decide +kernel) (by decide)) ?_
        exact r_iret rfl rfl _ rfl rfl (by decide +kernel)
    · refine r_iflt (off := 45) (tgt := 76) (by decide +kernel) (by decide) (fun h3 => ?_) (fun h3 => ?_)
      · refine r_p (pc' := 77) (p_iconst (n := 0) (v := 0) (by decide +kernel) rfl) ?_
        refine r_sub (lv' := [(0, vr a0), (3, vi a3), (4, vi v1)]) [1, 4, 0] rfl ?_
        exact hj6 0 _
      · refine r_p (pc' := 35) (p_aload_n 1 (k := 0) (by decide +kernel) rfl) ?_
        refine r_p (pc' := 37) (p_iload 0 (i := 4) (by decide +kernel) rfl) ?_
        refine r_callVI mvX12_367 (ctX12_isNailed a0 v1) (rcX12_isNailed a0 v1) ⟨_, _, rfl⟩ (as := [vi v1]) (st := []) rfl rfl (by decide +kernel) rfl (Nat.le_of_ble_eq_true rfl) (Nat.le_of_ble_eq_true rfl) fun v7 s => ?_
        refine r_ifne (off := 36) (tgt := 76) (by decide +kernel) (by decide) (fun h8 => ?_) (fun h8 => ?_)
        · refine r_p (pc' := 44) (p_aload_n 1 (k := 0) (by decide +kernel) rfl) ?_
          refine r_gI flX12_397_11 (by decide +kernel) fun v9 => ?_
          refine r_p (pc' := 48) (p_iload_n 3 (k := 2) (by decide +kernel) rfl) ?_
          refine r_callSI msX12_400 (ctX12_has v9 a2) (as := [vi v9, vi a2]) (st := []) rfl rfl (by decide +kernel) rfl (Nat.le_of_ble_eq_true rfl) (Nat.le_of_ble_eq_true rfl) fun v10 s => ?_
          refine r_ifne (off := 25) (tgt := 76) (by decide +kernel) (by decide) (fun h11 => ?_) (fun h11 => ?_)
          · refine r_p (pc' := 55) (p_aload_n 1 (k := 0) (by decide +kernel) rfl) ?_
            refine r_p (pc' := 56) (p_iload_n 4 (k := 3) (by decide +kernel) rfl) ?_
            refine r_p (pc' := 57) (p_iconst (n := 0) (v := 0) (by decide +kernel) rfl) ?_
            refine r_callVI mvX12_65 (ctX12_of a0 a3 0) (rcX12_of a0 a3 0) ⟨_, _, rfl⟩ (as := [vi a3, vi 0]) (st := []) rfl rfl (by decide +kernel) rfl (Nat.le_of_ble_eq_true rfl) (Nat.le_of_ble_eq_true rfl) fun v12 s => ?_
            refine r_p (pc' := 61) (p_iload_n 3 (k := 2) (by decide +kernel) rfl) ?_
            refine r_icmpne (off := 15) (tgt := 76) (by decide +kernel) (by decide) (fun h13 => ?_) (fun h13 => ?_)
            · refine r_p (pc' := 65) (p_aload_n 1 (k := 0) (by decide +kernel) rfl) ?_
              refine r_p (pc' := 66) (p_iload_n 4 (k := 3) (by decide +kernel) rfl) ?_
              refine r_callVI mvX12_145 (ctX12_isSpare a0 a3) (rcX12_isSpare a0 a3) ⟨_, _, rfl⟩ (as := [vi a3]) (st := []) rfl rfl (by decide +kernel) rfl (Nat.le_of_ble_eq_true rfl) (Nat.le_of_ble_eq_true rfl) fun v14 s => ?_
              refine r_ifeq (off := 7) (tgt := 76) (by decide +kernel) (by decide) (fun h15 => ?_) (fun h15 => ?_)
              · refine r_p (pc' := 77) (p_iconst (n := 0) (v := 0) (by decide +kernel) rfl) ?_
                refine r_sub (lv' := [(0, vr a0), (3, vi a3), (4, vi v1)]) [1, 4, 0] rfl ?_
                exact hj6 0 _
              · refine r_p (pc' := 73) (p_iconst (n := 1) (v := 1) (by decide +kernel) rfl) ?_
                refine r_p (pc' := 77) (p_goto (off := 4) (tgt := 77) (by decide +kernel) (by decide)) ?_
                refine r_sub (lv' := [(0, vr a0), (3, vi a3), (4, vi v1)]) [1, 4, 0] rfl ?_
                exact hj6 1 _
            · refine r_p (pc' := 77) (p_iconst (n := 0) (v := 0) (by decide +kernel) rfl) ?_
              refine r_sub (lv' := [(0, vr a0), (3, vi a3), (4, vi v1)]) [1, 4, 0] rfl ?_
              exact hj6 0 _
          · refine r_p (pc' := 77) (p_iconst (n := 0) (v := 0) (by decide +kernel) rfl) ?_
            refine r_sub (lv' := [(0, vr a0), (3, vi a3), (4, vi v1)]) [1, 4, 0] rfl ?_
            exact hj6 0 _
        · refine r_p (pc' := 77) (p_iconst (n := 0) (v := 0) (by decide +kernel) rfl) ?_
          refine r_sub (lv' := [(0, vr a0), (3, vi a3), (4, vi v1)]) [1, 4, 0] rfl ?_
          exact hj6 0 _
  · refine r_p (pc' := 14) (p_iload 0 (i := 4) (by decide +kernel) rfl) ?_
    refine r_ifge (off := 7) (tgt := 21) (by decide +kernel) (by decide) (fun h19 => ?_) (fun h19 => ?_)
    · refine r_p (pc' := 22) (p_aload_n 1 (k := 0) (by decide +kernel) rfl) ?_
      refine r_p (pc' := 24) (p_iload 0 (i := 4) (by decide +kernel) rfl) ?_
      refine r_p (pc' := 25) (p_iconst (n := 3) (v := 3) (by decide +kernel) rfl) ?_
      refine r_callVI mvX12_65 (ctX12_of a0 v1 3) (rcX12_of a0 v1 3) ⟨_, _, rfl⟩ (as := [vi v1, vi 3]) (st := []) rfl rfl (by decide +kernel) rfl (Nat.le_of_ble_eq_true rfl) (Nat.le_of_ble_eq_true rfl) fun v20 s => ?_
      exact r_iret rfl rfl _ rfl rfl (by decide +kernel)
    · refine r_p (pc' := 18) (p_iconst (n := 0) (v := 0) (by decide +kernel) rfl) ?_
      refine r_p (pc' := 28) (p_goto (off := 10) (tgt := 28) (by decide +kernel) (by decide)) ?_
      exact r_iret rfl rfl _ rfl rfl (by decide +kernel)
def aX12_leastBy : StA := (RX12, cX12_leastBy, 5, some .int, yX12_leastBy, 17, [])
theorem mvX12_410 : MV RX12 410 aX12_answersBy 3 := ⟨tblG_of 2176 (by decide +kernel) (by decide +kernel), tblG_of 2178 (by decide +kernel) (by decide +kernel), tblG_of 125 (by decide +kernel) (by decide +kernel), tblG_of 157 (by decide +kernel) (by decide +kernel), tblG_of 2179 (by decide +kernel) (by decide +kernel), rfl, ⟨by decide, by decide⟩, by decide +kernel, by decide⟩
noncomputable def mX12_leastBy_L7 (a0 : Nat) (a1 : Int32) (a2 : Int32) (x1 : Int32 × Int32) : MM ((Int32 × Int32) ⊕ (Int32)) :=
  mbnd (mX12_parts a0) fun (v5 : Int32) =>
  if v5 ≤ x1.2 then (
    mret (.inr x1.1)
  ) else (
    mbnd (mX12_answersBy a0 a1 a2 x1.2) fun (v7 : Int32) =>
    mbnd (mret (imin x1.1 v7)) fun (v8 : Int32) =>
    mret (.inl (v8, x1.2 + 1))
  )
noncomputable def mX12_leastBy (a0 : Nat) (a1 : Int32) (a2 : Int32) : MM Int32 := onC 11 a0 (
  mbnd (loopM (mX12_leastBy_L7 a0 a1 a2) (1000000, 0)) fun (e9 : Int32) =>
  mret e9
  )
theorem rcX12_leastBy (a0 : Nat) (a1 : Int32) (a2 : Int32) : Rcv 11 a0 (mX12_leastBy a0 a1 a2) := fun s r h => ⟨(onC_some h).1, (onC_some h).2.1⟩
set_option maxHeartbeats 4000000 in
set_option maxRecDepth 100000 in
theorem ctX12_leastBy (a0 : Nat) (a1 : Int32) (a2 : Int32) : Ct aX12_leastBy [vr a0, vi a1, vi a2] (mX12_leastBy a0 a1 a2) rI := by
  unfold mX12_leastBy
  refine ct_onC (ct_intro (by decide +kernel) rfl (Nat.le_of_ble_eq_true rfl) fun Y s => ?_)
  refine r_sub (lv' := [(0, vr a0), (1, vi a1), (2, vi a2)]) [0, 1, 2] rfl ?_
  refine r_p (pc' := 3) (p_ldcw (i := 406) (v := 1000000) (by decide +kernel) (tblG_of 2168 (by decide +kernel) (by decide +kernel))) ?_
  refine r_p (pc' := 4) (p_istore_n (k := 3) (lv' := [(3, vi 1000000), (0, vr a0), (1, vi a1), (2, vi a2)]) (by decide +kernel) (Nat.le_of_ble_eq_true rfl) rfl) ?_
  refine r_p (pc' := 5) (p_iconst (n := 0) (v := 0) (by decide +kernel) rfl) ?_
  refine r_p (pc' := 7) (p_istore (i := 4) (lv' := [(4, vi 0), (3, vi 1000000), (0, vr a0), (1, vi a1), (2, vi a2)]) (by decide +kernel) (Nat.le_of_ble_eq_true rfl) rfl) ?_
  refine r_sub (lv' := [(0, vr a0), (1, vi a1), (2, vi a2), (3, vi 1000000), (4, vi 0)]) [2, 3, 4, 1, 0] rfl ?_
  refine r_loop2 (fun _ => 35) (fun (e9 : Int32) => [(3, vi e9)]) (fun (x1 : Int32 × Int32) => [(0, vr a0), (1, vi a1), (2, vi a2), (3, vi x1.1), (4, vi x1.2)]) (fun e9 s => ?_) (fun K2 hb3 he4 x1 s => ?_) (1000000, 0) _
  · refine r_p (pc' := 36) (p_iload_n 0 (k := 3) (by decide +kernel) rfl) ?_
    exact r_iret rfl rfl _ rfl rfl (by decide +kernel)
  · unfold mX12_leastBy_L7
    refine r_p (pc' := 9) (p_iload 4 (i := 4) (by decide +kernel) rfl) ?_
    refine r_p (pc' := 10) (p_aload_n 0 (k := 0) (by decide +kernel) rfl) ?_
    refine r_callVI mvX12_68 (ctX12_parts a0) (rcX12_parts a0) ⟨_, _, rfl⟩ (as := []) (st := [vi x1.2]) rfl rfl (by decide +kernel) rfl (Nat.le_of_ble_eq_true rfl) (Nat.le_of_ble_eq_true rfl) fun v5 s => ?_
    refine r_icmpge (off := 22) (tgt := 35) (by decide +kernel) (by decide) (fun h6 => ?_) (fun h6 => ?_)
    · refine r_sub (lv' := [(3, vi x1.1)]) [3] rfl ?_
      exact he4 x1.1 _
    · refine r_p (pc' := 17) (p_iload_n 3 (k := 3) (by decide +kernel) rfl) ?_
      refine r_p (pc' := 18) (p_aload_n 0 (k := 0) (by decide +kernel) rfl) ?_
      refine r_p (pc' := 19) (p_iload_n 1 (k := 1) (by decide +kernel) rfl) ?_
      refine r_p (pc' := 20) (p_iload_n 2 (k := 2) (by decide +kernel) rfl) ?_
      refine r_p (pc' := 22) (p_iload 4 (i := 4) (by decide +kernel) rfl) ?_
      refine r_callVI mvX12_410 (ctX12_answersBy a0 a1 a2 x1.2) (rcX12_answersBy a0 a1 a2 x1.2) ⟨_, _, rfl⟩ (as := [vi a1, vi a2, vi x1.2]) (st := [vi x1.1]) rfl rfl (by decide +kernel) rfl (Nat.le_of_ble_eq_true rfl) (Nat.le_of_ble_eq_true rfl) fun v7 s => ?_
      refine r_p (pc' := 28) (p_min (idx := 298) (tblG_of 2042 (by decide +kernel) (by decide +kernel)) (Nat.le_of_ble_eq_true rfl) (Nat.le_of_ble_eq_true rfl) (by decide +kernel)) ?_
      refine r_letI fun v8 => ?_
      refine r_p (pc' := 29) (p_istore_n (k := 3) (lv' := [(3, vi v8), (0, vr a0), (1, vi a1), (2, vi a2), (4, vi x1.2)]) (by decide +kernel) (Nat.le_of_ble_eq_true rfl) rfl) ?_
      refine r_p (pc' := 32) (p_iinc 4 (i := 4) (n := 1) (x := x1.2) (v := x1.2 + 1) (lv' := [(4, vi (x1.2 + 1)), (3, vi v8), (0, vr a0), (1, vi a1), (2, vi a2)]) (by decide +kernel) rfl rfl (Nat.le_of_ble_eq_true rfl) rfl) ?_
      refine r_p (pc' := 7) (p_goto (off := -25) (tgt := 7) (by decide +kernel) (by decide)) ?_
      refine r_sub (lv' := [(0, vr a0), (1, vi a1), (2, vi a2), (3, vi v8), (4, vi (x1.2 + 1))]) [2, 3, 4, 1, 0] rfl ?_
      exact hb3 (v8, x1.2 + 1) _
def aX12_swapsFrom : StA := (RX12, cX12_swapsFrom, 8, some .int, yX12_swapsFrom, 18, [])
theorem mvX12_407 : MV RX12 407 aX12_leastBy 2 := ⟨tblG_of 2172 (by decide +kernel) (by decide +kernel), tblG_of 2174 (by decide +kernel) (by decide +kernel), tblG_of 124 (by decide +kernel) (by decide +kernel), tblG_of 157 (by decide +kernel) (by decide +kernel), tblG_of 2175 (by decide +kernel) (by decide +kernel), rfl, ⟨by decide, by decide⟩, by decide +kernel, by decide⟩
theorem msX12_413 : MS RX12 413 aJ6_bitCount_0f7a4 1 := ⟨tblG_of 2184 (by decide +kernel) (by decide +kernel), tblG_of 1481 (by decide +kernel) (by decide +kernel), tblG_of 172 (by decide +kernel) (by decide +kernel), tblG_of 1482 (by decide +kernel) (by decide +kernel), rfl, ⟨by decide, by decide⟩, by decide +kernel, by decide⟩
noncomputable def mX12_swapsFrom_L24 (a0 : Nat) (a1 : Int32) (a2 : Int32) (x1 : Int32 × Int32) (x6 : Int32 × Int32) : MM ((Int32 × Int32) ⊕ (Int32)) :=
  if 3 ≤ x6.2 then (
    mret (.inr x6.1)
  ) else (
    mbnd (mX12_has x1.2 (x6.2 - a2)) fun (v11 : Int32) =>
    mbnd (α := Int32) (
      if v11 = 0 then (
        mbnd (mX12_answersBy a0 a1 x6.2 (-1)) fun (v16 : Int32) =>
        mret v16
      ) else (
        mbnd (mX12_leastBy a0 a1 x6.2) fun (v17 : Int32) =>
        mret v17
      )
    ) fun (x13 : Int32) =>
    mbnd (mret (x6.1 + x13)) fun (v18 : Int32) =>
    mret (.inl (v18, x6.2 + 1))
  )
noncomputable def mX12_swapsFrom_L8 (a0 : Nat) (a1 : Int32) (a2 : Int32) (a3 : Int32) (x1 : Int32 × Int32) : MM ((Int32 × Int32) ⊕ (Int32)) :=
  if (1 <<< ((3 - a2) &&& (31 : Int32))) ≤ x1.2 then (
    mret (.inr x1.1)
  ) else (
    mbnd (loopM (mX12_swapsFrom_L24 a0 a1 a2 x1) (0, a2)) fun (e19 : Int32) =>
    mbnd (α := Int32) (
      if a3 < e19 then (
        mret x1.1
      ) else (
        mbnd (mJ6_bitCount_0f7a4 x1.2) fun (v24 : Int32) =>
        mbnd (mret (imin x1.1 v24)) fun (v25 : Int32) =>
        mret v25
      )
    ) fun (x21 : Int32) =>
    mret (.inl (x21, x1.2 + 1))
  )
noncomputable def mX12_swapsFrom (a0 : Nat) (a1 : Int32) (a2 : Int32) (a3 : Int32) : MM Int32 := onC 11 a0 (
  mbnd (loopM (mX12_swapsFrom_L8 a0 a1 a2 a3) (1000000, 0)) fun (e26 : Int32) =>
  mret e26
  )
theorem rcX12_swapsFrom (a0 : Nat) (a1 : Int32) (a2 : Int32) (a3 : Int32) : Rcv 11 a0 (mX12_swapsFrom a0 a1 a2 a3) := fun s r h => ⟨(onC_some h).1, (onC_some h).2.1⟩
set_option maxHeartbeats 4000000 in
set_option maxRecDepth 100000 in
theorem ctX12_swapsFrom (a0 : Nat) (a1 : Int32) (a2 : Int32) (a3 : Int32) : Ct aX12_swapsFrom [vr a0, vi a1, vi a2, vi a3] (mX12_swapsFrom a0 a1 a2 a3) rI := by
  unfold mX12_swapsFrom
  refine ct_onC (ct_intro (by decide +kernel) rfl (Nat.le_of_ble_eq_true rfl) fun Y s => ?_)
  refine r_sub (lv' := [(0, vr a0), (1, vi a1), (2, vi a2), (3, vi a3)]) [0, 1, 2, 3] rfl ?_
  refine r_p (pc' := 3) (p_ldcw (i := 406) (v := 1000000) (by decide +kernel) (tblG_of 2168 (by decide +kernel) (by decide +kernel))) ?_
  refine r_p (pc' := 5) (p_istore (i := 4) (lv' := [(4, vi 1000000), (0, vr a0), (1, vi a1), (2, vi a2), (3, vi a3)]) (by decide +kernel) (Nat.le_of_ble_eq_true rfl) rfl) ?_
  refine r_p (pc' := 6) (p_iconst (n := 0) (v := 0) (by decide +kernel) rfl) ?_
  refine r_p (pc' := 8) (p_istore (i := 5) (lv' := [(5, vi 0), (4, vi 1000000), (0, vr a0), (1, vi a1), (2, vi a2), (3, vi a3)]) (by decide +kernel) (Nat.le_of_ble_eq_true rfl) rfl) ?_
  refine r_sub (lv' := [(0, vr a0), (1, vi a1), (2, vi a2), (3, vi a3), (4, vi 1000000), (5, vi 0)]) [2, 3, 4, 5, 1, 0] rfl ?_
  refine r_loop2 (fun _ => 95) (fun (e26 : Int32) => [(4, vi e26)]) (fun (x1 : Int32 × Int32) => [(0, vr a0), (1, vi a1), (2, vi a2), (3, vi a3), (4, vi x1.1), (5, vi x1.2)]) (fun e26 s => ?_) (fun K2 hb3 he4 x1 s => ?_) (1000000, 0) _
  · refine r_p (pc' := 97) (p_iload 0 (i := 4) (by decide +kernel) rfl) ?_
    exact r_iret rfl rfl _ rfl rfl (by decide +kernel)
  · unfold mX12_swapsFrom_L8
    refine r_p (pc' := 10) (p_iload 5 (i := 5) (by decide +kernel) rfl) ?_
    refine r_p (pc' := 11) (p_iconst (n := 1) (v := 1) (by decide +kernel) rfl) ?_
    refine r_p (pc' := 12) (p_iconst (n := 3) (v := 3) (by decide +kernel) rfl) ?_
    refine r_p (pc' := 13) (p_iload_n 2 (k := 2) (by decide +kernel) rfl) ?_
    refine r_p (pc' := 14) (p_isub (by decide +kernel)) ?_
    refine r_p (pc' := 15) (p_ishl (by decide +kernel)) ?_
    refine r_icmpge (off := 80) (tgt := 95) (by decide +kernel) (by decide) (fun h5 => ?_) (fun h5 => ?_)
    · refine r_sub (lv' := [(4, vi x1.1)]) [4] rfl ?_
      exact he4 x1.1 _
    · refine r_p (pc' := 19) (p_iconst (n := 0) (v := 0) (by decide +kernel) rfl) ?_
      refine r_p (pc' := 21) (p_istore (i := 6) (lv' := [(6, vi 0), (0, vr a0), (1, vi a1), (2, vi a2), (3, vi a3), (4, vi x1.1), (5, vi x1.2)]) (by decide +kernel) (Nat.le_of_ble_eq_true rfl) rfl) ?_
      refine r_p (pc' := 22) (p_iload_n 3 (k := 2) (by decide +kernel) rfl) ?_
      refine r_p (pc' := 24) (p_istore (i := 7) (lv' := [(7, vi a2), (6, vi 0), (0, vr a0), (1, vi a1), (2, vi a2), (3, vi a3), (4, vi x1.1), (5, vi x1.2)]) (by decide +kernel) (Nat.le_of_ble_eq_true rfl) rfl) ?_
      refine r_sub (lv' := [(0, vr a0), (1, vi a1), (2, vi a2), (3, vi a3), (4, vi x1.1), (5, vi x1.2), (6, vi 0), (7, vi a2)]) [2, 3, 4, 5, 6, 7, 1, 0] rfl ?_
      refine r_loop2 (fun _ => 71) (fun (e19 : Int32) => [(0, vr a0), (1, vi a1), (2, vi a2), (3, vi a3), (4, vi x1.1), (5, vi x1.2), (6, vi e19)]) (fun (x6 : Int32 × Int32) => [(0, vr a0), (1, vi a1), (2, vi a2), (3, vi a3), (4, vi x1.1), (5, vi x1.2), (6, vi x6.1), (7, vi x6.2)]) (fun e19 s => ?_) (fun K7 hb8 he9 x6 s => ?_) (0, a2) _
      · refine r_p (pc' := 73) (p_iload 6 (i := 6) (by decide +kernel) rfl) ?_
        refine r_p (pc' := 74) (p_iload_n 3 (k := 3) (by decide +kernel) rfl) ?_
        refine r_join 89 (fun (x21 : Int32) => [(0, vr a0), (1, vi a1), (2, vi a2), (3, vi a3), (4, vi x21), (5, vi x1.2)]) (fun (x21 : Int32) => []) (fun x21 s => ?_) (fun K22 hj23 => ?_)
        · refine r_p (pc' := 92) (p_iinc 5 (i := 5) (n := 1) (x := x1.2) (v := x1.2 + 1) (lv' := [(5, vi (x1.2 + 1)), (0, vr a0), (1, vi a1), (2, vi a2), (3, vi a3), (4, vi x21)]) (by decide +kernel) rfl rfl (Nat.le_of_ble_eq_true rfl) rfl) ?_
          refine r_p (pc' := 8) (p_goto (off := -84) (tgt := 8) (by decide +kernel) (by decide)) ?_
          refine r_sub (lv' := [(0, vr a0), (1, vi a1), (2, vi a2), (3, vi a3), (4, vi x21), (5, vi (x1.2 + 1))]) [1, 2, 3, 4, 5, 0] rfl ?_
          exact hb3 (x21, x1.2 + 1) _
        · refine r_icmpgt (off := 15) (tgt := 89) (by decide +kernel) (by decide) (fun h20 => ?_) (fun h20 => ?_)
          · refine r_sub (lv' := [(0, vr a0), (1, vi a1), (2, vi a2), (3, vi a3), (4, vi x1.1), (5, vi x1.2)]) [0, 1, 2, 3, 4, 5] rfl ?_
            exact hj23 x1.1 _
          · refine r_p (pc' := 79) (p_iload 4 (i := 4) (by decide +kernel) rfl) ?_
            refine r_p (pc' := 81) (p_iload 5 (i := 5) (by decide +kernel) rfl) ?_
            refine r_callSI msX12_413 (ctJ6_bitCount_0f7a4 x1.2) (as := [vi x1.2]) (st := [vi x1.1]) rfl rfl (by decide +kernel) rfl (Nat.le_of_ble_eq_true rfl) (Nat.le_of_ble_eq_true rfl) fun v24 s => ?_
            refine r_p (pc' := 87) (p_min (idx := 298) (tblG_of 2042 (by decide +kernel) (by decide +kernel)) (Nat.le_of_ble_eq_true rfl) (Nat.le_of_ble_eq_true rfl) (by decide +kernel)) ?_
            refine r_letI fun v25 => ?_
            refine r_p (pc' := 89) (p_istore (i := 4) (lv' := [(4, vi v25), (0, vr a0), (1, vi a1), (2, vi a2), (3, vi a3), (5, vi x1.2), (6, vi e19)]) (by decide +kernel) (Nat.le_of_ble_eq_true rfl) rfl) ?_
            refine r_sub (lv' := [(0, vr a0), (1, vi a1), (2, vi a2), (3, vi a3), (4, vi v25), (5, vi x1.2)]) [1, 2, 3, 4, 0, 5] rfl ?_
            exact hj23 v25 _
      · unfold mX12_swapsFrom_L24
        refine r_p (pc' := 26) (p_iload 7 (i := 7) (by decide +kernel) rfl) ?_
        refine r_p (pc' := 27) (p_iconst (n := 3) (v := 3) (by decide +kernel) rfl) ?_
        refine r_icmpge (off := 44) (tgt := 71) (by decide +kernel) (by decide) (fun h10 => ?_) (fun h10 => ?_)
        · refine r_sub (lv' := [(0, vr a0), (1, vi a1), (2, vi a2), (3, vi a3), (4, vi x1.1), (5, vi x1.2), (6, vi x6.1)]) [0, 1, 2, 3, 4, 5, 6] rfl ?_
          exact he9 x6.1 _
        · refine r_p (pc' := 32) (p_iload 6 (i := 6) (by decide +kernel) rfl) ?_
          refine r_p (pc' := 34) (p_iload 5 (i := 5) (by decide +kernel) rfl) ?_
          refine r_p (pc' := 36) (p_iload 7 (i := 7) (by decide +kernel) rfl) ?_
          refine r_p (pc' := 37) (p_iload_n 2 (k := 2) (by decide +kernel) rfl) ?_
          refine r_p (pc' := 38) (p_isub (by decide +kernel)) ?_
          refine r_callSI msX12_400 (ctX12_has x1.2 (x6.2 - a2)) (as := [vi x1.2, vi (x6.2 - a2)]) (st := [vi x6.1]) rfl rfl (by decide +kernel) rfl (Nat.le_of_ble_eq_true rfl) (Nat.le_of_ble_eq_true rfl) fun v11 s => ?_
          refine r_join 62 (fun (x13 : Int32) => [(0, vr a0), (1, vi a1), (2, vi a2), (3, vi a3), (4, vi x1.1), (5, vi x1.2), (7, vi x6.2)]) (fun (x13 : Int32) => [vi x13, vi x6.1]) (fun x13 s => ?_) (fun K14 hj15 => ?_)
          · refine r_p (pc' := 63) (p_iadd (by decide +kernel)) ?_
            refine r_letI fun v18 => ?_
            refine r_p (pc' := 65) (p_istore (i := 6) (lv' := [(6, vi v18), (0, vr a0), (1, vi a1), (2, vi a2), (3, vi a3), (4, vi x1.1), (5, vi x1.2), (7, vi x6.2)]) (by decide +kernel) (Nat.le_of_ble_eq_true rfl) rfl) ?_
            refine r_p (pc' := 68) (p_iinc 7 (i := 7) (n := 1) (x := x6.2) (v := x6.2 + 1) (lv' := [(7, vi (x6.2 + 1)), (6, vi v18), (0, vr a0), (1, vi a1), (2, vi a2), (3, vi a3), (4, vi x1.1), (5, vi x1.2)]) (by decide +kernel) rfl rfl (Nat.le_of_ble_eq_true rfl) rfl) ?_
            refine r_p (pc' := 24) (p_goto (off := -44) (tgt := 24) (by decide +kernel) (by decide)) ?_
            refine r_sub (lv' := [(0, vr a0), (1, vi a1), (2, vi a2), (3, vi a3), (4, vi x1.1), (5, vi x1.2), (6, vi v18), (7, vi (x6.2 + 1))]) [2, 3, 4, 5, 6, 7, 1, 0] rfl ?_
            exact hb8 (v18, x6.2 + 1) _
          · refine r_ifeq (off := 13) (tgt := 54) (by decide +kernel) (by decide) (fun h12 => ?_) (fun h12 => ?_)
            · refine r_p (pc' := 55) (p_aload_n 0 (k := 0) (by decide +kernel) rfl) ?_
              refine r_p (pc' := 56) (p_iload_n 1 (k := 1) (by decide +kernel) rfl) ?_
              refine r_p (pc' := 58) (p_iload 7 (i := 7) (by decide +kernel) rfl) ?_
              refine r_p (pc' := 59) (p_iconst (n := -1) (v := -1) (by decide +kernel) rfl) ?_
              refine r_callVI mvX12_410 (ctX12_answersBy a0 a1 x6.2 (-1)) (rcX12_answersBy a0 a1 x6.2 (-1)) ⟨_, _, rfl⟩ (as := [vi a1, vi x6.2, vi (-1)]) (st := [vi x6.1]) rfl rfl (by decide +kernel) rfl (Nat.le_of_ble_eq_true rfl) (Nat.le_of_ble_eq_true rfl) fun v16 s => ?_
              refine r_sub (lv' := [(0, vr a0), (1, vi a1), (2, vi a2), (3, vi a3), (4, vi x1.1), (5, vi x1.2), (7, vi x6.2)]) [0, 1, 2, 3, 4, 5, 7] rfl ?_
              exact hj15 v16 _
            · refine r_p (pc' := 45) (p_aload_n 0 (k := 0) (by decide +kernel) rfl) ?_
              refine r_p (pc' := 46) (p_iload_n 1 (k := 1) (by decide +kernel) rfl) ?_
              refine r_p (pc' := 48) (p_iload 7 (i := 7) (by decide +kernel) rfl) ?_
              refine r_callVI mvX12_407 (ctX12_leastBy a0 a1 x6.2) (rcX12_leastBy a0 a1 x6.2) ⟨_, _, rfl⟩ (as := [vi a1, vi x6.2]) (st := [vi x6.1]) rfl rfl (by decide +kernel) rfl (Nat.le_of_ble_eq_true rfl) (Nat.le_of_ble_eq_true rfl) fun v17 s => ?_
              refine r_p (pc' := 62) (p_goto (off := 11) (tgt := 62) (by decide +kernel) (by decide)) ?_
              refine r_sub (lv' := [(0, vr a0), (1, vi a1), (2, vi a2), (3, vi a3), (4, vi x1.1), (5, vi x1.2), (7, vi x6.2)]) [0, 1, 2, 3, 4, 5, 7] rfl ?_
              exact hj15 v17 _
def aX12_fewest : StA := (RX12, cX12_fewest, 2, some .int, yX12_fewest, 19, [])
theorem mvX12_418 : MV RX12 418 aX12_swapsFrom 3 := ⟨tblG_of 2164 (by decide +kernel) (by decide +kernel), tblG_of 2166 (by decide +kernel) (by decide +kernel), tblG_of 123 (by decide +kernel) (by decide +kernel), tblG_of 157 (by decide +kernel) (by decide +kernel), tblG_of 2167 (by decide +kernel) (by decide +kernel), rfl, ⟨by decide, by decide⟩, by decide +kernel, by decide⟩
noncomputable def mX12_fewest (a0 : Nat) (a1 : Int32) : MM Int32 := onC 11 a0 (
  mbnd (gR 11 1 a0) fun (v1 : Nat) =>
  mbnd (ldI 0 v1 7) fun (v2 : Int32) =>
  mbnd (mX12_swapsFrom a0 a1 0 v2) fun (v3 : Int32) =>
  mret v3
  )
theorem rcX12_fewest (a0 : Nat) (a1 : Int32) : Rcv 11 a0 (mX12_fewest a0 a1) := fun s r h => ⟨(onC_some h).1, (onC_some h).2.1⟩
set_option maxHeartbeats 4000000 in
set_option maxRecDepth 100000 in
theorem ctX12_fewest (a0 : Nat) (a1 : Int32) : Ct aX12_fewest [vr a0, vi a1] (mX12_fewest a0 a1) rI := by
  unfold mX12_fewest
  refine ct_onC (ct_intro (by decide +kernel) rfl (Nat.le_of_ble_eq_true rfl) fun Y s => ?_)
  refine r_sub (lv' := [(0, vr a0), (1, vi a1)]) [0, 1] rfl ?_
  refine r_p (pc' := 1) (p_aload_n 0 (k := 0) (by decide +kernel) rfl) ?_
  refine r_p (pc' := 2) (p_iload_n 1 (k := 1) (by decide +kernel) rfl) ?_
  refine r_p (pc' := 3) (p_iconst (n := 0) (v := 0) (by decide +kernel) rfl) ?_
  refine r_p (pc' := 4) (p_aload_n 0 (k := 0) (by decide +kernel) rfl) ?_
  refine r_gR flX12_13_11 (by decide +kernel) fun v1 => ?_
  refine r_p (pc' := 9) (p_bipush (n := 7) (v := 7) (by decide +kernel) (by decide +kernel)) ?_
  refine r_ldI0 (by decide +kernel) fun v2 => ?_
  refine r_callVI mvX12_418 (ctX12_swapsFrom a0 a1 0 v2) (rcX12_swapsFrom a0 a1 0 v2) ⟨_, _, rfl⟩ (as := [vi a1, vi 0, vi v2]) (st := []) rfl rfl (by decide +kernel) rfl (Nat.le_of_ble_eq_true rfl) (Nat.le_of_ble_eq_true rfl) fun v3 s => ?_
  exact r_iret rfl rfl _ rfl rfl (by decide +kernel)
def aX12_waysBy : StA := (RX12, cX12_waysBy, 7, some .int, yX12_waysBy, 20, [])
theorem mvX12_421 : MV RX12 421 aX12_fewest 1 := ⟨tblG_of 2160 (by decide +kernel) (by decide +kernel), tblG_of 2162 (by decide +kernel) (by decide +kernel), tblG_of 122 (by decide +kernel) (by decide +kernel), tblG_of 157 (by decide +kernel) (by decide +kernel), tblG_of 2163 (by decide +kernel) (by decide +kernel), rfl, ⟨by decide, by decide⟩, by decide +kernel, by decide⟩
noncomputable def mX12_waysBy_L29 (a0 : Nat) (a1 : Int32) (x4 : Int32 × Int32 × Int32 × Int32) (x9 : Int32) : MM ((Int32) ⊕ (Int32)) :=
  mbnd (mX12_answersBy a0 a1 x4.2.2.2 x9) fun (v13 : Int32) =>
  if v13 = 1000000 then (
    mret (.inl (x9 + 1))
  ) else (
    mbnd (mX12_answersBy a0 a1 x4.2.2.2 x9) fun (v15 : Int32) =>
    mbnd (mX12_swapsFrom a0 a1 (x4.2.2.2 + 1) (x4.1 - v15)) fun (v16 : Int32) =>
    mbnd (α := Int32) (
      if 0 ≤ x9 then (
        mret 1
      ) else (
        mret 0
      )
    ) fun (x18 : Int32) =>
    if v16 ≤ (x4.2.1 - x18) then (
      mret (.inr x9)
    ) else (
      mret (.inl (x9 + 1))
    )
  )
noncomputable def mX12_waysBy_L20 (a0 : Nat) (a1 : Int32) (x4 : Int32 × Int32 × Int32 × Int32) : MM ((Int32 × Int32 × Int32 × Int32) ⊕ (Int32)) :=
  if 3 ≤ x4.2.2.2 then (
    mret (.inr x4.2.2.1)
  ) else (
    mbnd (loopM (mX12_waysBy_L29 a0 a1 x4) (-1)) fun (e22 : Int32) =>
    mbnd (mX12_answersBy a0 a1 x4.2.2.2 e22) fun (v23 : Int32) =>
    mbnd (mret (x4.1 - v23)) fun (v24 : Int32) =>
    mbnd (α := Int32) (
      if 0 ≤ e22 then (
        mret 1
      ) else (
        mret 0
      )
    ) fun (x26 : Int32) =>
    mbnd (mret (x4.2.1 - x26)) fun (v29 : Int32) =>
    mbnd (α := Int32) (
      if 0 ≤ e22 then (
        mret (1 <<< (e22 &&& (31 : Int32)))
      ) else (
        mret 0
      )
    ) fun (x31 : Int32) =>
    mbnd (mret (x4.2.2.1 ||| x31)) fun (v34 : Int32) =>
    mret (.inl (v24, v29, v34, x4.2.2.2 + 1))
  )
noncomputable def mX12_waysBy (a0 : Nat) (a1 : Int32) : MM Int32 := onC 11 a0 (
  mbnd (gR 11 1 a0) fun (v1 : Nat) =>
  mbnd (ldI 0 v1 7) fun (v2 : Int32) =>
  mbnd (mX12_fewest a0 a1) fun (v3 : Int32) =>
  mbnd (loopM (mX12_waysBy_L20 a0 a1) (v2, v3, 0, 0)) fun (e35 : Int32) =>
  mret e35
  )
theorem rcX12_waysBy (a0 : Nat) (a1 : Int32) : Rcv 11 a0 (mX12_waysBy a0 a1) := fun s r h => ⟨(onC_some h).1, (onC_some h).2.1⟩
set_option maxHeartbeats 4000000 in
set_option maxRecDepth 100000 in
theorem ctX12_waysBy (a0 : Nat) (a1 : Int32) : Ct aX12_waysBy [vr a0, vi a1] (mX12_waysBy a0 a1) rI := by
  unfold mX12_waysBy
  refine ct_onC (ct_intro (by decide +kernel) rfl (Nat.le_of_ble_eq_true rfl) fun Y s => ?_)
  refine r_sub (lv' := [(0, vr a0), (1, vi a1)]) [0, 1] rfl ?_
  refine r_p (pc' := 1) (p_aload_n 0 (k := 0) (by decide +kernel) rfl) ?_
  refine r_gR flX12_13_11 (by decide +kernel) fun v1 => ?_
  refine r_p (pc' := 6) (p_bipush (n := 7) (v := 7) (by decide +kernel) (by decide +kernel)) ?_
  refine r_ldI0 (by decide +kernel) fun v2 => ?_
  refine r_p (pc' := 8) (p_istore_n (k := 2) (lv' := [(2, vi v2), (0, vr a0), (1, vi a1)]) (by decide +kernel) (Nat.le_of_ble_eq_true rfl) rfl) ?_
  refine r_p (pc' := 9) (p_aload_n 1 (k := 0) (by decide +kernel) rfl) ?_
  refine r_p (pc' := 10) (p_iload_n 2 (k := 1) (by decide +kernel) rfl) ?_
  refine r_callVI mvX12_421 (ctX12_fewest a0 a1) (rcX12_fewest a0 a1) ⟨_, _, rfl⟩ (as := [vi a1]) (st := []) rfl rfl (by decide +kernel) rfl (Nat.le_of_ble_eq_true rfl) (Nat.le_of_ble_eq_true rfl) fun v3 s => ?_
  refine r_p (pc' := 14) (p_istore_n (k := 3) (lv' := [(3, vi v3), (2, vi v2), (0, vr a0), (1, vi a1)]) (by decide +kernel) (Nat.le_of_ble_eq_true rfl) rfl) ?_
  refine r_p (pc' := 15) (p_iconst (n := 0) (v := 0) (by decide +kernel) rfl) ?_
  refine r_p (pc' := 17) (p_istore (i := 4) (lv' := [(4, vi 0), (3, vi v3), (2, vi v2), (0, vr a0), (1, vi a1)]) (by decide +kernel) (Nat.le_of_ble_eq_true rfl) rfl) ?_
  refine r_p (pc' := 18) (p_iconst (n := 0) (v := 0) (by decide +kernel) rfl) ?_
  refine r_p (pc' := 20) (p_istore (i := 5) (lv' := [(5, vi 0), (4, vi 0), (3, vi v3), (2, vi v2), (0, vr a0), (1, vi a1)]) (by decide +kernel) (Nat.le_of_ble_eq_true rfl) rfl) ?_
  refine r_sub (lv' := [(0, vr a0), (1, vi a1), (2, vi v2), (3, vi v3), (4, vi 0), (5, vi 0)]) [4, 5, 3, 2, 1, 0] rfl ?_
  refine r_loop2 (fun _ => 134) (fun (e35 : Int32) => [(4, vi e35)]) (fun (x4 : Int32 × Int32 × Int32 × Int32) => [(0, vr a0), (1, vi a1), (2, vi x4.1), (3, vi x4.2.1), (4, vi x4.2.2.1), (5, vi x4.2.2.2)]) (fun e35 s => ?_) (fun K5 hb6 he7 x4 s => ?_) (v2, v3, 0, 0) _
  · refine r_p (pc' := 136) (p_iload 0 (i := 4) (by decide +kernel) rfl) ?_
    exact r_iret rfl rfl _ rfl rfl (by decide +kernel)
  · unfold mX12_waysBy_L20
    refine r_p (pc' := 22) (p_iload 5 (i := 5) (by decide +kernel) rfl) ?_
    refine r_p (pc' := 23) (p_iconst (n := 3) (v := 3) (by decide +kernel) rfl) ?_
    refine r_icmpge (off := 111) (tgt := 134) (by decide +kernel) (by decide) (fun h8 => ?_) (fun h8 => ?_)
    · refine r_sub (lv' := [(4, vi x4.2.2.1)]) [4] rfl ?_
      exact he7 x4.2.2.1 _
    · refine r_p (pc' := 27) (p_iconst (n := -1) (v := -1) (by decide +kernel) rfl) ?_
      refine r_p (pc' := 29) (p_istore (i := 6) (lv' := [(6, vi (-1)), (0, vr a0), (1, vi a1), (2, vi x4.1), (3, vi x4.2.1), (4, vi x4.2.2.1), (5, vi x4.2.2.2)]) (by decide +kernel) (Nat.le_of_ble_eq_true rfl) rfl) ?_
      refine r_sub (lv' := [(0, vr a0), (1, vi a1), (2, vi x4.1), (3, vi x4.2.1), (4, vi x4.2.2.1), (5, vi x4.2.2.2), (6, vi (-1))]) [1, 2, 3, 4, 5, 6, 0] rfl ?_
      refine r_loop2 (fun _ => 85) (fun (e22 : Int32) => [(0, vr a0), (1, vi a1), (2, vi x4.1), (3, vi x4.2.1), (4, vi x4.2.2.1), (5, vi x4.2.2.2), (6, vi e22)]) (fun (x9 : Int32) => [(0, vr a0), (1, vi a1), (2, vi x4.1), (3, vi x4.2.1), (4, vi x4.2.2.1), (5, vi x4.2.2.2), (6, vi x9)]) (fun e22 s => ?_) (fun K10 hb11 he12 x9 s => ?_) (-1) _
      · refine r_p (pc' := 86) (p_iload_n 2 (k := 2) (by decide +kernel) rfl) ?_
        refine r_p (pc' := 87) (p_aload_n 0 (k := 0) (by decide +kernel) rfl) ?_
        refine r_p (pc' := 88) (p_iload_n 1 (k := 1) (by decide +kernel) rfl) ?_
        refine r_p (pc' := 90) (p_iload 5 (i := 5) (by decide +kernel) rfl) ?_
        refine r_p (pc' := 92) (p_iload 6 (i := 6) (by decide +kernel) rfl) ?_
        refine r_callVI mvX12_410 (ctX12_answersBy a0 a1 x4.2.2.2 e22) (rcX12_answersBy a0 a1 x4.2.2.2 e22) ⟨_, _, rfl⟩ (as := [vi a1, vi x4.2.2.2, vi e22]) (st := [vi x4.1]) rfl rfl (by decide +kernel) rfl (Nat.le_of_ble_eq_true rfl) (Nat.le_of_ble_eq_true rfl) fun v23 s => ?_
        refine r_p (pc' := 96) (p_isub (by decide +kernel)) ?_
        refine r_letI fun v24 => ?_
        refine r_p (pc' := 97) (p_istore_n (k := 2) (lv' := [(2, vi v24), (0, vr a0), (1, vi a1), (3, vi x4.2.1), (4, vi x4.2.2.1), (5, vi x4.2.2.2), (6, vi e22)]) (by decide +kernel) (Nat.le_of_ble_eq_true rfl) rfl) ?_
        refine r_p (pc' := 98) (p_iload_n 3 (k := 3) (by decide +kernel) rfl) ?_
        refine r_p (pc' := 100) (p_iload 6 (i := 6) (by decide +kernel) rfl) ?_
        refine r_join 108 (fun (x26 : Int32) => [(0, vr a0), (1, vi a1), (2, vi v24), (4, vi x4.2.2.1), (5, vi x4.2.2.2), (6, vi e22)]) (fun (x26 : Int32) => [vi x26, vi x4.2.1]) (fun x26 s => ?_) (fun K27 hj28 => ?_)
        · refine r_p (pc' := 109) (p_isub (by decide +kernel)) ?_
          refine r_letI fun v29 => ?_
          refine r_p (pc' := 110) (p_istore_n (k := 3) (lv' := [(3, vi v29), (0, vr a0), (1, vi a1), (2, vi v24), (4, vi x4.2.2.1), (5, vi x4.2.2.2), (6, vi e22)]) (by decide +kernel) (Nat.le_of_ble_eq_true rfl) rfl) ?_
          refine r_p (pc' := 112) (p_iload 4 (i := 4) (by decide +kernel) rfl) ?_
          refine r_p (pc' := 114) (p_iload 6 (i := 6) (by decide +kernel) rfl) ?_
          refine r_join 125 (fun (x31 : Int32) => [(0, vr a0), (1, vi a1), (2, vi v24), (3, vi v29), (5, vi x4.2.2.2)]) (fun (x31 : Int32) => [vi x31, vi x4.2.2.1]) (fun x31 s => ?_) (fun K32 hj33 => ?_)
          · refine r_p (pc' := 126) (p_ior (by decide +kernel)) ?_
            refine r_letI fun v34 => ?_
            refine r_p (pc' := 128) (p_istore (i := 4) (lv' := [(4, vi v34), (0, vr a0), (1, vi a1), (2, vi v24), (3, vi v29), (5, vi x4.2.2.2)]) (by decide +kernel) (Nat.le_of_ble_eq_true rfl) rfl) ?_
            refine r_p (pc' := 131) (p_iinc 5 (i := 5) (n := 1) (x := x4.2.2.2) (v := x4.2.2.2 + 1) (lv' := [(5, vi (x4.2.2.2 + 1)), (4, vi v34), (0, vr a0), (1, vi a1), (2, vi v24), (3, vi v29)]) (by decide +kernel) rfl rfl (Nat.le_of_ble_eq_true rfl) rfl) ?_
            refine r_p (pc' := 20) (p_goto (off := -111) (tgt := 20) (by decide +kernel) (by decide)) ?_
            refine r_sub (lv' := [(0, vr a0), (1, vi a1), (2, vi v24), (3, vi v29), (4, vi v34), (5, vi (x4.2.2.2 + 1))]) [2, 3, 4, 5, 1, 0] rfl ?_
            exact hb6 (v24, v29, v34, x4.2.2.2 + 1) _
          · refine r_ifge (off := 7) (tgt := 121) (by decide +kernel) (by decide) (fun h30 => ?_) (fun h30 => ?_)
            · refine r_p (pc' := 122) (p_iconst (n := 1) (v := 1) (by decide +kernel) rfl) ?_
              refine r_p (pc' := 124) (p_iload 6 (i := 6) (by decide +kernel) rfl) ?_
              refine r_p (pc' := 125) (p_ishl (by decide +kernel)) ?_
              refine r_sub (lv' := [(0, vr a0), (1, vi a1), (2, vi v24), (3, vi v29), (5, vi x4.2.2.2)]) [1, 2, 3, 0, 5] rfl ?_
              exact hj33 (1 <<< (e22 &&& (31 : Int32))) _
            · refine r_p (pc' := 118) (p_iconst (n := 0) (v := 0) (by decide +kernel) rfl) ?_
              refine r_p (pc' := 125) (p_goto (off := 7) (tgt := 125) (by decide +kernel) (by decide)) ?_
              refine r_sub (lv' := [(0, vr a0), (1, vi a1), (2, vi v24), (3, vi v29), (5, vi x4.2.2.2)]) [1, 2, 3, 0, 5] rfl ?_
              exact hj33 0 _
        · refine r_ifge (off := 7) (tgt := 107) (by decide +kernel) (by decide) (fun h25 => ?_) (fun h25 => ?_)
          · refine r_p (pc' := 108) (p_iconst (n := 1) (v := 1) (by decide +kernel) rfl) ?_
            refine r_sub (lv' := [(0, vr a0), (1, vi a1), (2, vi v24), (4, vi x4.2.2.1), (5, vi x4.2.2.2), (6, vi e22)]) [1, 2, 0, 4, 5, 6] rfl ?_
            exact hj28 1 _
          · refine r_p (pc' := 104) (p_iconst (n := 0) (v := 0) (by decide +kernel) rfl) ?_
            refine r_p (pc' := 108) (p_goto (off := 4) (tgt := 108) (by decide +kernel) (by decide)) ?_
            refine r_sub (lv' := [(0, vr a0), (1, vi a1), (2, vi v24), (4, vi x4.2.2.1), (5, vi x4.2.2.2), (6, vi e22)]) [1, 2, 0, 4, 5, 6] rfl ?_
            exact hj28 0 _
      · unfold mX12_waysBy_L29
        refine r_p (pc' := 30) (p_aload_n 0 (k := 0) (by decide +kernel) rfl) ?_
        refine r_p (pc' := 31) (p_iload_n 1 (k := 1) (by decide +kernel) rfl) ?_
        refine r_p (pc' := 33) (p_iload 5 (i := 5) (by decide +kernel) rfl) ?_
        refine r_p (pc' := 35) (p_iload 6 (i := 6) (by decide +kernel) rfl) ?_
        refine r_callVI mvX12_410 (ctX12_answersBy a0 a1 x4.2.2.2 x9) (rcX12_answersBy a0 a1 x4.2.2.2 x9) ⟨_, _, rfl⟩ (as := [vi a1, vi x4.2.2.2, vi x9]) (st := []) rfl rfl (by decide +kernel) rfl (Nat.le_of_ble_eq_true rfl) (Nat.le_of_ble_eq_true rfl) fun v13 s => ?_
        refine r_p (pc' := 41) (p_ldcw (i := 406) (v := 1000000) (by decide +kernel) (tblG_of 2168 (by decide +kernel) (by decide +kernel))) ?_
        refine r_icmpeq (off := 38) (tgt := 79) (by decide +kernel) (by decide) (fun h14 => ?_) (fun h14 => ?_)
        · refine r_p (pc' := 82) (p_iinc 6 (i := 6) (n := 1) (x := x9) (v := x9 + 1) (lv' := [(6, vi (x9 + 1)), (0, vr a0), (1, vi a1), (2, vi x4.1), (3, vi x4.2.1), (4, vi x4.2.2.1), (5, vi x4.2.2.2)]) (by decide +kernel) rfl rfl (Nat.le_of_ble_eq_true rfl) rfl) ?_
          refine r_p (pc' := 29) (p_goto (off := -53) (tgt := 29) (by decide +kernel) (by decide)) ?_
          refine r_sub (lv' := [(0, vr a0), (1, vi a1), (2, vi x4.1), (3, vi x4.2.1), (4, vi x4.2.2.1), (5, vi x4.2.2.2), (6, vi (x9 + 1))]) [1, 2, 3, 4, 5, 6, 0] rfl ?_
          exact hb11 (x9 + 1) _
        · refine r_p (pc' := 45) (p_aload_n 0 (k := 0) (by decide +kernel) rfl) ?_
          refine r_p (pc' := 46) (p_iload_n 1 (k := 1) (by decide +kernel) rfl) ?_
          refine r_p (pc' := 48) (p_iload 5 (i := 5) (by decide +kernel) rfl) ?_
          refine r_p (pc' := 49) (p_iconst (n := 1) (v := 1) (by decide +kernel) rfl) ?_
          refine r_p (pc' := 50) (p_iadd (by decide +kernel)) ?_
          refine r_p (pc' := 51) (p_iload_n 2 (k := 2) (by decide +kernel) rfl) ?_
          refine r_p (pc' := 52) (p_aload_n 0 (k := 0) (by decide +kernel) rfl) ?_
          refine r_p (pc' := 53) (p_iload_n 1 (k := 1) (by decide +kernel) rfl) ?_
          refine r_p (pc' := 55) (p_iload 5 (i := 5) (by decide +kernel) rfl) ?_
          refine r_p (pc' := 57) (p_iload 6 (i := 6) (by decide +kernel) rfl) ?_
          refine r_callVI mvX12_410 (ctX12_answersBy a0 a1 x4.2.2.2 x9) (rcX12_answersBy a0 a1 x4.2.2.2 x9) ⟨_, _, rfl⟩ (as := [vi a1, vi x4.2.2.2, vi x9]) (st := [vi x4.1, vi (x4.2.2.2 + 1), vi a1, vr a0]) rfl rfl (by decide +kernel) rfl (Nat.le_of_ble_eq_true rfl) (Nat.le_of_ble_eq_true rfl) fun v15 s => ?_
          refine r_p (pc' := 61) (p_isub (by decide +kernel)) ?_
          refine r_callVI mvX12_418 (ctX12_swapsFrom a0 a1 (x4.2.2.2 + 1) (x4.1 - v15)) (rcX12_swapsFrom a0 a1 (x4.2.2.2 + 1) (x4.1 - v15)) ⟨_, _, rfl⟩ (as := [vi a1, vi (x4.2.2.2 + 1), vi (x4.1 - v15)]) (st := []) rfl rfl (by decide +kernel) rfl (Nat.le_of_ble_eq_true rfl) (Nat.le_of_ble_eq_true rfl) fun v16 s => ?_
          refine r_p (pc' := 65) (p_iload_n 3 (k := 3) (by decide +kernel) rfl) ?_
          refine r_p (pc' := 67) (p_iload 6 (i := 6) (by decide +kernel) rfl) ?_
          refine r_join 75 (fun (x18 : Int32) => [(0, vr a0), (1, vi a1), (2, vi x4.1), (3, vi x4.2.1), (4, vi x4.2.2.1), (5, vi x4.2.2.2), (6, vi x9)]) (fun (x18 : Int32) => [vi x18, vi x4.2.1, vi v16]) (fun x18 s => ?_) (fun K19 hj20 => ?_)
          · refine r_p (pc' := 76) (p_isub (by decide +kernel)) ?_
            refine r_icmple (off := 9) (tgt := 85) (by decide +kernel) (by decide) (fun h21 => ?_) (fun h21 => ?_)
            · exact he12 x9 _
            · refine r_p (pc' := 82) (p_iinc 6 (i := 6) (n := 1) (x := x9) (v := x9 + 1) (lv' := [(6, vi (x9 + 1)), (0, vr a0), (1, vi a1), (2, vi x4.1), (3, vi x4.2.1), (4, vi x4.2.2.1), (5, vi x4.2.2.2)]) (by decide +kernel) rfl rfl (Nat.le_of_ble_eq_true rfl) rfl) ?_
              refine r_p (pc' := 29) (p_goto (off := -53) (tgt := 29) (by decide +kernel) (by decide)) ?_
              refine r_sub (lv' := [(0, vr a0), (1, vi a1), (2, vi x4.1), (3, vi x4.2.1), (4, vi x4.2.2.1), (5, vi x4.2.2.2), (6, vi (x9 + 1))]) [1, 2, 3, 4, 5, 6, 0] rfl ?_
              exact hb11 (x9 + 1) _
          · refine r_ifge (off := 7) (tgt := 74) (by decide +kernel) (by decide) (fun h17 => ?_) (fun h17 => ?_)
            · refine r_p (pc' := 75) (p_iconst (n := 1) (v := 1) (by decide +kernel) rfl) ?_
              exact hj20 1 _
            · refine r_p (pc' := 71) (p_iconst (n := 0) (v := 0) (by decide +kernel) rfl) ?_
              refine r_p (pc' := 75) (p_goto (off := 4) (tgt := 75) (by decide +kernel) (by decide)) ?_
              exact hj20 0 _
def aX12_asItIs : StA := (RX12, cX12_asItIs, 1, none, yX12_asItIs, 8, [])
theorem fpX12_394_11 : FP RX12 394 11 23 .int false := ⟨_, TX12, 27, "ToolCourtModel", tyX12, rfl, by decide, Or.inl (tblG_of 1688 (by decide +kernel) (by decide +kernel)), Or.inl rfl, tyX12_ok, nmX12, rfl, by decide, by decide +kernel⟩
theorem fpX12_397_11 : FP RX12 397 11 24 .int false := ⟨_, TX12, 27, "ToolCourtModel", tyX12, rfl, by decide, Or.inl (tblG_of 1689 (by decide +kernel) (by decide +kernel)), Or.inl rfl, tyX12_ok, nmX12, rfl, by decide, by decide +kernel⟩
noncomputable def mX12_asItIs (a0 : Nat) : MM Unit := onC 11 a0 (
  mbnd (pI 11 23 a0 (-1)) fun _ =>
  mbnd (pI 11 24 a0 0) fun _ =>
  mret ()
  )
theorem rcX12_asItIs (a0 : Nat) : Rcv 11 a0 (mX12_asItIs a0) := fun s r h => ⟨(onC_some h).1, (onC_some h).2.1⟩
set_option maxHeartbeats 4000000 in
set_option maxRecDepth 100000 in
theorem ctX12_asItIs (a0 : Nat) : Ct aX12_asItIs [vr a0] (mX12_asItIs a0) rU := by
  unfold mX12_asItIs
  refine ct_onC (ct_intro (by decide +kernel) rfl (Nat.le_of_ble_eq_true rfl) fun Y s => ?_)
  refine r_sub (lv' := [(0, vr a0)]) [0] rfl ?_
  refine r_p (pc' := 1) (p_aload_n 0 (k := 0) (by decide +kernel) rfl) ?_
  refine r_p (pc' := 2) (p_iconst (n := -1) (v := -1) (by decide +kernel) rfl) ?_
  refine r_pI fpX12_394_11 (fun h => by cases h) (by decide +kernel) fun s => ?_
  refine r_p (pc' := 6) (p_aload_n 0 (k := 0) (by decide +kernel) rfl) ?_
  refine r_p (pc' := 7) (p_iconst (n := 0) (v := 0) (by decide +kernel) rfl) ?_
  refine r_pI fpX12_397_11 (fun h => by cases h) (by decide +kernel) fun s => ?_
  exact r_vret (y9 := ()) rfl rfl rfl (by decide +kernel)
def aX12_laundered : StA := (RX12, cX12_laundered, 4, some .int, yX12_laundered, 21, [])
theorem mvX12_424 : MV RX12 424 aX12_asItIs 0 := ⟨tblG_of 2156 (by decide +kernel) (by decide +kernel), tblG_of 2158 (by decide +kernel) (by decide +kernel), tblG_of 121 (by decide +kernel) (by decide +kernel), tblG_of 157 (by decide +kernel) (by decide +kernel), tblG_of 2159 (by decide +kernel) (by decide +kernel), rfl, ⟨by decide, by decide⟩, by decide +kernel, by decide⟩
theorem mvX12_427 : MV RX12 427 aX12_waysBy 1 := ⟨tblG_of 2185 (by decide +kernel) (by decide +kernel), tblG_of 2187 (by decide +kernel) (by decide +kernel), tblG_of 127 (by decide +kernel) (by decide +kernel), tblG_of 157 (by decide +kernel) (by decide +kernel), tblG_of 2188 (by decide +kernel) (by decide +kernel), rfl, ⟨by decide, by decide⟩, by decide +kernel, by decide⟩
noncomputable def mX12_laundered (a0 : Nat) (a1 : Int32) (a2 : Int32) : MM Int32 := onC 11 a0 (
  mbnd (pI 11 0 a0 0) fun _ =>
  mbnd (mX12_noTool a0 a1) fun (v1 : Int32) =>
  mbnd (mX12_throwsIf a0 v1 1) fun (v2 : Int32) =>
  if v2 = 0 then (
    mbnd (mX12_asItIs a0) fun _ =>
    mbnd (mX12_fewest a0 a1) fun (v4 : Int32) =>
    if v4 = 1000000 then (
      mret (-1)
    ) else (
      if a2 = 0 then (
        mret v4
      ) else (
        mbnd (mX12_waysBy a0 a1) fun (v7 : Int32) =>
        mret v7
      )
    )
  ) else (
    mret 0
  )
  )
theorem rcX12_laundered (a0 : Nat) (a1 : Int32) (a2 : Int32) : Rcv 11 a0 (mX12_laundered a0 a1 a2) := fun s r h => ⟨(onC_some h).1, (onC_some h).2.1⟩
set_option maxHeartbeats 4000000 in
set_option maxRecDepth 100000 in
theorem ctX12_laundered (a0 : Nat) (a1 : Int32) (a2 : Int32) : Ct aX12_laundered [vr a0, vi a1, vi a2] (mX12_laundered a0 a1 a2) rI := by
  unfold mX12_laundered
  refine ct_onC (ct_intro (by decide +kernel) rfl (Nat.le_of_ble_eq_true rfl) fun Y s => ?_)
  refine r_sub (lv' := [(0, vr a0), (1, vi a1), (2, vi a2)]) [0, 1, 2] rfl ?_
  refine r_p (pc' := 1) (p_aload_n 0 (k := 0) (by decide +kernel) rfl) ?_
  refine r_p (pc' := 2) (p_iconst (n := 0) (v := 0) (by decide +kernel) rfl) ?_
  refine r_pI fpX12_3_11 (fun h => by cases h) (by decide +kernel) fun s => ?_
  refine r_p (pc' := 6) (p_aload_n 0 (k := 0) (by decide +kernel) rfl) ?_
  refine r_p (pc' := 7) (p_aload_n 0 (k := 0) (by decide +kernel) rfl) ?_
  refine r_p (pc' := 8) (p_iload_n 1 (k := 1) (by decide +kernel) rfl) ?_
  refine r_callVI mvX12_319 (ctX12_noTool a0 a1) (rcX12_noTool a0 a1) ⟨_, _, rfl⟩ (as := [vi a1]) (st := [vr a0]) rfl rfl (by decide +kernel) rfl (Nat.le_of_ble_eq_true rfl) (Nat.le_of_ble_eq_true rfl) fun v1 s => ?_
  refine r_p (pc' := 12) (p_iconst (n := 1) (v := 1) (by decide +kernel) rfl) ?_
  refine r_callVI mvX12_265 (ctX12_throwsIf a0 v1 1) (rcX12_throwsIf a0 v1 1) ⟨_, _, rfl⟩ (as := [vi v1, vi 1]) (st := []) rfl rfl (by decide +kernel) rfl (Nat.le_of_ble_eq_true rfl) (Nat.le_of_ble_eq_true rfl) fun v2 s => ?_
  refine r_ifeq (off := 5) (tgt := 20) (by decide +kernel) (by decide) (fun h3 => ?_) (fun h3 => ?_)
  · refine r_p (pc' := 21) (p_aload_n 0 (k := 0) (by decide +kernel) rfl) ?_
    refine r_callVU mvX12_424 (ctX12_asItIs a0) (rcX12_asItIs a0) ⟨_, _, rfl⟩ (as := []) (st := []) rfl rfl (by decide +kernel) rfl (Nat.le_of_ble_eq_true rfl) (Nat.le_of_ble_eq_true rfl) fun s => ?_
    refine r_p (pc' := 25) (p_aload_n 0 (k := 0) (by decide +kernel) rfl) ?_
    refine r_p (pc' := 26) (p_iload_n 1 (k := 1) (by decide +kernel) rfl) ?_
    refine r_callVI mvX12_421 (ctX12_fewest a0 a1) (rcX12_fewest a0 a1) ⟨_, _, rfl⟩ (as := [vi a1]) (st := []) rfl rfl (by decide +kernel) rfl (Nat.le_of_ble_eq_true rfl) (Nat.le_of_ble_eq_true rfl) fun v4 s => ?_
    refine r_p (pc' := 30) (p_istore_n (k := 3) (lv' := [(3, vi v4), (0, vr a0), (1, vi a1), (2, vi a2)]) (by decide +kernel) (Nat.le_of_ble_eq_true rfl) rfl) ?_
    refine r_p (pc' := 31) (p_iload_n 0 (k := 3) (by decide +kernel) rfl) ?_
    refine r_p (pc' := 34) (p_ldcw (i := 406) (v := 1000000) (by decide +kernel) (tblG_of 2168 (by decide +kernel) (by decide +kernel))) ?_
    refine r_icmpne (off := 7) (tgt := 41) (by decide +kernel) (by decide) (fun h5 => ?_) (fun h5 => ?_)
    · refine r_p (pc' := 38) (p_iconst (n := -1) (v := -1) (by decide +kernel) rfl) ?_
      refine r_p (pc' := 54) (p_goto (off := 16) (tgt := 54) (by decide +kernel) (by decide)) ?_
      exact r_iret rfl rfl _ rfl rfl (by decide +kernel)
    · refine r_p (pc' := 42) (p_iload_n 3 (k := 2) (by decide +kernel) rfl) ?_
      refine r_ifeq (off := 11) (tgt := 53) (by decide +kernel) (by decide) (fun h6 => ?_) (fun h6 => ?_)
      · refine r_p (pc' := 54) (p_iload_n 0 (k := 3) (by decide +kernel) rfl) ?_
        exact r_iret rfl rfl _ rfl rfl (by decide +kernel)
      · refine r_p (pc' := 46) (p_aload_n 1 (k := 0) (by decide +kernel) rfl) ?_
        refine r_p (pc' := 47) (p_iload_n 2 (k := 1) (by decide +kernel) rfl) ?_
        refine r_callVI mvX12_427 (ctX12_waysBy a0 a1) (rcX12_waysBy a0 a1) ⟨_, _, rfl⟩ (as := [vi a1]) (st := []) rfl rfl (by decide +kernel) rfl (Nat.le_of_ble_eq_true rfl) (Nat.le_of_ble_eq_true rfl) fun v7 s => ?_
        refine r_p (pc' := 54) (p_goto (off := 4) (tgt := 54) (by decide +kernel) (by decide)) ?_
        exact r_iret rfl rfl _ rfl rfl (by decide +kernel)
  · refine r_p (pc' := 19) (p_iconst (n := 0) (v := 0) (by decide +kernel) rfl) ?_
    exact r_iret rfl rfl _ rfl rfl (by decide +kernel)
def aX12_guard : StA := (RX12, cX12_guard, 5, some .int, yX12_guard, 20, [])
noncomputable def mX12_guard_L35 (a0 : Nat) (a1 : Int32) (v4 : Int32) (x5 : Int32 × Int32) : MM ((Int32 × Int32) ⊕ (Int32)) :=
  if 3 ≤ x5.2 then (
    mret (.inr x5.1)
  ) else (
    if v4 = 1000000 then (
      mret (.inr x5.1)
    ) else (
      if v4 ≤ 0 then (
        mret (.inr x5.1)
      ) else (
        mbnd (pI 11 24 a0 (1 <<< (x5.2 &&& (31 : Int32)))) fun _ =>
        mbnd (mX12_fewest a0 a1) fun (v12 : Int32) =>
        mbnd (α := Int32) (
          if v12 = 1000000 then (
            mret (1 <<< (x5.2 &&& (31 : Int32)))
          ) else (
            mret 0
          )
        ) fun (x14 : Int32) =>
        mbnd (mret (x5.1 ||| x14)) fun (v17 : Int32) =>
        mret (.inl (v17, x5.2 + 1))
      )
    )
  )
noncomputable def mX12_guard (a0 : Nat) (a1 : Int32) : MM Int32 := onC 11 a0 (
  mbnd (pI 11 0 a0 0) fun _ =>
  mbnd (mX12_noTool a0 a1) fun (v1 : Int32) =>
  mbnd (mX12_throwsIf a0 v1 1) fun (v2 : Int32) =>
  if v2 = 0 then (
    mbnd (mX12_asItIs a0) fun _ =>
    mbnd (mX12_fewest a0 a1) fun (v4 : Int32) =>
    mbnd (loopM (mX12_guard_L35 a0 a1 v4) (0, 0)) fun (e18 : Int32) =>
    mret e18
  ) else (
    mret 0
  )
  )
theorem rcX12_guard (a0 : Nat) (a1 : Int32) : Rcv 11 a0 (mX12_guard a0 a1) := fun s r h => ⟨(onC_some h).1, (onC_some h).2.1⟩
set_option maxHeartbeats 4000000 in
set_option maxRecDepth 100000 in
theorem ctX12_guard (a0 : Nat) (a1 : Int32) : Ct aX12_guard [vr a0, vi a1] (mX12_guard a0 a1) rI := by
  unfold mX12_guard
  refine ct_onC (ct_intro (by decide +kernel) rfl (Nat.le_of_ble_eq_true rfl) fun Y s => ?_)
  refine r_sub (lv' := [(0, vr a0), (1, vi a1)]) [0, 1] rfl ?_
  refine r_p (pc' := 1) (p_aload_n 0 (k := 0) (by decide +kernel) rfl) ?_
  refine r_p (pc' := 2) (p_iconst (n := 0) (v := 0) (by decide +kernel) rfl) ?_
  refine r_pI fpX12_3_11 (fun h => by cases h) (by decide +kernel) fun s => ?_
  refine r_p (pc' := 6) (p_aload_n 0 (k := 0) (by decide +kernel) rfl) ?_
  refine r_p (pc' := 7) (p_aload_n 0 (k := 0) (by decide +kernel) rfl) ?_
  refine r_p (pc' := 8) (p_iload_n 1 (k := 1) (by decide +kernel) rfl) ?_
  refine r_callVI mvX12_319 (ctX12_noTool a0 a1) (rcX12_noTool a0 a1) ⟨_, _, rfl⟩ (as := [vi a1]) (st := [vr a0]) rfl rfl (by decide +kernel) rfl (Nat.le_of_ble_eq_true rfl) (Nat.le_of_ble_eq_true rfl) fun v1 s => ?_
  refine r_p (pc' := 12) (p_iconst (n := 1) (v := 1) (by decide +kernel) rfl) ?_
  refine r_callVI mvX12_265 (ctX12_throwsIf a0 v1 1) (rcX12_throwsIf a0 v1 1) ⟨_, _, rfl⟩ (as := [vi v1, vi 1]) (st := []) rfl rfl (by decide +kernel) rfl (Nat.le_of_ble_eq_true rfl) (Nat.le_of_ble_eq_true rfl) fun v2 s => ?_
  refine r_ifeq (off := 5) (tgt := 20) (by decide +kernel) (by decide) (fun h3 => ?_) (fun h3 => ?_)
  · refine r_p (pc' := 21) (p_aload_n 0 (k := 0) (by decide +kernel) rfl) ?_
    refine r_callVU mvX12_424 (ctX12_asItIs a0) (rcX12_asItIs a0) ⟨_, _, rfl⟩ (as := []) (st := []) rfl rfl (by decide +kernel) rfl (Nat.le_of_ble_eq_true rfl) (Nat.le_of_ble_eq_true rfl) fun s => ?_
    refine r_p (pc' := 25) (p_aload_n 0 (k := 0) (by decide +kernel) rfl) ?_
    refine r_p (pc' := 26) (p_iload_n 1 (k := 1) (by decide +kernel) rfl) ?_
    refine r_callVI mvX12_421 (ctX12_fewest a0 a1) (rcX12_fewest a0 a1) ⟨_, _, rfl⟩ (as := [vi a1]) (st := []) rfl rfl (by decide +kernel) rfl (Nat.le_of_ble_eq_true rfl) (Nat.le_of_ble_eq_true rfl) fun v4 s => ?_
    refine r_p (pc' := 30) (p_istore_n (k := 2) (lv' := [(2, vi v4), (0, vr a0), (1, vi a1)]) (by decide +kernel) (Nat.le_of_ble_eq_true rfl) rfl) ?_
    refine r_p (pc' := 31) (p_iconst (n := 0) (v := 0) (by decide +kernel) rfl) ?_
    refine r_p (pc' := 32) (p_istore_n (k := 3) (lv' := [(3, vi 0), (2, vi v4), (0, vr a0), (1, vi a1)]) (by decide +kernel) (Nat.le_of_ble_eq_true rfl) rfl) ?_
    refine r_p (pc' := 33) (p_iconst (n := 0) (v := 0) (by decide +kernel) rfl) ?_
    refine r_p (pc' := 35) (p_istore (i := 4) (lv' := [(4, vi 0), (3, vi 0), (2, vi v4), (0, vr a0), (1, vi a1)]) (by decide +kernel) (Nat.le_of_ble_eq_true rfl) rfl) ?_
    refine r_sub (lv' := [(0, vr a0), (1, vi a1), (2, vi v4), (3, vi 0), (4, vi 0)]) [3, 4, 2, 1, 0] rfl ?_
    refine r_loop2 (fun _ => 88) (fun (e18 : Int32) => [(3, vi e18)]) (fun (x5 : Int32 × Int32) => [(0, vr a0), (1, vi a1), (2, vi v4), (3, vi x5.1), (4, vi x5.2)]) (fun e18 s => ?_) (fun K6 hb7 he8 x5 s => ?_) (0, 0) _
    · refine r_p (pc' := 89) (p_iload_n 0 (k := 3) (by decide +kernel) rfl) ?_
      exact r_iret rfl rfl _ rfl rfl (by decide +kernel)
    · unfold mX12_guard_L35
      refine r_p (pc' := 37) (p_iload 4 (i := 4) (by decide +kernel) rfl) ?_
      refine r_p (pc' := 38) (p_iconst (n := 3) (v := 3) (by decide +kernel) rfl) ?_
      refine r_icmpge (off := 50) (tgt := 88) (by decide +kernel) (by decide) (fun h9 => ?_) (fun h9 => ?_)
      · refine r_sub (lv' := [(3, vi x5.1)]) [3] rfl ?_
        exact he8 x5.1 _
      · refine r_p (pc' := 42) (p_iload_n 2 (k := 2) (by decide +kernel) rfl) ?_
        refine r_p (pc' := 45) (p_ldcw (i := 406) (v := 1000000) (by decide +kernel) (tblG_of 2168 (by decide +kernel) (by decide +kernel))) ?_
        refine r_icmpeq (off := 43) (tgt := 88) (by decide +kernel) (by decide) (fun h10 => ?_) (fun h10 => ?_)
        · refine r_sub (lv' := [(3, vi x5.1)]) [3] rfl ?_
          exact he8 x5.1 _
        · refine r_p (pc' := 49) (p_iload_n 2 (k := 2) (by decide +kernel) rfl) ?_
          refine r_ifle (off := 39) (tgt := 88) (by decide +kernel) (by decide) (fun h11 => ?_) (fun h11 => ?_)
          · refine r_sub (lv' := [(3, vi x5.1)]) [3] rfl ?_
            exact he8 x5.1 _
          · refine r_p (pc' := 53) (p_aload_n 0 (k := 0) (by decide +kernel) rfl) ?_
            refine r_p (pc' := 54) (p_iconst (n := 1) (v := 1) (by decide +kernel) rfl) ?_
            refine r_p (pc' := 56) (p_iload 4 (i := 4) (by decide +kernel) rfl) ?_
            refine r_p (pc' := 57) (p_ishl (by decide +kernel)) ?_
            refine r_pI fpX12_397_11 (fun h => by cases h) (by decide +kernel) fun s => ?_
            refine r_p (pc' := 61) (p_iload_n 3 (k := 3) (by decide +kernel) rfl) ?_
            refine r_p (pc' := 62) (p_aload_n 0 (k := 0) (by decide +kernel) rfl) ?_
            refine r_p (pc' := 63) (p_iload_n 1 (k := 1) (by decide +kernel) rfl) ?_
            refine r_callVI mvX12_421 (ctX12_fewest a0 a1) (rcX12_fewest a0 a1) ⟨_, _, rfl⟩ (as := [vi a1]) (st := [vi x5.1]) rfl rfl (by decide +kernel) rfl (Nat.le_of_ble_eq_true rfl) (Nat.le_of_ble_eq_true rfl) fun v12 s => ?_
            refine r_p (pc' := 69) (p_ldcw (i := 406) (v := 1000000) (by decide +kernel) (tblG_of 2168 (by decide +kernel) (by decide +kernel))) ?_
            refine r_join 80 (fun (x14 : Int32) => [(0, vr a0), (1, vi a1), (2, vi v4), (4, vi x5.2)]) (fun (x14 : Int32) => [vi x14, vi x5.1]) (fun x14 s => ?_) (fun K15 hj16 => ?_)
            · refine r_p (pc' := 81) (p_ior (by decide +kernel)) ?_
              refine r_letI fun v17 => ?_
              refine r_p (pc' := 82) (p_istore_n (k := 3) (lv' := [(3, vi v17), (0, vr a0), (1, vi a1), (2, vi v4), (4, vi x5.2)]) (by decide +kernel) (Nat.le_of_ble_eq_true rfl) rfl) ?_
              refine r_p (pc' := 85) (p_iinc 4 (i := 4) (n := 1) (x := x5.2) (v := x5.2 + 1) (lv' := [(4, vi (x5.2 + 1)), (3, vi v17), (0, vr a0), (1, vi a1), (2, vi v4)]) (by decide +kernel) rfl rfl (Nat.le_of_ble_eq_true rfl) rfl) ?_
              refine r_p (pc' := 35) (p_goto (off := -50) (tgt := 35) (by decide +kernel) (by decide)) ?_
              refine r_sub (lv' := [(0, vr a0), (1, vi a1), (2, vi v4), (3, vi v17), (4, vi (x5.2 + 1))]) [2, 3, 4, 1, 0] rfl ?_
              exact hb7 (v17, x5.2 + 1) _
            · refine r_icmpne (off := 10) (tgt := 79) (by decide +kernel) (by decide) (fun h13 => ?_) (fun h13 => ?_)
              · refine r_p (pc' := 73) (p_iconst (n := 1) (v := 1) (by decide +kernel) rfl) ?_
                refine r_p (pc' := 75) (p_iload 4 (i := 4) (by decide +kernel) rfl) ?_
                refine r_p (pc' := 76) (p_ishl (by decide +kernel)) ?_
                refine r_p (pc' := 80) (p_goto (off := 4) (tgt := 80) (by decide +kernel) (by decide)) ?_
                refine r_sub (lv' := [(0, vr a0), (1, vi a1), (2, vi v4), (4, vi x5.2)]) [0, 1, 2, 4] rfl ?_
                exact hj16 (1 <<< (x5.2 &&& (31 : Int32))) _
              · refine r_p (pc' := 80) (p_iconst (n := 0) (v := 0) (by decide +kernel) rfl) ?_
                refine r_sub (lv' := [(0, vr a0), (1, vi a1), (2, vi v4), (4, vi x5.2)]) [0, 1, 2, 4] rfl ?_
                exact hj16 0 _
  · refine r_p (pc' := 19) (p_iconst (n := 0) (v := 0) (by decide +kernel) rfl) ?_
    exact r_iret rfl rfl _ rfl rfl (by decide +kernel)
def aX12_word : StA := (RX12, cX12_word, 2, some .int, yX12_word, 20, [])
noncomputable def mX12_word_L29 (a0 : Nat) (a1 : Int32) (x4 : Unit) : MM ((Unit) ⊕ (Unit ⊕ Unit)) :=
  mbnd (gI 11 23 a0) fun (v8 : Int32) =>
  if 100 < v8 then (
    mret (.inr ((.inr ())))
  ) else (
    mbnd (mX12_fewest a0 a1) fun (v10 : Int32) =>
    if v10 = 1000000 then (
      mret (.inr ((.inl ())))
    ) else (
      mbnd (gI 11 23 a0) fun (v12 : Int32) =>
      mbnd (pI 11 23 a0 (v12 + 1)) fun _ =>
      mret (.inl ())
    )
  )
noncomputable def mX12_word (a0 : Nat) (a1 : Int32) : MM Int32 := onC 11 a0 (
  mbnd (pI 11 0 a0 0) fun _ =>
  mbnd (mX12_noTool a0 a1) fun (v1 : Int32) =>
  mbnd (mX12_throwsIf a0 v1 1) fun (v2 : Int32) =>
  if v2 = 0 then (
    mbnd (mX12_asItIs a0) fun _ =>
    mbnd (pI 11 23 a0 0) fun _ =>
    mbnd (loopM (mX12_word_L29 a0 a1) ()) fun (e13 : Unit ⊕ Unit) => match e13 with
      | .inl e13 => (
        mbnd (gI 11 23 a0) fun (v14 : Int32) =>
        mret v14
        )
      | .inr e13 => (
        mret (-1)
        )
  ) else (
    mret 0
  )
  )
theorem rcX12_word (a0 : Nat) (a1 : Int32) : Rcv 11 a0 (mX12_word a0 a1) := fun s r h => ⟨(onC_some h).1, (onC_some h).2.1⟩
set_option maxHeartbeats 4000000 in
set_option maxRecDepth 100000 in
theorem ctX12_word (a0 : Nat) (a1 : Int32) : Ct aX12_word [vr a0, vi a1] (mX12_word a0 a1) rI := by
  unfold mX12_word
  refine ct_onC (ct_intro (by decide +kernel) rfl (Nat.le_of_ble_eq_true rfl) fun Y s => ?_)
  refine r_sub (lv' := [(0, vr a0), (1, vi a1)]) [0, 1] rfl ?_
  refine r_p (pc' := 1) (p_aload_n 0 (k := 0) (by decide +kernel) rfl) ?_
  refine r_p (pc' := 2) (p_iconst (n := 0) (v := 0) (by decide +kernel) rfl) ?_
  refine r_pI fpX12_3_11 (fun h => by cases h) (by decide +kernel) fun s => ?_
  refine r_p (pc' := 6) (p_aload_n 0 (k := 0) (by decide +kernel) rfl) ?_
  refine r_p (pc' := 7) (p_aload_n 0 (k := 0) (by decide +kernel) rfl) ?_
  refine r_p (pc' := 8) (p_iload_n 1 (k := 1) (by decide +kernel) rfl) ?_
  refine r_callVI mvX12_319 (ctX12_noTool a0 a1) (rcX12_noTool a0 a1) ⟨_, _, rfl⟩ (as := [vi a1]) (st := [vr a0]) rfl rfl (by decide +kernel) rfl (Nat.le_of_ble_eq_true rfl) (Nat.le_of_ble_eq_true rfl) fun v1 s => ?_
  refine r_p (pc' := 12) (p_iconst (n := 1) (v := 1) (by decide +kernel) rfl) ?_
  refine r_callVI mvX12_265 (ctX12_throwsIf a0 v1 1) (rcX12_throwsIf a0 v1 1) ⟨_, _, rfl⟩ (as := [vi v1, vi 1]) (st := []) rfl rfl (by decide +kernel) rfl (Nat.le_of_ble_eq_true rfl) (Nat.le_of_ble_eq_true rfl) fun v2 s => ?_
  refine r_ifeq (off := 5) (tgt := 20) (by decide +kernel) (by decide) (fun h3 => ?_) (fun h3 => ?_)
  · refine r_p (pc' := 21) (p_aload_n 0 (k := 0) (by decide +kernel) rfl) ?_
    refine r_callVU mvX12_424 (ctX12_asItIs a0) (rcX12_asItIs a0) ⟨_, _, rfl⟩ (as := []) (st := []) rfl rfl (by decide +kernel) rfl (Nat.le_of_ble_eq_true rfl) (Nat.le_of_ble_eq_true rfl) fun s => ?_
    refine r_p (pc' := 25) (p_aload_n 0 (k := 0) (by decide +kernel) rfl) ?_
    refine r_p (pc' := 26) (p_iconst (n := 0) (v := 0) (by decide +kernel) rfl) ?_
    refine r_pI fpX12_394_11 (fun h => by cases h) (by decide +kernel) fun s => ?_
    refine r_loop2 (fun (e13 : Unit ⊕ Unit) => match e13 with | .inl _ => 49 | .inr _ => 67) (fun (e13 : Unit ⊕ Unit) => match e13 with | .inl e13 => [(0, vr a0)] | .inr e13 => []) (fun (x4 : Unit) => [(0, vr a0), (1, vi a1)]) (fun e13 s => ?_) (fun K5 hb6 he7 x4 s => ?_) () _
    · rcases e13 with e13 | e13
      · show Rr _ _ 49 [(0, vr a0)] [] _ _ _ _
        refine r_p (pc' := 50) (p_aload_n 0 (k := 0) (by decide +kernel) rfl) ?_
        refine r_gI flX12_394_11 (by decide +kernel) fun v14 => ?_
        exact r_iret rfl rfl _ rfl rfl (by decide +kernel)
      · show Rr _ _ 67 [] [] _ _ _ _
        refine r_p (pc' := 68) (p_iconst (n := -1) (v := -1) (by decide +kernel) rfl) ?_
        exact r_iret rfl rfl _ rfl rfl (by decide +kernel)
    · unfold mX12_word_L29
      refine r_p (pc' := 30) (p_aload_n 0 (k := 0) (by decide +kernel) rfl) ?_
      refine r_gI flX12_394_11 (by decide +kernel) fun v8 => ?_
      refine r_p (pc' := 35) (p_bipush (n := 100) (v := 100) (by decide +kernel) (by decide +kernel)) ?_
      refine r_icmpgt (off := 32) (tgt := 67) (by decide +kernel) (by decide) (fun h9 => ?_) (fun h9 => ?_)
      · refine r_sub (lv' := []) [] rfl ?_
        exact he7 ((.inr ())) _
      · refine r_p (pc' := 39) (p_aload_n 0 (k := 0) (by decide +kernel) rfl) ?_
        refine r_p (pc' := 40) (p_iload_n 1 (k := 1) (by decide +kernel) rfl) ?_
        refine r_callVI mvX12_421 (ctX12_fewest a0 a1) (rcX12_fewest a0 a1) ⟨_, _, rfl⟩ (as := [vi a1]) (st := []) rfl rfl (by decide +kernel) rfl (Nat.le_of_ble_eq_true rfl) (Nat.le_of_ble_eq_true rfl) fun v10 s => ?_
        refine r_p (pc' := 46) (p_ldcw (i := 406) (v := 1000000) (by decide +kernel) (tblG_of 2168 (by decide +kernel) (by decide +kernel))) ?_
        refine r_icmpne (off := 8) (tgt := 54) (by decide +kernel) (by decide) (fun h11 => ?_) (fun h11 => ?_)
        · refine r_sub (lv' := [(0, vr a0)]) [0] rfl ?_
          exact he7 ((.inl ())) _
        · refine r_p (pc' := 55) (p_aload_n 0 (k := 0) (by decide +kernel) rfl) ?_
          refine r_p (pc' := 56) (p_dup rfl (by decide +kernel)) ?_
          refine r_gI flX12_394_11 (by decide +kernel) fun v12 => ?_
          refine r_p (pc' := 60) (p_iconst (n := 1) (v := 1) (by decide +kernel) rfl) ?_
          refine r_p (pc' := 61) (p_iadd (by decide +kernel)) ?_
          refine r_pI fpX12_394_11 (fun h => by cases h) (by decide +kernel) fun s => ?_
          refine r_p (pc' := 29) (p_goto (off := -35) (tgt := 29) (by decide +kernel) (by decide)) ?_
          exact hb6 () _
  · refine r_p (pc' := 19) (p_iconst (n := 0) (v := 0) (by decide +kernel) rfl) ?_
    exact r_iret rfl rfl _ rfl rfl (by decide +kernel)
def aX12_clean : StA := (RX12, cX12_clean, 3, some .int, yX12_clean, 20, [])
noncomputable def mX12_clean_L13 (a0 : Nat) (x1 : Int32 × Int32) : MM ((Int32 × Int32) ⊕ (Int32)) :=
  mbnd (mX12_tools a0) fun (v5 : Int32) =>
  if v5 ≤ x1.2 then (
    mret (.inr x1.1)
  ) else (
    mbnd (mX12_isGuilty a0 x1.2) fun (v7 : Int32) =>
    mbnd (α := Int32) (
      if v7 = 0 then (
        mret 0
      ) else (
        mbnd (mX12_fewest a0 x1.2) fun (v12 : Int32) =>
        if v12 = 1000000 then (
          mret 0
        ) else (
          mret (1 <<< (x1.2 &&& (31 : Int32)))
        )
      )
    ) fun (x9 : Int32) =>
    mbnd (mret (x1.1 ||| x9)) fun (v14 : Int32) =>
    mret (.inl (v14, x1.2 + 1))
  )
noncomputable def mX12_clean (a0 : Nat) : MM Int32 := onC 11 a0 (
  mbnd (pI 11 0 a0 0) fun _ =>
  mbnd (mX12_asItIs a0) fun _ =>
  mbnd (loopM (mX12_clean_L13 a0) (0, 0)) fun (e15 : Int32) =>
  mret e15
  )
theorem rcX12_clean (a0 : Nat) : Rcv 11 a0 (mX12_clean a0) := fun s r h => ⟨(onC_some h).1, (onC_some h).2.1⟩
set_option maxHeartbeats 4000000 in
set_option maxRecDepth 100000 in
theorem ctX12_clean (a0 : Nat) : Ct aX12_clean [vr a0] (mX12_clean a0) rI := by
  unfold mX12_clean
  refine ct_onC (ct_intro (by decide +kernel) rfl (Nat.le_of_ble_eq_true rfl) fun Y s => ?_)
  refine r_sub (lv' := [(0, vr a0)]) [0] rfl ?_
  refine r_p (pc' := 1) (p_aload_n 0 (k := 0) (by decide +kernel) rfl) ?_
  refine r_p (pc' := 2) (p_iconst (n := 0) (v := 0) (by decide +kernel) rfl) ?_
  refine r_pI fpX12_3_11 (fun h => by cases h) (by decide +kernel) fun s => ?_
  refine r_p (pc' := 6) (p_aload_n 0 (k := 0) (by decide +kernel) rfl) ?_
  refine r_callVU mvX12_424 (ctX12_asItIs a0) (rcX12_asItIs a0) ⟨_, _, rfl⟩ (as := []) (st := []) rfl rfl (by decide +kernel) rfl (Nat.le_of_ble_eq_true rfl) (Nat.le_of_ble_eq_true rfl) fun s => ?_
  refine r_p (pc' := 10) (p_iconst (n := 0) (v := 0) (by decide +kernel) rfl) ?_
  refine r_p (pc' := 11) (p_istore_n (k := 1) (lv' := [(1, vi 0), (0, vr a0)]) (by decide +kernel) (Nat.le_of_ble_eq_true rfl) rfl) ?_
  refine r_p (pc' := 12) (p_iconst (n := 0) (v := 0) (by decide +kernel) rfl) ?_
  refine r_p (pc' := 13) (p_istore_n (k := 2) (lv' := [(2, vi 0), (1, vi 0), (0, vr a0)]) (by decide +kernel) (Nat.le_of_ble_eq_true rfl) rfl) ?_
  refine r_sub (lv' := [(0, vr a0), (1, vi 0), (2, vi 0)]) [2, 1, 0] rfl ?_
  refine r_loop2 (fun _ => 56) (fun (e15 : Int32) => [(1, vi e15)]) (fun (x1 : Int32 × Int32) => [(0, vr a0), (1, vi x1.1), (2, vi x1.2)]) (fun e15 s => ?_) (fun K2 hb3 he4 x1 s => ?_) (0, 0) _
  · refine r_p (pc' := 57) (p_iload_n 0 (k := 1) (by decide +kernel) rfl) ?_
    exact r_iret rfl rfl _ rfl rfl (by decide +kernel)
  · unfold mX12_clean_L13
    refine r_p (pc' := 14) (p_iload_n 2 (k := 2) (by decide +kernel) rfl) ?_
    refine r_p (pc' := 15) (p_aload_n 0 (k := 0) (by decide +kernel) rfl) ?_
    refine r_callVI mvX12_76 (ctX12_tools a0) (rcX12_tools a0) ⟨_, _, rfl⟩ (as := []) (st := [vi x1.2]) rfl rfl (by decide +kernel) rfl (Nat.le_of_ble_eq_true rfl) (Nat.le_of_ble_eq_true rfl) fun v5 s => ?_
    refine r_icmpge (off := 38) (tgt := 56) (by decide +kernel) (by decide) (fun h6 => ?_) (fun h6 => ?_)
    · refine r_sub (lv' := [(1, vi x1.1)]) [1] rfl ?_
      exact he4 x1.1 _
    · refine r_p (pc' := 22) (p_iload_n 1 (k := 1) (by decide +kernel) rfl) ?_
      refine r_p (pc' := 23) (p_aload_n 0 (k := 0) (by decide +kernel) rfl) ?_
      refine r_p (pc' := 24) (p_iload_n 2 (k := 2) (by decide +kernel) rfl) ?_
      refine r_callVI mvX12_385 (ctX12_isGuilty a0 x1.2) (rcX12_isGuilty a0 x1.2) ⟨_, _, rfl⟩ (as := [vi x1.2]) (st := [vi x1.1]) rfl rfl (by decide +kernel) rfl (Nat.le_of_ble_eq_true rfl) (Nat.le_of_ble_eq_true rfl) fun v7 s => ?_
      refine r_join 48 (fun (x9 : Int32) => [(0, vr a0), (2, vi x1.2)]) (fun (x9 : Int32) => [vi x9, vi x1.1]) (fun x9 s => ?_) (fun K10 hj11 => ?_)
      · refine r_p (pc' := 49) (p_ior (by decide +kernel)) ?_
        refine r_letI fun v14 => ?_
        refine r_p (pc' := 50) (p_istore_n (k := 1) (lv' := [(1, vi v14), (0, vr a0), (2, vi x1.2)]) (by decide +kernel) (Nat.le_of_ble_eq_true rfl) rfl) ?_
        refine r_p (pc' := 53) (p_iinc 2 (i := 2) (n := 1) (x := x1.2) (v := x1.2 + 1) (lv' := [(2, vi (x1.2 + 1)), (1, vi v14), (0, vr a0)]) (by decide +kernel) rfl rfl (Nat.le_of_ble_eq_true rfl) rfl) ?_
        refine r_p (pc' := 13) (p_goto (off := -40) (tgt := 13) (by decide +kernel) (by decide)) ?_
        refine r_sub (lv' := [(0, vr a0), (1, vi v14), (2, vi (x1.2 + 1))]) [2, 1, 0] rfl ?_
        exact hb3 (v14, x1.2 + 1) _
      · refine r_ifeq (off := 20) (tgt := 47) (by decide +kernel) (by decide) (fun h8 => ?_) (fun h8 => ?_)
        · refine r_p (pc' := 48) (p_iconst (n := 0) (v := 0) (by decide +kernel) rfl) ?_
          refine r_sub (lv' := [(0, vr a0), (2, vi x1.2)]) [0, 2] rfl ?_
          exact hj11 0 _
        · refine r_p (pc' := 31) (p_aload_n 0 (k := 0) (by decide +kernel) rfl) ?_
          refine r_p (pc' := 32) (p_iload_n 2 (k := 2) (by decide +kernel) rfl) ?_
          refine r_callVI mvX12_421 (ctX12_fewest a0 x1.2) (rcX12_fewest a0 x1.2) ⟨_, _, rfl⟩ (as := [vi x1.2]) (st := [vi x1.1]) rfl rfl (by decide +kernel) rfl (Nat.le_of_ble_eq_true rfl) (Nat.le_of_ble_eq_true rfl) fun v12 s => ?_
          refine r_p (pc' := 38) (p_ldcw (i := 406) (v := 1000000) (by decide +kernel) (tblG_of 2168 (by decide +kernel) (by decide +kernel))) ?_
          refine r_icmpeq (off := 9) (tgt := 47) (by decide +kernel) (by decide) (fun h13 => ?_) (fun h13 => ?_)
          · refine r_p (pc' := 48) (p_iconst (n := 0) (v := 0) (by decide +kernel) rfl) ?_
            refine r_sub (lv' := [(0, vr a0), (2, vi x1.2)]) [0, 2] rfl ?_
            exact hj11 0 _
          · refine r_p (pc' := 42) (p_iconst (n := 1) (v := 1) (by decide +kernel) rfl) ?_
            refine r_p (pc' := 43) (p_iload_n 2 (k := 2) (by decide +kernel) rfl) ?_
            refine r_p (pc' := 44) (p_ishl (by decide +kernel)) ?_
            refine r_p (pc' := 48) (p_goto (off := 4) (tgt := 48) (by decide +kernel) (by decide)) ?_
            refine r_sub (lv' := [(0, vr a0), (2, vi x1.2)]) [0, 2] rfl ?_
            exact hj11 (1 <<< (x1.2 &&& (31 : Int32))) _
def aX12_exchanged : StA := (RX12, cX12_exchanged, 8, some .int, yX12_exchanged, 15, [])
noncomputable def mX12_exchanged_L6 (a0 : Nat) (a1 : Int32) (a2 : Int32) (a3 : Int32) (x1 : Int32 × Int32) : MM ((Int32 × Int32) ⊕ (Unit ⊕ Int32)) :=
  if 3 ≤ x1.2 then (
    mret (.inr (.inr x1.1))
  ) else (
    mbnd (mX12_inTool a0 a1 x1.2) fun (v6 : Int32) =>
    mbnd (mX12_inTool a0 a2 x1.2) fun (v7 : Int32) =>
    mbnd (mX12_has a3 x1.2) fun (v8 : Int32) =>
    if v8 = 0 then (
      mbnd (α := Int32) (
        if 0 ≤ v6 then (
          mbnd (mX12_of a0 v6 3) fun (v14 : Int32) =>
          mret v14
        ) else (
          mret 0
        )
      ) fun (x11 : Int32) =>
      mbnd (mret (x1.1 + x11)) fun (v15 : Int32) =>
      mret (.inl (v15, x1.2 + 1))
    ) else (
      if v6 < 0 then (
        mret (.inr ((.inl ())))
      ) else (
        if v7 < 0 then (
          mret (.inr ((.inl ())))
        ) else (
          mbnd (mX12_isNailed a0 v6) fun (v18 : Int32) =>
          if v18 = 0 then (
            mbnd (mX12_isNailed a0 v7) fun (v20 : Int32) =>
            if v20 = 0 then (
              mbnd (mX12_of a0 v7 3) fun (v22 : Int32) =>
              mbnd (mX12_goesOver a0 v7) fun (v23 : Int32) =>
              mbnd (mX12_goesOver a0 v6) fun (v24 : Int32) =>
              mbnd (mret (x1.1 + ((v22 - v23) + v24))) fun (v25 : Int32) =>
              mret (.inl (v25, x1.2 + 1))
            ) else (
              mret (.inr ((.inl ())))
            )
          ) else (
            mret (.inr ((.inl ())))
          )
        )
      )
    )
  )
noncomputable def mX12_exchanged (a0 : Nat) (a1 : Int32) (a2 : Int32) (a3 : Int32) : MM Int32 := onC 11 a0 (
  mbnd (loopM (mX12_exchanged_L6 a0 a1 a2 a3) (0, 0)) fun (e26 : Unit ⊕ Int32) => match e26 with
    | .inl e26 => (
      mret 1000000
      )
    | .inr e26 => (
      mret e26
      )
  )
theorem rcX12_exchanged (a0 : Nat) (a1 : Int32) (a2 : Int32) (a3 : Int32) : Rcv 11 a0 (mX12_exchanged a0 a1 a2 a3) := fun s r h => ⟨(onC_some h).1, (onC_some h).2.1⟩
set_option maxHeartbeats 4000000 in
set_option maxRecDepth 100000 in
theorem ctX12_exchanged (a0 : Nat) (a1 : Int32) (a2 : Int32) (a3 : Int32) : Ct aX12_exchanged [vr a0, vi a1, vi a2, vi a3] (mX12_exchanged a0 a1 a2 a3) rI := by
  unfold mX12_exchanged
  refine ct_onC (ct_intro (by decide +kernel) rfl (Nat.le_of_ble_eq_true rfl) fun Y s => ?_)
  refine r_sub (lv' := [(0, vr a0), (1, vi a1), (2, vi a2), (3, vi a3)]) [0, 1, 2, 3] rfl ?_
  refine r_p (pc' := 1) (p_iconst (n := 0) (v := 0) (by decide +kernel) rfl) ?_
  refine r_p (pc' := 3) (p_istore (i := 4) (lv' := [(4, vi 0), (0, vr a0), (1, vi a1), (2, vi a2), (3, vi a3)]) (by decide +kernel) (Nat.le_of_ble_eq_true rfl) rfl) ?_
  refine r_p (pc' := 4) (p_iconst (n := 0) (v := 0) (by decide +kernel) rfl) ?_
  refine r_p (pc' := 6) (p_istore (i := 5) (lv' := [(5, vi 0), (4, vi 0), (0, vr a0), (1, vi a1), (2, vi a2), (3, vi a3)]) (by decide +kernel) (Nat.le_of_ble_eq_true rfl) rfl) ?_
  refine r_sub (lv' := [(0, vr a0), (1, vi a1), (2, vi a2), (3, vi a3), (4, vi 0), (5, vi 0)]) [2, 3, 4, 5, 1, 0] rfl ?_
  refine r_loop2 (fun (e26 : Unit ⊕ Int32) => match e26 with | .inl _ => 91 | .inr _ => 127) (fun (e26 : Unit ⊕ Int32) => match e26 with | .inl e26 => [] | .inr e26 => [(4, vi e26)]) (fun (x1 : Int32 × Int32) => [(0, vr a0), (1, vi a1), (2, vi a2), (3, vi a3), (4, vi x1.1), (5, vi x1.2)]) (fun e26 s => ?_) (fun K2 hb3 he4 x1 s => ?_) (0, 0) _
  · rcases e26 with e26 | e26
    · show Rr _ _ 91 [] [] _ _ _ _
      refine r_p (pc' := 94) (p_ldcw (i := 406) (v := 1000000) (by decide +kernel) (tblG_of 2168 (by decide +kernel) (by decide +kernel))) ?_
      exact r_iret rfl rfl _ rfl rfl (by decide +kernel)
    · show Rr _ _ 127 [(4, vi e26)] [] _ _ _ _
      refine r_p (pc' := 129) (p_iload 0 (i := 4) (by decide +kernel) rfl) ?_
      exact r_iret rfl rfl _ rfl rfl (by decide +kernel)
  · unfold mX12_exchanged_L6
    refine r_p (pc' := 8) (p_iload 5 (i := 5) (by decide +kernel) rfl) ?_
    refine r_p (pc' := 9) (p_iconst (n := 3) (v := 3) (by decide +kernel) rfl) ?_
    refine r_icmpge (off := 118) (tgt := 127) (by decide +kernel) (by decide) (fun h5 => ?_) (fun h5 => ?_)
    · refine r_sub (lv' := [(4, vi x1.1)]) [4] rfl ?_
      exact he4 (.inr x1.1) _
    · refine r_p (pc' := 13) (p_aload_n 0 (k := 0) (by decide +kernel) rfl) ?_
      refine r_p (pc' := 14) (p_iload_n 1 (k := 1) (by decide +kernel) rfl) ?_
      refine r_p (pc' := 16) (p_iload 5 (i := 5) (by decide +kernel) rfl) ?_
      refine r_callVI mvX12_149 (ctX12_inTool a0 a1 x1.2) (rcX12_inTool a0 a1 x1.2) ⟨_, _, rfl⟩ (as := [vi a1, vi x1.2]) (st := []) rfl rfl (by decide +kernel) rfl (Nat.le_of_ble_eq_true rfl) (Nat.le_of_ble_eq_true rfl) fun v6 s => ?_
      refine r_p (pc' := 21) (p_istore (i := 6) (lv' := [(6, vi v6), (0, vr a0), (1, vi a1), (2, vi a2), (3, vi a3), (4, vi x1.1), (5, vi x1.2)]) (by decide +kernel) (Nat.le_of_ble_eq_true rfl) rfl) ?_
      refine r_p (pc' := 22) (p_aload_n 1 (k := 0) (by decide +kernel) rfl) ?_
      refine r_p (pc' := 23) (p_iload_n 3 (k := 2) (by decide +kernel) rfl) ?_
      refine r_p (pc' := 25) (p_iload 6 (i := 5) (by decide +kernel) rfl) ?_
      refine r_callVI mvX12_149 (ctX12_inTool a0 a2 x1.2) (rcX12_inTool a0 a2 x1.2) ⟨_, _, rfl⟩ (as := [vi a2, vi x1.2]) (st := []) rfl rfl (by decide +kernel) rfl (Nat.le_of_ble_eq_true rfl) (Nat.le_of_ble_eq_true rfl) fun v7 s => ?_
      refine r_p (pc' := 30) (p_istore (i := 7) (lv' := [(7, vi v7), (6, vi v6), (0, vr a0), (1, vi a1), (2, vi a2), (3, vi a3), (4, vi x1.1), (5, vi x1.2)]) (by decide +kernel) (Nat.le_of_ble_eq_true rfl) rfl) ?_
      refine r_p (pc' := 31) (p_iload_n 5 (k := 3) (by decide +kernel) rfl) ?_
      refine r_p (pc' := 33) (p_iload 7 (i := 5) (by decide +kernel) rfl) ?_
      refine r_callSI msX12_400 (ctX12_has a3 x1.2) (as := [vi a3, vi x1.2]) (st := []) rfl rfl (by decide +kernel) rfl (Nat.le_of_ble_eq_true rfl) (Nat.le_of_ble_eq_true rfl) fun v8 s => ?_
      refine r_ifne (off := 27) (tgt := 63) (by decide +kernel) (by decide) (fun h9 => ?_) (fun h9 => ?_)
      · refine r_p (pc' := 41) (p_iload 6 (i := 4) (by decide +kernel) rfl) ?_
        refine r_p (pc' := 43) (p_iload 1 (i := 6) (by decide +kernel) rfl) ?_
        refine r_join 57 (fun (x11 : Int32) => [(0, vr a0), (1, vi a1), (2, vi a2), (3, vi a3), (5, vi x1.2)]) (fun (x11 : Int32) => [vi x11, vi x1.1]) (fun x11 s => ?_) (fun K12 hj13 => ?_)
        · refine r_p (pc' := 58) (p_iadd (by decide +kernel)) ?_
          refine r_letI fun v15 => ?_
          refine r_p (pc' := 60) (p_istore (i := 4) (lv' := [(4, vi v15), (0, vr a0), (1, vi a1), (2, vi a2), (3, vi a3), (5, vi x1.2)]) (by decide +kernel) (Nat.le_of_ble_eq_true rfl) rfl) ?_
          refine r_p (pc' := 121) (p_goto (off := 61) (tgt := 121) (by decide +kernel) (by decide)) ?_
          refine r_p (pc' := 124) (p_iinc 5 (i := 5) (n := 1) (x := x1.2) (v := x1.2 + 1) (lv' := [(5, vi (x1.2 + 1)), (4, vi v15), (0, vr a0), (1, vi a1), (2, vi a2), (3, vi a3)]) (by decide +kernel) rfl rfl (Nat.le_of_ble_eq_true rfl) rfl) ?_
          refine r_p (pc' := 6) (p_goto (off := -118) (tgt := 6) (by decide +kernel) (by decide)) ?_
          refine r_sub (lv' := [(0, vr a0), (1, vi a1), (2, vi a2), (3, vi a3), (4, vi v15), (5, vi (x1.2 + 1))]) [2, 3, 4, 5, 1, 0] rfl ?_
          exact hb3 (v15, x1.2 + 1) _
        · refine r_ifge (off := 7) (tgt := 50) (by decide +kernel) (by decide) (fun h10 => ?_) (fun h10 => ?_)
          · refine r_p (pc' := 51) (p_aload_n 2 (k := 0) (by decide +kernel) rfl) ?_
            refine r_p (pc' := 53) (p_iload 1 (i := 6) (by decide +kernel) rfl) ?_
            refine r_p (pc' := 54) (p_iconst (n := 3) (v := 3) (by decide +kernel) rfl) ?_
            refine r_callVI mvX12_65 (ctX12_of a0 v6 3) (rcX12_of a0 v6 3) ⟨_, _, rfl⟩ (as := [vi v6, vi 3]) (st := [vi x1.1]) rfl rfl (by decide +kernel) rfl (Nat.le_of_ble_eq_true rfl) (Nat.le_of_ble_eq_true rfl) fun v14 s => ?_
            refine r_sub (lv' := [(0, vr a0), (1, vi a1), (2, vi a2), (3, vi a3), (5, vi x1.2)]) [2, 3, 4, 5, 7] rfl ?_
            exact hj13 v14 _
          · refine r_p (pc' := 47) (p_iconst (n := 0) (v := 0) (by decide +kernel) rfl) ?_
            refine r_p (pc' := 57) (p_goto (off := 10) (tgt := 57) (by decide +kernel) (by decide)) ?_
            refine r_sub (lv' := [(0, vr a0), (1, vi a1), (2, vi a2), (3, vi a3), (5, vi x1.2)]) [2, 3, 4, 5, 7] rfl ?_
            exact hj13 0 _
      · refine r_p (pc' := 65) (p_iload 1 (i := 6) (by decide +kernel) rfl) ?_
        refine r_iflt (off := 26) (tgt := 91) (by decide +kernel) (by decide) (fun h16 => ?_) (fun h16 => ?_)
        · refine r_sub (lv' := []) [] rfl ?_
          exact he4 ((.inl ())) _
        · refine r_p (pc' := 70) (p_iload 0 (i := 7) (by decide +kernel) rfl) ?_
          refine r_iflt (off := 21) (tgt := 91) (by decide +kernel) (by decide) (fun h17 => ?_) (fun h17 => ?_)
          · refine r_sub (lv' := []) [] rfl ?_
            exact he4 ((.inl ())) _
          · refine r_p (pc' := 74) (p_aload_n 2 (k := 0) (by decide +kernel) rfl) ?_
            refine r_p (pc' := 76) (p_iload 1 (i := 6) (by decide +kernel) rfl) ?_
            refine r_callVI mvX12_367 (ctX12_isNailed a0 v6) (rcX12_isNailed a0 v6) ⟨_, _, rfl⟩ (as := [vi v6]) (st := []) rfl rfl (by decide +kernel) rfl (Nat.le_of_ble_eq_true rfl) (Nat.le_of_ble_eq_true rfl) fun v18 s => ?_
            refine r_ifne (off := 12) (tgt := 91) (by decide +kernel) (by decide) (fun h19 => ?_) (fun h19 => ?_)
            · refine r_p (pc' := 83) (p_aload_n 2 (k := 0) (by decide +kernel) rfl) ?_
              refine r_p (pc' := 85) (p_iload 0 (i := 7) (by decide +kernel) rfl) ?_
              refine r_callVI mvX12_367 (ctX12_isNailed a0 v7) (rcX12_isNailed a0 v7) ⟨_, _, rfl⟩ (as := [vi v7]) (st := []) rfl rfl (by decide +kernel) rfl (Nat.le_of_ble_eq_true rfl) (Nat.le_of_ble_eq_true rfl) fun v20 s => ?_
              refine r_ifeq (off := 7) (tgt := 95) (by decide +kernel) (by decide) (fun h21 => ?_) (fun h21 => ?_)
              · refine r_p (pc' := 97) (p_iload 6 (i := 4) (by decide +kernel) rfl) ?_
                refine r_p (pc' := 98) (p_aload_n 2 (k := 0) (by decide +kernel) rfl) ?_
                refine r_p (pc' := 100) (p_iload 0 (i := 7) (by decide +kernel) rfl) ?_
                refine r_p (pc' := 101) (p_iconst (n := 3) (v := 3) (by decide +kernel) rfl) ?_
                refine r_callVI mvX12_65 (ctX12_of a0 v7 3) (rcX12_of a0 v7 3) ⟨_, _, rfl⟩ (as := [vi v7, vi 3]) (st := [vi x1.1]) rfl rfl (by decide +kernel) rfl (Nat.le_of_ble_eq_true rfl) (Nat.le_of_ble_eq_true rfl) fun v22 s => ?_
                refine r_p (pc' := 105) (p_aload_n 2 (k := 0) (by decide +kernel) rfl) ?_
                refine r_p (pc' := 107) (p_iload 0 (i := 7) (by decide +kernel) rfl) ?_
                refine r_callVI mvX12_370 (ctX12_goesOver a0 v7) (rcX12_goesOver a0 v7) ⟨_, _, rfl⟩ (as := [vi v7]) (st := [vi v22, vi x1.1]) rfl rfl (by decide +kernel) rfl (Nat.le_of_ble_eq_true rfl) (Nat.le_of_ble_eq_true rfl) fun v23 s => ?_
                refine r_p (pc' := 111) (p_isub (by decide +kernel)) ?_
                refine r_p (pc' := 112) (p_aload_n 2 (k := 0) (by decide +kernel) rfl) ?_
                refine r_p (pc' := 114) (p_iload 1 (i := 6) (by decide +kernel) rfl) ?_
                refine r_callVI mvX12_370 (ctX12_goesOver a0 v6) (rcX12_goesOver a0 v6) ⟨_, _, rfl⟩ (as := [vi v6]) (st := [vi (v22 - v23), vi x1.1]) rfl rfl (by decide +kernel) rfl (Nat.le_of_ble_eq_true rfl) (Nat.le_of_ble_eq_true rfl) fun v24 s => ?_
                refine r_p (pc' := 118) (p_iadd (by decide +kernel)) ?_
                refine r_p (pc' := 119) (p_iadd (by decide +kernel)) ?_
                refine r_letI fun v25 => ?_
                refine r_p (pc' := 121) (p_istore (i := 4) (lv' := [(4, vi v25), (7, vi v7), (6, vi v6), (0, vr a0), (1, vi a1), (2, vi a2), (3, vi a3), (5, vi x1.2)]) (by decide +kernel) (Nat.le_of_ble_eq_true rfl) rfl) ?_
                refine r_p (pc' := 124) (p_iinc 7 (i := 5) (n := 1) (x := x1.2) (v := x1.2 + 1) (lv' := [(5, vi (x1.2 + 1)), (4, vi v25), (7, vi v7), (6, vi v6), (0, vr a0), (1, vi a1), (2, vi a2), (3, vi a3)]) (by decide +kernel) rfl rfl (Nat.le_of_ble_eq_true rfl) rfl) ?_
                refine r_p (pc' := 6) (p_goto (off := -118) (tgt := 6) (by decide +kernel) (by decide)) ?_
                refine r_sub (lv' := [(0, vr a0), (1, vi a1), (2, vi a2), (3, vi a3), (4, vi v25), (5, vi (x1.2 + 1))]) [4, 5, 6, 7, 1, 0] rfl ?_
                exact hb3 (v25, x1.2 + 1) _
              · refine r_sub (lv' := []) [] rfl ?_
                exact he4 ((.inl ())) _
            · refine r_sub (lv' := []) [] rfl ?_
              exact he4 ((.inl ())) _
def aX12_exchange : StA := (RX12, cX12_exchange, 6, some .int, yX12_exchange, 16, [])
theorem mvX12_430 : MV RX12 430 aX12_exchanged 3 := ⟨tblG_of 2205 (by decide +kernel) (by decide +kernel), tblG_of 2207 (by decide +kernel) (by decide +kernel), tblG_of 128 (by decide +kernel) (by decide +kernel), tblG_of 157 (by decide +kernel) (by decide +kernel), tblG_of 2208 (by decide +kernel) (by decide +kernel), rfl, ⟨by decide, by decide⟩, by decide +kernel, by decide⟩
noncomputable def mX12_exchange_L60 (a0 : Nat) (a1 : Int32) (a2 : Int32) (x16 : Int32 × Int32) : MM ((Int32 × Int32) ⊕ (Int32)) :=
  if 8 ≤ x16.2 then (
    mret (.inr x16.1)
  ) else (
    mbnd (mX12_exchanged a0 a1 a2 x16.2) fun (v21 : Int32) =>
    mbnd (gR 11 1 a0) fun (v22 : Nat) =>
    mbnd (ldI 0 v22 7) fun (v23 : Int32) =>
    mbnd (α := Int32) (
      if v23 < v21 then (
        mret x16.1
      ) else (
        mbnd (mX12_exchanged a0 a2 a1 x16.2) fun (v28 : Int32) =>
        mbnd (gR 11 1 a0) fun (v29 : Nat) =>
        mbnd (ldI 0 v29 7) fun (v30 : Int32) =>
        if v28 ≤ v30 then (
          mbnd (α := Int32) (
            if x16.1 < 0 then (
              mret x16.2
            ) else (
              mbnd (mJ6_bitCount_0f7a4 x16.2) fun (v36 : Int32) =>
              mbnd (mJ6_bitCount_0f7a4 x16.1) fun (v37 : Int32) =>
              if v37 ≤ v36 then (
                mret x16.1
              ) else (
                mret x16.2
              )
            )
          ) fun (x33 : Int32) =>
          mret x33
        ) else (
          mret x16.1
        )
      )
    ) fun (x25 : Int32) =>
    mret (.inl (x25, x16.2 + 1))
  )
noncomputable def mX12_exchange (a0 : Nat) (a1 : Int32) (a2 : Int32) (a3 : Int32) : MM Int32 := onC 11 a0 (
  mbnd (pI 11 0 a0 0) fun _ =>
  mbnd (mX12_noTool a0 a1) fun (v1 : Int32) =>
  mbnd (α := Int32) (
    if v1 = 0 then (
      mbnd (mX12_noTool a0 a2) fun (v6 : Int32) =>
      if v6 = 0 then (
        mret 0
      ) else (
        mret 1
      )
    ) else (
      mret 1
    )
  ) fun (x3 : Int32) =>
  mbnd (mX12_throwsIf a0 x3 1) fun (v8 : Int32) =>
  if v8 = 0 then (
    mbnd (α := Int32) (
      if a1 = a2 then (
        mret 1
      ) else (
        mret 0
      )
    ) fun (x11 : Int32) =>
    mbnd (mX12_throwsIf a0 x11 2) fun (v14 : Int32) =>
    if v14 = 0 then (
      mbnd (loopM (mX12_exchange_L60 a0 a1 a2) (((-1), 0))) fun (e39 : Int32) =>
      if a3 = 0 then (
        if 0 ≤ e39 then (
          mbnd (mJ6_bitCount_0f7a4 e39) fun (v42 : Int32) =>
          mret v42
        ) else (
          mret e39
        )
      ) else (
        mret e39
      )
    ) else (
      mret 0
    )
  ) else (
    mret 0
  )
  )
theorem rcX12_exchange (a0 : Nat) (a1 : Int32) (a2 : Int32) (a3 : Int32) : Rcv 11 a0 (mX12_exchange a0 a1 a2 a3) := fun s r h => ⟨(onC_some h).1, (onC_some h).2.1⟩
set_option maxHeartbeats 4000000 in
set_option maxRecDepth 100000 in
theorem ctX12_exchange (a0 : Nat) (a1 : Int32) (a2 : Int32) (a3 : Int32) : Ct aX12_exchange [vr a0, vi a1, vi a2, vi a3] (mX12_exchange a0 a1 a2 a3) rI := by
  unfold mX12_exchange
  refine ct_onC (ct_intro (by decide +kernel) rfl (Nat.le_of_ble_eq_true rfl) fun Y s => ?_)
  refine r_sub (lv' := [(0, vr a0), (1, vi a1), (2, vi a2), (3, vi a3)]) [0, 1, 2, 3] rfl ?_
  refine r_p (pc' := 1) (p_aload_n 0 (k := 0) (by decide +kernel) rfl) ?_
  refine r_p (pc' := 2) (p_iconst (n := 0) (v := 0) (by decide +kernel) rfl) ?_
  refine r_pI fpX12_3_11 (fun h => by cases h) (by decide +kernel) fun s => ?_
  refine r_p (pc' := 6) (p_aload_n 0 (k := 0) (by decide +kernel) rfl) ?_
  refine r_p (pc' := 7) (p_aload_n 0 (k := 0) (by decide +kernel) rfl) ?_
  refine r_p (pc' := 8) (p_iload_n 1 (k := 1) (by decide +kernel) rfl) ?_
  refine r_callVI mvX12_319 (ctX12_noTool a0 a1) (rcX12_noTool a0 a1) ⟨_, _, rfl⟩ (as := [vi a1]) (st := [vr a0]) rfl rfl (by decide +kernel) rfl (Nat.le_of_ble_eq_true rfl) (Nat.le_of_ble_eq_true rfl) fun v1 s => ?_
  refine r_join 27 (fun (x3 : Int32) => [(0, vr a0), (1, vi a1), (2, vi a2), (3, vi a3)]) (fun (x3 : Int32) => [vi x3, vr a0]) (fun x3 s => ?_) (fun K4 hj5 => ?_)
  · refine r_p (pc' := 28) (p_iconst (n := 1) (v := 1) (by decide +kernel) rfl) ?_
    refine r_callVI mvX12_265 (ctX12_throwsIf a0 x3 1) (rcX12_throwsIf a0 x3 1) ⟨_, _, rfl⟩ (as := [vi x3, vi 1]) (st := []) rfl rfl (by decide +kernel) rfl (Nat.le_of_ble_eq_true rfl) (Nat.le_of_ble_eq_true rfl) fun v8 s => ?_
    refine r_ifne (off := 21) (tgt := 52) (by decide +kernel) (by decide) (fun h9 => ?_) (fun h9 => ?_)
    · refine r_p (pc' := 35) (p_aload_n 0 (k := 0) (by decide +kernel) rfl) ?_
      refine r_p (pc' := 36) (p_iload_n 1 (k := 1) (by decide +kernel) rfl) ?_
      refine r_p (pc' := 37) (p_iload_n 2 (k := 2) (by decide +kernel) rfl) ?_
      refine r_join 45 (fun (x11 : Int32) => [(0, vr a0), (1, vi a1), (2, vi a2), (3, vi a3)]) (fun (x11 : Int32) => [vi x11, vr a0]) (fun x11 s => ?_) (fun K12 hj13 => ?_)
      · refine r_p (pc' := 46) (p_iconst (n := 2) (v := 2) (by decide +kernel) rfl) ?_
        refine r_callVI mvX12_265 (ctX12_throwsIf a0 x11 2) (rcX12_throwsIf a0 x11 2) ⟨_, _, rfl⟩ (as := [vi x11, vi 2]) (st := []) rfl rfl (by decide +kernel) rfl (Nat.le_of_ble_eq_true rfl) (Nat.le_of_ble_eq_true rfl) fun v14 s => ?_
        refine r_ifeq (off := 5) (tgt := 54) (by decide +kernel) (by decide) (fun h15 => ?_) (fun h15 => ?_)
        · refine r_p (pc' := 55) (p_iconst (n := -1) (v := -1) (by decide +kernel) rfl) ?_
          refine r_p (pc' := 57) (p_istore (i := 4) (lv' := [(4, vi (-1)), (0, vr a0), (1, vi a1), (2, vi a2), (3, vi a3)]) (by decide +kernel) (Nat.le_of_ble_eq_true rfl) rfl) ?_
          refine r_p (pc' := 58) (p_iconst (n := 0) (v := 0) (by decide +kernel) rfl) ?_
          refine r_p (pc' := 60) (p_istore (i := 5) (lv' := [(5, vi 0), (4, vi (-1)), (0, vr a0), (1, vi a1), (2, vi a2), (3, vi a3)]) (by decide +kernel) (Nat.le_of_ble_eq_true rfl) rfl) ?_
          refine r_sub (lv' := [(0, vr a0), (1, vi a1), (2, vi a2), (3, vi a3), (4, vi (-1)), (5, vi 0)]) [2, 3, 4, 5, 1, 0] rfl ?_
          refine r_loop2 (fun _ => 139) (fun (e39 : Int32) => [(3, vi a3), (4, vi e39)]) (fun (x16 : Int32 × Int32) => [(0, vr a0), (1, vi a1), (2, vi a2), (3, vi a3), (4, vi x16.1), (5, vi x16.2)]) (fun e39 s => ?_) (fun K17 hb18 he19 x16 s => ?_) (((-1), 0)) _
          · refine r_p (pc' := 140) (p_iload_n 0 (k := 3) (by decide +kernel) rfl) ?_
            refine r_ifne (off := 8) (tgt := 148) (by decide +kernel) (by decide) (fun h40 => ?_) (fun h40 => ?_)
            · refine r_p (pc' := 145) (p_iload 1 (i := 4) (by decide +kernel) rfl) ?_
              refine r_ifge (off := 8) (tgt := 153) (by decide +kernel) (by decide) (fun h41 => ?_) (fun h41 => ?_)
              · refine r_p (pc' := 155) (p_iload 1 (i := 4) (by decide +kernel) rfl) ?_
                refine r_callSI msX12_413 (ctJ6_bitCount_0f7a4 e39) (as := [vi e39]) (st := []) rfl rfl (by decide +kernel) rfl (Nat.le_of_ble_eq_true rfl) (Nat.le_of_ble_eq_true rfl) fun v42 s => ?_
                exact r_iret rfl rfl _ rfl rfl (by decide +kernel)
              · refine r_p (pc' := 150) (p_iload 1 (i := 4) (by decide +kernel) rfl) ?_
                refine r_p (pc' := 158) (p_goto (off := 8) (tgt := 158) (by decide +kernel) (by decide)) ?_
                exact r_iret rfl rfl _ rfl rfl (by decide +kernel)
            · refine r_p (pc' := 150) (p_iload 1 (i := 4) (by decide +kernel) rfl) ?_
              refine r_p (pc' := 158) (p_goto (off := 8) (tgt := 158) (by decide +kernel) (by decide)) ?_
              exact r_iret rfl rfl _ rfl rfl (by decide +kernel)
          · unfold mX12_exchange_L60
            refine r_p (pc' := 62) (p_iload 5 (i := 5) (by decide +kernel) rfl) ?_
            refine r_p (pc' := 64) (p_bipush (n := 8) (v := 8) (by decide +kernel) (by decide +kernel)) ?_
            refine r_icmpge (off := 75) (tgt := 139) (by decide +kernel) (by decide) (fun h20 => ?_) (fun h20 => ?_)
            · refine r_sub (lv' := [(3, vi a3), (4, vi x16.1)]) [3, 4] rfl ?_
              exact he19 x16.1 _
            · refine r_p (pc' := 68) (p_aload_n 0 (k := 0) (by decide +kernel) rfl) ?_
              refine r_p (pc' := 69) (p_iload_n 1 (k := 1) (by decide +kernel) rfl) ?_
              refine r_p (pc' := 70) (p_iload_n 2 (k := 2) (by decide +kernel) rfl) ?_
              refine r_p (pc' := 72) (p_iload 5 (i := 5) (by decide +kernel) rfl) ?_
              refine r_callVI mvX12_430 (ctX12_exchanged a0 a1 a2 x16.2) (rcX12_exchanged a0 a1 a2 x16.2) ⟨_, _, rfl⟩ (as := [vi a1, vi a2, vi x16.2]) (st := []) rfl rfl (by decide +kernel) rfl (Nat.le_of_ble_eq_true rfl) (Nat.le_of_ble_eq_true rfl) fun v21 s => ?_
              refine r_p (pc' := 76) (p_aload_n 0 (k := 0) (by decide +kernel) rfl) ?_
              refine r_gR flX12_13_11 (by decide +kernel) fun v22 => ?_
              refine r_p (pc' := 81) (p_bipush (n := 7) (v := 7) (by decide +kernel) (by decide +kernel)) ?_
              refine r_ldI0 (by decide +kernel) fun v23 => ?_
              refine r_join 133 (fun (x25 : Int32) => [(0, vr a0), (1, vi a1), (2, vi a2), (3, vi a3), (4, vi x25), (5, vi x16.2)]) (fun (x25 : Int32) => []) (fun x25 s => ?_) (fun K26 hj27 => ?_)
              · refine r_p (pc' := 136) (p_iinc 5 (i := 5) (n := 1) (x := x16.2) (v := x16.2 + 1) (lv' := [(5, vi (x16.2 + 1)), (0, vr a0), (1, vi a1), (2, vi a2), (3, vi a3), (4, vi x25)]) (by decide +kernel) rfl rfl (Nat.le_of_ble_eq_true rfl) rfl) ?_
                refine r_p (pc' := 60) (p_goto (off := -76) (tgt := 60) (by decide +kernel) (by decide)) ?_
                refine r_sub (lv' := [(0, vr a0), (1, vi a1), (2, vi a2), (3, vi a3), (4, vi x25), (5, vi (x16.2 + 1))]) [1, 2, 3, 4, 5, 0] rfl ?_
                exact hb18 (x25, x16.2 + 1) _
              · refine r_icmpgt (off := 51) (tgt := 133) (by decide +kernel) (by decide) (fun h24 => ?_) (fun h24 => ?_)
                · exact hj27 x16.1 _
                · refine r_p (pc' := 86) (p_aload_n 0 (k := 0) (by decide +kernel) rfl) ?_
                  refine r_p (pc' := 87) (p_iload_n 2 (k := 2) (by decide +kernel) rfl) ?_
                  refine r_p (pc' := 88) (p_iload_n 1 (k := 1) (by decide +kernel) rfl) ?_
                  refine r_p (pc' := 90) (p_iload 5 (i := 5) (by decide +kernel) rfl) ?_
                  refine r_callVI mvX12_430 (ctX12_exchanged a0 a2 a1 x16.2) (rcX12_exchanged a0 a2 a1 x16.2) ⟨_, _, rfl⟩ (as := [vi a2, vi a1, vi x16.2]) (st := []) rfl rfl (by decide +kernel) rfl (Nat.le_of_ble_eq_true rfl) (Nat.le_of_ble_eq_true rfl) fun v28 s => ?_
                  refine r_p (pc' := 94) (p_aload_n 0 (k := 0) (by decide +kernel) rfl) ?_
                  refine r_gR flX12_13_11 (by decide +kernel) fun v29 => ?_
                  refine r_p (pc' := 99) (p_bipush (n := 7) (v := 7) (by decide +kernel) (by decide +kernel)) ?_
                  refine r_ldI0 (by decide +kernel) fun v30 => ?_
                  refine r_icmple (off := 6) (tgt := 106) (by decide +kernel) (by decide) (fun h31 => ?_) (fun h31 => ?_)
                  · refine r_p (pc' := 108) (p_iload 4 (i := 4) (by decide +kernel) rfl) ?_
                    refine r_join 131 (fun (x33 : Int32) => [(0, vr a0), (1, vi a1), (2, vi a2), (3, vi a3), (5, vi x16.2)]) (fun (x33 : Int32) => [vi x33]) (fun x33 s => ?_) (fun K34 hj35 => ?_)
                    · refine r_p (pc' := 133) (p_istore (i := 4) (lv' := [(4, vi x33), (0, vr a0), (1, vi a1), (2, vi a2), (3, vi a3), (5, vi x16.2)]) (by decide +kernel) (Nat.le_of_ble_eq_true rfl) rfl) ?_
                      refine r_sub (lv' := [(0, vr a0), (1, vi a1), (2, vi a2), (3, vi a3), (4, vi x33), (5, vi x16.2)]) [1, 2, 3, 4, 0, 5] rfl ?_
                      exact hj27 x33 _
                    · refine r_iflt (off := 16) (tgt := 124) (by decide +kernel) (by decide) (fun h32 => ?_) (fun h32 => ?_)
                      · refine r_p (pc' := 126) (p_iload 5 (i := 5) (by decide +kernel) rfl) ?_
                        refine r_p (pc' := 131) (p_goto (off := 5) (tgt := 131) (by decide +kernel) (by decide)) ?_
                        refine r_sub (lv' := [(0, vr a0), (1, vi a1), (2, vi a2), (3, vi a3), (5, vi x16.2)]) [0, 1, 2, 3, 5] rfl ?_
                        exact hj35 x16.2 _
                      · refine r_p (pc' := 113) (p_iload 5 (i := 5) (by decide +kernel) rfl) ?_
                        refine r_callSI msX12_413 (ctJ6_bitCount_0f7a4 x16.2) (as := [vi x16.2]) (st := []) rfl rfl (by decide +kernel) rfl (Nat.le_of_ble_eq_true rfl) (Nat.le_of_ble_eq_true rfl) fun v36 s => ?_
                        refine r_p (pc' := 118) (p_iload 4 (i := 4) (by decide +kernel) rfl) ?_
                        refine r_callSI msX12_413 (ctJ6_bitCount_0f7a4 x16.1) (as := [vi x16.1]) (st := [vi v36]) rfl rfl (by decide +kernel) rfl (Nat.le_of_ble_eq_true rfl) (Nat.le_of_ble_eq_true rfl) fun v37 s => ?_
                        refine r_icmpge (off := 8) (tgt := 129) (by decide +kernel) (by decide) (fun h38 => ?_) (fun h38 => ?_)
                        · refine r_p (pc' := 131) (p_iload 4 (i := 4) (by decide +kernel) rfl) ?_
                          refine r_sub (lv' := [(0, vr a0), (1, vi a1), (2, vi a2), (3, vi a3), (5, vi x16.2)]) [0, 1, 2, 3, 5] rfl ?_
                          exact hj35 x16.1 _
                        · refine r_p (pc' := 126) (p_iload 5 (i := 5) (by decide +kernel) rfl) ?_
                          refine r_p (pc' := 131) (p_goto (off := 5) (tgt := 131) (by decide +kernel) (by decide)) ?_
                          refine r_sub (lv' := [(0, vr a0), (1, vi a1), (2, vi a2), (3, vi a3), (5, vi x16.2)]) [0, 1, 2, 3, 5] rfl ?_
                          exact hj35 x16.2 _
                  · refine r_p (pc' := 133) (p_goto (off := 30) (tgt := 133) (by decide +kernel) (by decide)) ?_
                    exact hj27 x16.1 _
        · refine r_p (pc' := 53) (p_iconst (n := 0) (v := 0) (by decide +kernel) rfl) ?_
          exact r_iret rfl rfl _ rfl rfl (by decide +kernel)
      · refine r_icmpne (off := 7) (tgt := 44) (by decide +kernel) (by decide) (fun h10 => ?_) (fun h10 => ?_)
        · refine r_p (pc' := 41) (p_iconst (n := 1) (v := 1) (by decide +kernel) rfl) ?_
          refine r_p (pc' := 45) (p_goto (off := 4) (tgt := 45) (by decide +kernel) (by decide)) ?_
          exact hj13 1 _
        · refine r_p (pc' := 45) (p_iconst (n := 0) (v := 0) (by decide +kernel) rfl) ?_
          exact hj13 0 _
    · refine r_p (pc' := 53) (p_iconst (n := 0) (v := 0) (by decide +kernel) rfl) ?_
      exact r_iret rfl rfl _ rfl rfl (by decide +kernel)
  · refine r_ifne (off := 11) (tgt := 22) (by decide +kernel) (by decide) (fun h2 => ?_) (fun h2 => ?_)
    · refine r_p (pc' := 15) (p_aload_n 0 (k := 0) (by decide +kernel) rfl) ?_
      refine r_p (pc' := 16) (p_iload_n 2 (k := 2) (by decide +kernel) rfl) ?_
      refine r_callVI mvX12_319 (ctX12_noTool a0 a2) (rcX12_noTool a0 a2) ⟨_, _, rfl⟩ (as := [vi a2]) (st := [vr a0]) rfl rfl (by decide +kernel) rfl (Nat.le_of_ble_eq_true rfl) (Nat.le_of_ble_eq_true rfl) fun v6 s => ?_
      refine r_ifeq (off := 7) (tgt := 26) (by decide +kernel) (by decide) (fun h7 => ?_) (fun h7 => ?_)
      · refine r_p (pc' := 27) (p_iconst (n := 0) (v := 0) (by decide +kernel) rfl) ?_
        exact hj5 0 _
      · refine r_p (pc' := 23) (p_iconst (n := 1) (v := 1) (by decide +kernel) rfl) ?_
        refine r_p (pc' := 27) (p_goto (off := 4) (tgt := 27) (by decide +kernel) (by decide)) ?_
        exact hj5 1 _
    · refine r_p (pc' := 23) (p_iconst (n := 1) (v := 1) (by decide +kernel) rfl) ?_
      refine r_p (pc' := 27) (p_goto (off := 4) (tgt := 27) (by decide +kernel) (by decide)) ?_
      exact hj5 1 _
def aX12_isNeeded : StA := (RX12, cX12_isNeeded, 3, some .boolean, yX12_isNeeded, 9, [])
noncomputable def mX12_isNeeded (a0 : Nat) (a1 : Int32) (a2 : Int32) : MM Int32 := onC 11 a0 (
  if 32 ≤ a2 then (
    mret 0
  ) else (
    mbnd (mX12_inTool a0 a1 3) fun (v2 : Int32) =>
    mbnd (mX12_has v2 a2) fun (v3 : Int32) =>
    if v3 = 0 then (
      mret 0
    ) else (
      mret 1
    )
  )
  )
theorem rcX12_isNeeded (a0 : Nat) (a1 : Int32) (a2 : Int32) : Rcv 11 a0 (mX12_isNeeded a0 a1 a2) := fun s r h => ⟨(onC_some h).1, (onC_some h).2.1⟩
set_option maxHeartbeats 4000000 in
set_option maxRecDepth 100000 in
theorem ctX12_isNeeded (a0 : Nat) (a1 : Int32) (a2 : Int32) : Ct aX12_isNeeded [vr a0, vi a1, vi a2] (mX12_isNeeded a0 a1 a2) rI := by
  unfold mX12_isNeeded
  refine ct_onC (ct_intro (by decide +kernel) rfl (Nat.le_of_ble_eq_true rfl) fun Y s => ?_)
  refine r_sub (lv' := [(0, vr a0), (1, vi a1), (2, vi a2)]) [0, 1, 2] rfl ?_
  refine r_p (pc' := 1) (p_iload_n 2 (k := 2) (by decide +kernel) rfl) ?_
  refine r_p (pc' := 3) (p_bipush (n := 32) (v := 32) (by decide +kernel) (by decide +kernel)) ?_
  refine r_icmpge (off := 20) (tgt := 23) (by decide +kernel) (by decide) (fun h1 => ?_) (fun h1 => ?_)
  · refine r_p (pc' := 24) (p_iconst (n := 0) (v := 0) (by decide +kernel) rfl) ?_
    exact r_iret rfl rfl _ rfl rfl (by decide +kernel)
  · refine r_p (pc' := 7) (p_aload_n 0 (k := 0) (by decide +kernel) rfl) ?_
    refine r_p (pc' := 8) (p_iload_n 1 (k := 1) (by decide +kernel) rfl) ?_
    refine r_p (pc' := 9) (p_iconst (n := 3) (v := 3) (by decide +kernel) rfl) ?_
    refine r_callVI mvX12_149 (ctX12_inTool a0 a1 3) (rcX12_inTool a0 a1 3) ⟨_, _, rfl⟩ (as := [vi a1, vi 3]) (st := []) rfl rfl (by decide +kernel) rfl (Nat.le_of_ble_eq_true rfl) (Nat.le_of_ble_eq_true rfl) fun v2 s => ?_
    refine r_p (pc' := 13) (p_iload_n 2 (k := 2) (by decide +kernel) rfl) ?_
    refine r_callSI msX12_400 (ctX12_has v2 a2) (as := [vi v2, vi a2]) (st := []) rfl rfl (by decide +kernel) rfl (Nat.le_of_ble_eq_true rfl) (Nat.le_of_ble_eq_true rfl) fun v3 s => ?_
    refine r_ifeq (off := 7) (tgt := 23) (by decide +kernel) (by decide) (fun h4 => ?_) (fun h4 => ?_)
    · refine r_p (pc' := 24) (p_iconst (n := 0) (v := 0) (by decide +kernel) rfl) ?_
      exact r_iret rfl rfl _ rfl rfl (by decide +kernel)
    · refine r_p (pc' := 20) (p_iconst (n := 1) (v := 1) (by decide +kernel) rfl) ?_
      refine r_p (pc' := 24) (p_goto (off := 4) (tgt := 24) (by decide +kernel) (by decide)) ?_
      exact r_iret rfl rfl _ rfl rfl (by decide +kernel)
def aX12_serves : StA := (RX12, cX12_serves, 5, some .int, yX12_serves, 12, [])
theorem flX12_48_11 : FL RX12 48 11 25 := ⟨_, TX12, 27, "ToolCourtModel", rfl, by decide, Or.inl (tblG_of 1690 (by decide +kernel) (by decide +kernel)), Or.inl rfl⟩
theorem mvX12_433 : MV RX12 433 aX12_isNeeded 2 := ⟨tblG_of 2217 (by decide +kernel) (by decide +kernel), tblG_of 2219 (by decide +kernel) (by decide +kernel), tblG_of 130 (by decide +kernel) (by decide +kernel), tblG_of 157 (by decide +kernel) (by decide +kernel), tblG_of 2220 (by decide +kernel) (by decide +kernel), rfl, ⟨by decide, by decide⟩, by decide +kernel, by decide⟩
noncomputable def mX12_serves_L21 (a0 : Nat) (x1 : Int32 × Int32) (x9 : Int32 × Int32) : MM ((Int32 × Int32) ⊕ (Int32)) :=
  if x9.2 ≤ 0 then (
    mret (.inr x9.1)
  ) else (
    mbnd (gR 11 25 a0) fun (v14 : Nat) =>
    mbnd (ldI 0 v14 x1.2) fun (v15 : Int32) =>
    mbnd (mX12_isNeeded a0 v15 x9.1) fun (v16 : Int32) =>
    mbnd (α := Int32) (
      if v16 = 0 then (
        mret 1
      ) else (
        mret 0
      )
    ) fun (x18 : Int32) =>
    mbnd (mret (x9.2 - x18)) fun (v21 : Int32) =>
    mret (.inl (x9.1 + 1, v21))
  )
noncomputable def mX12_serves_L4 (a0 : Nat) (a1 : Int32) (x1 : Int32 × Int32) : MM ((Int32 × Int32) ⊕ (Int32)) :=
  if a1 ≤ x1.2 then (
    mret (.inr x1.1)
  ) else (
    mbnd (gR 11 25 a0) fun (v6 : Nat) =>
    mbnd (ldI 0 v6 x1.2) fun (v7 : Int32) =>
    mbnd (mX12_sentence a0 v7) fun (v8 : Int32) =>
    mbnd (loopM (mX12_serves_L21 a0 x1) (x1.1, v8)) fun (e22 : Int32) =>
    mret (.inl (e22, x1.2 + 1))
  )
noncomputable def mX12_serves (a0 : Nat) (a1 : Int32) : MM Int32 := onC 11 a0 (
  mbnd (loopM (mX12_serves_L4 a0 a1) (0, 0)) fun (e23 : Int32) =>
  mret e23
  )
theorem rcX12_serves (a0 : Nat) (a1 : Int32) : Rcv 11 a0 (mX12_serves a0 a1) := fun s r h => ⟨(onC_some h).1, (onC_some h).2.1⟩
set_option maxHeartbeats 4000000 in
set_option maxRecDepth 100000 in
theorem ctX12_serves (a0 : Nat) (a1 : Int32) : Ct aX12_serves [vr a0, vi a1] (mX12_serves a0 a1) rI := by
  unfold mX12_serves
  refine ct_onC (ct_intro (by decide +kernel) rfl (Nat.le_of_ble_eq_true rfl) fun Y s => ?_)
  refine r_sub (lv' := [(0, vr a0), (1, vi a1)]) [0, 1] rfl ?_
  refine r_p (pc' := 1) (p_iconst (n := 0) (v := 0) (by decide +kernel) rfl) ?_
  refine r_p (pc' := 2) (p_istore_n (k := 2) (lv' := [(2, vi 0), (0, vr a0), (1, vi a1)]) (by decide +kernel) (Nat.le_of_ble_eq_true rfl) rfl) ?_
  refine r_p (pc' := 3) (p_iconst (n := 0) (v := 0) (by decide +kernel) rfl) ?_
  refine r_p (pc' := 4) (p_istore_n (k := 3) (lv' := [(3, vi 0), (2, vi 0), (0, vr a0), (1, vi a1)]) (by decide +kernel) (Nat.le_of_ble_eq_true rfl) rfl) ?_
  refine r_sub (lv' := [(0, vr a0), (1, vi a1), (2, vi 0), (3, vi 0)]) [2, 3, 1, 0] rfl ?_
  refine r_loop2 (fun _ => 62) (fun (e23 : Int32) => [(2, vi e23)]) (fun (x1 : Int32 × Int32) => [(0, vr a0), (1, vi a1), (2, vi x1.1), (3, vi x1.2)]) (fun e23 s => ?_) (fun K2 hb3 he4 x1 s => ?_) (0, 0) _
  · refine r_p (pc' := 63) (p_iload_n 0 (k := 2) (by decide +kernel) rfl) ?_
    exact r_iret rfl rfl _ rfl rfl (by decide +kernel)
  · unfold mX12_serves_L4
    refine r_p (pc' := 5) (p_iload_n 3 (k := 3) (by decide +kernel) rfl) ?_
    refine r_p (pc' := 6) (p_iload_n 1 (k := 1) (by decide +kernel) rfl) ?_
    refine r_icmpge (off := 56) (tgt := 62) (by decide +kernel) (by decide) (fun h5 => ?_) (fun h5 => ?_)
    · refine r_sub (lv' := [(2, vi x1.1)]) [2] rfl ?_
      exact he4 x1.1 _
    · refine r_p (pc' := 10) (p_aload_n 0 (k := 0) (by decide +kernel) rfl) ?_
      refine r_p (pc' := 11) (p_aload_n 0 (k := 0) (by decide +kernel) rfl) ?_
      refine r_gR flX12_48_11 (by decide +kernel) fun v6 => ?_
      refine r_p (pc' := 15) (p_iload_n 3 (k := 3) (by decide +kernel) rfl) ?_
      refine r_ldI0 (by decide +kernel) fun v7 => ?_
      refine r_callVI mvX12_322 (ctX12_sentence a0 v7) (rcX12_sentence a0 v7) ⟨_, _, rfl⟩ (as := [vi v7]) (st := []) rfl rfl (by decide +kernel) rfl (Nat.le_of_ble_eq_true rfl) (Nat.le_of_ble_eq_true rfl) fun v8 s => ?_
      refine r_p (pc' := 21) (p_istore (i := 4) (lv' := [(4, vi v8), (0, vr a0), (1, vi a1), (2, vi x1.1), (3, vi x1.2)]) (by decide +kernel) (Nat.le_of_ble_eq_true rfl) rfl) ?_
      refine r_sub (lv' := [(0, vr a0), (1, vi a1), (2, vi x1.1), (3, vi x1.2), (4, vi v8)]) [1, 2, 3, 4, 0] rfl ?_
      refine r_loop2 (fun _ => 56) (fun (e22 : Int32) => [(0, vr a0), (1, vi a1), (2, vi e22), (3, vi x1.2)]) (fun (x9 : Int32 × Int32) => [(0, vr a0), (1, vi a1), (2, vi x9.1), (3, vi x1.2), (4, vi x9.2)]) (fun e22 s => ?_) (fun K10 hb11 he12 x9 s => ?_) (x1.1, v8) _
      · refine r_p (pc' := 59) (p_iinc 3 (i := 3) (n := 1) (x := x1.2) (v := x1.2 + 1) (lv' := [(3, vi (x1.2 + 1)), (0, vr a0), (1, vi a1), (2, vi e22)]) (by decide +kernel) rfl rfl (Nat.le_of_ble_eq_true rfl) rfl) ?_
        refine r_p (pc' := 4) (p_goto (off := -55) (tgt := 4) (by decide +kernel) (by decide)) ?_
        refine r_sub (lv' := [(0, vr a0), (1, vi a1), (2, vi e22), (3, vi (x1.2 + 1))]) [1, 2, 3, 0] rfl ?_
        exact hb3 (e22, x1.2 + 1) _
      · unfold mX12_serves_L21
        refine r_p (pc' := 23) (p_iload 4 (i := 4) (by decide +kernel) rfl) ?_
        refine r_ifle (off := 33) (tgt := 56) (by decide +kernel) (by decide) (fun h13 => ?_) (fun h13 => ?_)
        · refine r_sub (lv' := [(0, vr a0), (1, vi a1), (2, vi x9.1), (3, vi x1.2)]) [0, 1, 2, 3] rfl ?_
          exact he12 x9.1 _
        · refine r_p (pc' := 28) (p_iload 4 (i := 4) (by decide +kernel) rfl) ?_
          refine r_p (pc' := 29) (p_aload_n 0 (k := 0) (by decide +kernel) rfl) ?_
          refine r_p (pc' := 30) (p_aload_n 0 (k := 0) (by decide +kernel) rfl) ?_
          refine r_gR flX12_48_11 (by decide +kernel) fun v14 => ?_
          refine r_p (pc' := 34) (p_iload_n 3 (k := 3) (by decide +kernel) rfl) ?_
          refine r_ldI0 (by decide +kernel) fun v15 => ?_
          refine r_p (pc' := 36) (p_iload_n 2 (k := 2) (by decide +kernel) rfl) ?_
          refine r_callVI mvX12_433 (ctX12_isNeeded a0 v15 x9.1) (rcX12_isNeeded a0 v15 x9.1) ⟨_, _, rfl⟩ (as := [vi v15, vi x9.1]) (st := [vi x9.2]) rfl rfl (by decide +kernel) rfl (Nat.le_of_ble_eq_true rfl) (Nat.le_of_ble_eq_true rfl) fun v16 s => ?_
          refine r_join 47 (fun (x18 : Int32) => [(0, vr a0), (1, vi a1), (2, vi x9.1), (3, vi x1.2)]) (fun (x18 : Int32) => [vi x18, vi x9.2]) (fun x18 s => ?_) (fun K19 hj20 => ?_)
          · refine r_p (pc' := 48) (p_isub (by decide +kernel)) ?_
            refine r_letI fun v21 => ?_
            refine r_p (pc' := 50) (p_istore (i := 4) (lv' := [(4, vi v21), (0, vr a0), (1, vi a1), (2, vi x9.1), (3, vi x1.2)]) (by decide +kernel) (Nat.le_of_ble_eq_true rfl) rfl) ?_
            refine r_p (pc' := 53) (p_iinc 3 (i := 2) (n := 1) (x := x9.1) (v := x9.1 + 1) (lv' := [(2, vi (x9.1 + 1)), (4, vi v21), (0, vr a0), (1, vi a1), (3, vi x1.2)]) (by decide +kernel) rfl rfl (Nat.le_of_ble_eq_true rfl) rfl) ?_
            refine r_p (pc' := 21) (p_goto (off := -32) (tgt := 21) (by decide +kernel) (by decide)) ?_
            refine r_sub (lv' := [(0, vr a0), (1, vi a1), (2, vi (x9.1 + 1)), (3, vi x1.2), (4, vi v21)]) [2, 3, 0, 4, 1] rfl ?_
            exact hb11 (x9.1 + 1, v21) _
          · refine r_ifeq (off := 7) (tgt := 46) (by decide +kernel) (by decide) (fun h17 => ?_) (fun h17 => ?_)
            · refine r_p (pc' := 47) (p_iconst (n := 1) (v := 1) (by decide +kernel) rfl) ?_
              refine r_sub (lv' := [(0, vr a0), (1, vi a1), (2, vi x9.1), (3, vi x1.2)]) [0, 1, 2, 3] rfl ?_
              exact hj20 1 _
            · refine r_p (pc' := 43) (p_iconst (n := 0) (v := 0) (by decide +kernel) rfl) ?_
              refine r_p (pc' := 47) (p_goto (off := 4) (tgt := 47) (by decide +kernel) (by decide)) ?_
              refine r_sub (lv' := [(0, vr a0), (1, vi a1), (2, vi x9.1), (3, vi x1.2)]) [0, 1, 2, 3] rfl ?_
              exact hj20 0 _
def aX12_trades : StA := (RX12, cX12_trades, 4, none, yX12_trades, 8, [])
noncomputable def mX12_trades (a0 : Nat) (a1 : Int32) (a2 : Int32) : MM Unit := onC 11 a0 (
  mbnd (gR 11 25 a0) fun (v1 : Nat) =>
  mbnd (ldI 0 v1 a1) fun (v2 : Int32) =>
  mbnd (gR 11 25 a0) fun (v3 : Nat) =>
  mbnd (gR 11 25 a0) fun (v4 : Nat) =>
  mbnd (ldI 0 v4 a2) fun (v5 : Int32) =>
  mbnd (stI 0 v3 a1 v5) fun _ =>
  mbnd (gR 11 25 a0) fun (v6 : Nat) =>
  mbnd (stI 0 v6 a2 v2) fun _ =>
  mret ()
  )
theorem rcX12_trades (a0 : Nat) (a1 : Int32) (a2 : Int32) : Rcv 11 a0 (mX12_trades a0 a1 a2) := fun s r h => ⟨(onC_some h).1, (onC_some h).2.1⟩
set_option maxHeartbeats 4000000 in
set_option maxRecDepth 100000 in
theorem ctX12_trades (a0 : Nat) (a1 : Int32) (a2 : Int32) : Ct aX12_trades [vr a0, vi a1, vi a2] (mX12_trades a0 a1 a2) rU := by
  unfold mX12_trades
  refine ct_onC (ct_intro (by decide +kernel) rfl (Nat.le_of_ble_eq_true rfl) fun Y s => ?_)
  refine r_sub (lv' := [(0, vr a0), (1, vi a1), (2, vi a2)]) [0, 1, 2] rfl ?_
  refine r_p (pc' := 1) (p_aload_n 0 (k := 0) (by decide +kernel) rfl) ?_
  refine r_gR flX12_48_11 (by decide +kernel) fun v1 => ?_
  refine r_p (pc' := 5) (p_iload_n 1 (k := 1) (by decide +kernel) rfl) ?_
  refine r_ldI0 (by decide +kernel) fun v2 => ?_
  refine r_p (pc' := 7) (p_istore_n (k := 3) (lv' := [(3, vi v2), (0, vr a0), (1, vi a1), (2, vi a2)]) (by decide +kernel) (Nat.le_of_ble_eq_true rfl) rfl) ?_
  refine r_p (pc' := 8) (p_aload_n 1 (k := 0) (by decide +kernel) rfl) ?_
  refine r_gR flX12_48_11 (by decide +kernel) fun v3 => ?_
  refine r_p (pc' := 12) (p_iload_n 2 (k := 1) (by decide +kernel) rfl) ?_
  refine r_p (pc' := 13) (p_aload_n 1 (k := 0) (by decide +kernel) rfl) ?_
  refine r_gR flX12_48_11 (by decide +kernel) fun v4 => ?_
  refine r_p (pc' := 17) (p_iload_n 3 (k := 2) (by decide +kernel) rfl) ?_
  refine r_ldI0 (by decide +kernel) fun v5 => ?_
  refine r_stI0 (by decide +kernel) fun s => ?_
  refine r_p (pc' := 20) (p_aload_n 1 (k := 0) (by decide +kernel) rfl) ?_
  refine r_gR flX12_48_11 (by decide +kernel) fun v6 => ?_
  refine r_p (pc' := 24) (p_iload_n 3 (k := 2) (by decide +kernel) rfl) ?_
  refine r_p (pc' := 25) (p_iload_n 0 (k := 3) (by decide +kernel) rfl) ?_
  refine r_stI0 (by decide +kernel) fun s => ?_
  exact r_vret (y9 := ()) rfl rfl rfl (by decide +kernel)
def aX12_nextOrder : StA := (RX12, cX12_nextOrder, 6, some .boolean, yX12_nextOrder, 9, [])
theorem mvX12_436 : MV RX12 436 aX12_trades 2 := ⟨tblG_of 2225 (by decide +kernel) (by decide +kernel), tblG_of 2227 (by decide +kernel) (by decide +kernel), tblG_of 132 (by decide +kernel) (by decide +kernel), tblG_of 157 (by decide +kernel) (by decide +kernel), tblG_of 2228 (by decide +kernel) (by decide +kernel), rfl, ⟨by decide, by decide⟩, by decide +kernel, by decide⟩
noncomputable def mX12_nextOrder_L4 (a0 : Nat) (x2 : Int32) : MM ((Int32) ⊕ (Int32)) :=
  if x2 < 0 then (
    mret (.inr x2)
  ) else (
    mbnd (gR 11 25 a0) fun (v7 : Nat) =>
    mbnd (ldI 0 v7 x2) fun (v8 : Int32) =>
    mbnd (gR 11 25 a0) fun (v9 : Nat) =>
    mbnd (ldI 0 v9 (x2 + 1)) fun (v10 : Int32) =>
    if v8 ≤ v10 then (
      mret (.inr x2)
    ) else (
      mret (.inl (x2 + (-1)))
    )
  )
noncomputable def mX12_nextOrder_L41 (a0 : Nat) (e12 : Int32) (x15 : Int32) : MM ((Int32) ⊕ (Int32)) :=
  mbnd (gR 11 25 a0) fun (v19 : Nat) =>
  mbnd (ldI 0 v19 x15) fun (v20 : Int32) =>
  mbnd (gR 11 25 a0) fun (v21 : Nat) =>
  mbnd (ldI 0 v21 e12) fun (v22 : Int32) =>
  if v22 ≤ v20 then (
    mret (.inr x15)
  ) else (
    mret (.inl (x15 + (-1)))
  )
noncomputable def mX12_nextOrder_L78 (a0 : Nat) (x27 : Int32 × Int32) : MM ((Int32 × Int32) ⊕ (Unit)) :=
  if x27.2 ≤ x27.1 then (
    mret (.inr ())
  ) else (
    mbnd (mX12_trades a0 x27.1 x27.2) fun _ =>
    mret (.inl ((x27.1 + 1, x27.2 + (-1))))
  )
noncomputable def mX12_nextOrder (a0 : Nat) (a1 : Int32) : MM Int32 := onC 11 a0 (
  mbnd (mret (a1 - 2)) fun (v1 : Int32) =>
  mbnd (loopM (mX12_nextOrder_L4 a0) v1) fun (e12 : Int32) =>
  if 0 ≤ e12 then (
    mbnd (mret (a1 - 1)) fun (v14 : Int32) =>
    mbnd (loopM (mX12_nextOrder_L41 a0 e12) v14) fun (e24 : Int32) =>
    mbnd (mX12_trades a0 e12 e24) fun _ =>
    mbnd (mret (e12 + 1)) fun (v25 : Int32) =>
    mbnd (mret (a1 - 1)) fun (v26 : Int32) =>
    mbnd (loopM (mX12_nextOrder_L78 a0) (v25, v26)) fun (e32 : Unit) =>
    mret 1
  ) else (
    mret 0
  )
  )
theorem rcX12_nextOrder (a0 : Nat) (a1 : Int32) : Rcv 11 a0 (mX12_nextOrder a0 a1) := fun s r h => ⟨(onC_some h).1, (onC_some h).2.1⟩
set_option maxHeartbeats 4000000 in
set_option maxRecDepth 100000 in
theorem ctX12_nextOrder (a0 : Nat) (a1 : Int32) : Ct aX12_nextOrder [vr a0, vi a1] (mX12_nextOrder a0 a1) rI := by
  unfold mX12_nextOrder
  refine ct_onC (ct_intro (by decide +kernel) rfl (Nat.le_of_ble_eq_true rfl) fun Y s => ?_)
  refine r_sub (lv' := [(0, vr a0), (1, vi a1)]) [0, 1] rfl ?_
  refine r_p (pc' := 1) (p_iload_n 1 (k := 1) (by decide +kernel) rfl) ?_
  refine r_p (pc' := 2) (p_iconst (n := 2) (v := 2) (by decide +kernel) rfl) ?_
  refine r_p (pc' := 3) (p_isub (by decide +kernel)) ?_
  refine r_letI fun v1 => ?_
  refine r_p (pc' := 4) (p_istore_n (k := 2) (lv' := [(2, vi v1), (0, vr a0), (1, vi a1)]) (by decide +kernel) (Nat.le_of_ble_eq_true rfl) rfl) ?_
  refine r_sub (lv' := [(0, vr a0), (1, vi a1), (2, vi v1)]) [1, 2, 0] rfl ?_
  refine r_loop2 (fun _ => 31) (fun (e12 : Int32) => [(0, vr a0), (1, vi a1), (2, vi e12)]) (fun (x2 : Int32) => [(0, vr a0), (1, vi a1), (2, vi x2)]) (fun e12 s => ?_) (fun K3 hb4 he5 x2 s => ?_) v1 _
  · refine r_p (pc' := 32) (p_iload_n 2 (k := 2) (by decide +kernel) rfl) ?_
    refine r_ifge (off := 5) (tgt := 37) (by decide +kernel) (by decide) (fun h13 => ?_) (fun h13 => ?_)
    · refine r_p (pc' := 38) (p_iload_n 1 (k := 1) (by decide +kernel) rfl) ?_
      refine r_p (pc' := 39) (p_iconst (n := 1) (v := 1) (by decide +kernel) rfl) ?_
      refine r_p (pc' := 40) (p_isub (by decide +kernel)) ?_
      refine r_letI fun v14 => ?_
      refine r_p (pc' := 41) (p_istore_n (k := 3) (lv' := [(3, vi v14), (0, vr a0), (1, vi a1), (2, vi e12)]) (by decide +kernel) (Nat.le_of_ble_eq_true rfl) rfl) ?_
      refine r_sub (lv' := [(0, vr a0), (1, vi a1), (2, vi e12), (3, vi v14)]) [1, 2, 3, 0] rfl ?_
      refine r_loop2 (fun _ => 62) (fun (e24 : Int32) => [(0, vr a0), (1, vi a1), (2, vi e12), (3, vi e24)]) (fun (x15 : Int32) => [(0, vr a0), (1, vi a1), (2, vi e12), (3, vi x15)]) (fun e24 s => ?_) (fun K16 hb17 he18 x15 s => ?_) v14 _
      · refine r_p (pc' := 63) (p_aload_n 0 (k := 0) (by decide +kernel) rfl) ?_
        refine r_p (pc' := 64) (p_iload_n 2 (k := 2) (by decide +kernel) rfl) ?_
        refine r_p (pc' := 65) (p_iload_n 3 (k := 3) (by decide +kernel) rfl) ?_
        refine r_callVU mvX12_436 (ctX12_trades a0 e12 e24) (rcX12_trades a0 e12 e24) ⟨_, _, rfl⟩ (as := [vi e12, vi e24]) (st := []) rfl rfl (by decide +kernel) rfl (Nat.le_of_ble_eq_true rfl) (Nat.le_of_ble_eq_true rfl) fun s => ?_
        refine r_p (pc' := 69) (p_iload_n 2 (k := 2) (by decide +kernel) rfl) ?_
        refine r_p (pc' := 70) (p_iconst (n := 1) (v := 1) (by decide +kernel) rfl) ?_
        refine r_p (pc' := 71) (p_iadd (by decide +kernel)) ?_
        refine r_letI fun v25 => ?_
        refine r_p (pc' := 73) (p_istore (i := 4) (lv' := [(4, vi v25), (0, vr a0), (1, vi a1), (2, vi e12), (3, vi e24)]) (by decide +kernel) (Nat.le_of_ble_eq_true rfl) rfl) ?_
        refine r_p (pc' := 74) (p_iload_n 2 (k := 1) (by decide +kernel) rfl) ?_
        refine r_p (pc' := 75) (p_iconst (n := 1) (v := 1) (by decide +kernel) rfl) ?_
        refine r_p (pc' := 76) (p_isub (by decide +kernel)) ?_
        refine r_letI fun v26 => ?_
        refine r_p (pc' := 78) (p_istore (i := 5) (lv' := [(5, vi v26), (4, vi v25), (0, vr a0), (1, vi a1), (2, vi e12), (3, vi e24)]) (by decide +kernel) (Nat.le_of_ble_eq_true rfl) rfl) ?_
        refine r_sub (lv' := [(0, vr a0), (4, vi v25), (5, vi v26)]) [2, 1, 0] rfl ?_
        refine r_loop2 (fun _ => 102) (fun (e32 : Unit) => []) (fun (x27 : Int32 × Int32) => [(0, vr a0), (4, vi x27.1), (5, vi x27.2)]) (fun e32 s => ?_) (fun K28 hb29 he30 x27 s => ?_) (v25, v26) _
        · refine r_p (pc' := 103) (p_iconst (n := 1) (v := 1) (by decide +kernel) rfl) ?_
          exact r_iret rfl rfl _ rfl rfl (by decide +kernel)
        · unfold mX12_nextOrder_L78
          refine r_p (pc' := 80) (p_iload 1 (i := 4) (by decide +kernel) rfl) ?_
          refine r_p (pc' := 82) (p_iload 2 (i := 5) (by decide +kernel) rfl) ?_
          refine r_icmpge (off := 20) (tgt := 102) (by decide +kernel) (by decide) (fun h31 => ?_) (fun h31 => ?_)
          · refine r_sub (lv' := []) [] rfl ?_
            exact he30 () _
          · refine r_p (pc' := 86) (p_aload_n 0 (k := 0) (by decide +kernel) rfl) ?_
            refine r_p (pc' := 88) (p_iload 1 (i := 4) (by decide +kernel) rfl) ?_
            refine r_p (pc' := 90) (p_iload 2 (i := 5) (by decide +kernel) rfl) ?_
            refine r_callVU mvX12_436 (ctX12_trades a0 x27.1 x27.2) (rcX12_trades a0 x27.1 x27.2) ⟨_, _, rfl⟩ (as := [vi x27.1, vi x27.2]) (st := []) rfl rfl (by decide +kernel) rfl (Nat.le_of_ble_eq_true rfl) (Nat.le_of_ble_eq_true rfl) fun s => ?_
            refine r_p (pc' := 96) (p_iinc 1 (i := 4) (n := 1) (x := x27.1) (v := x27.1 + 1) (lv' := [(4, vi (x27.1 + 1)), (0, vr a0), (5, vi x27.2)]) (by decide +kernel) rfl rfl (Nat.le_of_ble_eq_true rfl) rfl) ?_
            refine r_p (pc' := 99) (p_iinc 2 (i := 5) (n := -1) (x := x27.2) (v := x27.2 + (-1)) (lv' := [(5, vi (x27.2 + (-1))), (4, vi (x27.1 + 1)), (0, vr a0)]) (by decide +kernel) rfl rfl (Nat.le_of_ble_eq_true rfl) rfl) ?_
            refine r_p (pc' := 78) (p_goto (off := -21) (tgt := 78) (by decide +kernel) (by decide)) ?_
            refine r_sub (lv' := [(0, vr a0), (4, vi (x27.1 + 1)), (5, vi (x27.2 + (-1)))]) [2, 1, 0] rfl ?_
            exact hb29 ((x27.1 + 1, x27.2 + (-1))) _
      · unfold mX12_nextOrder_L41
        refine r_p (pc' := 42) (p_aload_n 0 (k := 0) (by decide +kernel) rfl) ?_
        refine r_gR flX12_48_11 (by decide +kernel) fun v19 => ?_
        refine r_p (pc' := 46) (p_iload_n 3 (k := 3) (by decide +kernel) rfl) ?_
        refine r_ldI0 (by decide +kernel) fun v20 => ?_
        refine r_p (pc' := 48) (p_aload_n 0 (k := 0) (by decide +kernel) rfl) ?_
        refine r_gR flX12_48_11 (by decide +kernel) fun v21 => ?_
        refine r_p (pc' := 52) (p_iload_n 2 (k := 2) (by decide +kernel) rfl) ?_
        refine r_ldI0 (by decide +kernel) fun v22 => ?_
        refine r_icmpge (off := 9) (tgt := 62) (by decide +kernel) (by decide) (fun h23 => ?_) (fun h23 => ?_)
        · exact he18 x15 _
        · refine r_p (pc' := 59) (p_iinc 3 (i := 3) (n := -1) (x := x15) (v := x15 + (-1)) (lv' := [(3, vi (x15 + (-1))), (0, vr a0), (1, vi a1), (2, vi e12)]) (by decide +kernel) rfl rfl (Nat.le_of_ble_eq_true rfl) rfl) ?_
          refine r_p (pc' := 41) (p_goto (off := -18) (tgt := 41) (by decide +kernel) (by decide)) ?_
          refine r_sub (lv' := [(0, vr a0), (1, vi a1), (2, vi e12), (3, vi (x15 + (-1)))]) [1, 2, 3, 0] rfl ?_
          exact hb17 (x15 + (-1)) _
    · refine r_p (pc' := 36) (p_iconst (n := 0) (v := 0) (by decide +kernel) rfl) ?_
      exact r_iret rfl rfl _ rfl rfl (by decide +kernel)
  · unfold mX12_nextOrder_L4
    refine r_p (pc' := 5) (p_iload_n 2 (k := 2) (by decide +kernel) rfl) ?_
    refine r_iflt (off := 26) (tgt := 31) (by decide +kernel) (by decide) (fun h6 => ?_) (fun h6 => ?_)
    · exact he5 x2 _
    · refine r_p (pc' := 9) (p_aload_n 0 (k := 0) (by decide +kernel) rfl) ?_
      refine r_gR flX12_48_11 (by decide +kernel) fun v7 => ?_
      refine r_p (pc' := 13) (p_iload_n 2 (k := 2) (by decide +kernel) rfl) ?_
      refine r_ldI0 (by decide +kernel) fun v8 => ?_
      refine r_p (pc' := 15) (p_aload_n 0 (k := 0) (by decide +kernel) rfl) ?_
      refine r_gR flX12_48_11 (by decide +kernel) fun v9 => ?_
      refine r_p (pc' := 19) (p_iload_n 2 (k := 2) (by decide +kernel) rfl) ?_
      refine r_p (pc' := 20) (p_iconst (n := 1) (v := 1) (by decide +kernel) rfl) ?_
      refine r_p (pc' := 21) (p_iadd (by decide +kernel)) ?_
      refine r_ldI0 (by decide +kernel) fun v10 => ?_
      refine r_icmple (off := 9) (tgt := 31) (by decide +kernel) (by decide) (fun h11 => ?_) (fun h11 => ?_)
      · exact he5 x2 _
      · refine r_p (pc' := 28) (p_iinc 2 (i := 2) (n := -1) (x := x2) (v := x2 + (-1)) (lv' := [(2, vi (x2 + (-1))), (0, vr a0), (1, vi a1)]) (by decide +kernel) rfl rfl (Nat.le_of_ble_eq_true rfl) rfl) ?_
        refine r_p (pc' := 4) (p_goto (off := -24) (tgt := 4) (by decide +kernel) (by decide)) ?_
        refine r_sub (lv' := [(0, vr a0), (1, vi a1), (2, vi (x2 + (-1)))]) [1, 2, 0] rfl ?_
        exact hb4 (x2 + (-1)) _
def aX12_cell : StA := (RX12, cX12_cell, 6, some .int, yX12_cell, 13, [])
theorem mvX12_439 : MV RX12 439 aX12_serves 1 := ⟨tblG_of 2213 (by decide +kernel) (by decide +kernel), tblG_of 2215 (by decide +kernel) (by decide +kernel), tblG_of 129 (by decide +kernel) (by decide +kernel), tblG_of 157 (by decide +kernel) (by decide +kernel), tblG_of 2216 (by decide +kernel) (by decide +kernel), rfl, ⟨by decide, by decide⟩, by decide +kernel, by decide⟩
theorem flX12_51_11 : FL RX12 51 11 26 := ⟨_, TX12, 27, "ToolCourtModel", rfl, by decide, Or.inl (tblG_of 1691 (by decide +kernel) (by decide +kernel)), Or.inl rfl⟩
theorem mvX12_442 : MV RX12 442 aX12_nextOrder 1 := ⟨tblG_of 2221 (by decide +kernel) (by decide +kernel), tblG_of 2223 (by decide +kernel) (by decide +kernel), tblG_of 131 (by decide +kernel) (by decide +kernel), tblG_of 157 (by decide +kernel) (by decide +kernel), tblG_of 2224 (by decide +kernel) (by decide +kernel), rfl, ⟨by decide, by decide⟩, by decide +kernel, by decide⟩
noncomputable def mX12_cell_L9 (a0 : Nat) (x1 : Int32 × Int32) : MM ((Int32 × Int32) ⊕ (Int32)) :=
  mbnd (mX12_tools a0) fun (v5 : Int32) =>
  if v5 ≤ x1.2 then (
    mret (.inr x1.1)
  ) else (
    mbnd (mX12_isGuilty a0 x1.2) fun (v7 : Int32) =>
    mbnd (α := Int32) (
      if v7 = 0 then (
        mret x1.1
      ) else (
        mbnd (gR 11 25 a0) fun (v12 : Nat) =>
        mbnd (stI 0 v12 x1.1 x1.2) fun _ =>
        mret (x1.1 + 1)
      )
    ) fun (x9 : Int32) =>
    mret (.inl (x9, x1.2 + 1))
  )
noncomputable def mX12_cell_L70 (a0 : Nat) (e13 : Int32) (x23 : Int32) : MM ((Int32) ⊕ (Unit)) :=
  if e13 ≤ x23 then (
    mret (.inr ())
  ) else (
    mbnd (gR 11 26 a0) fun (v28 : Nat) =>
    mbnd (gR 11 25 a0) fun (v29 : Nat) =>
    mbnd (ldI 0 v29 x23) fun (v30 : Int32) =>
    mbnd (stI 0 v28 x23 v30) fun _ =>
    mret (.inl (x23 + 1))
  )
noncomputable def mX12_cell_L48 (a0 : Nat) (e13 : Int32) (x14 : Int32) : MM ((Int32) ⊕ (Int32)) :=
  mbnd (mX12_serves a0 e13) fun (v18 : Int32) =>
  mbnd (α := Int32) (
    if v18 < x14 then (
      mbnd (loopM (mX12_cell_L70 a0 e13) 0) fun (e31 : Unit) =>
      mret v18
    ) else (
      mret x14
    )
  ) fun (x20 : Int32) =>
  mbnd (mX12_nextOrder a0 e13) fun (v32 : Int32) =>
  if v32 = 0 then (
    mret (.inr x20)
  ) else (
    mret (.inl x20)
  )
noncomputable def mX12_cell (a0 : Nat) (a1 : Int32) : MM Int32 := onC 11 a0 (
  mbnd (pI 11 0 a0 0) fun _ =>
  mbnd (loopM (mX12_cell_L9 a0) (0, 0)) fun (e13 : Int32) =>
  mbnd (loopM (mX12_cell_L48 a0 e13) 1000000) fun (e34 : Int32) =>
  if e34 ≤ 64 then (
    if a1 = (-1) then (
      mret e34
    ) else (
      mbnd (mX12_in a1 0 (e13 - 1)) fun (v37 : Int32) =>
      if v37 = 0 then (
        mret (-1)
      ) else (
        mbnd (gR 11 26 a0) fun (v39 : Nat) =>
        mbnd (ldI 0 v39 a1) fun (v40 : Int32) =>
        mret v40
      )
    )
  ) else (
    mret (-3)
  )
  )
theorem rcX12_cell (a0 : Nat) (a1 : Int32) : Rcv 11 a0 (mX12_cell a0 a1) := fun s r h => ⟨(onC_some h).1, (onC_some h).2.1⟩
set_option maxHeartbeats 4000000 in
set_option maxRecDepth 100000 in
theorem ctX12_cell (a0 : Nat) (a1 : Int32) : Ct aX12_cell [vr a0, vi a1] (mX12_cell a0 a1) rI := by
  unfold mX12_cell
  refine ct_onC (ct_intro (by decide +kernel) rfl (Nat.le_of_ble_eq_true rfl) fun Y s => ?_)
  refine r_sub (lv' := [(0, vr a0), (1, vi a1)]) [0, 1] rfl ?_
  refine r_p (pc' := 1) (p_aload_n 0 (k := 0) (by decide +kernel) rfl) ?_
  refine r_p (pc' := 2) (p_iconst (n := 0) (v := 0) (by decide +kernel) rfl) ?_
  refine r_pI fpX12_3_11 (fun h => by cases h) (by decide +kernel) fun s => ?_
  refine r_p (pc' := 6) (p_iconst (n := 0) (v := 0) (by decide +kernel) rfl) ?_
  refine r_p (pc' := 7) (p_istore_n (k := 2) (lv' := [(2, vi 0), (0, vr a0), (1, vi a1)]) (by decide +kernel) (Nat.le_of_ble_eq_true rfl) rfl) ?_
  refine r_p (pc' := 8) (p_iconst (n := 0) (v := 0) (by decide +kernel) rfl) ?_
  refine r_p (pc' := 9) (p_istore_n (k := 3) (lv' := [(3, vi 0), (2, vi 0), (0, vr a0), (1, vi a1)]) (by decide +kernel) (Nat.le_of_ble_eq_true rfl) rfl) ?_
  refine r_sub (lv' := [(0, vr a0), (1, vi a1), (2, vi 0), (3, vi 0)]) [2, 3, 1, 0] rfl ?_
  refine r_loop2 (fun _ => 44) (fun (e13 : Int32) => [(0, vr a0), (1, vi a1), (2, vi e13)]) (fun (x1 : Int32 × Int32) => [(0, vr a0), (1, vi a1), (2, vi x1.1), (3, vi x1.2)]) (fun e13 s => ?_) (fun K2 hb3 he4 x1 s => ?_) (0, 0) _
  · refine r_p (pc' := 47) (p_ldcw (i := 406) (v := 1000000) (by decide +kernel) (tblG_of 2168 (by decide +kernel) (by decide +kernel))) ?_
    refine r_p (pc' := 48) (p_istore_n (k := 3) (lv' := [(3, vi 1000000), (0, vr a0), (1, vi a1), (2, vi e13)]) (by decide +kernel) (Nat.le_of_ble_eq_true rfl) rfl) ?_
    refine r_sub (lv' := [(0, vr a0), (1, vi a1), (2, vi e13), (3, vi 1000000)]) [1, 2, 3, 0] rfl ?_
    refine r_loop2 (fun _ => 104) (fun (e34 : Int32) => [(0, vr a0), (1, vi a1), (2, vi e13), (3, vi e34)]) (fun (x14 : Int32) => [(0, vr a0), (1, vi a1), (2, vi e13), (3, vi x14)]) (fun e34 s => ?_) (fun K15 hb16 he17 x14 s => ?_) 1000000 _
    · refine r_p (pc' := 105) (p_iload_n 3 (k := 3) (by decide +kernel) rfl) ?_
      refine r_p (pc' := 107) (p_bipush (n := 64) (v := 64) (by decide +kernel) (by decide +kernel)) ?_
      refine r_icmple (off := 6) (tgt := 113) (by decide +kernel) (by decide) (fun h35 => ?_) (fun h35 => ?_)
      · refine r_p (pc' := 114) (p_iload_n 1 (k := 1) (by decide +kernel) rfl) ?_
        refine r_p (pc' := 115) (p_iconst (n := -1) (v := -1) (by decide +kernel) rfl) ?_
        refine r_icmpne (off := 7) (tgt := 122) (by decide +kernel) (by decide) (fun h36 => ?_) (fun h36 => ?_)
        · refine r_p (pc' := 119) (p_iload_n 3 (k := 3) (by decide +kernel) rfl) ?_
          refine r_p (pc' := 143) (p_goto (off := 24) (tgt := 143) (by decide +kernel) (by decide)) ?_
          exact r_iret rfl rfl _ rfl rfl (by decide +kernel)
        · refine r_p (pc' := 123) (p_iload_n 1 (k := 1) (by decide +kernel) rfl) ?_
          refine r_p (pc' := 124) (p_iconst (n := 0) (v := 0) (by decide +kernel) rfl) ?_
          refine r_p (pc' := 125) (p_iload_n 2 (k := 2) (by decide +kernel) rfl) ?_
          refine r_p (pc' := 126) (p_iconst (n := 1) (v := 1) (by decide +kernel) rfl) ?_
          refine r_p (pc' := 127) (p_isub (by decide +kernel)) ?_
          refine r_callSI msX12_72 (ctX12_in a1 0 (e13 - 1)) (as := [vi a1, vi 0, vi (e13 - 1)]) (st := []) rfl rfl (by decide +kernel) rfl (Nat.le_of_ble_eq_true rfl) (Nat.le_of_ble_eq_true rfl) fun v37 s => ?_
          refine r_ifeq (off := 12) (tgt := 142) (by decide +kernel) (by decide) (fun h38 => ?_) (fun h38 => ?_)
          · refine r_p (pc' := 143) (p_iconst (n := -1) (v := -1) (by decide +kernel) rfl) ?_
            exact r_iret rfl rfl _ rfl rfl (by decide +kernel)
          · refine r_p (pc' := 134) (p_aload_n 0 (k := 0) (by decide +kernel) rfl) ?_
            refine r_gR flX12_51_11 (by decide +kernel) fun v39 => ?_
            refine r_p (pc' := 138) (p_iload_n 1 (k := 1) (by decide +kernel) rfl) ?_
            refine r_ldI0 (by decide +kernel) fun v40 => ?_
            refine r_p (pc' := 143) (p_goto (off := 4) (tgt := 143) (by decide +kernel) (by decide)) ?_
            exact r_iret rfl rfl _ rfl rfl (by decide +kernel)
      · refine r_p (pc' := 112) (p_bipush (n := -3) (v := -3) (by decide +kernel) (by decide +kernel)) ?_
        exact r_iret rfl rfl _ rfl rfl (by decide +kernel)
    · unfold mX12_cell_L48
      refine r_p (pc' := 49) (p_aload_n 0 (k := 0) (by decide +kernel) rfl) ?_
      refine r_p (pc' := 50) (p_iload_n 2 (k := 2) (by decide +kernel) rfl) ?_
      refine r_callVI mvX12_439 (ctX12_serves a0 e13) (rcX12_serves a0 e13) ⟨_, _, rfl⟩ (as := [vi e13]) (st := []) rfl rfl (by decide +kernel) rfl (Nat.le_of_ble_eq_true rfl) (Nat.le_of_ble_eq_true rfl) fun v18 s => ?_
      refine r_p (pc' := 55) (p_istore (i := 4) (lv' := [(4, vi v18), (0, vr a0), (1, vi a1), (2, vi e13), (3, vi x14)]) (by decide +kernel) (Nat.le_of_ble_eq_true rfl) rfl) ?_
      refine r_p (pc' := 57) (p_iload 0 (i := 4) (by decide +kernel) rfl) ?_
      refine r_p (pc' := 58) (p_iload_n 4 (k := 3) (by decide +kernel) rfl) ?_
      refine r_join 96 (fun (x20 : Int32) => [(0, vr a0), (1, vi a1), (2, vi e13), (3, vi x20)]) (fun (x20 : Int32) => []) (fun x20 s => ?_) (fun K21 hj22 => ?_)
      · refine r_p (pc' := 97) (p_aload_n 0 (k := 0) (by decide +kernel) rfl) ?_
        refine r_p (pc' := 98) (p_iload_n 2 (k := 2) (by decide +kernel) rfl) ?_
        refine r_callVI mvX12_442 (ctX12_nextOrder a0 e13) (rcX12_nextOrder a0 e13) ⟨_, _, rfl⟩ (as := [vi e13]) (st := []) rfl rfl (by decide +kernel) rfl (Nat.le_of_ble_eq_true rfl) (Nat.le_of_ble_eq_true rfl) fun v32 s => ?_
        refine r_ifne (off := -53) (tgt := 48) (by decide +kernel) (by decide) (fun h33 => ?_) (fun h33 => ?_)
        · exact he17 x20 _
        · exact hb16 x20 _
      · refine r_icmplt (off := 6) (tgt := 64) (by decide +kernel) (by decide) (fun h19 => ?_) (fun h19 => ?_)
        · refine r_p (pc' := 66) (p_iload 0 (i := 4) (by decide +kernel) rfl) ?_
          refine r_p (pc' := 67) (p_istore_n (k := 3) (lv' := [(3, vi v18), (4, vi v18), (0, vr a0), (1, vi a1), (2, vi e13)]) (by decide +kernel) (Nat.le_of_ble_eq_true rfl) rfl) ?_
          refine r_p (pc' := 68) (p_iconst (n := 0) (v := 0) (by decide +kernel) rfl) ?_
          refine r_p (pc' := 70) (p_istore (i := 5) (lv' := [(5, vi 0), (3, vi v18), (4, vi v18), (0, vr a0), (1, vi a1), (2, vi e13)]) (by decide +kernel) (Nat.le_of_ble_eq_true rfl) rfl) ?_
          refine r_sub (lv' := [(0, vr a0), (1, vi a1), (2, vi e13), (3, vi v18), (5, vi 0)]) [3, 4, 5, 1, 0] rfl ?_
          refine r_loop2 (fun _ => 96) (fun (e31 : Unit) => [(0, vr a0), (1, vi a1), (2, vi e13), (3, vi v18)]) (fun (x23 : Int32) => [(0, vr a0), (1, vi a1), (2, vi e13), (3, vi v18), (5, vi x23)]) (fun e31 s => ?_) (fun K24 hb25 he26 x23 s => ?_) 0 _
          · exact hj22 v18 _
          · unfold mX12_cell_L70
            refine r_p (pc' := 72) (p_iload 4 (i := 5) (by decide +kernel) rfl) ?_
            refine r_p (pc' := 73) (p_iload_n 2 (k := 2) (by decide +kernel) rfl) ?_
            refine r_icmpge (off := 23) (tgt := 96) (by decide +kernel) (by decide) (fun h27 => ?_) (fun h27 => ?_)
            · refine r_sub (lv' := [(0, vr a0), (1, vi a1), (2, vi e13), (3, vi v18)]) [0, 1, 2, 3] rfl ?_
              exact he26 () _
            · refine r_p (pc' := 77) (p_aload_n 0 (k := 0) (by decide +kernel) rfl) ?_
              refine r_gR flX12_51_11 (by decide +kernel) fun v28 => ?_
              refine r_p (pc' := 82) (p_iload 4 (i := 5) (by decide +kernel) rfl) ?_
              refine r_p (pc' := 83) (p_aload_n 0 (k := 0) (by decide +kernel) rfl) ?_
              refine r_gR flX12_48_11 (by decide +kernel) fun v29 => ?_
              refine r_p (pc' := 88) (p_iload 4 (i := 5) (by decide +kernel) rfl) ?_
              refine r_ldI0 (by decide +kernel) fun v30 => ?_
              refine r_stI0 (by decide +kernel) fun s => ?_
              refine r_p (pc' := 93) (p_iinc 4 (i := 5) (n := 1) (x := x23) (v := x23 + 1) (lv' := [(5, vi (x23 + 1)), (0, vr a0), (1, vi a1), (2, vi e13), (3, vi v18)]) (by decide +kernel) rfl rfl (Nat.le_of_ble_eq_true rfl) rfl) ?_
              refine r_p (pc' := 70) (p_goto (off := -23) (tgt := 70) (by decide +kernel) (by decide)) ?_
              refine r_sub (lv' := [(0, vr a0), (1, vi a1), (2, vi e13), (3, vi v18), (5, vi (x23 + 1))]) [1, 2, 3, 4, 0] rfl ?_
              exact hb25 (x23 + 1) _
        · refine r_p (pc' := 96) (p_goto (off := 35) (tgt := 96) (by decide +kernel) (by decide)) ?_
          refine r_sub (lv' := [(0, vr a0), (1, vi a1), (2, vi e13), (3, vi x14)]) [1, 2, 3, 4] rfl ?_
          exact hj22 x14 _
  · unfold mX12_cell_L9
    refine r_p (pc' := 10) (p_iload_n 3 (k := 3) (by decide +kernel) rfl) ?_
    refine r_p (pc' := 11) (p_aload_n 0 (k := 0) (by decide +kernel) rfl) ?_
    refine r_callVI mvX12_76 (ctX12_tools a0) (rcX12_tools a0) ⟨_, _, rfl⟩ (as := []) (st := [vi x1.2]) rfl rfl (by decide +kernel) rfl (Nat.le_of_ble_eq_true rfl) (Nat.le_of_ble_eq_true rfl) fun v5 s => ?_
    refine r_icmpge (off := 30) (tgt := 44) (by decide +kernel) (by decide) (fun h6 => ?_) (fun h6 => ?_)
    · refine r_sub (lv' := [(0, vr a0), (1, vi a1), (2, vi x1.1)]) [0, 1, 2] rfl ?_
      exact he4 x1.1 _
    · refine r_p (pc' := 18) (p_aload_n 0 (k := 0) (by decide +kernel) rfl) ?_
      refine r_p (pc' := 19) (p_iload_n 3 (k := 3) (by decide +kernel) rfl) ?_
      refine r_callVI mvX12_385 (ctX12_isGuilty a0 x1.2) (rcX12_isGuilty a0 x1.2) ⟨_, _, rfl⟩ (as := [vi x1.2]) (st := []) rfl rfl (by decide +kernel) rfl (Nat.le_of_ble_eq_true rfl) (Nat.le_of_ble_eq_true rfl) fun v7 s => ?_
      refine r_join 38 (fun (x9 : Int32) => [(0, vr a0), (1, vi a1), (2, vi x9), (3, vi x1.2)]) (fun (x9 : Int32) => []) (fun x9 s => ?_) (fun K10 hj11 => ?_)
      · refine r_p (pc' := 41) (p_iinc 3 (i := 3) (n := 1) (x := x1.2) (v := x1.2 + 1) (lv' := [(3, vi (x1.2 + 1)), (0, vr a0), (1, vi a1), (2, vi x9)]) (by decide +kernel) rfl rfl (Nat.le_of_ble_eq_true rfl) rfl) ?_
        refine r_p (pc' := 9) (p_goto (off := -32) (tgt := 9) (by decide +kernel) (by decide)) ?_
        refine r_sub (lv' := [(0, vr a0), (1, vi a1), (2, vi x9), (3, vi (x1.2 + 1))]) [1, 2, 3, 0] rfl ?_
        exact hb3 (x9, x1.2 + 1) _
      · refine r_ifne (off := 6) (tgt := 28) (by decide +kernel) (by decide) (fun h8 => ?_) (fun h8 => ?_)
        · refine r_p (pc' := 38) (p_goto (off := 13) (tgt := 38) (by decide +kernel) (by decide)) ?_
          exact hj11 x1.1 _
        · refine r_p (pc' := 29) (p_aload_n 0 (k := 0) (by decide +kernel) rfl) ?_
          refine r_gR flX12_48_11 (by decide +kernel) fun v12 => ?_
          refine r_p (pc' := 33) (p_iload_n 2 (k := 2) (by decide +kernel) rfl) ?_
          refine r_p (pc' := 34) (p_iload_n 3 (k := 3) (by decide +kernel) rfl) ?_
          refine r_stI0 (by decide +kernel) fun s => ?_
          refine r_p (pc' := 38) (p_iinc 2 (i := 2) (n := 1) (x := x1.1) (v := x1.1 + 1) (lv' := [(2, vi (x1.1 + 1)), (0, vr a0), (1, vi a1), (3, vi x1.2)]) (by decide +kernel) rfl rfl (Nat.le_of_ble_eq_true rfl) rfl) ?_
          refine r_sub (lv' := [(0, vr a0), (1, vi a1), (2, vi (x1.1 + 1)), (3, vi x1.2)]) [1, 2, 0, 3] rfl ?_
          exact hj11 (x1.1 + 1) _
