/-! PRINTED BY wip/whole/gen.py -/
def aX11_culprits : StA := (RX11, cX11_culprits, 6, some .int, yX11_culprits, 11, [])
theorem msX11_276 : MS RX11 276 aX11_needEdge 1 := ⟨tblG_of 1430 (by decide +kernel) (by decide +kernel), tblG_of 1431 (by decide +kernel) (by decide +kernel), tblG_of 144 (by decide +kernel) (by decide +kernel), tblG_of 1432 (by decide +kernel) (by decide +kernel), rfl, ⟨by decide, by decide⟩, by decide +kernel, by decide⟩
theorem msX11_279 : MS RX11 279 aX11_needGrade 1 := ⟨tblG_of 1434 (by decide +kernel) (by decide +kernel), tblG_of 1435 (by decide +kernel) (by decide +kernel), tblG_of 144 (by decide +kernel) (by decide +kernel), tblG_of 1436 (by decide +kernel) (by decide +kernel), rfl, ⟨by decide, by decide⟩, by decide +kernel, by decide⟩
theorem thX11_285_105 : TH RX11 101 285 105 0 "the DAY is none" 23 := ⟨by decide +kernel, tblG_of 1052 (by decide +kernel) (by decide +kernel), tblG_of 166 (by decide +kernel) (by decide +kernel), by decide +kernel, by decide +kernel, by decide +kernel⟩
theorem mvX11_287 : MV RX11 287 aX11_marksNow 1 := ⟨tblG_of 1439 (by decide +kernel) (by decide +kernel), tblG_of 1441 (by decide +kernel) (by decide +kernel), tblG_of 42 (by decide +kernel) (by decide +kernel), tblG_of 144 (by decide +kernel) (by decide +kernel), tblG_of 1442 (by decide +kernel) (by decide +kernel), rfl, ⟨by decide, by decide⟩, by decide +kernel, by decide⟩
theorem mvX11_299 : MV RX11 299 aX11_marksThen 2 := ⟨tblG_of 1443 (by decide +kernel) (by decide +kernel), tblG_of 1445 (by decide +kernel) (by decide +kernel), tblG_of 43 (by decide +kernel) (by decide +kernel), tblG_of 144 (by decide +kernel) (by decide +kernel), tblG_of 1446 (by decide +kernel) (by decide +kernel), rfl, ⟨by decide, by decide⟩, by decide +kernel, by decide⟩
noncomputable def mX11_culprits (a0 : Nat) (a1 : Int32) (a2 : Int32) (a3 : Int32) : MM Int32 := onC 10 a0 (
  mbnd (mX11_needEdge a1) fun _ =>
  mbnd (mX11_needGrade a2) fun _ =>
  if a3 < 0 then (
    mthr 0
  ) else (
    mbnd (gR 10 7 a0) fun (v2 : Nat) =>
    mbnd (gI 1 8 v2) fun (v3 : Int32) =>
    if a3 ≤ v3 then (
      mbnd (mret ((a1 * 10) + a2)) fun (v5 : Int32) =>
      mbnd (gR 10 7 a0) fun (v6 : Nat) =>
      mbnd (gI 1 8 v6) fun (v7 : Int32) =>
      if a3 = v7 then (
        mbnd (mX11_marksNow a0 v5) fun (v9 : Int32) =>
        mret v9
      ) else (
        mbnd (gR 10 7 a0) fun (v10 : Nat) =>
        mbnd (gR 1 5 v10) fun (v11 : Nat) =>
        mbnd (gI 8 3 v11) fun (v12 : Int32) =>
        mbnd (gR 10 7 a0) fun (v13 : Nat) =>
        mbnd (gI 1 8 v13) fun (v14 : Int32) =>
        mbnd (mret (v12 - (v14 - a3))) fun (v15 : Int32) =>
        mbnd (gR 10 7 a0) fun (v16 : Nat) =>
        mbnd (gR 1 5 v16) fun (v17 : Nat) =>
        mbnd (mX8_has v17 v15) fun (v18 : Int32) =>
        if v18 = 0 then (
          mret (-1)
        ) else (
          mbnd (mX11_marksThen a0 v5 v15) fun (v20 : Int32) =>
          mret v20
        )
      )
    ) else (
      mthr 0
    )
  )
  )
theorem rcX11_culprits (a0 : Nat) (a1 : Int32) (a2 : Int32) (a3 : Int32) : Rcv 10 a0 (mX11_culprits a0 a1 a2 a3) := fun s r h => ⟨(onC_some h).1, (onC_some h).2.1⟩
set_option maxHeartbeats 4000000 in
set_option maxRecDepth 100000 in
theorem ctX11_culprits (a0 : Nat) (a1 : Int32) (a2 : Int32) (a3 : Int32) : Ct aX11_culprits [vr a0, vi a1, vi a2, vi a3] (mX11_culprits a0 a1 a2 a3) rI := by
  unfold mX11_culprits
  refine ct_onC (ct_intro (by decide +kernel) rfl (Nat.le_of_ble_eq_true rfl) fun Y s => ?_)
  refine r_sub (lv' := [(0, vr a0), (1, vi a1), (2, vi a2), (3, vi a3)]) [0, 1, 2, 3] rfl ?_
  refine r_p (pc' := 1) (p_iload_n 1 (k := 1) (by decide +kernel) rfl) ?_
  refine r_callSU msX11_276 (ctX11_needEdge a1) (as := [vi a1]) (st := []) rfl rfl (by decide +kernel) rfl (Nat.le_of_ble_eq_true rfl) (Nat.le_of_ble_eq_true rfl) fun s => ?_
  refine r_p (pc' := 5) (p_iload_n 2 (k := 2) (by decide +kernel) rfl) ?_
  refine r_callSU msX11_279 (ctX11_needGrade a2) (as := [vi a2]) (st := []) rfl rfl (by decide +kernel) rfl (Nat.le_of_ble_eq_true rfl) (Nat.le_of_ble_eq_true rfl) fun s => ?_
  refine r_p (pc' := 9) (p_iload_n 3 (k := 3) (by decide +kernel) rfl) ?_
  refine r_iflt (off := 14) (tgt := 23) (by decide +kernel) (by decide) (fun h1 => ?_) (fun h1 => ?_)
  · exact r_thrw thX11_285_105 rfl (Nat.le_of_ble_eq_true rfl) (Nat.le_of_ble_eq_true rfl) (by decide +kernel) (by decide +kernel) (by decide +kernel) (by decide +kernel) (by decide +kernel)
  · refine r_p (pc' := 13) (p_iload_n 3 (k := 3) (by decide +kernel) rfl) ?_
    refine r_p (pc' := 14) (p_aload_n 0 (k := 0) (by decide +kernel) rfl) ?_
    refine r_gR flX11_54_10 (by decide +kernel) fun v2 => ?_
    refine r_gI flX11_282_1 (by decide +kernel) fun v3 => ?_
    refine r_icmple (off := 14) (tgt := 34) (by decide +kernel) (by decide) (fun h4 => ?_) (fun h4 => ?_)
    · refine r_p (pc' := 35) (p_iload_n 1 (k := 1) (by decide +kernel) rfl) ?_
      refine r_p (pc' := 37) (p_bipush (n := 10) (v := 10) (by decide +kernel) (by decide +kernel)) ?_
      refine r_p (pc' := 38) (p_imul (by decide +kernel)) ?_
      refine r_p (pc' := 39) (p_iload_n 2 (k := 2) (by decide +kernel) rfl) ?_
      refine r_p (pc' := 40) (p_iadd (by decide +kernel)) ?_
      refine r_letI fun v5 => ?_
      refine r_p (pc' := 42) (p_istore (i := 4) (lv' := [(4, vi v5), (0, vr a0), (1, vi a1), (2, vi a2), (3, vi a3)]) (by decide +kernel) (Nat.le_of_ble_eq_true rfl) rfl) ?_
      refine r_p (pc' := 43) (p_iload_n 4 (k := 3) (by decide +kernel) rfl) ?_
      refine r_p (pc' := 44) (p_aload_n 1 (k := 0) (by decide +kernel) rfl) ?_
      refine r_gR flX11_54_10 (by decide +kernel) fun v6 => ?_
      refine r_gI flX11_282_1 (by decide +kernel) fun v7 => ?_
      refine r_icmpne (off := 10) (tgt := 60) (by decide +kernel) (by decide) (fun h8 => ?_) (fun h8 => ?_)
      · refine r_p (pc' := 54) (p_aload_n 1 (k := 0) (by decide +kernel) rfl) ?_
        refine r_p (pc' := 56) (p_iload 0 (i := 4) (by decide +kernel) rfl) ?_
        refine r_callVI mvX11_287 (ctX11_marksNow a0 v5) (rcX11_marksNow a0 v5) ⟨_, _, rfl⟩ (as := [vi v5]) (st := []) rfl rfl (by decide +kernel) rfl (Nat.le_of_ble_eq_true rfl) (Nat.le_of_ble_eq_true rfl) fun v9 s => ?_
        exact r_iret rfl rfl _ rfl rfl (by decide +kernel)
      · refine r_p (pc' := 61) (p_aload_n 1 (k := 0) (by decide +kernel) rfl) ?_
        refine r_gR flX11_54_10 (by decide +kernel) fun v10 => ?_
        refine r_gR flX11_290_1 (by decide +kernel) fun v11 => ?_
        refine r_gI flX11_293_8 (by decide +kernel) fun v12 => ?_
        refine r_p (pc' := 71) (p_aload_n 1 (k := 0) (by decide +kernel) rfl) ?_
        refine r_gR flX11_54_10 (by decide +kernel) fun v13 => ?_
        refine r_gI flX11_282_1 (by decide +kernel) fun v14 => ?_
        refine r_p (pc' := 78) (p_iload_n 4 (k := 3) (by decide +kernel) rfl) ?_
        refine r_p (pc' := 79) (p_isub (by decide +kernel)) ?_
        refine r_p (pc' := 80) (p_isub (by decide +kernel)) ?_
        refine r_letI fun v15 => ?_
        refine r_p (pc' := 82) (p_istore (i := 5) (lv' := [(5, vi v15), (4, vi v5), (0, vr a0), (1, vi a1), (2, vi a2), (3, vi a3)]) (by decide +kernel) (Nat.le_of_ble_eq_true rfl) rfl) ?_
        refine r_p (pc' := 83) (p_aload_n 2 (k := 0) (by decide +kernel) rfl) ?_
        refine r_gR flX11_54_10 (by decide +kernel) fun v16 => ?_
        refine r_gR flX11_290_1 (by decide +kernel) fun v17 => ?_
        refine r_p (pc' := 91) (p_iload 0 (i := 5) (by decide +kernel) rfl) ?_
        refine r_callVI mvX11_296 (ctX8_has v17 v15) (rcX8_has v17 v15) ⟨_, _, rfl⟩ (as := [vi v15]) (st := []) rfl rfl (by decide +kernel) rfl (Nat.le_of_ble_eq_true rfl) (Nat.le_of_ble_eq_true rfl) fun v18 s => ?_
        refine r_ifeq (off := 14) (tgt := 108) (by decide +kernel) (by decide) (fun h19 => ?_) (fun h19 => ?_)
        · refine r_p (pc' := 109) (p_iconst (n := -1) (v := -1) (by decide +kernel) rfl) ?_
          exact r_iret rfl rfl _ rfl rfl (by decide +kernel)
        · refine r_p (pc' := 98) (p_aload_n 2 (k := 0) (by decide +kernel) rfl) ?_
          refine r_p (pc' := 100) (p_iload 1 (i := 4) (by decide +kernel) rfl) ?_
          refine r_p (pc' := 102) (p_iload 0 (i := 5) (by decide +kernel) rfl) ?_
          refine r_callVI mvX11_299 (ctX11_marksThen a0 v5 v15) (rcX11_marksThen a0 v5 v15) ⟨_, _, rfl⟩ (as := [vi v5, vi v15]) (st := []) rfl rfl (by decide +kernel) rfl (Nat.le_of_ble_eq_true rfl) (Nat.le_of_ble_eq_true rfl) fun v20 s => ?_
          refine r_p (pc' := 109) (p_goto (off := 4) (tgt := 109) (by decide +kernel) (by decide)) ?_
          exact r_iret rfl rfl _ rfl rfl (by decide +kernel)
    · exact r_thrw thX11_285_105 rfl (Nat.le_of_ble_eq_true rfl) (Nat.le_of_ble_eq_true rfl) (by decide +kernel) (by decide +kernel) (by decide +kernel) (by decide +kernel) (by decide +kernel)
def aX11_mostAlike : StA := (RX11, cX11_mostAlike, 8, some .int, yX11_mostAlike, 10, [])
noncomputable def mX11_mostAlike_L16 (a0 : Nat) (a1 : Int32) (x1 : Int32 × Int32) (x6 : Int32 × Int32) : MM ((Int32 × Int32) ⊕ (Int32)) :=
  mbnd (gR 10 7 a0) fun (v10 : Nat) =>
  mbnd (gR 1 1 v10) fun (v11 : Nat) =>
  mbnd (gI 8 3 v11) fun (v12 : Int32) =>
  if v12 ≤ x6.2 then (
    mret (.inr x6.1)
  ) else (
    mbnd (gR 10 7 a0) fun (v14 : Nat) =>
    mbnd (mX1_markOf v14 x6.2) fun (v15 : Int32) =>
    mbnd (α := Int32) (
      if a1 = 0 then (
        mret (v15 - v15 / 10 * 10)
      ) else (
        mret (v15 / 10)
      )
    ) fun (x17 : Int32) =>
    mbnd (α := Int32) (
      if v15 = (-1) then (
        mret 0
      ) else (
        if x17 = x1.2 then (
          mret 1
        ) else (
          mret 0
        )
      )
    ) fun (x21 : Int32) =>
    mbnd (mret (x6.1 + x21)) fun (v25 : Int32) =>
    mret (.inl (v25, x6.2 + 1))
  )
noncomputable def mX11_mostAlike_L4 (a0 : Nat) (a1 : Int32) (x1 : Int32 × Int32) : MM ((Int32 × Int32) ⊕ (Int32)) :=
  if 9 < x1.2 then (
    mret (.inr x1.1)
  ) else (
    mbnd (loopM (mX11_mostAlike_L16 a0 a1 x1) (0, 0)) fun (e26 : Int32) =>
    mbnd (mret (imax x1.1 e26)) fun (v27 : Int32) =>
    mret (.inl (v27, x1.2 + 1))
  )
noncomputable def mX11_mostAlike (a0 : Nat) (a1 : Int32) : MM Int32 := onC 10 a0 (
  mbnd (loopM (mX11_mostAlike_L4 a0 a1) (0, 0)) fun (e28 : Int32) =>
  mret e28
  )
theorem rcX11_mostAlike (a0 : Nat) (a1 : Int32) : Rcv 10 a0 (mX11_mostAlike a0 a1) := fun s r h => ⟨(onC_some h).1, (onC_some h).2.1⟩
set_option maxHeartbeats 4000000 in
set_option maxRecDepth 100000 in
theorem ctX11_mostAlike (a0 : Nat) (a1 : Int32) : Ct aX11_mostAlike [vr a0, vi a1] (mX11_mostAlike a0 a1) rI := by
  unfold mX11_mostAlike
  refine ct_onC (ct_intro (by decide +kernel) rfl (Nat.le_of_ble_eq_true rfl) fun Y s => ?_)
  refine r_sub (lv' := [(0, vr a0), (1, vi a1)]) [0, 1] rfl ?_
  refine r_p (pc' := 1) (p_iconst (n := 0) (v := 0) (by decide +kernel) rfl) ?_
  refine r_p (pc' := 2) (p_istore_n (k := 2) (lv' := [(2, vi 0), (0, vr a0), (1, vi a1)]) (by decide +kernel) (Nat.le_of_ble_eq_true rfl) rfl) ?_
  refine r_p (pc' := 3) (p_iconst (n := 0) (v := 0) (by decide +kernel) rfl) ?_
  refine r_p (pc' := 4) (p_istore_n (k := 3) (lv' := [(3, vi 0), (2, vi 0), (0, vr a0), (1, vi a1)]) (by decide +kernel) (Nat.le_of_ble_eq_true rfl) rfl) ?_
  refine r_sub (lv' := [(0, vr a0), (1, vi a1), (2, vi 0), (3, vi 0)]) [2, 3, 1, 0] rfl ?_
  refine r_loop2 (fun _ => 102) (fun (e28 : Int32) => [(2, vi e28)]) (fun (x1 : Int32 × Int32) => [(0, vr a0), (1, vi a1), (2, vi x1.1), (3, vi x1.2)]) (fun e28 s => ?_) (fun K2 hb3 he4 x1 s => ?_) (0, 0) _
  · refine r_p (pc' := 103) (p_iload_n 0 (k := 2) (by decide +kernel) rfl) ?_
    exact r_iret rfl rfl _ rfl rfl (by decide +kernel)
  · unfold mX11_mostAlike_L4
    refine r_p (pc' := 5) (p_iload_n 3 (k := 3) (by decide +kernel) rfl) ?_
    refine r_p (pc' := 7) (p_bipush (n := 9) (v := 9) (by decide +kernel) (by decide +kernel)) ?_
    refine r_icmpgt (off := 95) (tgt := 102) (by decide +kernel) (by decide) (fun h5 => ?_) (fun h5 => ?_)
    · refine r_sub (lv' := [(2, vi x1.1)]) [2] rfl ?_
      exact he4 x1.1 _
    · refine r_p (pc' := 11) (p_iconst (n := 0) (v := 0) (by decide +kernel) rfl) ?_
      refine r_p (pc' := 13) (p_istore (i := 4) (lv' := [(4, vi 0), (0, vr a0), (1, vi a1), (2, vi x1.1), (3, vi x1.2)]) (by decide +kernel) (Nat.le_of_ble_eq_true rfl) rfl) ?_
      refine r_p (pc' := 14) (p_iconst (n := 0) (v := 0) (by decide +kernel) rfl) ?_
      refine r_p (pc' := 16) (p_istore (i := 5) (lv' := [(5, vi 0), (4, vi 0), (0, vr a0), (1, vi a1), (2, vi x1.1), (3, vi x1.2)]) (by decide +kernel) (Nat.le_of_ble_eq_true rfl) rfl) ?_
      refine r_sub (lv' := [(0, vr a0), (1, vi a1), (2, vi x1.1), (3, vi x1.2), (4, vi 0), (5, vi 0)]) [2, 3, 4, 5, 1, 0] rfl ?_
      refine r_loop2 (fun _ => 89) (fun (e26 : Int32) => [(0, vr a0), (1, vi a1), (2, vi x1.1), (3, vi x1.2), (4, vi e26)]) (fun (x6 : Int32 × Int32) => [(0, vr a0), (1, vi a1), (2, vi x1.1), (3, vi x1.2), (4, vi x6.1), (5, vi x6.2)]) (fun e26 s => ?_) (fun K7 hb8 he9 x6 s => ?_) (0, 0) _
      · refine r_p (pc' := 90) (p_iload_n 2 (k := 2) (by decide +kernel) rfl) ?_
        refine r_p (pc' := 92) (p_iload 4 (i := 4) (by decide +kernel) rfl) ?_
        refine r_p (pc' := 95) (p_max (idx := 251) (tblG_of 605 (by decide +kernel) (by decide +kernel)) (Nat.le_of_ble_eq_true rfl) (Nat.le_of_ble_eq_true rfl) (by decide +kernel)) ?_
        refine r_letI fun v27 => ?_
        refine r_p (pc' := 96) (p_istore_n (k := 2) (lv' := [(2, vi v27), (0, vr a0), (1, vi a1), (3, vi x1.2), (4, vi e26)]) (by decide +kernel) (Nat.le_of_ble_eq_true rfl) rfl) ?_
        refine r_p (pc' := 99) (p_iinc 3 (i := 3) (n := 1) (x := x1.2) (v := x1.2 + 1) (lv' := [(3, vi (x1.2 + 1)), (2, vi v27), (0, vr a0), (1, vi a1), (4, vi e26)]) (by decide +kernel) rfl rfl (Nat.le_of_ble_eq_true rfl) rfl) ?_
        refine r_p (pc' := 4) (p_goto (off := -95) (tgt := 4) (by decide +kernel) (by decide)) ?_
        refine r_sub (lv' := [(0, vr a0), (1, vi a1), (2, vi v27), (3, vi (x1.2 + 1))]) [2, 3, 1, 0] rfl ?_
        exact hb3 (v27, x1.2 + 1) _
      · unfold mX11_mostAlike_L16
        refine r_p (pc' := 18) (p_iload 5 (i := 5) (by decide +kernel) rfl) ?_
        refine r_p (pc' := 19) (p_aload_n 0 (k := 0) (by decide +kernel) rfl) ?_
        refine r_gR flX11_54_10 (by decide +kernel) fun v10 => ?_
        refine r_gR flX11_160_1 (by decide +kernel) fun v11 => ?_
        refine r_gI flX11_293_8 (by decide +kernel) fun v12 => ?_
        refine r_icmpge (off := 61) (tgt := 89) (by decide +kernel) (by decide) (fun h13 => ?_) (fun h13 => ?_)
        · refine r_sub (lv' := [(0, vr a0), (1, vi a1), (2, vi x1.1), (3, vi x1.2), (4, vi x6.1)]) [0, 1, 2, 3, 4] rfl ?_
          exact he9 x6.1 _
        · refine r_p (pc' := 32) (p_aload_n 0 (k := 0) (by decide +kernel) rfl) ?_
          refine r_gR flX11_54_10 (by decide +kernel) fun v14 => ?_
          refine r_p (pc' := 37) (p_iload 5 (i := 5) (by decide +kernel) rfl) ?_
          refine r_callVI mvX11_444 (ctX1_markOf v14 x6.2) (rcX1_markOf v14 x6.2) ⟨_, _, rfl⟩ (as := [vi x6.2]) (st := []) rfl rfl (by decide +kernel) rfl (Nat.le_of_ble_eq_true rfl) (Nat.le_of_ble_eq_true rfl) fun v15 s => ?_
          refine r_p (pc' := 42) (p_istore (i := 6) (lv' := [(6, vi v15), (0, vr a0), (1, vi a1), (2, vi x1.1), (3, vi x1.2), (4, vi x6.1), (5, vi x6.2)]) (by decide +kernel) (Nat.le_of_ble_eq_true rfl) rfl) ?_
          refine r_p (pc' := 43) (p_iload_n 2 (k := 1) (by decide +kernel) rfl) ?_
          refine r_join 59 (fun (x17 : Int32) => [(0, vr a0), (1, vi a1), (2, vi x1.1), (3, vi x1.2), (4, vi x6.1), (5, vi x6.2), (6, vi v15)]) (fun (x17 : Int32) => [vi x17]) (fun x17 s => ?_) (fun K18 hj19 => ?_)
          · refine r_p (pc' := 61) (p_istore (i := 7) (lv' := [(7, vi x17), (0, vr a0), (1, vi a1), (2, vi x1.1), (3, vi x1.2), (4, vi x6.1), (5, vi x6.2), (6, vi v15)]) (by decide +kernel) (Nat.le_of_ble_eq_true rfl) rfl) ?_
            refine r_p (pc' := 63) (p_iload 5 (i := 4) (by decide +kernel) rfl) ?_
            refine r_p (pc' := 65) (p_iload 7 (i := 6) (by decide +kernel) rfl) ?_
            refine r_p (pc' := 66) (p_iconst (n := -1) (v := -1) (by decide +kernel) rfl) ?_
            refine r_join 80 (fun (x21 : Int32) => [(0, vr a0), (1, vi a1), (2, vi x1.1), (3, vi x1.2), (5, vi x6.2)]) (fun (x21 : Int32) => [vi x21, vi x6.1]) (fun x21 s => ?_) (fun K22 hj23 => ?_)
            · refine r_p (pc' := 81) (p_iadd (by decide +kernel)) ?_
              refine r_letI fun v25 => ?_
              refine r_p (pc' := 83) (p_istore (i := 4) (lv' := [(4, vi v25), (0, vr a0), (1, vi a1), (2, vi x1.1), (3, vi x1.2), (5, vi x6.2)]) (by decide +kernel) (Nat.le_of_ble_eq_true rfl) rfl) ?_
              refine r_p (pc' := 86) (p_iinc 5 (i := 5) (n := 1) (x := x6.2) (v := x6.2 + 1) (lv' := [(5, vi (x6.2 + 1)), (4, vi v25), (0, vr a0), (1, vi a1), (2, vi x1.1), (3, vi x1.2)]) (by decide +kernel) rfl rfl (Nat.le_of_ble_eq_true rfl) rfl) ?_
              refine r_p (pc' := 16) (p_goto (off := -70) (tgt := 16) (by decide +kernel) (by decide)) ?_
              refine r_sub (lv' := [(0, vr a0), (1, vi a1), (2, vi x1.1), (3, vi x1.2), (4, vi v25), (5, vi (x6.2 + 1))]) [2, 3, 4, 5, 1, 0] rfl ?_
              exact hb8 (v25, x6.2 + 1) _
            · refine r_icmpeq (off := 13) (tgt := 79) (by decide +kernel) (by decide) (fun h20 => ?_) (fun h20 => ?_)
              · refine r_p (pc' := 80) (p_iconst (n := 0) (v := 0) (by decide +kernel) rfl) ?_
                refine r_sub (lv' := [(0, vr a0), (1, vi a1), (2, vi x1.1), (3, vi x1.2), (5, vi x6.2)]) [1, 2, 3, 4, 6] rfl ?_
                exact hj23 0 _
              · refine r_p (pc' := 71) (p_iload 0 (i := 7) (by decide +kernel) rfl) ?_
                refine r_p (pc' := 72) (p_iload_n 4 (k := 3) (by decide +kernel) rfl) ?_
                refine r_icmpne (off := 7) (tgt := 79) (by decide +kernel) (by decide) (fun h24 => ?_) (fun h24 => ?_)
                · refine r_p (pc' := 76) (p_iconst (n := 1) (v := 1) (by decide +kernel) rfl) ?_
                  refine r_p (pc' := 80) (p_goto (off := 4) (tgt := 80) (by decide +kernel) (by decide)) ?_
                  refine r_sub (lv' := [(0, vr a0), (1, vi a1), (2, vi x1.1), (3, vi x1.2), (5, vi x6.2)]) [1, 2, 3, 4, 6] rfl ?_
                  exact hj23 1 _
                · refine r_p (pc' := 80) (p_iconst (n := 0) (v := 0) (by decide +kernel) rfl) ?_
                  refine r_sub (lv' := [(0, vr a0), (1, vi a1), (2, vi x1.1), (3, vi x1.2), (5, vi x6.2)]) [1, 2, 3, 4, 6] rfl ?_
                  exact hj23 0 _
          · refine r_ifeq (off := 11) (tgt := 54) (by decide +kernel) (by decide) (fun h16 => ?_) (fun h16 => ?_)
            · refine r_p (pc' := 56) (p_iload 0 (i := 6) (by decide +kernel) rfl) ?_
              refine r_p (pc' := 58) (p_bipush (n := 10) (v := 10) (by decide +kernel) (by decide +kernel)) ?_
              refine r_p (pc' := 59) (p_irem (by decide +kernel) (by decide)) ?_
              refine r_sub (lv' := [(0, vr a0), (1, vi a1), (2, vi x1.1), (3, vi x1.2), (4, vi x6.1), (5, vi x6.2), (6, vi v15)]) [1, 2, 3, 4, 5, 6, 0] rfl ?_
              exact hj19 (v15 - v15 / 10 * 10) _
            · refine r_p (pc' := 48) (p_iload 0 (i := 6) (by decide +kernel) rfl) ?_
              refine r_p (pc' := 50) (p_bipush (n := 10) (v := 10) (by decide +kernel) (by decide +kernel)) ?_
              refine r_p (pc' := 51) (p_idiv (by decide +kernel) (by decide)) ?_
              refine r_p (pc' := 59) (p_goto (off := 8) (tgt := 59) (by decide +kernel) (by decide)) ?_
              refine r_sub (lv' := [(0, vr a0), (1, vi a1), (2, vi x1.1), (3, vi x1.2), (4, vi x6.1), (5, vi x6.2), (6, vi v15)]) [1, 2, 3, 4, 5, 6, 0] rfl ?_
              exact hj19 (v15 / 10) _
def aX11_ask : StA := (RX11, cX11_ask, 4, some .int, yX11_ask, 11, [])
theorem mvX11_302 : MV RX11 302 aX11_mostAlike 1 := ⟨tblG_of 597 (by decide +kernel) (by decide +kernel), tblG_of 599 (by decide +kernel) (by decide +kernel), tblG_of 0 (by decide +kernel) (by decide +kernel), tblG_of 144 (by decide +kernel) (by decide +kernel), tblG_of 600 (by decide +kernel) (by decide +kernel), rfl, ⟨by decide, by decide⟩, by decide +kernel, by decide⟩
noncomputable def mX11_ask (a0 : Nat) (a1 : Int32) : MM Int32 := onC 10 a0 (
  mbnd (mX11_mostAlike a0 1) fun (v1 : Int32) =>
  mbnd (mX11_mostAlike a0 0) fun (v2 : Int32) =>
  if a1 = 0 then (
    if v1 ≤ v2 then (
      mret 0
    ) else (
      mret 1
    )
  ) else (
    mret (imin v1 v2)
  )
  )
theorem rcX11_ask (a0 : Nat) (a1 : Int32) : Rcv 10 a0 (mX11_ask a0 a1) := fun s r h => ⟨(onC_some h).1, (onC_some h).2.1⟩
set_option maxHeartbeats 4000000 in
set_option maxRecDepth 100000 in
theorem ctX11_ask (a0 : Nat) (a1 : Int32) : Ct aX11_ask [vr a0, vi a1] (mX11_ask a0 a1) rI := by
  unfold mX11_ask
  refine ct_onC (ct_intro (by decide +kernel) rfl (Nat.le_of_ble_eq_true rfl) fun Y s => ?_)
  refine r_sub (lv' := [(0, vr a0), (1, vi a1)]) [0, 1] rfl ?_
  refine r_p (pc' := 1) (p_aload_n 0 (k := 0) (by decide +kernel) rfl) ?_
  refine r_p (pc' := 2) (p_iconst (n := 1) (v := 1) (by decide +kernel) rfl) ?_
  refine r_callVI mvX11_302 (ctX11_mostAlike a0 1) (rcX11_mostAlike a0 1) ⟨_, _, rfl⟩ (as := [vi 1]) (st := []) rfl rfl (by decide +kernel) rfl (Nat.le_of_ble_eq_true rfl) (Nat.le_of_ble_eq_true rfl) fun v1 s => ?_
  refine r_p (pc' := 6) (p_istore_n (k := 2) (lv' := [(2, vi v1), (0, vr a0), (1, vi a1)]) (by decide +kernel) (Nat.le_of_ble_eq_true rfl) rfl) ?_
  refine r_p (pc' := 7) (p_aload_n 1 (k := 0) (by decide +kernel) rfl) ?_
  refine r_p (pc' := 8) (p_iconst (n := 0) (v := 0) (by decide +kernel) rfl) ?_
  refine r_callVI mvX11_302 (ctX11_mostAlike a0 0) (rcX11_mostAlike a0 0) ⟨_, _, rfl⟩ (as := [vi 0]) (st := []) rfl rfl (by decide +kernel) rfl (Nat.le_of_ble_eq_true rfl) (Nat.le_of_ble_eq_true rfl) fun v2 s => ?_
  refine r_p (pc' := 12) (p_istore_n (k := 3) (lv' := [(3, vi v2), (2, vi v1), (0, vr a0), (1, vi a1)]) (by decide +kernel) (Nat.le_of_ble_eq_true rfl) rfl) ?_
  refine r_p (pc' := 13) (p_iload_n 3 (k := 1) (by decide +kernel) rfl) ?_
  refine r_ifeq (off := 9) (tgt := 22) (by decide +kernel) (by decide) (fun h3 => ?_) (fun h3 => ?_)
  · refine r_p (pc' := 23) (p_iload_n 0 (k := 3) (by decide +kernel) rfl) ?_
    refine r_p (pc' := 24) (p_iload_n 1 (k := 2) (by decide +kernel) rfl) ?_
    refine r_icmpge (off := 7) (tgt := 31) (by decide +kernel) (by decide) (fun h4 => ?_) (fun h4 => ?_)
    · refine r_p (pc' := 32) (p_iconst (n := 0) (v := 0) (by decide +kernel) rfl) ?_
      exact r_iret rfl rfl _ rfl rfl (by decide +kernel)
    · refine r_p (pc' := 28) (p_iconst (n := 1) (v := 1) (by decide +kernel) rfl) ?_
      refine r_p (pc' := 32) (p_goto (off := 4) (tgt := 32) (by decide +kernel) (by decide)) ?_
      exact r_iret rfl rfl _ rfl rfl (by decide +kernel)
  · refine r_p (pc' := 17) (p_iload_n 1 (k := 2) (by decide +kernel) rfl) ?_
    refine r_p (pc' := 18) (p_iload_n 0 (k := 3) (by decide +kernel) rfl) ?_
    refine r_p (pc' := 21) (p_min (idx := 306) (tblG_of 606 (by decide +kernel) (by decide +kernel)) (Nat.le_of_ble_eq_true rfl) (Nat.le_of_ble_eq_true rfl) (by decide +kernel)) ?_
    exact r_iret rfl rfl _ rfl rfl (by decide +kernel)
def aX11_laundered : StA := (RX11, cX11_laundered, 3, some .int, yX11_laundered, 15, [])
theorem flX11_26_10 : FL RX11 26 10 4 := ⟨_, TX11, 10, "ToolCourt", rfl, by decide, Or.inl (tblG_of 518 (by decide +kernel) (by decide +kernel)), Or.inl rfl⟩
theorem mvX11_309 : MV RX11 309 aX3_search 5 := ⟨tblG_of 616 (by decide +kernel) (by decide +kernel), tblG_of 617 (by decide +kernel) (by decide +kernel), tblG_of 618 (by decide +kernel) (by decide +kernel), tblG_of 147 (by decide +kernel) (by decide +kernel), tblG_of 619 (by decide +kernel) (by decide +kernel), rfl, ⟨by decide, by decide⟩, by decide +kernel, by decide⟩
theorem flX11_316_3 : FL RX11 316 3 3 := ⟨_, TX3, 5, "ToolCourt$Laundry", rfl, by decide, Or.inr ⟨"ToolCourt", List.mem_of_getElem? (i := 228) (by decide +kernel)⟩, Or.inl rfl⟩
theorem flX11_313_3 : FL RX11 313 3 4 := ⟨_, TX3, 5, "ToolCourt$Laundry", rfl, by decide, Or.inr ⟨"ToolCourt", List.mem_of_getElem? (i := 230) (by decide +kernel)⟩, Or.inl rfl⟩
noncomputable def mX11_laundered (a0 : Nat) (a1 : Int32) (a2 : Int32) : MM Int32 := onC 10 a0 (
  mbnd (mX11_needTool a0 a1) fun _ =>
  mbnd (gR 10 4 a0) fun (v1 : Nat) =>
  mbnd (gR 10 7 a0) fun (v2 : Nat) =>
  mbnd (gR 10 3 a0) fun (v3 : Nat) =>
  mbnd (mX3_search v1 v2 v3 a1 0 (-1)) fun _ =>
  if a2 = 0 then (
    mbnd (gR 10 4 a0) fun (v5 : Nat) =>
    mbnd (gI 3 3 v5) fun (v6 : Int32) =>
    mret v6
  ) else (
    mbnd (gR 10 4 a0) fun (v7 : Nat) =>
    mbnd (gI 3 4 v7) fun (v8 : Int32) =>
    mret v8
  )
  )
theorem rcX11_laundered (a0 : Nat) (a1 : Int32) (a2 : Int32) : Rcv 10 a0 (mX11_laundered a0 a1 a2) := fun s r h => ⟨(onC_some h).1, (onC_some h).2.1⟩
set_option maxHeartbeats 4000000 in
set_option maxRecDepth 100000 in
theorem ctX11_laundered (a0 : Nat) (a1 : Int32) (a2 : Int32) : Ct aX11_laundered [vr a0, vi a1, vi a2] (mX11_laundered a0 a1 a2) rI := by
  unfold mX11_laundered
  refine ct_onC (ct_intro (by decide +kernel) rfl (Nat.le_of_ble_eq_true rfl) fun Y s => ?_)
  refine r_sub (lv' := [(0, vr a0), (1, vi a1), (2, vi a2)]) [0, 1, 2] rfl ?_
  refine r_p (pc' := 1) (p_aload_n 0 (k := 0) (by decide +kernel) rfl) ?_
  refine r_p (pc' := 2) (p_iload_n 1 (k := 1) (by decide +kernel) rfl) ?_
  refine r_callVU mvX11_157 (ctX11_needTool a0 a1) (rcX11_needTool a0 a1) ⟨_, _, rfl⟩ (as := [vi a1]) (st := []) rfl rfl (by decide +kernel) rfl (Nat.le_of_ble_eq_true rfl) (Nat.le_of_ble_eq_true rfl) fun s => ?_
  refine r_p (pc' := 6) (p_aload_n 0 (k := 0) (by decide +kernel) rfl) ?_
  refine r_gR flX11_26_10 (by decide +kernel) fun v1 => ?_
  refine r_p (pc' := 10) (p_aload_n 0 (k := 0) (by decide +kernel) rfl) ?_
  refine r_gR flX11_54_10 (by decide +kernel) fun v2 => ?_
  refine r_p (pc' := 14) (p_aload_n 0 (k := 0) (by decide +kernel) rfl) ?_
  refine r_gR flX11_19_10 (by decide +kernel) fun v3 => ?_
  refine r_p (pc' := 18) (p_iload_n 1 (k := 1) (by decide +kernel) rfl) ?_
  refine r_p (pc' := 19) (p_iconst (n := 0) (v := 0) (by decide +kernel) rfl) ?_
  refine r_p (pc' := 20) (p_iconst (n := -1) (v := -1) (by decide +kernel) rfl) ?_
  refine r_callVU mvX11_309 (ctX3_search v1 v2 v3 a1 0 (-1)) (rcX3_search v1 v2 v3 a1 0 (-1)) ⟨_, _, rfl⟩ (as := [vr v2, vr v3, vi a1, vi 0, vi (-1)]) (st := []) rfl rfl (by decide +kernel) rfl (Nat.le_of_ble_eq_true rfl) (Nat.le_of_ble_eq_true rfl) fun s => ?_
  refine r_p (pc' := 24) (p_iload_n 2 (k := 2) (by decide +kernel) rfl) ?_
  refine r_ifeq (off := 13) (tgt := 37) (by decide +kernel) (by decide) (fun h4 => ?_) (fun h4 => ?_)
  · refine r_p (pc' := 38) (p_aload_n 0 (k := 0) (by decide +kernel) rfl) ?_
    refine r_gR flX11_26_10 (by decide +kernel) fun v5 => ?_
    refine r_gI flX11_316_3 (by decide +kernel) fun v6 => ?_
    exact r_iret rfl rfl _ rfl rfl (by decide +kernel)
  · refine r_p (pc' := 28) (p_aload_n 0 (k := 0) (by decide +kernel) rfl) ?_
    refine r_gR flX11_26_10 (by decide +kernel) fun v7 => ?_
    refine r_gI flX11_313_3 (by decide +kernel) fun v8 => ?_
    refine r_p (pc' := 44) (p_goto (off := 10) (tgt := 44) (by decide +kernel) (by decide)) ?_
    exact r_iret rfl rfl _ rfl rfl (by decide +kernel)
def aX11_guard : StA := (RX11, cX11_guard, 4, some .int, yX11_guard, 15, [])
noncomputable def mX11_guard_L39 (a0 : Nat) (a1 : Int32) (x7 : Int32 × Int32) : MM ((Int32 × Int32) ⊕ (Int32)) :=
  if 3 ≤ x7.2 then (
    mret (.inr x7.1)
  ) else (
    mbnd (gR 10 4 a0) fun (v12 : Nat) =>
    mbnd (gR 10 7 a0) fun (v13 : Nat) =>
    mbnd (gR 10 3 a0) fun (v14 : Nat) =>
    mbnd (mX3_search v12 v13 v14 a1 (1 <<< (x7.2 &&& (31 : Int32))) (-1)) fun _ =>
    mbnd (gR 10 4 a0) fun (v15 : Nat) =>
    mbnd (gI 3 3 v15) fun (v16 : Int32) =>
    mbnd (α := Int32) (
      if v16 = (-1) then (
        mbnd (mret (x7.1 ||| (1 <<< (x7.2 &&& (31 : Int32))))) fun (v21 : Int32) =>
        mret v21
      ) else (
        mret x7.1
      )
    ) fun (x18 : Int32) =>
    mret (.inl (x18, x7.2 + 1))
  )
noncomputable def mX11_guard (a0 : Nat) (a1 : Int32) : MM Int32 := onC 10 a0 (
  mbnd (mX11_needTool a0 a1) fun _ =>
  mbnd (gR 10 4 a0) fun (v1 : Nat) =>
  mbnd (gR 10 7 a0) fun (v2 : Nat) =>
  mbnd (gR 10 3 a0) fun (v3 : Nat) =>
  mbnd (mX3_search v1 v2 v3 a1 0 (-1)) fun _ =>
  mbnd (gR 10 4 a0) fun (v4 : Nat) =>
  mbnd (gI 3 3 v4) fun (v5 : Int32) =>
  if 0 < v5 then (
    mbnd (loopM (mX11_guard_L39 a0 a1) (0, 0)) fun (e22 : Int32) =>
    mret e22
  ) else (
    mret 0
  )
  )
theorem rcX11_guard (a0 : Nat) (a1 : Int32) : Rcv 10 a0 (mX11_guard a0 a1) := fun s r h => ⟨(onC_some h).1, (onC_some h).2.1⟩
set_option maxHeartbeats 4000000 in
set_option maxRecDepth 100000 in
theorem ctX11_guard (a0 : Nat) (a1 : Int32) : Ct aX11_guard [vr a0, vi a1] (mX11_guard a0 a1) rI := by
  unfold mX11_guard
  refine ct_onC (ct_intro (by decide +kernel) rfl (Nat.le_of_ble_eq_true rfl) fun Y s => ?_)
  refine r_sub (lv' := [(0, vr a0), (1, vi a1)]) [0, 1] rfl ?_
  refine r_p (pc' := 1) (p_aload_n 0 (k := 0) (by decide +kernel) rfl) ?_
  refine r_p (pc' := 2) (p_iload_n 1 (k := 1) (by decide +kernel) rfl) ?_
  refine r_callVU mvX11_157 (ctX11_needTool a0 a1) (rcX11_needTool a0 a1) ⟨_, _, rfl⟩ (as := [vi a1]) (st := []) rfl rfl (by decide +kernel) rfl (Nat.le_of_ble_eq_true rfl) (Nat.le_of_ble_eq_true rfl) fun s => ?_
  refine r_p (pc' := 6) (p_aload_n 0 (k := 0) (by decide +kernel) rfl) ?_
  refine r_gR flX11_26_10 (by decide +kernel) fun v1 => ?_
  refine r_p (pc' := 10) (p_aload_n 0 (k := 0) (by decide +kernel) rfl) ?_
  refine r_gR flX11_54_10 (by decide +kernel) fun v2 => ?_
  refine r_p (pc' := 14) (p_aload_n 0 (k := 0) (by decide +kernel) rfl) ?_
  refine r_gR flX11_19_10 (by decide +kernel) fun v3 => ?_
  refine r_p (pc' := 18) (p_iload_n 1 (k := 1) (by decide +kernel) rfl) ?_
  refine r_p (pc' := 19) (p_iconst (n := 0) (v := 0) (by decide +kernel) rfl) ?_
  refine r_p (pc' := 20) (p_iconst (n := -1) (v := -1) (by decide +kernel) rfl) ?_
  refine r_callVU mvX11_309 (ctX3_search v1 v2 v3 a1 0 (-1)) (rcX3_search v1 v2 v3 a1 0 (-1)) ⟨_, _, rfl⟩ (as := [vr v2, vr v3, vi a1, vi 0, vi (-1)]) (st := []) rfl rfl (by decide +kernel) rfl (Nat.le_of_ble_eq_true rfl) (Nat.le_of_ble_eq_true rfl) fun s => ?_
  refine r_p (pc' := 24) (p_aload_n 0 (k := 0) (by decide +kernel) rfl) ?_
  refine r_gR flX11_26_10 (by decide +kernel) fun v4 => ?_
  refine r_gI flX11_316_3 (by decide +kernel) fun v5 => ?_
  refine r_ifgt (off := 5) (tgt := 35) (by decide +kernel) (by decide) (fun h6 => ?_) (fun h6 => ?_)
  · refine r_p (pc' := 36) (p_iconst (n := 0) (v := 0) (by decide +kernel) rfl) ?_
    refine r_p (pc' := 37) (p_istore_n (k := 2) (lv' := [(2, vi 0), (0, vr a0), (1, vi a1)]) (by decide +kernel) (Nat.le_of_ble_eq_true rfl) rfl) ?_
    refine r_p (pc' := 38) (p_iconst (n := 0) (v := 0) (by decide +kernel) rfl) ?_
    refine r_p (pc' := 39) (p_istore_n (k := 3) (lv' := [(3, vi 0), (2, vi 0), (0, vr a0), (1, vi a1)]) (by decide +kernel) (Nat.le_of_ble_eq_true rfl) rfl) ?_
    refine r_sub (lv' := [(0, vr a0), (1, vi a1), (2, vi 0), (3, vi 0)]) [2, 3, 1, 0] rfl ?_
    refine r_loop2 (fun _ => 87) (fun (e22 : Int32) => [(2, vi e22)]) (fun (x7 : Int32 × Int32) => [(0, vr a0), (1, vi a1), (2, vi x7.1), (3, vi x7.2)]) (fun e22 s => ?_) (fun K8 hb9 he10 x7 s => ?_) (0, 0) _
    · refine r_p (pc' := 88) (p_iload_n 0 (k := 2) (by decide +kernel) rfl) ?_
      exact r_iret rfl rfl _ rfl rfl (by decide +kernel)
    · unfold mX11_guard_L39
      refine r_p (pc' := 40) (p_iload_n 3 (k := 3) (by decide +kernel) rfl) ?_
      refine r_p (pc' := 41) (p_iconst (n := 3) (v := 3) (by decide +kernel) rfl) ?_
      refine r_icmpge (off := 46) (tgt := 87) (by decide +kernel) (by decide) (fun h11 => ?_) (fun h11 => ?_)
      · refine r_sub (lv' := [(2, vi x7.1)]) [2] rfl ?_
        exact he10 x7.1 _
      · refine r_p (pc' := 45) (p_aload_n 0 (k := 0) (by decide +kernel) rfl) ?_
        refine r_gR flX11_26_10 (by decide +kernel) fun v12 => ?_
        refine r_p (pc' := 49) (p_aload_n 0 (k := 0) (by decide +kernel) rfl) ?_
        refine r_gR flX11_54_10 (by decide +kernel) fun v13 => ?_
        refine r_p (pc' := 53) (p_aload_n 0 (k := 0) (by decide +kernel) rfl) ?_
        refine r_gR flX11_19_10 (by decide +kernel) fun v14 => ?_
        refine r_p (pc' := 57) (p_iload_n 1 (k := 1) (by decide +kernel) rfl) ?_
        refine r_p (pc' := 58) (p_iconst (n := 1) (v := 1) (by decide +kernel) rfl) ?_
        refine r_p (pc' := 59) (p_iload_n 3 (k := 3) (by decide +kernel) rfl) ?_
        refine r_p (pc' := 60) (p_ishl (by decide +kernel)) ?_
        refine r_p (pc' := 61) (p_iconst (n := -1) (v := -1) (by decide +kernel) rfl) ?_
        refine r_callVU mvX11_309 (ctX3_search v12 v13 v14 a1 (1 <<< (x7.2 &&& (31 : Int32))) (-1)) (rcX3_search v12 v13 v14 a1 (1 <<< (x7.2 &&& (31 : Int32))) (-1)) ⟨_, _, rfl⟩ (as := [vr v13, vr v14, vi a1, vi (1 <<< (x7.2 &&& (31 : Int32))), vi (-1)]) (st := []) rfl rfl (by decide +kernel) rfl (Nat.le_of_ble_eq_true rfl) (Nat.le_of_ble_eq_true rfl) fun s => ?_
        refine r_p (pc' := 65) (p_aload_n 0 (k := 0) (by decide +kernel) rfl) ?_
        refine r_gR flX11_26_10 (by decide +kernel) fun v15 => ?_
        refine r_gI flX11_316_3 (by decide +kernel) fun v16 => ?_
        refine r_p (pc' := 72) (p_iconst (n := -1) (v := -1) (by decide +kernel) rfl) ?_
        refine r_join 81 (fun (x18 : Int32) => [(0, vr a0), (1, vi a1), (2, vi x18), (3, vi x7.2)]) (fun (x18 : Int32) => []) (fun x18 s => ?_) (fun K19 hj20 => ?_)
        · refine r_p (pc' := 84) (p_iinc 3 (i := 3) (n := 1) (x := x7.2) (v := x7.2 + 1) (lv' := [(3, vi (x7.2 + 1)), (0, vr a0), (1, vi a1), (2, vi x18)]) (by decide +kernel) rfl rfl (Nat.le_of_ble_eq_true rfl) rfl) ?_
          refine r_p (pc' := 39) (p_goto (off := -45) (tgt := 39) (by decide +kernel) (by decide)) ?_
          refine r_sub (lv' := [(0, vr a0), (1, vi a1), (2, vi x18), (3, vi (x7.2 + 1))]) [1, 2, 3, 0] rfl ?_
          exact hb9 (x18, x7.2 + 1) _
        · refine r_icmpne (off := 9) (tgt := 81) (by decide +kernel) (by decide) (fun h17 => ?_) (fun h17 => ?_)
          · refine r_p (pc' := 76) (p_iload_n 2 (k := 2) (by decide +kernel) rfl) ?_
            refine r_p (pc' := 77) (p_iconst (n := 1) (v := 1) (by decide +kernel) rfl) ?_
            refine r_p (pc' := 78) (p_iload_n 3 (k := 3) (by decide +kernel) rfl) ?_
            refine r_p (pc' := 79) (p_ishl (by decide +kernel)) ?_
            refine r_p (pc' := 80) (p_ior (by decide +kernel)) ?_
            refine r_letI fun v21 => ?_
            refine r_p (pc' := 81) (p_istore_n (k := 2) (lv' := [(2, vi v21), (0, vr a0), (1, vi a1), (3, vi x7.2)]) (by decide +kernel) (Nat.le_of_ble_eq_true rfl) rfl) ?_
            refine r_sub (lv' := [(0, vr a0), (1, vi a1), (2, vi v21), (3, vi x7.2)]) [1, 2, 0, 3] rfl ?_
            exact hj20 v21 _
          · exact hj20 x7.1 _
  · refine r_p (pc' := 34) (p_iconst (n := 0) (v := 0) (by decide +kernel) rfl) ?_
    exact r_iret rfl rfl _ rfl rfl (by decide +kernel)
def aX11_word : StA := (RX11, cX11_word, 6, some .int, yX11_word, 15, [])
noncomputable def mX11_word_L13 (a0 : Nat) (a1 : Int32) (x1 : Int32 × Int32 × Int32) : MM ((Int32 × Int32 × Int32) ⊕ (Int32)) :=
  if 100 < x1.2.2 then (
    mret (.inr x1.1)
  ) else (
    if x1.2.1 ≤ x1.1 then (
      mret (.inr x1.1)
    ) else (
      mbnd (mret ((x1.1 + x1.2.1) / 2)) fun (v7 : Int32) =>
      mbnd (gR 10 4 a0) fun (v8 : Nat) =>
      mbnd (gR 10 7 a0) fun (v9 : Nat) =>
      mbnd (gR 10 3 a0) fun (v10 : Nat) =>
      mbnd (mX3_search v8 v9 v10 a1 0 v7) fun _ =>
      mbnd (gR 10 4 a0) fun (v11 : Nat) =>
      mbnd (gI 3 3 v11) fun (v12 : Int32) =>
      mbnd (α := Int32 × Int32) (
        if v12 = (-1) then (
          mret (x1.1, v7)
        ) else (
          mbnd (mret (v7 + 1)) fun (v17 : Int32) =>
          mret (v17, x1.2.1)
        )
      ) fun (x14 : Int32 × Int32) =>
      mret (.inl (x14.1, x14.2, x1.2.2 + 1))
    )
  )
noncomputable def mX11_word (a0 : Nat) (a1 : Int32) : MM Int32 := onC 10 a0 (
  mbnd (mX11_needTool a0 a1) fun _ =>
  mbnd (loopM (mX11_word_L13 a0 a1) (0, 101, 0)) fun (e18 : Int32) =>
  if e18 ≤ 100 then (
    mret e18
  ) else (
    mret (-1)
  )
  )
theorem rcX11_word (a0 : Nat) (a1 : Int32) : Rcv 10 a0 (mX11_word a0 a1) := fun s r h => ⟨(onC_some h).1, (onC_some h).2.1⟩
set_option maxHeartbeats 4000000 in
set_option maxRecDepth 100000 in
theorem ctX11_word (a0 : Nat) (a1 : Int32) : Ct aX11_word [vr a0, vi a1] (mX11_word a0 a1) rI := by
  unfold mX11_word
  refine ct_onC (ct_intro (by decide +kernel) rfl (Nat.le_of_ble_eq_true rfl) fun Y s => ?_)
  refine r_sub (lv' := [(0, vr a0), (1, vi a1)]) [0, 1] rfl ?_
  refine r_p (pc' := 1) (p_aload_n 0 (k := 0) (by decide +kernel) rfl) ?_
  refine r_p (pc' := 2) (p_iload_n 1 (k := 1) (by decide +kernel) rfl) ?_
  refine r_callVU mvX11_157 (ctX11_needTool a0 a1) (rcX11_needTool a0 a1) ⟨_, _, rfl⟩ (as := [vi a1]) (st := []) rfl rfl (by decide +kernel) rfl (Nat.le_of_ble_eq_true rfl) (Nat.le_of_ble_eq_true rfl) fun s => ?_
  refine r_p (pc' := 6) (p_iconst (n := 0) (v := 0) (by decide +kernel) rfl) ?_
  refine r_p (pc' := 7) (p_istore_n (k := 2) (lv' := [(2, vi 0), (0, vr a0), (1, vi a1)]) (by decide +kernel) (Nat.le_of_ble_eq_true rfl) rfl) ?_
  refine r_p (pc' := 9) (p_bipush (n := 101) (v := 101) (by decide +kernel) (by decide +kernel)) ?_
  refine r_p (pc' := 10) (p_istore_n (k := 3) (lv' := [(3, vi 101), (2, vi 0), (0, vr a0), (1, vi a1)]) (by decide +kernel) (Nat.le_of_ble_eq_true rfl) rfl) ?_
  refine r_p (pc' := 11) (p_iconst (n := 0) (v := 0) (by decide +kernel) rfl) ?_
  refine r_p (pc' := 13) (p_istore (i := 4) (lv' := [(4, vi 0), (3, vi 101), (2, vi 0), (0, vr a0), (1, vi a1)]) (by decide +kernel) (Nat.le_of_ble_eq_true rfl) rfl) ?_
  refine r_sub (lv' := [(0, vr a0), (1, vi a1), (2, vi 0), (3, vi 101), (4, vi 0)]) [3, 4, 2, 1, 0] rfl ?_
  refine r_loop2 (fun _ => 79) (fun (e18 : Int32) => [(2, vi e18)]) (fun (x1 : Int32 × Int32 × Int32) => [(0, vr a0), (1, vi a1), (2, vi x1.1), (3, vi x1.2.1), (4, vi x1.2.2)]) (fun e18 s => ?_) (fun K2 hb3 he4 x1 s => ?_) (0, 101, 0) _
  · refine r_p (pc' := 80) (p_iload_n 0 (k := 2) (by decide +kernel) rfl) ?_
    refine r_p (pc' := 82) (p_bipush (n := 100) (v := 100) (by decide +kernel) (by decide +kernel)) ?_
    refine r_icmple (off := 7) (tgt := 89) (by decide +kernel) (by decide) (fun h19 => ?_) (fun h19 => ?_)
    · refine r_p (pc' := 90) (p_iload_n 0 (k := 2) (by decide +kernel) rfl) ?_
      exact r_iret rfl rfl _ rfl rfl (by decide +kernel)
    · refine r_p (pc' := 86) (p_iconst (n := -1) (v := -1) (by decide +kernel) rfl) ?_
      refine r_p (pc' := 90) (p_goto (off := 4) (tgt := 90) (by decide +kernel) (by decide)) ?_
      exact r_iret rfl rfl _ rfl rfl (by decide +kernel)
  · unfold mX11_word_L13
    refine r_p (pc' := 15) (p_iload 4 (i := 4) (by decide +kernel) rfl) ?_
    refine r_p (pc' := 17) (p_bipush (n := 100) (v := 100) (by decide +kernel) (by decide +kernel)) ?_
    refine r_icmpgt (off := 62) (tgt := 79) (by decide +kernel) (by decide) (fun h5 => ?_) (fun h5 => ?_)
    · refine r_sub (lv' := [(2, vi x1.1)]) [2] rfl ?_
      exact he4 x1.1 _
    · refine r_p (pc' := 21) (p_iload_n 2 (k := 2) (by decide +kernel) rfl) ?_
      refine r_p (pc' := 22) (p_iload_n 3 (k := 3) (by decide +kernel) rfl) ?_
      refine r_icmpge (off := 57) (tgt := 79) (by decide +kernel) (by decide) (fun h6 => ?_) (fun h6 => ?_)
      · refine r_sub (lv' := [(2, vi x1.1)]) [2] rfl ?_
        exact he4 x1.1 _
      · refine r_p (pc' := 26) (p_iload_n 2 (k := 2) (by decide +kernel) rfl) ?_
        refine r_p (pc' := 27) (p_iload_n 3 (k := 3) (by decide +kernel) rfl) ?_
        refine r_p (pc' := 28) (p_iadd (by decide +kernel)) ?_
        refine r_p (pc' := 29) (p_iconst (n := 2) (v := 2) (by decide +kernel) rfl) ?_
        refine r_p (pc' := 30) (p_idiv (by decide +kernel) (by decide)) ?_
        refine r_letI fun v7 => ?_
        refine r_p (pc' := 32) (p_istore (i := 5) (lv' := [(5, vi v7), (0, vr a0), (1, vi a1), (2, vi x1.1), (3, vi x1.2.1), (4, vi x1.2.2)]) (by decide +kernel) (Nat.le_of_ble_eq_true rfl) rfl) ?_
        refine r_p (pc' := 33) (p_aload_n 1 (k := 0) (by decide +kernel) rfl) ?_
        refine r_gR flX11_26_10 (by decide +kernel) fun v8 => ?_
        refine r_p (pc' := 37) (p_aload_n 1 (k := 0) (by decide +kernel) rfl) ?_
        refine r_gR flX11_54_10 (by decide +kernel) fun v9 => ?_
        refine r_p (pc' := 41) (p_aload_n 1 (k := 0) (by decide +kernel) rfl) ?_
        refine r_gR flX11_19_10 (by decide +kernel) fun v10 => ?_
        refine r_p (pc' := 45) (p_iload_n 2 (k := 1) (by decide +kernel) rfl) ?_
        refine r_p (pc' := 46) (p_iconst (n := 0) (v := 0) (by decide +kernel) rfl) ?_
        refine r_p (pc' := 48) (p_iload 0 (i := 5) (by decide +kernel) rfl) ?_
        refine r_callVU mvX11_309 (ctX3_search v8 v9 v10 a1 0 v7) (rcX3_search v8 v9 v10 a1 0 v7) ⟨_, _, rfl⟩ (as := [vr v9, vr v10, vi a1, vi 0, vi v7]) (st := []) rfl rfl (by decide +kernel) rfl (Nat.le_of_ble_eq_true rfl) (Nat.le_of_ble_eq_true rfl) fun s => ?_
        refine r_p (pc' := 52) (p_aload_n 1 (k := 0) (by decide +kernel) rfl) ?_
        refine r_gR flX11_26_10 (by decide +kernel) fun v11 => ?_
        refine r_gI flX11_316_3 (by decide +kernel) fun v12 => ?_
        refine r_p (pc' := 59) (p_iconst (n := -1) (v := -1) (by decide +kernel) rfl) ?_
        refine r_join 73 (fun (x14 : Int32 × Int32) => [(0, vr a0), (1, vi a1), (2, vi x14.1), (3, vi x14.2), (4, vi x1.2.2)]) (fun (x14 : Int32 × Int32) => []) (fun x14 s => ?_) (fun K15 hj16 => ?_)
        · refine r_p (pc' := 76) (p_iinc 4 (i := 4) (n := 1) (x := x1.2.2) (v := x1.2.2 + 1) (lv' := [(4, vi (x1.2.2 + 1)), (0, vr a0), (1, vi a1), (2, vi x14.1), (3, vi x14.2)]) (by decide +kernel) rfl rfl (Nat.le_of_ble_eq_true rfl) rfl) ?_
          refine r_p (pc' := 13) (p_goto (off := -63) (tgt := 13) (by decide +kernel) (by decide)) ?_
          refine r_sub (lv' := [(0, vr a0), (1, vi a1), (2, vi x14.1), (3, vi x14.2), (4, vi (x1.2.2 + 1))]) [1, 2, 3, 4, 0] rfl ?_
          exact hb3 (x14.1, x14.2, x1.2.2 + 1) _
        · refine r_icmpne (off := 9) (tgt := 68) (by decide +kernel) (by decide) (fun h13 => ?_) (fun h13 => ?_)
          · refine r_p (pc' := 64) (p_iload 0 (i := 5) (by decide +kernel) rfl) ?_
            refine r_p (pc' := 65) (p_istore_n (k := 3) (lv' := [(3, vi v7), (5, vi v7), (0, vr a0), (1, vi a1), (2, vi x1.1), (4, vi x1.2.2)]) (by decide +kernel) (Nat.le_of_ble_eq_true rfl) rfl) ?_
            refine r_p (pc' := 73) (p_goto (off := 8) (tgt := 73) (by decide +kernel) (by decide)) ?_
            refine r_sub (lv' := [(0, vr a0), (1, vi a1), (2, vi x1.1), (3, vi v7), (4, vi x1.2.2)]) [2, 3, 4, 0, 5] rfl ?_
            exact hj16 (x1.1, v7) _
          · refine r_p (pc' := 70) (p_iload 0 (i := 5) (by decide +kernel) rfl) ?_
            refine r_p (pc' := 71) (p_iconst (n := 1) (v := 1) (by decide +kernel) rfl) ?_
            refine r_p (pc' := 72) (p_iadd (by decide +kernel)) ?_
            refine r_letI fun v17 => ?_
            refine r_p (pc' := 73) (p_istore_n (k := 2) (lv' := [(2, vi v17), (5, vi v7), (0, vr a0), (1, vi a1), (3, vi x1.2.1), (4, vi x1.2.2)]) (by decide +kernel) (Nat.le_of_ble_eq_true rfl) rfl) ?_
            refine r_sub (lv' := [(0, vr a0), (1, vi a1), (2, vi v17), (3, vi x1.2.1), (4, vi x1.2.2)]) [2, 3, 0, 4, 5] rfl ?_
            exact hj16 (v17, x1.2.1) _
def aX11_clean : StA := (RX11, cX11_clean, 4, some .int, yX11_clean, 15, [])
theorem msX11_319 : MS RX11 319 aX11_inSet 2 := ⟨tblG_of 613 (by decide +kernel) (by decide +kernel), tblG_of 614 (by decide +kernel) (by decide +kernel), tblG_of 144 (by decide +kernel) (by decide +kernel), tblG_of 615 (by decide +kernel) (by decide +kernel), rfl, ⟨by decide, by decide⟩, by decide +kernel, by decide⟩
noncomputable def mX11_clean_L12 (a0 : Nat) (v2 : Int32) (x3 : Int32 × Int32) : MM ((Int32 × Int32) ⊕ (Int32)) :=
  mbnd (gR 10 7 a0) fun (v7 : Nat) =>
  mbnd (gR 1 1 v7) fun (v8 : Nat) =>
  mbnd (gI 8 3 v8) fun (v9 : Int32) =>
  if v9 ≤ x3.2 then (
    mret (.inr x3.1)
  ) else (
    mbnd (mX11_inSet v2 x3.2) fun (v11 : Int32) =>
    mbnd (α := Int32) (
      if v11 = 0 then (
        mret x3.1
      ) else (
        mbnd (gR 10 4 a0) fun (v16 : Nat) =>
        mbnd (gR 10 7 a0) fun (v17 : Nat) =>
        mbnd (gR 10 3 a0) fun (v18 : Nat) =>
        mbnd (mX3_search v16 v17 v18 x3.2 0 (-1)) fun _ =>
        mbnd (gR 10 4 a0) fun (v19 : Nat) =>
        mbnd (gI 3 3 v19) fun (v20 : Int32) =>
        mbnd (α := Int32) (
          if v20 = (-1) then (
            mret 0
          ) else (
            mret (1 <<< (x3.2 &&& (31 : Int32)))
          )
        ) fun (x22 : Int32) =>
        mbnd (mret (x3.1 ||| x22)) fun (v25 : Int32) =>
        mret v25
      )
    ) fun (x13 : Int32) =>
    mret (.inl (x13, x3.2 + 1))
  )
noncomputable def mX11_clean (a0 : Nat) : MM Int32 := onC 10 a0 (
  mbnd (gR 10 7 a0) fun (v1 : Nat) =>
  mbnd (mX1_guiltySet v1) fun (v2 : Int32) =>
  mbnd (loopM (mX11_clean_L12 a0 v2) (0, 0)) fun (e26 : Int32) =>
  mret e26
  )
theorem rcX11_clean (a0 : Nat) : Rcv 10 a0 (mX11_clean a0) := fun s r h => ⟨(onC_some h).1, (onC_some h).2.1⟩
set_option maxHeartbeats 4000000 in
set_option maxRecDepth 100000 in
theorem ctX11_clean (a0 : Nat) : Ct aX11_clean [vr a0] (mX11_clean a0) rI := by
  unfold mX11_clean
  refine ct_onC (ct_intro (by decide +kernel) rfl (Nat.le_of_ble_eq_true rfl) fun Y s => ?_)
  refine r_sub (lv' := [(0, vr a0)]) [0] rfl ?_
  refine r_p (pc' := 1) (p_aload_n 0 (k := 0) (by decide +kernel) rfl) ?_
  refine r_gR flX11_54_10 (by decide +kernel) fun v1 => ?_
  refine r_callVI mvX11_273 (ctX1_guiltySet v1) (rcX1_guiltySet v1) ⟨_, _, rfl⟩ (as := []) (st := []) rfl rfl (by decide +kernel) rfl (Nat.le_of_ble_eq_true rfl) (Nat.le_of_ble_eq_true rfl) fun v2 s => ?_
  refine r_p (pc' := 8) (p_istore_n (k := 1) (lv' := [(1, vi v2), (0, vr a0)]) (by decide +kernel) (Nat.le_of_ble_eq_true rfl) rfl) ?_
  refine r_p (pc' := 9) (p_iconst (n := 0) (v := 0) (by decide +kernel) rfl) ?_
  refine r_p (pc' := 10) (p_istore_n (k := 2) (lv' := [(2, vi 0), (1, vi v2), (0, vr a0)]) (by decide +kernel) (Nat.le_of_ble_eq_true rfl) rfl) ?_
  refine r_p (pc' := 11) (p_iconst (n := 0) (v := 0) (by decide +kernel) rfl) ?_
  refine r_p (pc' := 12) (p_istore_n (k := 3) (lv' := [(3, vi 0), (2, vi 0), (1, vi v2), (0, vr a0)]) (by decide +kernel) (Nat.le_of_ble_eq_true rfl) rfl) ?_
  refine r_sub (lv' := [(0, vr a0), (1, vi v2), (2, vi 0), (3, vi 0)]) [3, 2, 1, 0] rfl ?_
  refine r_loop2 (fun _ => 79) (fun (e26 : Int32) => [(2, vi e26)]) (fun (x3 : Int32 × Int32) => [(0, vr a0), (1, vi v2), (2, vi x3.1), (3, vi x3.2)]) (fun e26 s => ?_) (fun K4 hb5 he6 x3 s => ?_) (0, 0) _
  · refine r_p (pc' := 80) (p_iload_n 0 (k := 2) (by decide +kernel) rfl) ?_
    exact r_iret rfl rfl _ rfl rfl (by decide +kernel)
  · unfold mX11_clean_L12
    refine r_p (pc' := 13) (p_iload_n 3 (k := 3) (by decide +kernel) rfl) ?_
    refine r_p (pc' := 14) (p_aload_n 0 (k := 0) (by decide +kernel) rfl) ?_
    refine r_gR flX11_54_10 (by decide +kernel) fun v7 => ?_
    refine r_gR flX11_160_1 (by decide +kernel) fun v8 => ?_
    refine r_gI flX11_293_8 (by decide +kernel) fun v9 => ?_
    refine r_icmpge (off := 56) (tgt := 79) (by decide +kernel) (by decide) (fun h10 => ?_) (fun h10 => ?_)
    · refine r_sub (lv' := [(2, vi x3.1)]) [2] rfl ?_
      exact he6 x3.1 _
    · refine r_p (pc' := 27) (p_iload_n 1 (k := 1) (by decide +kernel) rfl) ?_
      refine r_p (pc' := 28) (p_iload_n 3 (k := 3) (by decide +kernel) rfl) ?_
      refine r_callSI msX11_319 (ctX11_inSet v2 x3.2) (as := [vi v2, vi x3.2]) (st := []) rfl rfl (by decide +kernel) rfl (Nat.le_of_ble_eq_true rfl) (Nat.le_of_ble_eq_true rfl) fun v11 s => ?_
      refine r_join 73 (fun (x13 : Int32) => [(0, vr a0), (1, vi v2), (2, vi x13), (3, vi x3.2)]) (fun (x13 : Int32) => []) (fun x13 s => ?_) (fun K14 hj15 => ?_)
      · refine r_p (pc' := 76) (p_iinc 3 (i := 3) (n := 1) (x := x3.2) (v := x3.2 + 1) (lv' := [(3, vi (x3.2 + 1)), (0, vr a0), (1, vi v2), (2, vi x13)]) (by decide +kernel) rfl rfl (Nat.le_of_ble_eq_true rfl) rfl) ?_
        refine r_p (pc' := 12) (p_goto (off := -64) (tgt := 12) (by decide +kernel) (by decide)) ?_
        refine r_sub (lv' := [(0, vr a0), (1, vi v2), (2, vi x13), (3, vi (x3.2 + 1))]) [1, 2, 3, 0] rfl ?_
        exact hb5 (x13, x3.2 + 1) _
      · refine r_ifeq (off := 42) (tgt := 73) (by decide +kernel) (by decide) (fun h12 => ?_) (fun h12 => ?_)
        · exact hj15 x3.1 _
        · refine r_p (pc' := 35) (p_aload_n 0 (k := 0) (by decide +kernel) rfl) ?_
          refine r_gR flX11_26_10 (by decide +kernel) fun v16 => ?_
          refine r_p (pc' := 39) (p_aload_n 0 (k := 0) (by decide +kernel) rfl) ?_
          refine r_gR flX11_54_10 (by decide +kernel) fun v17 => ?_
          refine r_p (pc' := 43) (p_aload_n 0 (k := 0) (by decide +kernel) rfl) ?_
          refine r_gR flX11_19_10 (by decide +kernel) fun v18 => ?_
          refine r_p (pc' := 47) (p_iload_n 3 (k := 3) (by decide +kernel) rfl) ?_
          refine r_p (pc' := 48) (p_iconst (n := 0) (v := 0) (by decide +kernel) rfl) ?_
          refine r_p (pc' := 49) (p_iconst (n := -1) (v := -1) (by decide +kernel) rfl) ?_
          refine r_callVU mvX11_309 (ctX3_search v16 v17 v18 x3.2 0 (-1)) (rcX3_search v16 v17 v18 x3.2 0 (-1)) ⟨_, _, rfl⟩ (as := [vr v17, vr v18, vi x3.2, vi 0, vi (-1)]) (st := []) rfl rfl (by decide +kernel) rfl (Nat.le_of_ble_eq_true rfl) (Nat.le_of_ble_eq_true rfl) fun s => ?_
          refine r_p (pc' := 53) (p_iload_n 2 (k := 2) (by decide +kernel) rfl) ?_
          refine r_p (pc' := 54) (p_aload_n 0 (k := 0) (by decide +kernel) rfl) ?_
          refine r_gR flX11_26_10 (by decide +kernel) fun v19 => ?_
          refine r_gI flX11_316_3 (by decide +kernel) fun v20 => ?_
          refine r_p (pc' := 61) (p_iconst (n := -1) (v := -1) (by decide +kernel) rfl) ?_
          refine r_join 71 (fun (x22 : Int32) => [(0, vr a0), (1, vi v2), (3, vi x3.2)]) (fun (x22 : Int32) => [vi x22, vi x3.1]) (fun x22 s => ?_) (fun K23 hj24 => ?_)
          · refine r_p (pc' := 72) (p_ior (by decide +kernel)) ?_
            refine r_letI fun v25 => ?_
            refine r_p (pc' := 73) (p_istore_n (k := 2) (lv' := [(2, vi v25), (0, vr a0), (1, vi v2), (3, vi x3.2)]) (by decide +kernel) (Nat.le_of_ble_eq_true rfl) rfl) ?_
            refine r_sub (lv' := [(0, vr a0), (1, vi v2), (2, vi v25), (3, vi x3.2)]) [1, 2, 0, 3] rfl ?_
            exact hj15 v25 _
          · refine r_icmpne (off := 7) (tgt := 68) (by decide +kernel) (by decide) (fun h21 => ?_) (fun h21 => ?_)
            · refine r_p (pc' := 65) (p_iconst (n := 0) (v := 0) (by decide +kernel) rfl) ?_
              refine r_p (pc' := 71) (p_goto (off := 6) (tgt := 71) (by decide +kernel) (by decide)) ?_
              refine r_sub (lv' := [(0, vr a0), (1, vi v2), (3, vi x3.2)]) [0, 1, 3] rfl ?_
              exact hj24 0 _
            · refine r_p (pc' := 69) (p_iconst (n := 1) (v := 1) (by decide +kernel) rfl) ?_
              refine r_p (pc' := 70) (p_iload_n 3 (k := 3) (by decide +kernel) rfl) ?_
              refine r_p (pc' := 71) (p_ishl (by decide +kernel)) ?_
              refine r_sub (lv' := [(0, vr a0), (1, vi v2), (3, vi x3.2)]) [0, 1, 3] rfl ?_
              exact hj24 (1 <<< (x3.2 &&& (31 : Int32))) _
def aX11_needTwoTools : StA := (RX11, cX11_needTwoTools, 3, none, yX11_needTwoTools, 10, [])
theorem thX11_422_105 : TH RX11 101 422 105 0 "both TOOLS are one" 24 := ⟨by decide +kernel, tblG_of 1052 (by decide +kernel) (by decide +kernel), tblG_of 166 (by decide +kernel) (by decide +kernel), by decide +kernel, by decide +kernel, by decide +kernel⟩
noncomputable def mX11_needTwoTools (a0 : Nat) (a1 : Int32) (a2 : Int32) : MM Unit := onC 10 a0 (
  mbnd (mX11_needTool a0 a1) fun _ =>
  mbnd (mX11_needTool a0 a2) fun _ =>
  if a1 = a2 then (
    mthr 0
  ) else (
    mret ()
  )
  )
theorem rcX11_needTwoTools (a0 : Nat) (a1 : Int32) (a2 : Int32) : Rcv 10 a0 (mX11_needTwoTools a0 a1 a2) := fun s r h => ⟨(onC_some h).1, (onC_some h).2.1⟩
set_option maxHeartbeats 4000000 in
set_option maxRecDepth 100000 in
theorem ctX11_needTwoTools (a0 : Nat) (a1 : Int32) (a2 : Int32) : Ct aX11_needTwoTools [vr a0, vi a1, vi a2] (mX11_needTwoTools a0 a1 a2) rU := by
  unfold mX11_needTwoTools
  refine ct_onC (ct_intro (by decide +kernel) rfl (Nat.le_of_ble_eq_true rfl) fun Y s => ?_)
  refine r_sub (lv' := [(0, vr a0), (1, vi a1), (2, vi a2)]) [0, 1, 2] rfl ?_
  refine r_p (pc' := 1) (p_aload_n 0 (k := 0) (by decide +kernel) rfl) ?_
  refine r_p (pc' := 2) (p_iload_n 1 (k := 1) (by decide +kernel) rfl) ?_
  refine r_callVU mvX11_157 (ctX11_needTool a0 a1) (rcX11_needTool a0 a1) ⟨_, _, rfl⟩ (as := [vi a1]) (st := []) rfl rfl (by decide +kernel) rfl (Nat.le_of_ble_eq_true rfl) (Nat.le_of_ble_eq_true rfl) fun s => ?_
  refine r_p (pc' := 6) (p_aload_n 0 (k := 0) (by decide +kernel) rfl) ?_
  refine r_p (pc' := 7) (p_iload_n 2 (k := 2) (by decide +kernel) rfl) ?_
  refine r_callVU mvX11_157 (ctX11_needTool a0 a2) (rcX11_needTool a0 a2) ⟨_, _, rfl⟩ (as := [vi a2]) (st := []) rfl rfl (by decide +kernel) rfl (Nat.le_of_ble_eq_true rfl) (Nat.le_of_ble_eq_true rfl) fun s => ?_
  refine r_p (pc' := 11) (p_iload_n 1 (k := 1) (by decide +kernel) rfl) ?_
  refine r_p (pc' := 12) (p_iload_n 2 (k := 2) (by decide +kernel) rfl) ?_
  refine r_icmpne (off := 14) (tgt := 26) (by decide +kernel) (by decide) (fun h1 => ?_) (fun h1 => ?_)
  · exact r_thrw thX11_422_105 rfl (Nat.le_of_ble_eq_true rfl) (Nat.le_of_ble_eq_true rfl) (by decide +kernel) (by decide +kernel) (by decide +kernel) (by decide +kernel) (by decide +kernel)
  · exact r_vret (y9 := ()) rfl rfl rfl (by decide +kernel)
def aX11_exchangeHelps : StA := (RX11, cX11_exchangeHelps, 11, some .boolean, yX11_exchangeHelps, 13, [])
theorem flX11_377_1 : FL RX11 377 1 10 := ⟨_, TX1, 13, "ToolCourt$Court", rfl, by decide, Or.inr ⟨"ToolCourt", List.mem_of_getElem? (i := 375) (by decide +kernel)⟩, Or.inl rfl⟩
noncomputable def mX11_exchangeHelps_L23 (a0 : Nat) (a1 : Int32) (a2 : Int32) (a3 : Int32) (x5 : Int32 × Int32 × Int32) : MM ((Int32 × Int32 × Int32) ⊕ (Unit ⊕ (Int32 × Int32))) :=
  if 3 ≤ x5.2.2 then (
    mret (.inr ((.inr (x5.1, x5.2.1))))
  ) else (
    mbnd (mX11_inSet a3 x5.2.2) fun (v10 : Int32) =>
    if v10 = 0 then (
      mret (.inl (x5.1, x5.2.1, x5.2.2 + 1))
    ) else (
      mbnd (gR 10 7 a0) fun (v12 : Nat) =>
      mbnd (gR 1 1 v12) fun (v13 : Nat) =>
      mbnd (mX8_get v13 a1 x5.2.2) fun (v14 : Int32) =>
      mbnd (gR 10 7 a0) fun (v15 : Nat) =>
      mbnd (gR 1 1 v15) fun (v16 : Nat) =>
      mbnd (mX8_get v16 a2 x5.2.2) fun (v17 : Int32) =>
      if v14 = (-1) then (
        mret (.inr ((.inl ())))
      ) else (
        if v17 = (-1) then (
          mret (.inr ((.inl ())))
        ) else (
          mbnd (gR 10 7 a0) fun (v20 : Nat) =>
          mbnd (mX1_isNailed v20 v14) fun (v21 : Int32) =>
          if v21 = 0 then (
            mbnd (gR 10 7 a0) fun (v23 : Nat) =>
            mbnd (mX1_isNailed v23 v17) fun (v24 : Int32) =>
            if v24 = 0 then (
              mbnd (gR 10 7 a0) fun (v26 : Nat) =>
              mbnd (mX1_guiltOf v26 v14) fun (v27 : Int32) =>
              mbnd (gR 10 3 a0) fun (v28 : Nat) =>
              mbnd (gR 10 7 a0) fun (v29 : Nat) =>
              mbnd (mX2_inherited v28 v29 v14) fun (v30 : Int32) =>
              mbnd (mret (v27 - v30)) fun (v31 : Int32) =>
              mbnd (gR 10 7 a0) fun (v32 : Nat) =>
              mbnd (mX1_guiltOf v32 v17) fun (v33 : Int32) =>
              mbnd (gR 10 3 a0) fun (v34 : Nat) =>
              mbnd (gR 10 7 a0) fun (v35 : Nat) =>
              mbnd (mX2_inherited v34 v35 v17) fun (v36 : Int32) =>
              mbnd (mret (v33 - v36)) fun (v37 : Int32) =>
              mbnd (mret (x5.1 + (v37 - v31))) fun (v38 : Int32) =>
              mbnd (mret (x5.2.1 + (v31 - v37))) fun (v39 : Int32) =>
              mret (.inl (v38, v39, x5.2.2 + 1))
            ) else (
              mret (.inr ((.inl ())))
            )
          ) else (
            mret (.inr ((.inl ())))
          )
        )
      )
    )
  )
noncomputable def mX11_exchangeHelps (a0 : Nat) (a1 : Int32) (a2 : Int32) (a3 : Int32) : MM Int32 := onC 10 a0 (
  mbnd (gR 10 7 a0) fun (v1 : Nat) =>
  mbnd (mX1_answered v1 a1) fun (v2 : Int32) =>
  mbnd (gR 10 7 a0) fun (v3 : Nat) =>
  mbnd (mX1_answered v3 a2) fun (v4 : Int32) =>
  mbnd (loopM (mX11_exchangeHelps_L23 a0 a1 a2 a3) (v2, v4, 0)) fun (e40 : Unit ⊕ (Int32 × Int32)) => match e40 with
    | .inl e40 => (
      mret 0
      )
    | .inr e40 => (
      mbnd (gR 10 7 a0) fun (v41 : Nat) =>
      mbnd (gI 1 10 v41) fun (v42 : Int32) =>
      if v42 < e40.1 then (
        mret 0
      ) else (
        mbnd (gR 10 7 a0) fun (v44 : Nat) =>
        mbnd (gI 1 10 v44) fun (v45 : Int32) =>
        if v45 < e40.2 then (
          mret 0
        ) else (
          mret 1
        )
      )
      )
  )
theorem rcX11_exchangeHelps (a0 : Nat) (a1 : Int32) (a2 : Int32) (a3 : Int32) : Rcv 10 a0 (mX11_exchangeHelps a0 a1 a2 a3) := fun s r h => ⟨(onC_some h).1, (onC_some h).2.1⟩
set_option maxHeartbeats 4000000 in
set_option maxRecDepth 100000 in
theorem ctX11_exchangeHelps (a0 : Nat) (a1 : Int32) (a2 : Int32) (a3 : Int32) : Ct aX11_exchangeHelps [vr a0, vi a1, vi a2, vi a3] (mX11_exchangeHelps a0 a1 a2 a3) rI := by
  unfold mX11_exchangeHelps
  refine ct_onC (ct_intro (by decide +kernel) rfl (Nat.le_of_ble_eq_true rfl) fun Y s => ?_)
  refine r_sub (lv' := [(0, vr a0), (1, vi a1), (2, vi a2), (3, vi a3)]) [0, 1, 2, 3] rfl ?_
  refine r_p (pc' := 1) (p_aload_n 0 (k := 0) (by decide +kernel) rfl) ?_
  refine r_gR flX11_54_10 (by decide +kernel) fun v1 => ?_
  refine r_p (pc' := 5) (p_iload_n 1 (k := 1) (by decide +kernel) rfl) ?_
  refine r_callVI mvX11_163 (ctX1_answered v1 a1) (rcX1_answered v1 a1) ⟨_, _, rfl⟩ (as := [vi a1]) (st := []) rfl rfl (by decide +kernel) rfl (Nat.le_of_ble_eq_true rfl) (Nat.le_of_ble_eq_true rfl) fun v2 s => ?_
  refine r_p (pc' := 10) (p_istore (i := 4) (lv' := [(4, vi v2), (0, vr a0), (1, vi a1), (2, vi a2), (3, vi a3)]) (by decide +kernel) (Nat.le_of_ble_eq_true rfl) rfl) ?_
  refine r_p (pc' := 11) (p_aload_n 1 (k := 0) (by decide +kernel) rfl) ?_
  refine r_gR flX11_54_10 (by decide +kernel) fun v3 => ?_
  refine r_p (pc' := 15) (p_iload_n 3 (k := 2) (by decide +kernel) rfl) ?_
  refine r_callVI mvX11_163 (ctX1_answered v3 a2) (rcX1_answered v3 a2) ⟨_, _, rfl⟩ (as := [vi a2]) (st := []) rfl rfl (by decide +kernel) rfl (Nat.le_of_ble_eq_true rfl) (Nat.le_of_ble_eq_true rfl) fun v4 s => ?_
  refine r_p (pc' := 20) (p_istore (i := 5) (lv' := [(5, vi v4), (4, vi v2), (0, vr a0), (1, vi a1), (2, vi a2), (3, vi a3)]) (by decide +kernel) (Nat.le_of_ble_eq_true rfl) rfl) ?_
  refine r_p (pc' := 21) (p_iconst (n := 0) (v := 0) (by decide +kernel) rfl) ?_
  refine r_p (pc' := 23) (p_istore (i := 6) (lv' := [(6, vi 0), (5, vi v4), (4, vi v2), (0, vr a0), (1, vi a1), (2, vi a2), (3, vi a3)]) (by decide +kernel) (Nat.le_of_ble_eq_true rfl) rfl) ?_
  refine r_sub (lv' := [(0, vr a0), (1, vi a1), (2, vi a2), (3, vi a3), (4, vi v2), (5, vi v4), (6, vi 0)]) [3, 4, 5, 6, 2, 1, 0] rfl ?_
  refine r_loop2 (fun (e40 : Unit ⊕ (Int32 × Int32)) => match e40 with | .inl _ => 104 | .inr _ => 182) (fun (e40 : Unit ⊕ (Int32 × Int32)) => match e40 with | .inl e40 => [] | .inr e40 => [(0, vr a0), (4, vi e40.1), (5, vi e40.2)]) (fun (x5 : Int32 × Int32 × Int32) => [(0, vr a0), (1, vi a1), (2, vi a2), (3, vi a3), (4, vi x5.1), (5, vi x5.2.1), (6, vi x5.2.2)]) (fun e40 s => ?_) (fun K6 hb7 he8 x5 s => ?_) (v2, v4, 0) _
  · rcases e40 with e40 | e40
    · show Rr _ _ 104 [] [] _ _ _ _
      refine r_p (pc' := 105) (p_iconst (n := 0) (v := 0) (by decide +kernel) rfl) ?_
      exact r_iret rfl rfl _ rfl rfl (by decide +kernel)
    · show Rr _ _ 182 [(0, vr a0), (4, vi e40.1), (5, vi e40.2)] [] _ _ _ _
      refine r_p (pc' := 184) (p_iload 1 (i := 4) (by decide +kernel) rfl) ?_
      refine r_p (pc' := 185) (p_aload_n 0 (k := 0) (by decide +kernel) rfl) ?_
      refine r_gR flX11_54_10 (by decide +kernel) fun v41 => ?_
      refine r_gI flX11_377_1 (by decide +kernel) fun v42 => ?_
      refine r_icmpgt (off := 19) (tgt := 210) (by decide +kernel) (by decide) (fun h43 => ?_) (fun h43 => ?_)
      · refine r_p (pc' := 211) (p_iconst (n := 0) (v := 0) (by decide +kernel) rfl) ?_
        exact r_iret rfl rfl _ rfl rfl (by decide +kernel)
      · refine r_p (pc' := 196) (p_iload 2 (i := 5) (by decide +kernel) rfl) ?_
        refine r_p (pc' := 197) (p_aload_n 0 (k := 0) (by decide +kernel) rfl) ?_
        refine r_gR flX11_54_10 (by decide +kernel) fun v44 => ?_
        refine r_gI flX11_377_1 (by decide +kernel) fun v45 => ?_
        refine r_icmpgt (off := 7) (tgt := 210) (by decide +kernel) (by decide) (fun h46 => ?_) (fun h46 => ?_)
        · refine r_p (pc' := 211) (p_iconst (n := 0) (v := 0) (by decide +kernel) rfl) ?_
          exact r_iret rfl rfl _ rfl rfl (by decide +kernel)
        · refine r_p (pc' := 207) (p_iconst (n := 1) (v := 1) (by decide +kernel) rfl) ?_
          refine r_p (pc' := 211) (p_goto (off := 4) (tgt := 211) (by decide +kernel) (by decide)) ?_
          exact r_iret rfl rfl _ rfl rfl (by decide +kernel)
  · unfold mX11_exchangeHelps_L23
    refine r_p (pc' := 25) (p_iload 6 (i := 6) (by decide +kernel) rfl) ?_
    refine r_p (pc' := 26) (p_iconst (n := 3) (v := 3) (by decide +kernel) rfl) ?_
    refine r_icmpge (off := 156) (tgt := 182) (by decide +kernel) (by decide) (fun h9 => ?_) (fun h9 => ?_)
    · refine r_sub (lv' := [(0, vr a0), (4, vi x5.1), (5, vi x5.2.1)]) [0, 4, 5] rfl ?_
      exact he8 ((.inr (x5.1, x5.2.1))) _
    · refine r_p (pc' := 30) (p_iload_n 3 (k := 3) (by decide +kernel) rfl) ?_
      refine r_p (pc' := 32) (p_iload 6 (i := 6) (by decide +kernel) rfl) ?_
      refine r_callSI msX11_319 (ctX11_inSet a3 x5.2.2) (as := [vi a3, vi x5.2.2]) (st := []) rfl rfl (by decide +kernel) rfl (Nat.le_of_ble_eq_true rfl) (Nat.le_of_ble_eq_true rfl) fun v10 s => ?_
      refine r_ifeq (off := 141) (tgt := 176) (by decide +kernel) (by decide) (fun h11 => ?_) (fun h11 => ?_)
      · refine r_p (pc' := 179) (p_iinc 6 (i := 6) (n := 1) (x := x5.2.2) (v := x5.2.2 + 1) (lv' := [(6, vi (x5.2.2 + 1)), (0, vr a0), (1, vi a1), (2, vi a2), (3, vi a3), (4, vi x5.1), (5, vi x5.2.1)]) (by decide +kernel) rfl rfl (Nat.le_of_ble_eq_true rfl) rfl) ?_
        refine r_p (pc' := 23) (p_goto (off := -156) (tgt := 23) (by decide +kernel) (by decide)) ?_
        refine r_sub (lv' := [(0, vr a0), (1, vi a1), (2, vi a2), (3, vi a3), (4, vi x5.1), (5, vi x5.2.1), (6, vi (x5.2.2 + 1))]) [1, 2, 3, 4, 5, 6, 0] rfl ?_
        exact hb7 (x5.1, x5.2.1, x5.2.2 + 1) _
      · refine r_p (pc' := 39) (p_aload_n 0 (k := 0) (by decide +kernel) rfl) ?_
        refine r_gR flX11_54_10 (by decide +kernel) fun v12 => ?_
        refine r_gR flX11_160_1 (by decide +kernel) fun v13 => ?_
        refine r_p (pc' := 46) (p_iload_n 1 (k := 1) (by decide +kernel) rfl) ?_
        refine r_p (pc' := 48) (p_iload 6 (i := 6) (by decide +kernel) rfl) ?_
        refine r_callVI mvX11_151 (ctX8_get v13 a1 x5.2.2) (rcX8_get v13 a1 x5.2.2) ⟨_, _, rfl⟩ (as := [vi a1, vi x5.2.2]) (st := []) rfl rfl (by decide +kernel) rfl (Nat.le_of_ble_eq_true rfl) (Nat.le_of_ble_eq_true rfl) fun v14 s => ?_
        refine r_p (pc' := 53) (p_istore (i := 7) (lv' := [(7, vi v14), (0, vr a0), (1, vi a1), (2, vi a2), (3, vi a3), (4, vi x5.1), (5, vi x5.2.1), (6, vi x5.2.2)]) (by decide +kernel) (Nat.le_of_ble_eq_true rfl) rfl) ?_
        refine r_p (pc' := 54) (p_aload_n 1 (k := 0) (by decide +kernel) rfl) ?_
        refine r_gR flX11_54_10 (by decide +kernel) fun v15 => ?_
        refine r_gR flX11_160_1 (by decide +kernel) fun v16 => ?_
        refine r_p (pc' := 61) (p_iload_n 3 (k := 2) (by decide +kernel) rfl) ?_
        refine r_p (pc' := 63) (p_iload 7 (i := 6) (by decide +kernel) rfl) ?_
        refine r_callVI mvX11_151 (ctX8_get v16 a2 x5.2.2) (rcX8_get v16 a2 x5.2.2) ⟨_, _, rfl⟩ (as := [vi a2, vi x5.2.2]) (st := []) rfl rfl (by decide +kernel) rfl (Nat.le_of_ble_eq_true rfl) (Nat.le_of_ble_eq_true rfl) fun v17 s => ?_
        refine r_p (pc' := 68) (p_istore (i := 8) (lv' := [(8, vi v17), (7, vi v14), (0, vr a0), (1, vi a1), (2, vi a2), (3, vi a3), (4, vi x5.1), (5, vi x5.2.1), (6, vi x5.2.2)]) (by decide +kernel) (Nat.le_of_ble_eq_true rfl) rfl) ?_
        refine r_p (pc' := 70) (p_iload 1 (i := 7) (by decide +kernel) rfl) ?_
        refine r_p (pc' := 71) (p_iconst (n := -1) (v := -1) (by decide +kernel) rfl) ?_
        refine r_icmpeq (off := 33) (tgt := 104) (by decide +kernel) (by decide) (fun h18 => ?_) (fun h18 => ?_)
        · refine r_sub (lv' := []) [] rfl ?_
          exact he8 ((.inl ())) _
        · refine r_p (pc' := 76) (p_iload 0 (i := 8) (by decide +kernel) rfl) ?_
          refine r_p (pc' := 77) (p_iconst (n := -1) (v := -1) (by decide +kernel) rfl) ?_
          refine r_icmpeq (off := 27) (tgt := 104) (by decide +kernel) (by decide) (fun h19 => ?_) (fun h19 => ?_)
          · refine r_sub (lv' := []) [] rfl ?_
            exact he8 ((.inl ())) _
          · refine r_p (pc' := 81) (p_aload_n 2 (k := 0) (by decide +kernel) rfl) ?_
            refine r_gR flX11_54_10 (by decide +kernel) fun v20 => ?_
            refine r_p (pc' := 86) (p_iload 1 (i := 7) (by decide +kernel) rfl) ?_
            refine r_callVI mvX11_264 (ctX1_isNailed v20 v14) (rcX1_isNailed v20 v14) ⟨_, _, rfl⟩ (as := [vi v14]) (st := []) rfl rfl (by decide +kernel) rfl (Nat.le_of_ble_eq_true rfl) (Nat.le_of_ble_eq_true rfl) fun v21 s => ?_
            refine r_ifne (off := 15) (tgt := 104) (by decide +kernel) (by decide) (fun h22 => ?_) (fun h22 => ?_)
            · refine r_p (pc' := 93) (p_aload_n 2 (k := 0) (by decide +kernel) rfl) ?_
              refine r_gR flX11_54_10 (by decide +kernel) fun v23 => ?_
              refine r_p (pc' := 98) (p_iload 0 (i := 8) (by decide +kernel) rfl) ?_
              refine r_callVI mvX11_264 (ctX1_isNailed v23 v17) (rcX1_isNailed v23 v17) ⟨_, _, rfl⟩ (as := [vi v17]) (st := []) rfl rfl (by decide +kernel) rfl (Nat.le_of_ble_eq_true rfl) (Nat.le_of_ble_eq_true rfl) fun v24 s => ?_
              refine r_ifeq (off := 5) (tgt := 106) (by decide +kernel) (by decide) (fun h25 => ?_) (fun h25 => ?_)
              · refine r_p (pc' := 107) (p_aload_n 2 (k := 0) (by decide +kernel) rfl) ?_
                refine r_gR flX11_54_10 (by decide +kernel) fun v26 => ?_
                refine r_p (pc' := 112) (p_iload 1 (i := 7) (by decide +kernel) rfl) ?_
                refine r_callVI mvX11_354 (ctX1_guiltOf v26 v14) (rcX1_guiltOf v26 v14) ⟨_, _, rfl⟩ (as := [vi v14]) (st := []) rfl rfl (by decide +kernel) rfl (Nat.le_of_ble_eq_true rfl) (Nat.le_of_ble_eq_true rfl) fun v27 s => ?_
                refine r_p (pc' := 116) (p_aload_n 2 (k := 0) (by decide +kernel) rfl) ?_
                refine r_gR flX11_19_10 (by decide +kernel) fun v28 => ?_
                refine r_p (pc' := 120) (p_aload_n 2 (k := 0) (by decide +kernel) rfl) ?_
                refine r_gR flX11_54_10 (by decide +kernel) fun v29 => ?_
                refine r_p (pc' := 125) (p_iload 1 (i := 7) (by decide +kernel) rfl) ?_
                refine r_callVI mvX11_224 (ctX2_inherited v28 v29 v14) (rcX2_inherited v28 v29 v14) ⟨_, _, rfl⟩ (as := [vr v29, vi v14]) (st := [vi v27]) rfl rfl (by decide +kernel) rfl (Nat.le_of_ble_eq_true rfl) (Nat.le_of_ble_eq_true rfl) fun v30 s => ?_
                refine r_p (pc' := 129) (p_isub (by decide +kernel)) ?_
                refine r_letI fun v31 => ?_
                refine r_p (pc' := 131) (p_istore (i := 9) (lv' := [(9, vi v31), (8, vi v17), (7, vi v14), (0, vr a0), (1, vi a1), (2, vi a2), (3, vi a3), (4, vi x5.1), (5, vi x5.2.1), (6, vi x5.2.2)]) (by decide +kernel) (Nat.le_of_ble_eq_true rfl) rfl) ?_
                refine r_p (pc' := 132) (p_aload_n 3 (k := 0) (by decide +kernel) rfl) ?_
                refine r_gR flX11_54_10 (by decide +kernel) fun v32 => ?_
                refine r_p (pc' := 137) (p_iload 1 (i := 8) (by decide +kernel) rfl) ?_
                refine r_callVI mvX11_354 (ctX1_guiltOf v32 v17) (rcX1_guiltOf v32 v17) ⟨_, _, rfl⟩ (as := [vi v17]) (st := []) rfl rfl (by decide +kernel) rfl (Nat.le_of_ble_eq_true rfl) (Nat.le_of_ble_eq_true rfl) fun v33 s => ?_
                refine r_p (pc' := 141) (p_aload_n 3 (k := 0) (by decide +kernel) rfl) ?_
                refine r_gR flX11_19_10 (by decide +kernel) fun v34 => ?_
                refine r_p (pc' := 145) (p_aload_n 3 (k := 0) (by decide +kernel) rfl) ?_
                refine r_gR flX11_54_10 (by decide +kernel) fun v35 => ?_
                refine r_p (pc' := 150) (p_iload 1 (i := 8) (by decide +kernel) rfl) ?_
                refine r_callVI mvX11_224 (ctX2_inherited v34 v35 v17) (rcX2_inherited v34 v35 v17) ⟨_, _, rfl⟩ (as := [vr v35, vi v17]) (st := [vi v33]) rfl rfl (by decide +kernel) rfl (Nat.le_of_ble_eq_true rfl) (Nat.le_of_ble_eq_true rfl) fun v36 s => ?_
                refine r_p (pc' := 154) (p_isub (by decide +kernel)) ?_
                refine r_letI fun v37 => ?_
                refine r_p (pc' := 156) (p_istore (i := 10) (lv' := [(10, vi v37), (9, vi v31), (8, vi v17), (7, vi v14), (0, vr a0), (1, vi a1), (2, vi a2), (3, vi a3), (4, vi x5.1), (5, vi x5.2.1), (6, vi x5.2.2)]) (by decide +kernel) (Nat.le_of_ble_eq_true rfl) rfl) ?_
                refine r_p (pc' := 158) (p_iload 8 (i := 4) (by decide +kernel) rfl) ?_
                refine r_p (pc' := 160) (p_iload 0 (i := 10) (by decide +kernel) rfl) ?_
                refine r_p (pc' := 162) (p_iload 1 (i := 9) (by decide +kernel) rfl) ?_
                refine r_p (pc' := 163) (p_isub (by decide +kernel)) ?_
                refine r_p (pc' := 164) (p_iadd (by decide +kernel)) ?_
                refine r_letI fun v38 => ?_
                refine r_p (pc' := 166) (p_istore (i := 4) (lv' := [(4, vi v38), (10, vi v37), (9, vi v31), (8, vi v17), (7, vi v14), (0, vr a0), (1, vi a1), (2, vi a2), (3, vi a3), (5, vi x5.2.1), (6, vi x5.2.2)]) (by decide +kernel) (Nat.le_of_ble_eq_true rfl) rfl) ?_
                refine r_p (pc' := 168) (p_iload 9 (i := 5) (by decide +kernel) rfl) ?_
                refine r_p (pc' := 170) (p_iload 2 (i := 9) (by decide +kernel) rfl) ?_
                refine r_p (pc' := 172) (p_iload 1 (i := 10) (by decide +kernel) rfl) ?_
                refine r_p (pc' := 173) (p_isub (by decide +kernel)) ?_
                refine r_p (pc' := 174) (p_iadd (by decide +kernel)) ?_
                refine r_letI fun v39 => ?_
                refine r_p (pc' := 176) (p_istore (i := 5) (lv' := [(5, vi v39), (4, vi v38), (10, vi v37), (9, vi v31), (8, vi v17), (7, vi v14), (0, vr a0), (1, vi a1), (2, vi a2), (3, vi a3), (6, vi x5.2.2)]) (by decide +kernel) (Nat.le_of_ble_eq_true rfl) rfl) ?_
                refine r_p (pc' := 179) (p_iinc 10 (i := 6) (n := 1) (x := x5.2.2) (v := x5.2.2 + 1) (lv' := [(6, vi (x5.2.2 + 1)), (5, vi v39), (4, vi v38), (10, vi v37), (9, vi v31), (8, vi v17), (7, vi v14), (0, vr a0), (1, vi a1), (2, vi a2), (3, vi a3)]) (by decide +kernel) rfl rfl (Nat.le_of_ble_eq_true rfl) rfl) ?_
                refine r_p (pc' := 23) (p_goto (off := -156) (tgt := 23) (by decide +kernel) (by decide)) ?_
                refine r_sub (lv' := [(0, vr a0), (1, vi a1), (2, vi a2), (3, vi a3), (4, vi v38), (5, vi v39), (6, vi (x5.2.2 + 1))]) [7, 8, 9, 10, 2, 1, 0] rfl ?_
                exact hb7 (v38, v39, x5.2.2 + 1) _
              · refine r_sub (lv' := []) [] rfl ?_
                exact he8 ((.inl ())) _
            · refine r_sub (lv' := []) [] rfl ?_
              exact he8 ((.inl ())) _
def aX11_exchange : StA := (RX11, cX11_exchange, 7, some .int, yX11_exchange, 14, [])
theorem mvX11_323 : MV RX11 323 aX11_needTwoTools 2 := ⟨tblG_of 1475 (by decide +kernel) (by decide +kernel), tblG_of 1477 (by decide +kernel) (by decide +kernel), tblG_of 44 (by decide +kernel) (by decide +kernel), tblG_of 144 (by decide +kernel) (by decide +kernel), tblG_of 1478 (by decide +kernel) (by decide +kernel), rfl, ⟨by decide, by decide⟩, by decide +kernel, by decide⟩
theorem msX11_326 : MS RX11 326 aJ6_bitCount_0f7a4 1 := ⟨tblG_of 1480 (by decide +kernel) (by decide +kernel), tblG_of 1481 (by decide +kernel) (by decide +kernel), tblG_of 172 (by decide +kernel) (by decide +kernel), tblG_of 1482 (by decide +kernel) (by decide +kernel), rfl, ⟨by decide, by decide⟩, by decide +kernel, by decide⟩
theorem mvX11_331 : MV RX11 331 aX11_exchangeHelps 3 := ⟨tblG_of 1486 (by decide +kernel) (by decide +kernel), tblG_of 1488 (by decide +kernel) (by decide +kernel), tblG_of 45 (by decide +kernel) (by decide +kernel), tblG_of 144 (by decide +kernel) (by decide +kernel), tblG_of 1489 (by decide +kernel) (by decide +kernel), rfl, ⟨by decide, by decide⟩, by decide +kernel, by decide⟩
noncomputable def mX11_exchange_L12 (a0 : Nat) (a1 : Int32) (a2 : Int32) (x1 : Int32 × Int32) : MM ((Int32 × Int32) ⊕ (Int32)) :=
  if 8 ≤ x1.2 then (
    mret (.inr x1.1)
  ) else (
    mbnd (α := Int32) (
      if x1.1 = (-1) then (
        mret 1
      ) else (
        mbnd (mJ6_bitCount_0f7a4 x1.2) fun (v10 : Int32) =>
        mbnd (mJ6_bitCount_0f7a4 x1.1) fun (v11 : Int32) =>
        if v11 ≤ v10 then (
          mret 0
        ) else (
          mret 1
        )
      )
    ) fun (x7 : Int32) =>
    mbnd (α := Int32) (
      if x7 = 0 then (
        mret x1.1
      ) else (
        mbnd (mX11_exchangeHelps a0 a1 a2 x1.2) fun (v17 : Int32) =>
        if v17 = 0 then (
          mret x1.1
        ) else (
          mret x1.2
        )
      )
    ) fun (x14 : Int32) =>
    mret (.inl (x14, x1.2 + 1))
  )
noncomputable def mX11_exchange (a0 : Nat) (a1 : Int32) (a2 : Int32) (a3 : Int32) : MM Int32 := onC 10 a0 (
  mbnd (mX11_needTwoTools a0 a1 a2) fun _ =>
  mbnd (loopM (mX11_exchange_L12 a0 a1 a2) (((-1), 0))) fun (e19 : Int32) =>
  if a3 = 0 then (
    if e19 = (-1) then (
      mret e19
    ) else (
      mbnd (mJ6_bitCount_0f7a4 e19) fun (v22 : Int32) =>
      mret v22
    )
  ) else (
    mret e19
  )
  )
theorem rcX11_exchange (a0 : Nat) (a1 : Int32) (a2 : Int32) (a3 : Int32) : Rcv 10 a0 (mX11_exchange a0 a1 a2 a3) := fun s r h => ⟨(onC_some h).1, (onC_some h).2.1⟩
set_option maxHeartbeats 4000000 in
set_option maxRecDepth 100000 in
theorem ctX11_exchange (a0 : Nat) (a1 : Int32) (a2 : Int32) (a3 : Int32) : Ct aX11_exchange [vr a0, vi a1, vi a2, vi a3] (mX11_exchange a0 a1 a2 a3) rI := by
  unfold mX11_exchange
  refine ct_onC (ct_intro (by decide +kernel) rfl (Nat.le_of_ble_eq_true rfl) fun Y s => ?_)
  refine r_sub (lv' := [(0, vr a0), (1, vi a1), (2, vi a2), (3, vi a3)]) [0, 1, 2, 3] rfl ?_
  refine r_p (pc' := 1) (p_aload_n 0 (k := 0) (by decide +kernel) rfl) ?_
  refine r_p (pc' := 2) (p_iload_n 1 (k := 1) (by decide +kernel) rfl) ?_
  refine r_p (pc' := 3) (p_iload_n 2 (k := 2) (by decide +kernel) rfl) ?_
  refine r_callVU mvX11_323 (ctX11_needTwoTools a0 a1 a2) (rcX11_needTwoTools a0 a1 a2) ⟨_, _, rfl⟩ (as := [vi a1, vi a2]) (st := []) rfl rfl (by decide +kernel) rfl (Nat.le_of_ble_eq_true rfl) (Nat.le_of_ble_eq_true rfl) fun s => ?_
  refine r_p (pc' := 7) (p_iconst (n := -1) (v := -1) (by decide +kernel) rfl) ?_
  refine r_p (pc' := 9) (p_istore (i := 4) (lv' := [(4, vi (-1)), (0, vr a0), (1, vi a1), (2, vi a2), (3, vi a3)]) (by decide +kernel) (Nat.le_of_ble_eq_true rfl) rfl) ?_
  refine r_p (pc' := 10) (p_iconst (n := 0) (v := 0) (by decide +kernel) rfl) ?_
  refine r_p (pc' := 12) (p_istore (i := 5) (lv' := [(5, vi 0), (4, vi (-1)), (0, vr a0), (1, vi a1), (2, vi a2), (3, vi a3)]) (by decide +kernel) (Nat.le_of_ble_eq_true rfl) rfl) ?_
  refine r_sub (lv' := [(0, vr a0), (1, vi a1), (2, vi a2), (3, vi a3), (4, vi (-1)), (5, vi 0)]) [2, 3, 4, 5, 1, 0] rfl ?_
  refine r_loop2 (fun _ => 71) (fun (e19 : Int32) => [(3, vi a3), (4, vi e19)]) (fun (x1 : Int32 × Int32) => [(0, vr a0), (1, vi a1), (2, vi a2), (3, vi a3), (4, vi x1.1), (5, vi x1.2)]) (fun e19 s => ?_) (fun K2 hb3 he4 x1 s => ?_) (((-1), 0)) _
  · refine r_p (pc' := 72) (p_iload_n 0 (k := 3) (by decide +kernel) rfl) ?_
    refine r_ifne (off := 9) (tgt := 81) (by decide +kernel) (by decide) (fun h20 => ?_) (fun h20 => ?_)
    · refine r_p (pc' := 77) (p_iload 1 (i := 4) (by decide +kernel) rfl) ?_
      refine r_p (pc' := 78) (p_iconst (n := -1) (v := -1) (by decide +kernel) rfl) ?_
      refine r_icmpne (off := 8) (tgt := 86) (by decide +kernel) (by decide) (fun h21 => ?_) (fun h21 => ?_)
      · refine r_p (pc' := 83) (p_iload 1 (i := 4) (by decide +kernel) rfl) ?_
        refine r_p (pc' := 91) (p_goto (off := 8) (tgt := 91) (by decide +kernel) (by decide)) ?_
        exact r_iret rfl rfl _ rfl rfl (by decide +kernel)
      · refine r_p (pc' := 88) (p_iload 1 (i := 4) (by decide +kernel) rfl) ?_
        refine r_callSI msX11_326 (ctJ6_bitCount_0f7a4 e19) (as := [vi e19]) (st := []) rfl rfl (by decide +kernel) rfl (Nat.le_of_ble_eq_true rfl) (Nat.le_of_ble_eq_true rfl) fun v22 s => ?_
        exact r_iret rfl rfl _ rfl rfl (by decide +kernel)
    · refine r_p (pc' := 83) (p_iload 1 (i := 4) (by decide +kernel) rfl) ?_
      refine r_p (pc' := 91) (p_goto (off := 8) (tgt := 91) (by decide +kernel) (by decide)) ?_
      exact r_iret rfl rfl _ rfl rfl (by decide +kernel)
  · unfold mX11_exchange_L12
    refine r_p (pc' := 14) (p_iload 5 (i := 5) (by decide +kernel) rfl) ?_
    refine r_p (pc' := 16) (p_bipush (n := 8) (v := 8) (by decide +kernel) (by decide +kernel)) ?_
    refine r_icmpge (off := 55) (tgt := 71) (by decide +kernel) (by decide) (fun h5 => ?_) (fun h5 => ?_)
    · refine r_sub (lv' := [(3, vi a3), (4, vi x1.1)]) [3, 4] rfl ?_
      exact he4 x1.1 _
    · refine r_p (pc' := 21) (p_iload 4 (i := 4) (by decide +kernel) rfl) ?_
      refine r_p (pc' := 22) (p_iconst (n := -1) (v := -1) (by decide +kernel) rfl) ?_
      refine r_join 43 (fun (x7 : Int32) => [(0, vr a0), (1, vi a1), (2, vi a2), (3, vi a3), (4, vi x1.1), (5, vi x1.2)]) (fun (x7 : Int32) => [vi x7]) (fun x7 s => ?_) (fun K8 hj9 => ?_)
      · refine r_p (pc' := 45) (p_istore (i := 6) (lv' := [(6, vi x7), (0, vr a0), (1, vi a1), (2, vi a2), (3, vi a3), (4, vi x1.1), (5, vi x1.2)]) (by decide +kernel) (Nat.le_of_ble_eq_true rfl) rfl) ?_
        refine r_p (pc' := 47) (p_iload 0 (i := 6) (by decide +kernel) rfl) ?_
        refine r_join 65 (fun (x14 : Int32) => [(0, vr a0), (1, vi a1), (2, vi a2), (3, vi a3), (4, vi x14), (5, vi x1.2)]) (fun (x14 : Int32) => []) (fun x14 s => ?_) (fun K15 hj16 => ?_)
        · refine r_p (pc' := 68) (p_iinc 5 (i := 5) (n := 1) (x := x1.2) (v := x1.2 + 1) (lv' := [(5, vi (x1.2 + 1)), (0, vr a0), (1, vi a1), (2, vi a2), (3, vi a3), (4, vi x14)]) (by decide +kernel) rfl rfl (Nat.le_of_ble_eq_true rfl) rfl) ?_
          refine r_p (pc' := 12) (p_goto (off := -56) (tgt := 12) (by decide +kernel) (by decide)) ?_
          refine r_sub (lv' := [(0, vr a0), (1, vi a1), (2, vi a2), (3, vi a3), (4, vi x14), (5, vi (x1.2 + 1))]) [1, 2, 3, 4, 5, 0] rfl ?_
          exact hb3 (x14, x1.2 + 1) _
        · refine r_ifeq (off := 18) (tgt := 65) (by decide +kernel) (by decide) (fun h13 => ?_) (fun h13 => ?_)
          · refine r_sub (lv' := [(0, vr a0), (1, vi a1), (2, vi a2), (3, vi a3), (4, vi x1.1), (5, vi x1.2)]) [1, 2, 3, 4, 5, 6] rfl ?_
            exact hj16 x1.1 _
          · refine r_p (pc' := 51) (p_aload_n 1 (k := 0) (by decide +kernel) rfl) ?_
            refine r_p (pc' := 52) (p_iload_n 2 (k := 1) (by decide +kernel) rfl) ?_
            refine r_p (pc' := 53) (p_iload_n 3 (k := 2) (by decide +kernel) rfl) ?_
            refine r_p (pc' := 55) (p_iload 6 (i := 5) (by decide +kernel) rfl) ?_
            refine r_callVI mvX11_331 (ctX11_exchangeHelps a0 a1 a2 x1.2) (rcX11_exchangeHelps a0 a1 a2 x1.2) ⟨_, _, rfl⟩ (as := [vi a1, vi a2, vi x1.2]) (st := []) rfl rfl (by decide +kernel) rfl (Nat.le_of_ble_eq_true rfl) (Nat.le_of_ble_eq_true rfl) fun v17 s => ?_
            refine r_ifeq (off := 7) (tgt := 65) (by decide +kernel) (by decide) (fun h18 => ?_) (fun h18 => ?_)
            · refine r_sub (lv' := [(0, vr a0), (1, vi a1), (2, vi a2), (3, vi a3), (4, vi x1.1), (5, vi x1.2)]) [1, 2, 3, 4, 5, 6] rfl ?_
              exact hj16 x1.1 _
            · refine r_p (pc' := 63) (p_iload 6 (i := 5) (by decide +kernel) rfl) ?_
              refine r_p (pc' := 65) (p_istore (i := 4) (lv' := [(4, vi x1.2), (6, vi x7), (0, vr a0), (1, vi a1), (2, vi a2), (3, vi a3), (5, vi x1.2)]) (by decide +kernel) (Nat.le_of_ble_eq_true rfl) rfl) ?_
              refine r_sub (lv' := [(0, vr a0), (1, vi a1), (2, vi a2), (3, vi a3), (4, vi x1.2), (5, vi x1.2)]) [2, 3, 4, 5, 0, 6] rfl ?_
              exact hj16 x1.2 _
      · refine r_icmpeq (off := 16) (tgt := 38) (by decide +kernel) (by decide) (fun h6 => ?_) (fun h6 => ?_)
        · refine r_p (pc' := 39) (p_iconst (n := 1) (v := 1) (by decide +kernel) rfl) ?_
          refine r_p (pc' := 43) (p_goto (off := 4) (tgt := 43) (by decide +kernel) (by decide)) ?_
          exact hj9 1 _
        · refine r_p (pc' := 27) (p_iload 5 (i := 5) (by decide +kernel) rfl) ?_
          refine r_callSI msX11_326 (ctJ6_bitCount_0f7a4 x1.2) (as := [vi x1.2]) (st := []) rfl rfl (by decide +kernel) rfl (Nat.le_of_ble_eq_true rfl) (Nat.le_of_ble_eq_true rfl) fun v10 s => ?_
          refine r_p (pc' := 32) (p_iload 4 (i := 4) (by decide +kernel) rfl) ?_
          refine r_callSI msX11_326 (ctJ6_bitCount_0f7a4 x1.1) (as := [vi x1.1]) (st := [vi v10]) rfl rfl (by decide +kernel) rfl (Nat.le_of_ble_eq_true rfl) (Nat.le_of_ble_eq_true rfl) fun v11 s => ?_
          refine r_icmpge (off := 7) (tgt := 42) (by decide +kernel) (by decide) (fun h12 => ?_) (fun h12 => ?_)
          · refine r_p (pc' := 43) (p_iconst (n := 0) (v := 0) (by decide +kernel) rfl) ?_
            exact hj9 0 _
          · refine r_p (pc' := 39) (p_iconst (n := 1) (v := 1) (by decide +kernel) rfl) ?_
            refine r_p (pc' := 43) (p_goto (off := 4) (tgt := 43) (by decide +kernel) (by decide)) ?_
            exact hj9 1 _
def aX11_deedsOf : StA := (RX11, cX11_deedsOf, 4, some .int, yX11_deedsOf, 9, [])
noncomputable def mX11_deedsOf_L4 (a0 : Nat) (a1 : Int32) (x1 : Int32 × Int32) : MM ((Int32 × Int32) ⊕ (Int32)) :=
  mbnd (gR 10 7 a0) fun (v5 : Nat) =>
  mbnd (gR 1 3 v5) fun (v6 : Nat) =>
  mbnd (gI 8 3 v6) fun (v7 : Int32) =>
  if v7 ≤ x1.2 then (
    mret (.inr x1.1)
  ) else (
    mbnd (gR 10 7 a0) fun (v9 : Nat) =>
    mbnd (gR 1 3 v9) fun (v10 : Nat) =>
    mbnd (mX8_get v10 x1.2 6) fun (v11 : Int32) =>
    mbnd (mX11_inSet v11 a1) fun (v12 : Int32) =>
    mbnd (α := Int32) (
      if v12 = 0 then (
        mret 0
      ) else (
        mret 1
      )
    ) fun (x14 : Int32) =>
    mbnd (mret (x1.1 + x14)) fun (v17 : Int32) =>
    mret (.inl (v17, x1.2 + 1))
  )
noncomputable def mX11_deedsOf (a0 : Nat) (a1 : Int32) : MM Int32 := onC 10 a0 (
  mbnd (loopM (mX11_deedsOf_L4 a0 a1) (0, 0)) fun (e18 : Int32) =>
  mret e18
  )
theorem rcX11_deedsOf (a0 : Nat) (a1 : Int32) : Rcv 10 a0 (mX11_deedsOf a0 a1) := fun s r h => ⟨(onC_some h).1, (onC_some h).2.1⟩
set_option maxHeartbeats 4000000 in
set_option maxRecDepth 100000 in
theorem ctX11_deedsOf (a0 : Nat) (a1 : Int32) : Ct aX11_deedsOf [vr a0, vi a1] (mX11_deedsOf a0 a1) rI := by
  unfold mX11_deedsOf
  refine ct_onC (ct_intro (by decide +kernel) rfl (Nat.le_of_ble_eq_true rfl) fun Y s => ?_)
  refine r_sub (lv' := [(0, vr a0), (1, vi a1)]) [0, 1] rfl ?_
  refine r_p (pc' := 1) (p_iconst (n := 0) (v := 0) (by decide +kernel) rfl) ?_
  refine r_p (pc' := 2) (p_istore_n (k := 2) (lv' := [(2, vi 0), (0, vr a0), (1, vi a1)]) (by decide +kernel) (Nat.le_of_ble_eq_true rfl) rfl) ?_
  refine r_p (pc' := 3) (p_iconst (n := 0) (v := 0) (by decide +kernel) rfl) ?_
  refine r_p (pc' := 4) (p_istore_n (k := 3) (lv' := [(3, vi 0), (2, vi 0), (0, vr a0), (1, vi a1)]) (by decide +kernel) (Nat.le_of_ble_eq_true rfl) rfl) ?_
  refine r_sub (lv' := [(0, vr a0), (1, vi a1), (2, vi 0), (3, vi 0)]) [2, 3, 1, 0] rfl ?_
  refine r_loop2 (fun _ => 52) (fun (e18 : Int32) => [(2, vi e18)]) (fun (x1 : Int32 × Int32) => [(0, vr a0), (1, vi a1), (2, vi x1.1), (3, vi x1.2)]) (fun e18 s => ?_) (fun K2 hb3 he4 x1 s => ?_) (0, 0) _
  · refine r_p (pc' := 53) (p_iload_n 0 (k := 2) (by decide +kernel) rfl) ?_
    exact r_iret rfl rfl _ rfl rfl (by decide +kernel)
  · unfold mX11_deedsOf_L4
    refine r_p (pc' := 5) (p_iload_n 3 (k := 3) (by decide +kernel) rfl) ?_
    refine r_p (pc' := 6) (p_aload_n 0 (k := 0) (by decide +kernel) rfl) ?_
    refine r_gR flX11_54_10 (by decide +kernel) fun v5 => ?_
    refine r_gR flX11_191_1 (by decide +kernel) fun v6 => ?_
    refine r_gI flX11_293_8 (by decide +kernel) fun v7 => ?_
    refine r_icmpge (off := 37) (tgt := 52) (by decide +kernel) (by decide) (fun h8 => ?_) (fun h8 => ?_)
    · refine r_sub (lv' := [(2, vi x1.1)]) [2] rfl ?_
      exact he4 x1.1 _
    · refine r_p (pc' := 19) (p_iload_n 2 (k := 2) (by decide +kernel) rfl) ?_
      refine r_p (pc' := 20) (p_aload_n 0 (k := 0) (by decide +kernel) rfl) ?_
      refine r_gR flX11_54_10 (by decide +kernel) fun v9 => ?_
      refine r_gR flX11_191_1 (by decide +kernel) fun v10 => ?_
      refine r_p (pc' := 27) (p_iload_n 3 (k := 3) (by decide +kernel) rfl) ?_
      refine r_p (pc' := 29) (p_bipush (n := 6) (v := 6) (by decide +kernel) (by decide +kernel)) ?_
      refine r_callVI mvX11_151 (ctX8_get v10 x1.2 6) (rcX8_get v10 x1.2 6) ⟨_, _, rfl⟩ (as := [vi x1.2, vi 6]) (st := [vi x1.1]) rfl rfl (by decide +kernel) rfl (Nat.le_of_ble_eq_true rfl) (Nat.le_of_ble_eq_true rfl) fun v11 s => ?_
      refine r_p (pc' := 33) (p_iload_n 1 (k := 1) (by decide +kernel) rfl) ?_
      refine r_callSI msX11_319 (ctX11_inSet v11 a1) (as := [vi v11, vi a1]) (st := [vi x1.1]) rfl rfl (by decide +kernel) rfl (Nat.le_of_ble_eq_true rfl) (Nat.le_of_ble_eq_true rfl) fun v12 s => ?_
      refine r_join 44 (fun (x14 : Int32) => [(0, vr a0), (1, vi a1), (3, vi x1.2)]) (fun (x14 : Int32) => [vi x14, vi x1.1]) (fun x14 s => ?_) (fun K15 hj16 => ?_)
      · refine r_p (pc' := 45) (p_iadd (by decide +kernel)) ?_
        refine r_letI fun v17 => ?_
        refine r_p (pc' := 46) (p_istore_n (k := 2) (lv' := [(2, vi v17), (0, vr a0), (1, vi a1), (3, vi x1.2)]) (by decide +kernel) (Nat.le_of_ble_eq_true rfl) rfl) ?_
        refine r_p (pc' := 49) (p_iinc 3 (i := 3) (n := 1) (x := x1.2) (v := x1.2 + 1) (lv' := [(3, vi (x1.2 + 1)), (2, vi v17), (0, vr a0), (1, vi a1)]) (by decide +kernel) rfl rfl (Nat.le_of_ble_eq_true rfl) rfl) ?_
        refine r_p (pc' := 4) (p_goto (off := -45) (tgt := 4) (by decide +kernel) (by decide)) ?_
        refine r_sub (lv' := [(0, vr a0), (1, vi a1), (2, vi v17), (3, vi (x1.2 + 1))]) [2, 3, 1, 0] rfl ?_
        exact hb3 (v17, x1.2 + 1) _
      · refine r_ifeq (off := 7) (tgt := 43) (by decide +kernel) (by decide) (fun h13 => ?_) (fun h13 => ?_)
        · refine r_p (pc' := 44) (p_iconst (n := 0) (v := 0) (by decide +kernel) rfl) ?_
          refine r_sub (lv' := [(0, vr a0), (1, vi a1), (3, vi x1.2)]) [0, 1, 3] rfl ?_
          exact hj16 0 _
        · refine r_p (pc' := 40) (p_iconst (n := 1) (v := 1) (by decide +kernel) rfl) ?_
          refine r_p (pc' := 44) (p_goto (off := 4) (tgt := 44) (by decide +kernel) (by decide)) ?_
          refine r_sub (lv' := [(0, vr a0), (1, vi a1), (3, vi x1.2)]) [0, 1, 3] rfl ?_
          exact hj16 1 _
def aX11_alwaysThere : StA := (RX11, cX11_alwaysThere, 5, some .int, yX11_alwaysThere, 9, [])
theorem mvX11_383 : MV RX11 383 aX1_allParts 0 := ⟨tblG_of 1505 (by decide +kernel) (by decide +kernel), tblG_of 1506 (by decide +kernel) (by decide +kernel), tblG_of 1507 (by decide +kernel) (by decide +kernel), tblG_of 151 (by decide +kernel) (by decide +kernel), tblG_of 1508 (by decide +kernel) (by decide +kernel), rfl, ⟨by decide, by decide⟩, by decide +kernel, by decide⟩
noncomputable def mX11_alwaysThere_L10 (a0 : Nat) (a1 : Int32) (x3 : Int32 × Int32) : MM ((Int32 × Int32) ⊕ (Int32)) :=
  mbnd (gR 10 7 a0) fun (v7 : Nat) =>
  mbnd (gR 1 3 v7) fun (v8 : Nat) =>
  mbnd (gI 8 3 v8) fun (v9 : Int32) =>
  if v9 ≤ x3.2 then (
    mret (.inr x3.1)
  ) else (
    mbnd (gR 10 7 a0) fun (v11 : Nat) =>
    mbnd (gR 1 3 v11) fun (v12 : Nat) =>
    mbnd (mX8_get v12 x3.2 6) fun (v13 : Int32) =>
    mbnd (α := Int32) (
      if (v13 &&& a1) = a1 then (
        mbnd (mret (x3.1 &&& v13)) fun (v18 : Int32) =>
        mret v18
      ) else (
        mret x3.1
      )
    ) fun (x15 : Int32) =>
    mret (.inl (x15, x3.2 + 1))
  )
noncomputable def mX11_alwaysThere (a0 : Nat) (a1 : Int32) : MM Int32 := onC 10 a0 (
  mbnd (gR 10 7 a0) fun (v1 : Nat) =>
  mbnd (mX1_allParts v1) fun (v2 : Int32) =>
  mbnd (loopM (mX11_alwaysThere_L10 a0 a1) (v2, 0)) fun (e19 : Int32) =>
  mret e19
  )
theorem rcX11_alwaysThere (a0 : Nat) (a1 : Int32) : Rcv 10 a0 (mX11_alwaysThere a0 a1) := fun s r h => ⟨(onC_some h).1, (onC_some h).2.1⟩
set_option maxHeartbeats 4000000 in
set_option maxRecDepth 100000 in
theorem ctX11_alwaysThere (a0 : Nat) (a1 : Int32) : Ct aX11_alwaysThere [vr a0, vi a1] (mX11_alwaysThere a0 a1) rI := by
  unfold mX11_alwaysThere
  refine ct_onC (ct_intro (by decide +kernel) rfl (Nat.le_of_ble_eq_true rfl) fun Y s => ?_)
  refine r_sub (lv' := [(0, vr a0), (1, vi a1)]) [0, 1] rfl ?_
  refine r_p (pc' := 1) (p_aload_n 0 (k := 0) (by decide +kernel) rfl) ?_
  refine r_gR flX11_54_10 (by decide +kernel) fun v1 => ?_
  refine r_callVI mvX11_383 (ctX1_allParts v1) (rcX1_allParts v1) ⟨_, _, rfl⟩ (as := []) (st := []) rfl rfl (by decide +kernel) rfl (Nat.le_of_ble_eq_true rfl) (Nat.le_of_ble_eq_true rfl) fun v2 s => ?_
  refine r_p (pc' := 8) (p_istore_n (k := 2) (lv' := [(2, vi v2), (0, vr a0), (1, vi a1)]) (by decide +kernel) (Nat.le_of_ble_eq_true rfl) rfl) ?_
  refine r_p (pc' := 9) (p_iconst (n := 0) (v := 0) (by decide +kernel) rfl) ?_
  refine r_p (pc' := 10) (p_istore_n (k := 3) (lv' := [(3, vi 0), (2, vi v2), (0, vr a0), (1, vi a1)]) (by decide +kernel) (Nat.le_of_ble_eq_true rfl) rfl) ?_
  refine r_sub (lv' := [(0, vr a0), (1, vi a1), (2, vi v2), (3, vi 0)]) [2, 3, 1, 0] rfl ?_
  refine r_loop2 (fun _ => 58) (fun (e19 : Int32) => [(2, vi e19)]) (fun (x3 : Int32 × Int32) => [(0, vr a0), (1, vi a1), (2, vi x3.1), (3, vi x3.2)]) (fun e19 s => ?_) (fun K4 hb5 he6 x3 s => ?_) (v2, 0) _
  · refine r_p (pc' := 59) (p_iload_n 0 (k := 2) (by decide +kernel) rfl) ?_
    exact r_iret rfl rfl _ rfl rfl (by decide +kernel)
  · unfold mX11_alwaysThere_L10
    refine r_p (pc' := 11) (p_iload_n 3 (k := 3) (by decide +kernel) rfl) ?_
    refine r_p (pc' := 12) (p_aload_n 0 (k := 0) (by decide +kernel) rfl) ?_
    refine r_gR flX11_54_10 (by decide +kernel) fun v7 => ?_
    refine r_gR flX11_191_1 (by decide +kernel) fun v8 => ?_
    refine r_gI flX11_293_8 (by decide +kernel) fun v9 => ?_
    refine r_icmpge (off := 37) (tgt := 58) (by decide +kernel) (by decide) (fun h10 => ?_) (fun h10 => ?_)
    · refine r_sub (lv' := [(2, vi x3.1)]) [2] rfl ?_
      exact he6 x3.1 _
    · refine r_p (pc' := 25) (p_aload_n 0 (k := 0) (by decide +kernel) rfl) ?_
      refine r_gR flX11_54_10 (by decide +kernel) fun v11 => ?_
      refine r_gR flX11_191_1 (by decide +kernel) fun v12 => ?_
      refine r_p (pc' := 32) (p_iload_n 3 (k := 3) (by decide +kernel) rfl) ?_
      refine r_p (pc' := 34) (p_bipush (n := 6) (v := 6) (by decide +kernel) (by decide +kernel)) ?_
      refine r_callVI mvX11_151 (ctX8_get v12 x3.2 6) (rcX8_get v12 x3.2 6) ⟨_, _, rfl⟩ (as := [vi x3.2, vi 6]) (st := []) rfl rfl (by decide +kernel) rfl (Nat.le_of_ble_eq_true rfl) (Nat.le_of_ble_eq_true rfl) fun v13 s => ?_
      refine r_p (pc' := 39) (p_istore (i := 4) (lv' := [(4, vi v13), (0, vr a0), (1, vi a1), (2, vi x3.1), (3, vi x3.2)]) (by decide +kernel) (Nat.le_of_ble_eq_true rfl) rfl) ?_
      refine r_p (pc' := 41) (p_iload 0 (i := 4) (by decide +kernel) rfl) ?_
      refine r_p (pc' := 42) (p_iload_n 2 (k := 1) (by decide +kernel) rfl) ?_
      refine r_p (pc' := 43) (p_iand (by decide +kernel)) ?_
      refine r_p (pc' := 44) (p_iload_n 2 (k := 1) (by decide +kernel) rfl) ?_
      refine r_join 52 (fun (x15 : Int32) => [(0, vr a0), (1, vi a1), (2, vi x15), (3, vi x3.2)]) (fun (x15 : Int32) => []) (fun x15 s => ?_) (fun K16 hj17 => ?_)
      · refine r_p (pc' := 55) (p_iinc 3 (i := 3) (n := 1) (x := x3.2) (v := x3.2 + 1) (lv' := [(3, vi (x3.2 + 1)), (0, vr a0), (1, vi a1), (2, vi x15)]) (by decide +kernel) rfl rfl (Nat.le_of_ble_eq_true rfl) rfl) ?_
        refine r_p (pc' := 10) (p_goto (off := -45) (tgt := 10) (by decide +kernel) (by decide)) ?_
        refine r_sub (lv' := [(0, vr a0), (1, vi a1), (2, vi x15), (3, vi (x3.2 + 1))]) [1, 2, 3, 0] rfl ?_
        exact hb5 (x15, x3.2 + 1) _
      · refine r_icmpne (off := 8) (tgt := 52) (by decide +kernel) (by decide) (fun h14 => ?_) (fun h14 => ?_)
        · refine r_p (pc' := 48) (p_iload_n 3 (k := 2) (by decide +kernel) rfl) ?_
          refine r_p (pc' := 50) (p_iload 0 (i := 4) (by decide +kernel) rfl) ?_
          refine r_p (pc' := 51) (p_iand (by decide +kernel)) ?_
          refine r_letI fun v18 => ?_
          refine r_p (pc' := 52) (p_istore_n (k := 2) (lv' := [(2, vi v18), (4, vi v13), (0, vr a0), (1, vi a1), (3, vi x3.2)]) (by decide +kernel) (Nat.le_of_ble_eq_true rfl) rfl) ?_
          refine r_sub (lv' := [(0, vr a0), (1, vi a1), (2, vi v18), (3, vi x3.2)]) [2, 3, 0, 4] rfl ?_
          exact hj17 v18 _
        · refine r_sub (lv' := [(0, vr a0), (1, vi a1), (2, vi x3.1), (3, vi x3.2)]) [1, 2, 3, 4] rfl ?_
          exact hj17 x3.1 _
def aX11_with : StA := (RX11, cX11_with, 2, some .int, yX11_with, 10, [])
theorem mvX11_335 : MV RX11 335 aX11_deedsOf 1 := ⟨tblG_of 1497 (by decide +kernel) (by decide +kernel), tblG_of 1499 (by decide +kernel) (by decide +kernel), tblG_of 46 (by decide +kernel) (by decide +kernel), tblG_of 144 (by decide +kernel) (by decide +kernel), tblG_of 1500 (by decide +kernel) (by decide +kernel), rfl, ⟨by decide, by decide⟩, by decide +kernel, by decide⟩
theorem mvX11_338 : MV RX11 338 aX11_alwaysThere 1 := ⟨tblG_of 1501 (by decide +kernel) (by decide +kernel), tblG_of 1503 (by decide +kernel) (by decide +kernel), tblG_of 47 (by decide +kernel) (by decide +kernel), tblG_of 144 (by decide +kernel) (by decide +kernel), tblG_of 1504 (by decide +kernel) (by decide +kernel), rfl, ⟨by decide, by decide⟩, by decide +kernel, by decide⟩
noncomputable def mX11_with (a0 : Nat) (a1 : Int32) : MM Int32 := onC 10 a0 (
  mbnd (mX11_needPart a0 a1) fun _ =>
  mbnd (mX11_deedsOf a0 a1) fun (v1 : Int32) =>
  if v1 = 0 then (
    mret 0
  ) else (
    mbnd (mX11_alwaysThere a0 (1 <<< (a1 &&& (31 : Int32)))) fun (v3 : Int32) =>
    mret v3
  )
  )
theorem rcX11_with (a0 : Nat) (a1 : Int32) : Rcv 10 a0 (mX11_with a0 a1) := fun s r h => ⟨(onC_some h).1, (onC_some h).2.1⟩
set_option maxHeartbeats 4000000 in
set_option maxRecDepth 100000 in
theorem ctX11_with (a0 : Nat) (a1 : Int32) : Ct aX11_with [vr a0, vi a1] (mX11_with a0 a1) rI := by
  unfold mX11_with
  refine ct_onC (ct_intro (by decide +kernel) rfl (Nat.le_of_ble_eq_true rfl) fun Y s => ?_)
  refine r_sub (lv' := [(0, vr a0), (1, vi a1)]) [0, 1] rfl ?_
  refine r_p (pc' := 1) (p_aload_n 0 (k := 0) (by decide +kernel) rfl) ?_
  refine r_p (pc' := 2) (p_iload_n 1 (k := 1) (by decide +kernel) rfl) ?_
  refine r_callVU mvX11_136 (ctX11_needPart a0 a1) (rcX11_needPart a0 a1) ⟨_, _, rfl⟩ (as := [vi a1]) (st := []) rfl rfl (by decide +kernel) rfl (Nat.le_of_ble_eq_true rfl) (Nat.le_of_ble_eq_true rfl) fun s => ?_
  refine r_p (pc' := 6) (p_aload_n 0 (k := 0) (by decide +kernel) rfl) ?_
  refine r_p (pc' := 7) (p_iload_n 1 (k := 1) (by decide +kernel) rfl) ?_
  refine r_callVI mvX11_335 (ctX11_deedsOf a0 a1) (rcX11_deedsOf a0 a1) ⟨_, _, rfl⟩ (as := [vi a1]) (st := []) rfl rfl (by decide +kernel) rfl (Nat.le_of_ble_eq_true rfl) (Nat.le_of_ble_eq_true rfl) fun v1 s => ?_
  refine r_ifne (off := 7) (tgt := 17) (by decide +kernel) (by decide) (fun h2 => ?_) (fun h2 => ?_)
  · refine r_p (pc' := 14) (p_iconst (n := 0) (v := 0) (by decide +kernel) rfl) ?_
    refine r_p (pc' := 24) (p_goto (off := 10) (tgt := 24) (by decide +kernel) (by decide)) ?_
    exact r_iret rfl rfl _ rfl rfl (by decide +kernel)
  · refine r_p (pc' := 18) (p_aload_n 0 (k := 0) (by decide +kernel) rfl) ?_
    refine r_p (pc' := 19) (p_iconst (n := 1) (v := 1) (by decide +kernel) rfl) ?_
    refine r_p (pc' := 20) (p_iload_n 1 (k := 1) (by decide +kernel) rfl) ?_
    refine r_p (pc' := 21) (p_ishl (by decide +kernel)) ?_
    refine r_callVI mvX11_338 (ctX11_alwaysThere a0 (1 <<< (a1 &&& (31 : Int32)))) (rcX11_alwaysThere a0 (1 <<< (a1 &&& (31 : Int32)))) ⟨_, _, rfl⟩ (as := [vi (1 <<< (a1 &&& (31 : Int32)))]) (st := []) rfl rfl (by decide +kernel) rfl (Nat.le_of_ble_eq_true rfl) (Nat.le_of_ble_eq_true rfl) fun v3 s => ?_
    exact r_iret rfl rfl _ rfl rfl (by decide +kernel)
def aX11_mostOnOneDay : StA := (RX11, cX11_mostOnOneDay, 7, some .int, yX11_mostOnOneDay, 9, [])
noncomputable def mX11_mostOnOneDay_L10 (a0 : Nat) (a1 : Int32) (x1 : Int32 × Int32 × Int32 × Int32) : MM ((Int32 × Int32 × Int32 × Int32) ⊕ (Int32)) :=
  mbnd (gR 10 7 a0) fun (v5 : Nat) =>
  mbnd (gR 1 3 v5) fun (v6 : Nat) =>
  mbnd (gI 8 3 v6) fun (v7 : Int32) =>
  if v7 ≤ x1.2.2.2 then (
    mret (.inr x1.1)
  ) else (
    mbnd (gR 10 7 a0) fun (v9 : Nat) =>
    mbnd (gR 1 3 v9) fun (v10 : Nat) =>
    mbnd (mX8_get v10 x1.2.2.2 6) fun (v11 : Int32) =>
    mbnd (mX11_inSet v11 a1) fun (v12 : Int32) =>
    mbnd (α := Int32 × Int32 × Int32) (
      if v12 = 0 then (
        mret (x1.1, x1.2.1, x1.2.2.1)
      ) else (
        mbnd (gR 10 7 a0) fun (v17 : Nat) =>
        mbnd (gR 1 3 v17) fun (v18 : Nat) =>
        mbnd (mX8_get v18 x1.2.2.2 0) fun (v19 : Int32) =>
        mbnd (α := Int32) (
          if v19 = x1.2.2.1 then (
            mret (x1.2.1 + 1)
          ) else (
            mret 1
          )
        ) fun (x21 : Int32) =>
        mbnd (mret (imax x1.1 x21)) fun (v24 : Int32) =>
        mret (v24, x21, v19)
      )
    ) fun (x14 : Int32 × Int32 × Int32) =>
    mret (.inl (x14.1, x14.2.1, x14.2.2, x1.2.2.2 + 1))
  )
noncomputable def mX11_mostOnOneDay (a0 : Nat) (a1 : Int32) : MM Int32 := onC 10 a0 (
  mbnd (loopM (mX11_mostOnOneDay_L10 a0 a1) ((0, 0, (-1), 0))) fun (e25 : Int32) =>
  mret e25
  )
theorem rcX11_mostOnOneDay (a0 : Nat) (a1 : Int32) : Rcv 10 a0 (mX11_mostOnOneDay a0 a1) := fun s r h => ⟨(onC_some h).1, (onC_some h).2.1⟩
set_option maxHeartbeats 4000000 in
set_option maxRecDepth 100000 in
theorem ctX11_mostOnOneDay (a0 : Nat) (a1 : Int32) : Ct aX11_mostOnOneDay [vr a0, vi a1] (mX11_mostOnOneDay a0 a1) rI := by
  unfold mX11_mostOnOneDay
  refine ct_onC (ct_intro (by decide +kernel) rfl (Nat.le_of_ble_eq_true rfl) fun Y s => ?_)
  refine r_sub (lv' := [(0, vr a0), (1, vi a1)]) [0, 1] rfl ?_
  refine r_p (pc' := 1) (p_iconst (n := 0) (v := 0) (by decide +kernel) rfl) ?_
  refine r_p (pc' := 2) (p_istore_n (k := 2) (lv' := [(2, vi 0), (0, vr a0), (1, vi a1)]) (by decide +kernel) (Nat.le_of_ble_eq_true rfl) rfl) ?_
  refine r_p (pc' := 3) (p_iconst (n := 0) (v := 0) (by decide +kernel) rfl) ?_
  refine r_p (pc' := 4) (p_istore_n (k := 3) (lv' := [(3, vi 0), (2, vi 0), (0, vr a0), (1, vi a1)]) (by decide +kernel) (Nat.le_of_ble_eq_true rfl) rfl) ?_
  refine r_p (pc' := 5) (p_iconst (n := -1) (v := -1) (by decide +kernel) rfl) ?_
  refine r_p (pc' := 7) (p_istore (i := 4) (lv' := [(4, vi (-1)), (3, vi 0), (2, vi 0), (0, vr a0), (1, vi a1)]) (by decide +kernel) (Nat.le_of_ble_eq_true rfl) rfl) ?_
  refine r_p (pc' := 8) (p_iconst (n := 0) (v := 0) (by decide +kernel) rfl) ?_
  refine r_p (pc' := 10) (p_istore (i := 5) (lv' := [(5, vi 0), (4, vi (-1)), (3, vi 0), (2, vi 0), (0, vr a0), (1, vi a1)]) (by decide +kernel) (Nat.le_of_ble_eq_true rfl) rfl) ?_
  refine r_sub (lv' := [(0, vr a0), (1, vi a1), (2, vi 0), (3, vi 0), (4, vi (-1)), (5, vi 0)]) [4, 5, 3, 2, 1, 0] rfl ?_
  refine r_loop2 (fun _ => 92) (fun (e25 : Int32) => [(2, vi e25)]) (fun (x1 : Int32 × Int32 × Int32 × Int32) => [(0, vr a0), (1, vi a1), (2, vi x1.1), (3, vi x1.2.1), (4, vi x1.2.2.1), (5, vi x1.2.2.2)]) (fun e25 s => ?_) (fun K2 hb3 he4 x1 s => ?_) ((0, 0, (-1), 0)) _
  · refine r_p (pc' := 93) (p_iload_n 0 (k := 2) (by decide +kernel) rfl) ?_
    exact r_iret rfl rfl _ rfl rfl (by decide +kernel)
  · unfold mX11_mostOnOneDay_L10
    refine r_p (pc' := 12) (p_iload 5 (i := 5) (by decide +kernel) rfl) ?_
    refine r_p (pc' := 13) (p_aload_n 0 (k := 0) (by decide +kernel) rfl) ?_
    refine r_gR flX11_54_10 (by decide +kernel) fun v5 => ?_
    refine r_gR flX11_191_1 (by decide +kernel) fun v6 => ?_
    refine r_gI flX11_293_8 (by decide +kernel) fun v7 => ?_
    refine r_icmpge (off := 70) (tgt := 92) (by decide +kernel) (by decide) (fun h8 => ?_) (fun h8 => ?_)
    · refine r_sub (lv' := [(2, vi x1.1)]) [2] rfl ?_
      exact he4 x1.1 _
    · refine r_p (pc' := 26) (p_aload_n 0 (k := 0) (by decide +kernel) rfl) ?_
      refine r_gR flX11_54_10 (by decide +kernel) fun v9 => ?_
      refine r_gR flX11_191_1 (by decide +kernel) fun v10 => ?_
      refine r_p (pc' := 34) (p_iload 5 (i := 5) (by decide +kernel) rfl) ?_
      refine r_p (pc' := 36) (p_bipush (n := 6) (v := 6) (by decide +kernel) (by decide +kernel)) ?_
      refine r_callVI mvX11_151 (ctX8_get v10 x1.2.2.2 6) (rcX8_get v10 x1.2.2.2 6) ⟨_, _, rfl⟩ (as := [vi x1.2.2.2, vi 6]) (st := []) rfl rfl (by decide +kernel) rfl (Nat.le_of_ble_eq_true rfl) (Nat.le_of_ble_eq_true rfl) fun v11 s => ?_
      refine r_p (pc' := 40) (p_iload_n 1 (k := 1) (by decide +kernel) rfl) ?_
      refine r_callSI msX11_319 (ctX11_inSet v11 a1) (as := [vi v11, vi a1]) (st := []) rfl rfl (by decide +kernel) rfl (Nat.le_of_ble_eq_true rfl) (Nat.le_of_ble_eq_true rfl) fun v12 s => ?_
      refine r_join 86 (fun (x14 : Int32 × Int32 × Int32) => [(0, vr a0), (1, vi a1), (2, vi x14.1), (3, vi x14.2.1), (4, vi x14.2.2), (5, vi x1.2.2.2)]) (fun (x14 : Int32 × Int32 × Int32) => []) (fun x14 s => ?_) (fun K15 hj16 => ?_)
      · refine r_p (pc' := 89) (p_iinc 5 (i := 5) (n := 1) (x := x1.2.2.2) (v := x1.2.2.2 + 1) (lv' := [(5, vi (x1.2.2.2 + 1)), (0, vr a0), (1, vi a1), (2, vi x14.1), (3, vi x14.2.1), (4, vi x14.2.2)]) (by decide +kernel) rfl rfl (Nat.le_of_ble_eq_true rfl) rfl) ?_
        refine r_p (pc' := 10) (p_goto (off := -79) (tgt := 10) (by decide +kernel) (by decide)) ?_
        refine r_sub (lv' := [(0, vr a0), (1, vi a1), (2, vi x14.1), (3, vi x14.2.1), (4, vi x14.2.2), (5, vi (x1.2.2.2 + 1))]) [1, 2, 3, 4, 5, 0] rfl ?_
        exact hb3 (x14.1, x14.2.1, x14.2.2, x1.2.2.2 + 1) _
      · refine r_ifeq (off := 43) (tgt := 86) (by decide +kernel) (by decide) (fun h13 => ?_) (fun h13 => ?_)
        · exact hj16 (x1.1, x1.2.1, x1.2.2.1) _
        · refine r_p (pc' := 47) (p_aload_n 0 (k := 0) (by decide +kernel) rfl) ?_
          refine r_gR flX11_54_10 (by decide +kernel) fun v17 => ?_
          refine r_gR flX11_191_1 (by decide +kernel) fun v18 => ?_
          refine r_p (pc' := 55) (p_iload 5 (i := 5) (by decide +kernel) rfl) ?_
          refine r_p (pc' := 56) (p_iconst (n := 0) (v := 0) (by decide +kernel) rfl) ?_
          refine r_callVI mvX11_151 (ctX8_get v18 x1.2.2.2 0) (rcX8_get v18 x1.2.2.2 0) ⟨_, _, rfl⟩ (as := [vi x1.2.2.2, vi 0]) (st := []) rfl rfl (by decide +kernel) rfl (Nat.le_of_ble_eq_true rfl) (Nat.le_of_ble_eq_true rfl) fun v19 s => ?_
          refine r_p (pc' := 61) (p_istore (i := 6) (lv' := [(6, vi v19), (0, vr a0), (1, vi a1), (2, vi x1.1), (3, vi x1.2.1), (4, vi x1.2.2.1), (5, vi x1.2.2.2)]) (by decide +kernel) (Nat.le_of_ble_eq_true rfl) rfl) ?_
          refine r_p (pc' := 63) (p_iload 0 (i := 6) (by decide +kernel) rfl) ?_
          refine r_p (pc' := 65) (p_iload 5 (i := 4) (by decide +kernel) rfl) ?_
          refine r_join 75 (fun (x21 : Int32) => [(0, vr a0), (1, vi a1), (2, vi x1.1), (5, vi x1.2.2.2), (6, vi v19)]) (fun (x21 : Int32) => [vi x21]) (fun x21 s => ?_) (fun K22 hj23 => ?_)
          · refine r_p (pc' := 76) (p_istore_n (k := 3) (lv' := [(3, vi x21), (0, vr a0), (1, vi a1), (2, vi x1.1), (5, vi x1.2.2.2), (6, vi v19)]) (by decide +kernel) (Nat.le_of_ble_eq_true rfl) rfl) ?_
            refine r_p (pc' := 78) (p_iload 5 (i := 6) (by decide +kernel) rfl) ?_
            refine r_p (pc' := 80) (p_istore (i := 4) (lv' := [(4, vi v19), (3, vi x21), (0, vr a0), (1, vi a1), (2, vi x1.1), (5, vi x1.2.2.2), (6, vi v19)]) (by decide +kernel) (Nat.le_of_ble_eq_true rfl) rfl) ?_
            refine r_p (pc' := 81) (p_iload_n 4 (k := 2) (by decide +kernel) rfl) ?_
            refine r_p (pc' := 82) (p_iload_n 1 (k := 3) (by decide +kernel) rfl) ?_
            refine r_p (pc' := 85) (p_max (idx := 251) (tblG_of 605 (by decide +kernel) (by decide +kernel)) (Nat.le_of_ble_eq_true rfl) (Nat.le_of_ble_eq_true rfl) (by decide +kernel)) ?_
            refine r_letI fun v24 => ?_
            refine r_p (pc' := 86) (p_istore_n (k := 2) (lv' := [(2, vi v24), (4, vi v19), (3, vi x21), (0, vr a0), (1, vi a1), (5, vi x1.2.2.2), (6, vi v19)]) (by decide +kernel) (Nat.le_of_ble_eq_true rfl) rfl) ?_
            refine r_sub (lv' := [(0, vr a0), (1, vi a1), (2, vi v24), (3, vi x21), (4, vi v19), (5, vi x1.2.2.2)]) [3, 4, 0, 2, 1, 5] rfl ?_
            exact hj16 (v24, x21, v19) _
          · refine r_icmpne (off := 9) (tgt := 74) (by decide +kernel) (by decide) (fun h20 => ?_) (fun h20 => ?_)
            · refine r_p (pc' := 69) (p_iload_n 4 (k := 3) (by decide +kernel) rfl) ?_
              refine r_p (pc' := 70) (p_iconst (n := 1) (v := 1) (by decide +kernel) rfl) ?_
              refine r_p (pc' := 71) (p_iadd (by decide +kernel)) ?_
              refine r_p (pc' := 75) (p_goto (off := 4) (tgt := 75) (by decide +kernel) (by decide)) ?_
              refine r_sub (lv' := [(0, vr a0), (1, vi a1), (2, vi x1.1), (5, vi x1.2.2.2), (6, vi v19)]) [1, 2, 3, 6, 0] rfl ?_
              exact hj23 (x1.2.1 + 1) _
            · refine r_p (pc' := 75) (p_iconst (n := 1) (v := 1) (by decide +kernel) rfl) ?_
              refine r_sub (lv' := [(0, vr a0), (1, vi a1), (2, vi x1.1), (5, vi x1.2.2.2), (6, vi v19)]) [1, 2, 3, 6, 0] rfl ?_
              exact hj23 1 _
def aX11_strokes : StA := (RX11, cX11_strokes, 3, some .int, yX11_strokes, 10, [])
theorem mvX11_341 : MV RX11 341 aX11_mostOnOneDay 1 := ⟨tblG_of 1516 (by decide +kernel) (by decide +kernel), tblG_of 1518 (by decide +kernel) (by decide +kernel), tblG_of 48 (by decide +kernel) (by decide +kernel), tblG_of 144 (by decide +kernel) (by decide +kernel), tblG_of 1519 (by decide +kernel) (by decide +kernel), rfl, ⟨by decide, by decide⟩, by decide +kernel, by decide⟩
noncomputable def mX11_strokes (a0 : Nat) (a1 : Int32) (a2 : Int32) : MM Int32 := onC 10 a0 (
  mbnd (mX11_needPart a0 a1) fun _ =>
  if a2 = 0 then (
    mbnd (mX11_deedsOf a0 a1) fun (v2 : Int32) =>
    mret v2
  ) else (
    mbnd (mX11_mostOnOneDay a0 a1) fun (v3 : Int32) =>
    mret v3
  )
  )
theorem rcX11_strokes (a0 : Nat) (a1 : Int32) (a2 : Int32) : Rcv 10 a0 (mX11_strokes a0 a1 a2) := fun s r h => ⟨(onC_some h).1, (onC_some h).2.1⟩
set_option maxHeartbeats 4000000 in
set_option maxRecDepth 100000 in
theorem ctX11_strokes (a0 : Nat) (a1 : Int32) (a2 : Int32) : Ct aX11_strokes [vr a0, vi a1, vi a2] (mX11_strokes a0 a1 a2) rI := by
  unfold mX11_strokes
  refine ct_onC (ct_intro (by decide +kernel) rfl (Nat.le_of_ble_eq_true rfl) fun Y s => ?_)
  refine r_sub (lv' := [(0, vr a0), (1, vi a1), (2, vi a2)]) [0, 1, 2] rfl ?_
  refine r_p (pc' := 1) (p_aload_n 0 (k := 0) (by decide +kernel) rfl) ?_
  refine r_p (pc' := 2) (p_iload_n 1 (k := 1) (by decide +kernel) rfl) ?_
  refine r_callVU mvX11_136 (ctX11_needPart a0 a1) (rcX11_needPart a0 a1) ⟨_, _, rfl⟩ (as := [vi a1]) (st := []) rfl rfl (by decide +kernel) rfl (Nat.le_of_ble_eq_true rfl) (Nat.le_of_ble_eq_true rfl) fun s => ?_
  refine r_p (pc' := 6) (p_iload_n 2 (k := 2) (by decide +kernel) rfl) ?_
  refine r_ifeq (off := 11) (tgt := 17) (by decide +kernel) (by decide) (fun h1 => ?_) (fun h1 => ?_)
  · refine r_p (pc' := 18) (p_aload_n 0 (k := 0) (by decide +kernel) rfl) ?_
    refine r_p (pc' := 19) (p_iload_n 1 (k := 1) (by decide +kernel) rfl) ?_
    refine r_callVI mvX11_335 (ctX11_deedsOf a0 a1) (rcX11_deedsOf a0 a1) ⟨_, _, rfl⟩ (as := [vi a1]) (st := []) rfl rfl (by decide +kernel) rfl (Nat.le_of_ble_eq_true rfl) (Nat.le_of_ble_eq_true rfl) fun v2 s => ?_
    exact r_iret rfl rfl _ rfl rfl (by decide +kernel)
  · refine r_p (pc' := 10) (p_aload_n 0 (k := 0) (by decide +kernel) rfl) ?_
    refine r_p (pc' := 11) (p_iload_n 1 (k := 1) (by decide +kernel) rfl) ?_
    refine r_callVI mvX11_341 (ctX11_mostOnOneDay a0 a1) (rcX11_mostOnOneDay a0 a1) ⟨_, _, rfl⟩ (as := [vi a1]) (st := []) rfl rfl (by decide +kernel) rfl (Nat.le_of_ble_eq_true rfl) (Nat.le_of_ble_eq_true rfl) fun v3 s => ?_
    refine r_p (pc' := 22) (p_goto (off := 8) (tgt := 22) (by decide +kernel) (by decide)) ?_
    exact r_iret rfl rfl _ rfl rfl (by decide +kernel)
def aX11_harmed : StA := (RX11, cX11_harmed, 6, some .int, yX11_harmed, 9, [])
noncomputable def mX11_harmed_L25 (a0 : Nat) (a1 : Int32) (a2 : Int32) (x3 : Int32 × Int32) : MM ((Int32 × Int32) ⊕ (Int32)) :=
  mbnd (gR 10 7 a0) fun (v7 : Nat) =>
  mbnd (gR 1 3 v7) fun (v8 : Nat) =>
  mbnd (gI 8 3 v8) fun (v9 : Int32) =>
  if v9 ≤ x3.2 then (
    mret (.inr x3.1)
  ) else (
    mbnd (gR 10 7 a0) fun (v11 : Nat) =>
    mbnd (gR 1 3 v11) fun (v12 : Nat) =>
    mbnd (mX8_get v12 x3.2 0) fun (v13 : Int32) =>
    mbnd (α := Int32) (
      if v13 < a1 then (
        mret x3.1
      ) else (
        if a2 < v13 then (
          mret x3.1
        ) else (
          mbnd (gR 10 7 a0) fun (v19 : Nat) =>
          mbnd (gR 1 3 v19) fun (v20 : Nat) =>
          mbnd (mX8_get v20 x3.2 3) fun (v21 : Int32) =>
          mbnd (mret (x3.1 + v21)) fun (v22 : Int32) =>
          mret v22
        )
      )
    ) fun (x15 : Int32) =>
    mret (.inl (x15, x3.2 + 1))
  )
noncomputable def mX11_harmed (a0 : Nat) (a1 : Int32) (a2 : Int32) : MM Int32 := onC 10 a0 (
  if a1 < 0 then (
    mthr 0
  ) else (
    if a1 ≤ a2 then (
      mbnd (loopM (mX11_harmed_L25 a0 a1 a2) (0, 0)) fun (e23 : Int32) =>
      mret e23
    ) else (
      mthr 0
    )
  )
  )
theorem rcX11_harmed (a0 : Nat) (a1 : Int32) (a2 : Int32) : Rcv 10 a0 (mX11_harmed a0 a1 a2) := fun s r h => ⟨(onC_some h).1, (onC_some h).2.1⟩
set_option maxHeartbeats 4000000 in
set_option maxRecDepth 100000 in
theorem ctX11_harmed (a0 : Nat) (a1 : Int32) (a2 : Int32) : Ct aX11_harmed [vr a0, vi a1, vi a2] (mX11_harmed a0 a1 a2) rI := by
  unfold mX11_harmed
  refine ct_onC (ct_intro (by decide +kernel) rfl (Nat.le_of_ble_eq_true rfl) fun Y s => ?_)
  refine r_sub (lv' := [(0, vr a0), (1, vi a1), (2, vi a2)]) [0, 1, 2] rfl ?_
  refine r_p (pc' := 1) (p_iload_n 1 (k := 1) (by decide +kernel) rfl) ?_
  refine r_iflt (off := 8) (tgt := 9) (by decide +kernel) (by decide) (fun h1 => ?_) (fun h1 => ?_)
  · exact r_thrw thX11_267_105 rfl (Nat.le_of_ble_eq_true rfl) (Nat.le_of_ble_eq_true rfl) (by decide +kernel) (by decide +kernel) (by decide +kernel) (by decide +kernel) (by decide +kernel)
  · refine r_p (pc' := 5) (p_iload_n 1 (k := 1) (by decide +kernel) rfl) ?_
    refine r_p (pc' := 6) (p_iload_n 2 (k := 2) (by decide +kernel) rfl) ?_
    refine r_icmple (off := 14) (tgt := 20) (by decide +kernel) (by decide) (fun h2 => ?_) (fun h2 => ?_)
    · refine r_p (pc' := 21) (p_iconst (n := 0) (v := 0) (by decide +kernel) rfl) ?_
      refine r_p (pc' := 22) (p_istore_n (k := 3) (lv' := [(3, vi 0), (0, vr a0), (1, vi a1), (2, vi a2)]) (by decide +kernel) (Nat.le_of_ble_eq_true rfl) rfl) ?_
      refine r_p (pc' := 23) (p_iconst (n := 0) (v := 0) (by decide +kernel) rfl) ?_
      refine r_p (pc' := 25) (p_istore (i := 4) (lv' := [(4, vi 0), (3, vi 0), (0, vr a0), (1, vi a1), (2, vi a2)]) (by decide +kernel) (Nat.le_of_ble_eq_true rfl) rfl) ?_
      refine r_sub (lv' := [(0, vr a0), (1, vi a1), (2, vi a2), (3, vi 0), (4, vi 0)]) [2, 3, 4, 1, 0] rfl ?_
      refine r_loop2 (fun _ => 89) (fun (e23 : Int32) => [(3, vi e23)]) (fun (x3 : Int32 × Int32) => [(0, vr a0), (1, vi a1), (2, vi a2), (3, vi x3.1), (4, vi x3.2)]) (fun e23 s => ?_) (fun K4 hb5 he6 x3 s => ?_) (0, 0) _
      · refine r_p (pc' := 90) (p_iload_n 0 (k := 3) (by decide +kernel) rfl) ?_
        exact r_iret rfl rfl _ rfl rfl (by decide +kernel)
      · unfold mX11_harmed_L25
        refine r_p (pc' := 27) (p_iload 4 (i := 4) (by decide +kernel) rfl) ?_
        refine r_p (pc' := 28) (p_aload_n 0 (k := 0) (by decide +kernel) rfl) ?_
        refine r_gR flX11_54_10 (by decide +kernel) fun v7 => ?_
        refine r_gR flX11_191_1 (by decide +kernel) fun v8 => ?_
        refine r_gI flX11_293_8 (by decide +kernel) fun v9 => ?_
        refine r_icmpge (off := 52) (tgt := 89) (by decide +kernel) (by decide) (fun h10 => ?_) (fun h10 => ?_)
        · refine r_sub (lv' := [(3, vi x3.1)]) [3] rfl ?_
          exact he6 x3.1 _
        · refine r_p (pc' := 41) (p_aload_n 0 (k := 0) (by decide +kernel) rfl) ?_
          refine r_gR flX11_54_10 (by decide +kernel) fun v11 => ?_
          refine r_gR flX11_191_1 (by decide +kernel) fun v12 => ?_
          refine r_p (pc' := 49) (p_iload 4 (i := 4) (by decide +kernel) rfl) ?_
          refine r_p (pc' := 50) (p_iconst (n := 0) (v := 0) (by decide +kernel) rfl) ?_
          refine r_callVI mvX11_151 (ctX8_get v12 x3.2 0) (rcX8_get v12 x3.2 0) ⟨_, _, rfl⟩ (as := [vi x3.2, vi 0]) (st := []) rfl rfl (by decide +kernel) rfl (Nat.le_of_ble_eq_true rfl) (Nat.le_of_ble_eq_true rfl) fun v13 s => ?_
          refine r_p (pc' := 55) (p_istore (i := 5) (lv' := [(5, vi v13), (0, vr a0), (1, vi a1), (2, vi a2), (3, vi x3.1), (4, vi x3.2)]) (by decide +kernel) (Nat.le_of_ble_eq_true rfl) rfl) ?_
          refine r_p (pc' := 57) (p_iload 0 (i := 5) (by decide +kernel) rfl) ?_
          refine r_p (pc' := 58) (p_iload_n 2 (k := 1) (by decide +kernel) rfl) ?_
          refine r_join 83 (fun (x15 : Int32) => [(0, vr a0), (1, vi a1), (2, vi a2), (3, vi x15), (4, vi x3.2)]) (fun (x15 : Int32) => []) (fun x15 s => ?_) (fun K16 hj17 => ?_)
          · refine r_p (pc' := 86) (p_iinc 4 (i := 4) (n := 1) (x := x3.2) (v := x3.2 + 1) (lv' := [(4, vi (x3.2 + 1)), (0, vr a0), (1, vi a1), (2, vi a2), (3, vi x15)]) (by decide +kernel) rfl rfl (Nat.le_of_ble_eq_true rfl) rfl) ?_
            refine r_p (pc' := 25) (p_goto (off := -61) (tgt := 25) (by decide +kernel) (by decide)) ?_
            refine r_sub (lv' := [(0, vr a0), (1, vi a1), (2, vi a2), (3, vi x15), (4, vi (x3.2 + 1))]) [1, 2, 3, 4, 0] rfl ?_
            exact hb5 (x15, x3.2 + 1) _
          · refine r_icmplt (off := 25) (tgt := 83) (by decide +kernel) (by decide) (fun h14 => ?_) (fun h14 => ?_)
            · refine r_sub (lv' := [(0, vr a0), (1, vi a1), (2, vi a2), (3, vi x3.1), (4, vi x3.2)]) [1, 2, 3, 4, 5] rfl ?_
              exact hj17 x3.1 _
            · refine r_p (pc' := 63) (p_iload 0 (i := 5) (by decide +kernel) rfl) ?_
              refine r_p (pc' := 64) (p_iload_n 3 (k := 2) (by decide +kernel) rfl) ?_
              refine r_icmpgt (off := 19) (tgt := 83) (by decide +kernel) (by decide) (fun h18 => ?_) (fun h18 => ?_)
              · refine r_sub (lv' := [(0, vr a0), (1, vi a1), (2, vi a2), (3, vi x3.1), (4, vi x3.2)]) [1, 2, 3, 4, 5] rfl ?_
                exact hj17 x3.1 _
              · refine r_p (pc' := 68) (p_iload_n 4 (k := 3) (by decide +kernel) rfl) ?_
                refine r_p (pc' := 69) (p_aload_n 1 (k := 0) (by decide +kernel) rfl) ?_
                refine r_gR flX11_54_10 (by decide +kernel) fun v19 => ?_
                refine r_gR flX11_191_1 (by decide +kernel) fun v20 => ?_
                refine r_p (pc' := 77) (p_iload 5 (i := 4) (by decide +kernel) rfl) ?_
                refine r_p (pc' := 78) (p_iconst (n := 3) (v := 3) (by decide +kernel) rfl) ?_
                refine r_callVI mvX11_151 (ctX8_get v20 x3.2 3) (rcX8_get v20 x3.2 3) ⟨_, _, rfl⟩ (as := [vi x3.2, vi 3]) (st := [vi x3.1]) rfl rfl (by decide +kernel) rfl (Nat.le_of_ble_eq_true rfl) (Nat.le_of_ble_eq_true rfl) fun v21 s => ?_
                refine r_p (pc' := 82) (p_iadd (by decide +kernel)) ?_
                refine r_letI fun v22 => ?_
                refine r_p (pc' := 83) (p_istore_n (k := 3) (lv' := [(3, vi v22), (5, vi v13), (0, vr a0), (1, vi a1), (2, vi a2), (4, vi x3.2)]) (by decide +kernel) (Nat.le_of_ble_eq_true rfl) rfl) ?_
                refine r_sub (lv' := [(0, vr a0), (1, vi a1), (2, vi a2), (3, vi v22), (4, vi x3.2)]) [2, 3, 4, 0, 5] rfl ?_
                exact hj17 v22 _
    · exact r_thrw thX11_267_105 rfl (Nat.le_of_ble_eq_true rfl) (Nat.le_of_ble_eq_true rfl) (by decide +kernel) (by decide +kernel) (by decide +kernel) (by decide +kernel) (by decide +kernel)
def aX11_cell : StA := (RX11, cX11_cell, 2, some .int, yX11_cell, 14, [])
theorem flX11_33_10 : FL RX11 33 10 5 := ⟨_, TX11, 10, "ToolCourt", rfl, by decide, Or.inl (tblG_of 519 (by decide +kernel) (by decide +kernel)), Or.inl rfl⟩
theorem mvX11_344 : MV RX11 344 aX0_arrange 1 := ⟨tblG_of 685 (by decide +kernel) (by decide +kernel), tblG_of 686 (by decide +kernel) (by decide +kernel), tblG_of 687 (by decide +kernel) (by decide +kernel), tblG_of 148 (by decide +kernel) (by decide +kernel), tblG_of 688 (by decide +kernel) (by decide +kernel), rfl, ⟨by decide, by decide⟩, by decide +kernel, by decide⟩
theorem flX11_347_0 : FL RX11 347 0 5 := ⟨_, TX0, 6, "ToolCourt$Cell", rfl, by decide, Or.inr ⟨"ToolCourt", List.mem_of_getElem? (i := 254) (by decide +kernel)⟩, Or.inl rfl⟩
theorem mvX11_348 : MV RX11 348 aX0_turn 1 := ⟨tblG_of 719 (by decide +kernel) (by decide +kernel), tblG_of 720 (by decide +kernel) (by decide +kernel), tblG_of 721 (by decide +kernel) (by decide +kernel), tblG_of 148 (by decide +kernel) (by decide +kernel), tblG_of 722 (by decide +kernel) (by decide +kernel), rfl, ⟨by decide, by decide⟩, by decide +kernel, by decide⟩
noncomputable def mX11_cell (a0 : Nat) (a1 : Int32) : MM Int32 := onC 10 a0 (
  mbnd (gR 10 5 a0) fun (v1 : Nat) =>
  mbnd (gR 10 7 a0) fun (v2 : Nat) =>
  mbnd (mX0_arrange v1 v2) fun _ =>
  mbnd (gR 10 5 a0) fun (v3 : Nat) =>
  mbnd (gI 0 5 v3) fun (v4 : Int32) =>
  if v4 ≤ 64 then (
    if a1 = (-1) then (
      mbnd (gR 10 5 a0) fun (v7 : Nat) =>
      mbnd (gI 0 5 v7) fun (v8 : Int32) =>
      mret v8
    ) else (
      mbnd (gR 10 5 a0) fun (v9 : Nat) =>
      mbnd (mX0_turn v9 a1) fun (v10 : Int32) =>
      mret v10
    )
  ) else (
    mret (-3)
  )
  )
theorem rcX11_cell (a0 : Nat) (a1 : Int32) : Rcv 10 a0 (mX11_cell a0 a1) := fun s r h => ⟨(onC_some h).1, (onC_some h).2.1⟩
set_option maxHeartbeats 4000000 in
set_option maxRecDepth 100000 in
theorem ctX11_cell (a0 : Nat) (a1 : Int32) : Ct aX11_cell [vr a0, vi a1] (mX11_cell a0 a1) rI := by
  unfold mX11_cell
  refine ct_onC (ct_intro (by decide +kernel) rfl (Nat.le_of_ble_eq_true rfl) fun Y s => ?_)
  refine r_sub (lv' := [(0, vr a0), (1, vi a1)]) [0, 1] rfl ?_
  refine r_p (pc' := 1) (p_aload_n 0 (k := 0) (by decide +kernel) rfl) ?_
  refine r_gR flX11_33_10 (by decide +kernel) fun v1 => ?_
  refine r_p (pc' := 5) (p_aload_n 0 (k := 0) (by decide +kernel) rfl) ?_
  refine r_gR flX11_54_10 (by decide +kernel) fun v2 => ?_
  refine r_callVU mvX11_344 (ctX0_arrange v1 v2) (rcX0_arrange v1 v2) ⟨_, _, rfl⟩ (as := [vr v2]) (st := []) rfl rfl (by decide +kernel) rfl (Nat.le_of_ble_eq_true rfl) (Nat.le_of_ble_eq_true rfl) fun s => ?_
  refine r_p (pc' := 12) (p_aload_n 0 (k := 0) (by decide +kernel) rfl) ?_
  refine r_gR flX11_33_10 (by decide +kernel) fun v3 => ?_
  refine r_gI flX11_347_0 (by decide +kernel) fun v4 => ?_
  refine r_p (pc' := 20) (p_bipush (n := 64) (v := 64) (by decide +kernel) (by decide +kernel)) ?_
  refine r_icmple (off := 6) (tgt := 26) (by decide +kernel) (by decide) (fun h5 => ?_) (fun h5 => ?_)
  · refine r_p (pc' := 27) (p_iload_n 1 (k := 1) (by decide +kernel) rfl) ?_
    refine r_p (pc' := 28) (p_iconst (n := -1) (v := -1) (by decide +kernel) rfl) ?_
    refine r_icmpne (off := 13) (tgt := 41) (by decide +kernel) (by decide) (fun h6 => ?_) (fun h6 => ?_)
    · refine r_p (pc' := 32) (p_aload_n 0 (k := 0) (by decide +kernel) rfl) ?_
      refine r_gR flX11_33_10 (by decide +kernel) fun v7 => ?_
      refine r_gI flX11_347_0 (by decide +kernel) fun v8 => ?_
      refine r_p (pc' := 49) (p_goto (off := 11) (tgt := 49) (by decide +kernel) (by decide)) ?_
      exact r_iret rfl rfl _ rfl rfl (by decide +kernel)
    · refine r_p (pc' := 42) (p_aload_n 0 (k := 0) (by decide +kernel) rfl) ?_
      refine r_gR flX11_33_10 (by decide +kernel) fun v9 => ?_
      refine r_p (pc' := 46) (p_iload_n 1 (k := 1) (by decide +kernel) rfl) ?_
      refine r_callVI mvX11_348 (ctX0_turn v9 a1) (rcX0_turn v9 a1) ⟨_, _, rfl⟩ (as := [vi a1]) (st := []) rfl rfl (by decide +kernel) rfl (Nat.le_of_ble_eq_true rfl) (Nat.le_of_ble_eq_true rfl) fun v10 s => ?_
      exact r_iret rfl rfl _ rfl rfl (by decide +kernel)
  · refine r_p (pc' := 25) (p_bipush (n := -3) (v := -3) (by decide +kernel) (by decide +kernel)) ?_
    exact r_iret rfl rfl _ rfl rfl (by decide +kernel)
def aX11_partsUsedIn : StA := (RX11, cX11_partsUsedIn, 4, some .int, yX11_partsUsedIn, 9, [])
noncomputable def mX11_partsUsedIn_L4 (a0 : Nat) (a1 : Int32) (x1 : Int32 × Int32) : MM ((Int32 × Int32) ⊕ (Int32)) :=
  mbnd (gR 10 7 a0) fun (v5 : Nat) =>
  mbnd (gR 1 3 v5) fun (v6 : Nat) =>
  mbnd (gI 8 3 v6) fun (v7 : Int32) =>
  if v7 ≤ x1.2 then (
    mret (.inr x1.1)
  ) else (
    mbnd (gR 10 7 a0) fun (v9 : Nat) =>
    mbnd (gR 1 3 v9) fun (v10 : Nat) =>
    mbnd (mX8_get v10 x1.2 1) fun (v11 : Int32) =>
    mbnd (α := Int32) (
      if v11 = a1 then (
        mbnd (gR 10 7 a0) fun (v16 : Nat) =>
        mbnd (gR 1 3 v16) fun (v17 : Nat) =>
        mbnd (mX8_get v17 x1.2 6) fun (v18 : Int32) =>
        mret v18
      ) else (
        mret 0
      )
    ) fun (x13 : Int32) =>
    mbnd (mret (x1.1 ||| x13)) fun (v19 : Int32) =>
    mret (.inl (v19, x1.2 + 1))
  )
noncomputable def mX11_partsUsedIn (a0 : Nat) (a1 : Int32) : MM Int32 := onC 10 a0 (
  mbnd (loopM (mX11_partsUsedIn_L4 a0 a1) (0, 0)) fun (e20 : Int32) =>
  mret e20
  )
theorem rcX11_partsUsedIn (a0 : Nat) (a1 : Int32) : Rcv 10 a0 (mX11_partsUsedIn a0 a1) := fun s r h => ⟨(onC_some h).1, (onC_some h).2.1⟩
set_option maxHeartbeats 4000000 in
set_option maxRecDepth 100000 in
theorem ctX11_partsUsedIn (a0 : Nat) (a1 : Int32) : Ct aX11_partsUsedIn [vr a0, vi a1] (mX11_partsUsedIn a0 a1) rI := by
  unfold mX11_partsUsedIn
  refine ct_onC (ct_intro (by decide +kernel) rfl (Nat.le_of_ble_eq_true rfl) fun Y s => ?_)
  refine r_sub (lv' := [(0, vr a0), (1, vi a1)]) [0, 1] rfl ?_
  refine r_p (pc' := 1) (p_iconst (n := 0) (v := 0) (by decide +kernel) rfl) ?_
  refine r_p (pc' := 2) (p_istore_n (k := 2) (lv' := [(2, vi 0), (0, vr a0), (1, vi a1)]) (by decide +kernel) (Nat.le_of_ble_eq_true rfl) rfl) ?_
  refine r_p (pc' := 3) (p_iconst (n := 0) (v := 0) (by decide +kernel) rfl) ?_
  refine r_p (pc' := 4) (p_istore_n (k := 3) (lv' := [(3, vi 0), (2, vi 0), (0, vr a0), (1, vi a1)]) (by decide +kernel) (Nat.le_of_ble_eq_true rfl) rfl) ?_
  refine r_sub (lv' := [(0, vr a0), (1, vi a1), (2, vi 0), (3, vi 0)]) [2, 3, 1, 0] rfl ?_
  refine r_loop2 (fun _ => 60) (fun (e20 : Int32) => [(2, vi e20)]) (fun (x1 : Int32 × Int32) => [(0, vr a0), (1, vi a1), (2, vi x1.1), (3, vi x1.2)]) (fun e20 s => ?_) (fun K2 hb3 he4 x1 s => ?_) (0, 0) _
  · refine r_p (pc' := 61) (p_iload_n 0 (k := 2) (by decide +kernel) rfl) ?_
    exact r_iret rfl rfl _ rfl rfl (by decide +kernel)
  · unfold mX11_partsUsedIn_L4
    refine r_p (pc' := 5) (p_iload_n 3 (k := 3) (by decide +kernel) rfl) ?_
    refine r_p (pc' := 6) (p_aload_n 0 (k := 0) (by decide +kernel) rfl) ?_
    refine r_gR flX11_54_10 (by decide +kernel) fun v5 => ?_
    refine r_gR flX11_191_1 (by decide +kernel) fun v6 => ?_
    refine r_gI flX11_293_8 (by decide +kernel) fun v7 => ?_
    refine r_icmpge (off := 45) (tgt := 60) (by decide +kernel) (by decide) (fun h8 => ?_) (fun h8 => ?_)
    · refine r_sub (lv' := [(2, vi x1.1)]) [2] rfl ?_
      exact he4 x1.1 _
    · refine r_p (pc' := 19) (p_iload_n 2 (k := 2) (by decide +kernel) rfl) ?_
      refine r_p (pc' := 20) (p_aload_n 0 (k := 0) (by decide +kernel) rfl) ?_
      refine r_gR flX11_54_10 (by decide +kernel) fun v9 => ?_
      refine r_gR flX11_191_1 (by decide +kernel) fun v10 => ?_
      refine r_p (pc' := 27) (p_iload_n 3 (k := 3) (by decide +kernel) rfl) ?_
      refine r_p (pc' := 28) (p_iconst (n := 1) (v := 1) (by decide +kernel) rfl) ?_
      refine r_callVI mvX11_151 (ctX8_get v10 x1.2 1) (rcX8_get v10 x1.2 1) ⟨_, _, rfl⟩ (as := [vi x1.2, vi 1]) (st := [vi x1.1]) rfl rfl (by decide +kernel) rfl (Nat.le_of_ble_eq_true rfl) (Nat.le_of_ble_eq_true rfl) fun v11 s => ?_
      refine r_p (pc' := 32) (p_iload_n 1 (k := 1) (by decide +kernel) rfl) ?_
      refine r_join 52 (fun (x13 : Int32) => [(0, vr a0), (1, vi a1), (3, vi x1.2)]) (fun (x13 : Int32) => [vi x13, vi x1.1]) (fun x13 s => ?_) (fun K14 hj15 => ?_)
      · refine r_p (pc' := 53) (p_ior (by decide +kernel)) ?_
        refine r_letI fun v19 => ?_
        refine r_p (pc' := 54) (p_istore_n (k := 2) (lv' := [(2, vi v19), (0, vr a0), (1, vi a1), (3, vi x1.2)]) (by decide +kernel) (Nat.le_of_ble_eq_true rfl) rfl) ?_
        refine r_p (pc' := 57) (p_iinc 3 (i := 3) (n := 1) (x := x1.2) (v := x1.2 + 1) (lv' := [(3, vi (x1.2 + 1)), (2, vi v19), (0, vr a0), (1, vi a1)]) (by decide +kernel) rfl rfl (Nat.le_of_ble_eq_true rfl) rfl) ?_
        refine r_p (pc' := 4) (p_goto (off := -53) (tgt := 4) (by decide +kernel) (by decide)) ?_
        refine r_sub (lv' := [(0, vr a0), (1, vi a1), (2, vi v19), (3, vi (x1.2 + 1))]) [2, 3, 1, 0] rfl ?_
        exact hb3 (v19, x1.2 + 1) _
      · refine r_icmpne (off := 19) (tgt := 51) (by decide +kernel) (by decide) (fun h12 => ?_) (fun h12 => ?_)
        · refine r_p (pc' := 36) (p_aload_n 0 (k := 0) (by decide +kernel) rfl) ?_
          refine r_gR flX11_54_10 (by decide +kernel) fun v16 => ?_
          refine r_gR flX11_191_1 (by decide +kernel) fun v17 => ?_
          refine r_p (pc' := 43) (p_iload_n 3 (k := 3) (by decide +kernel) rfl) ?_
          refine r_p (pc' := 45) (p_bipush (n := 6) (v := 6) (by decide +kernel) (by decide +kernel)) ?_
          refine r_callVI mvX11_151 (ctX8_get v17 x1.2 6) (rcX8_get v17 x1.2 6) ⟨_, _, rfl⟩ (as := [vi x1.2, vi 6]) (st := [vi x1.1]) rfl rfl (by decide +kernel) rfl (Nat.le_of_ble_eq_true rfl) (Nat.le_of_ble_eq_true rfl) fun v18 s => ?_
          refine r_p (pc' := 52) (p_goto (off := 4) (tgt := 52) (by decide +kernel) (by decide)) ?_
          refine r_sub (lv' := [(0, vr a0), (1, vi a1), (3, vi x1.2)]) [0, 1, 3] rfl ?_
          exact hj15 v18 _
        · refine r_p (pc' := 52) (p_iconst (n := 0) (v := 0) (by decide +kernel) rfl) ?_
          refine r_sub (lv' := [(0, vr a0), (1, vi a1), (3, vi x1.2)]) [0, 1, 3] rfl ?_
          exact hj15 0 _
def aX11_joint : StA := (RX11, cX11_joint, 6, some .int, yX11_joint, 11, [])
theorem mvX11_351 : MV RX11 351 aX11_partsUsedIn 1 := ⟨tblG_of 1534 (by decide +kernel) (by decide +kernel), tblG_of 1536 (by decide +kernel) (by decide +kernel), tblG_of 49 (by decide +kernel) (by decide +kernel), tblG_of 144 (by decide +kernel) (by decide +kernel), tblG_of 1537 (by decide +kernel) (by decide +kernel), rfl, ⟨by decide, by decide⟩, by decide +kernel, by decide⟩
noncomputable def mX11_joint_L24 (a0 : Nat) (v3 : Int32) (x4 : Int32 × Int32) : MM ((Int32 × Int32) ⊕ (Int32)) :=
  mbnd (gR 10 7 a0) fun (v8 : Nat) =>
  mbnd (gR 1 0 v8) fun (v9 : Nat) =>
  mbnd (gI 8 3 v9) fun (v10 : Int32) =>
  if v10 ≤ x4.2 then (
    mret (.inr x4.1)
  ) else (
    mbnd (mX11_inSet v3 x4.2) fun (v12 : Int32) =>
    mbnd (α := Int32) (
      if v12 = 0 then (
        mret x4.1
      ) else (
        mbnd (gR 10 7 a0) fun (v17 : Nat) =>
        mbnd (mX1_guiltOf v17 x4.2) fun (v18 : Int32) =>
        mbnd (mret (x4.1 + v18)) fun (v19 : Int32) =>
        mret v19
      )
    ) fun (x14 : Int32) =>
    mret (.inl (x14, x4.2 + 1))
  )
noncomputable def mX11_joint (a0 : Nat) (a1 : Int32) (a2 : Int32) : MM Int32 := onC 10 a0 (
  mbnd (mX11_needTwoTools a0 a1 a2) fun _ =>
  mbnd (mX11_partsUsedIn a0 a1) fun (v1 : Int32) =>
  mbnd (mX11_partsUsedIn a0 a2) fun (v2 : Int32) =>
  mbnd (mret (v1 &&& v2)) fun (v3 : Int32) =>
  mbnd (loopM (mX11_joint_L24 a0 v3) (0, 0)) fun (e20 : Int32) =>
  mret e20
  )
theorem rcX11_joint (a0 : Nat) (a1 : Int32) (a2 : Int32) : Rcv 10 a0 (mX11_joint a0 a1 a2) := fun s r h => ⟨(onC_some h).1, (onC_some h).2.1⟩
set_option maxHeartbeats 4000000 in
set_option maxRecDepth 100000 in
theorem ctX11_joint (a0 : Nat) (a1 : Int32) (a2 : Int32) : Ct aX11_joint [vr a0, vi a1, vi a2] (mX11_joint a0 a1 a2) rI := by
  unfold mX11_joint
  refine ct_onC (ct_intro (by decide +kernel) rfl (Nat.le_of_ble_eq_true rfl) fun Y s => ?_)
  refine r_sub (lv' := [(0, vr a0), (1, vi a1), (2, vi a2)]) [0, 1, 2] rfl ?_
  refine r_p (pc' := 1) (p_aload_n 0 (k := 0) (by decide +kernel) rfl) ?_
  refine r_p (pc' := 2) (p_iload_n 1 (k := 1) (by decide +kernel) rfl) ?_
  refine r_p (pc' := 3) (p_iload_n 2 (k := 2) (by decide +kernel) rfl) ?_
  refine r_callVU mvX11_323 (ctX11_needTwoTools a0 a1 a2) (rcX11_needTwoTools a0 a1 a2) ⟨_, _, rfl⟩ (as := [vi a1, vi a2]) (st := []) rfl rfl (by decide +kernel) rfl (Nat.le_of_ble_eq_true rfl) (Nat.le_of_ble_eq_true rfl) fun s => ?_
  refine r_p (pc' := 7) (p_aload_n 0 (k := 0) (by decide +kernel) rfl) ?_
  refine r_p (pc' := 8) (p_iload_n 1 (k := 1) (by decide +kernel) rfl) ?_
  refine r_callVI mvX11_351 (ctX11_partsUsedIn a0 a1) (rcX11_partsUsedIn a0 a1) ⟨_, _, rfl⟩ (as := [vi a1]) (st := []) rfl rfl (by decide +kernel) rfl (Nat.le_of_ble_eq_true rfl) (Nat.le_of_ble_eq_true rfl) fun v1 s => ?_
  refine r_p (pc' := 12) (p_aload_n 0 (k := 0) (by decide +kernel) rfl) ?_
  refine r_p (pc' := 13) (p_iload_n 2 (k := 2) (by decide +kernel) rfl) ?_
  refine r_callVI mvX11_351 (ctX11_partsUsedIn a0 a2) (rcX11_partsUsedIn a0 a2) ⟨_, _, rfl⟩ (as := [vi a2]) (st := [vi v1]) rfl rfl (by decide +kernel) rfl (Nat.le_of_ble_eq_true rfl) (Nat.le_of_ble_eq_true rfl) fun v2 s => ?_
  refine r_p (pc' := 17) (p_iand (by decide +kernel)) ?_
  refine r_letI fun v3 => ?_
  refine r_p (pc' := 18) (p_istore_n (k := 3) (lv' := [(3, vi v3), (0, vr a0), (1, vi a1), (2, vi a2)]) (by decide +kernel) (Nat.le_of_ble_eq_true rfl) rfl) ?_
  refine r_p (pc' := 19) (p_iconst (n := 0) (v := 0) (by decide +kernel) rfl) ?_
  refine r_p (pc' := 21) (p_istore (i := 4) (lv' := [(4, vi 0), (3, vi v3), (0, vr a0), (1, vi a1), (2, vi a2)]) (by decide +kernel) (Nat.le_of_ble_eq_true rfl) rfl) ?_
  refine r_p (pc' := 22) (p_iconst (n := 0) (v := 0) (by decide +kernel) rfl) ?_
  refine r_p (pc' := 24) (p_istore (i := 5) (lv' := [(5, vi 0), (4, vi 0), (3, vi v3), (0, vr a0), (1, vi a1), (2, vi a2)]) (by decide +kernel) (Nat.le_of_ble_eq_true rfl) rfl) ?_
  refine r_sub (lv' := [(0, vr a0), (3, vi v3), (4, vi 0), (5, vi 0)]) [3, 2, 1, 0] rfl ?_
  refine r_loop2 (fun _ => 68) (fun (e20 : Int32) => [(4, vi e20)]) (fun (x4 : Int32 × Int32) => [(0, vr a0), (3, vi v3), (4, vi x4.1), (5, vi x4.2)]) (fun e20 s => ?_) (fun K5 hb6 he7 x4 s => ?_) (0, 0) _
  · refine r_p (pc' := 70) (p_iload 0 (i := 4) (by decide +kernel) rfl) ?_
    exact r_iret rfl rfl _ rfl rfl (by decide +kernel)
  · unfold mX11_joint_L24
    refine r_p (pc' := 26) (p_iload 3 (i := 5) (by decide +kernel) rfl) ?_
    refine r_p (pc' := 27) (p_aload_n 0 (k := 0) (by decide +kernel) rfl) ?_
    refine r_gR flX11_54_10 (by decide +kernel) fun v8 => ?_
    refine r_gR flX11_147_1 (by decide +kernel) fun v9 => ?_
    refine r_gI flX11_293_8 (by decide +kernel) fun v10 => ?_
    refine r_icmpge (off := 32) (tgt := 68) (by decide +kernel) (by decide) (fun h11 => ?_) (fun h11 => ?_)
    · refine r_sub (lv' := [(4, vi x4.1)]) [2] rfl ?_
      exact he7 x4.1 _
    · refine r_p (pc' := 40) (p_iload_n 1 (k := 3) (by decide +kernel) rfl) ?_
      refine r_p (pc' := 42) (p_iload 3 (i := 5) (by decide +kernel) rfl) ?_
      refine r_callSI msX11_319 (ctX11_inSet v3 x4.2) (as := [vi v3, vi x4.2]) (st := []) rfl rfl (by decide +kernel) rfl (Nat.le_of_ble_eq_true rfl) (Nat.le_of_ble_eq_true rfl) fun v12 s => ?_
      refine r_join 62 (fun (x14 : Int32) => [(0, vr a0), (3, vi v3), (4, vi x14), (5, vi x4.2)]) (fun (x14 : Int32) => []) (fun x14 s => ?_) (fun K15 hj16 => ?_)
      · refine r_p (pc' := 65) (p_iinc 3 (i := 5) (n := 1) (x := x4.2) (v := x4.2 + 1) (lv' := [(5, vi (x4.2 + 1)), (0, vr a0), (3, vi v3), (4, vi x14)]) (by decide +kernel) rfl rfl (Nat.le_of_ble_eq_true rfl) rfl) ?_
        refine r_p (pc' := 24) (p_goto (off := -41) (tgt := 24) (by decide +kernel) (by decide)) ?_
        refine r_sub (lv' := [(0, vr a0), (3, vi v3), (4, vi x14), (5, vi (x4.2 + 1))]) [1, 2, 3, 0] rfl ?_
        exact hb6 (x14, x4.2 + 1) _
      · refine r_ifeq (off := 17) (tgt := 62) (by decide +kernel) (by decide) (fun h13 => ?_) (fun h13 => ?_)
        · exact hj16 x4.1 _
        · refine r_p (pc' := 50) (p_iload 2 (i := 4) (by decide +kernel) rfl) ?_
          refine r_p (pc' := 51) (p_aload_n 0 (k := 0) (by decide +kernel) rfl) ?_
          refine r_gR flX11_54_10 (by decide +kernel) fun v17 => ?_
          refine r_p (pc' := 56) (p_iload 3 (i := 5) (by decide +kernel) rfl) ?_
          refine r_callVI mvX11_354 (ctX1_guiltOf v17 x4.2) (rcX1_guiltOf v17 x4.2) ⟨_, _, rfl⟩ (as := [vi x4.2]) (st := [vi x4.1]) rfl rfl (by decide +kernel) rfl (Nat.le_of_ble_eq_true rfl) (Nat.le_of_ble_eq_true rfl) fun v18 s => ?_
          refine r_p (pc' := 60) (p_iadd (by decide +kernel)) ?_
          refine r_letI fun v19 => ?_
          refine r_p (pc' := 62) (p_istore (i := 4) (lv' := [(4, vi v19), (0, vr a0), (3, vi v3), (5, vi x4.2)]) (by decide +kernel) (Nat.le_of_ble_eq_true rfl) rfl) ?_
          refine r_sub (lv' := [(0, vr a0), (3, vi v3), (4, vi v19), (5, vi x4.2)]) [1, 2, 0, 3] rfl ?_
          exact hj16 v19 _
def aX11_clock : StA := (RX11, cX11_clock, 7, some .int, yX11_clock, 10, [])
noncomputable def mX11_clock_L20 (a0 : Nat) (a1 : Int32) (a2 : Int32) (a3 : Int32) (x1 : Int32 × Int32) : MM ((Int32 × Int32) ⊕ (Int32)) :=
  mbnd (gR 10 7 a0) fun (v5 : Nat) =>
  mbnd (gR 1 3 v5) fun (v6 : Nat) =>
  mbnd (gI 8 3 v6) fun (v7 : Int32) =>
  if v7 ≤ x1.2 then (
    mret (.inr x1.1)
  ) else (
    mbnd (gR 10 7 a0) fun (v9 : Nat) =>
    mbnd (gR 1 3 v9) fun (v10 : Nat) =>
    mbnd (mX8_get v10 x1.2 6) fun (v11 : Int32) =>
    mbnd (mX11_inSet v11 a1) fun (v12 : Int32) =>
    mbnd (α := Int32) (
      if v12 = 0 then (
        mret 0
      ) else (
        mbnd (gR 10 7 a0) fun (v17 : Nat) =>
        mbnd (gR 1 3 v17) fun (v18 : Nat) =>
        mbnd (mX8_get v18 x1.2 5) fun (v19 : Int32) =>
        if v19 = a2 then (
          mret 1
        ) else (
          mret 0
        )
      )
    ) fun (x14 : Int32) =>
    mbnd (α := Int32) (
      if x14 = 0 then (
        mret x1.1
      ) else (
        if a3 = 0 then (
          if x1.1 = (-1) then (
            mbnd (gR 10 7 a0) fun (v27 : Nat) =>
            mbnd (gR 1 3 v27) fun (v28 : Nat) =>
            mbnd (mX8_get v28 x1.2 0) fun (v29 : Int32) =>
            mret v29
          ) else (
            mret x1.1
          )
        ) else (
          mbnd (gR 10 7 a0) fun (v30 : Nat) =>
          mbnd (gR 1 3 v30) fun (v31 : Nat) =>
          mbnd (mX8_get v31 x1.2 0) fun (v32 : Int32) =>
          mret v32
        )
      )
    ) fun (x22 : Int32) =>
    mret (.inl (x22, x1.2 + 1))
  )
noncomputable def mX11_clock (a0 : Nat) (a1 : Int32) (a2 : Int32) (a3 : Int32) : MM Int32 := onC 10 a0 (
  mbnd (mX11_needPart a0 a1) fun _ =>
  mbnd (mX11_needHeadPart a0 a1) fun _ =>
  mbnd (mX11_needGrade a2) fun _ =>
  mbnd (loopM (mX11_clock_L20 a0 a1 a2 a3) (((-1), 0))) fun (e33 : Int32) =>
  mret e33
  )
theorem rcX11_clock (a0 : Nat) (a1 : Int32) (a2 : Int32) (a3 : Int32) : Rcv 10 a0 (mX11_clock a0 a1 a2 a3) := fun s r h => ⟨(onC_some h).1, (onC_some h).2.1⟩
set_option maxHeartbeats 4000000 in
set_option maxRecDepth 100000 in
theorem ctX11_clock (a0 : Nat) (a1 : Int32) (a2 : Int32) (a3 : Int32) : Ct aX11_clock [vr a0, vi a1, vi a2, vi a3] (mX11_clock a0 a1 a2 a3) rI := by
  unfold mX11_clock
  refine ct_onC (ct_intro (by decide +kernel) rfl (Nat.le_of_ble_eq_true rfl) fun Y s => ?_)
  refine r_sub (lv' := [(0, vr a0), (1, vi a1), (2, vi a2), (3, vi a3)]) [0, 1, 2, 3] rfl ?_
  refine r_p (pc' := 1) (p_aload_n 0 (k := 0) (by decide +kernel) rfl) ?_
  refine r_p (pc' := 2) (p_iload_n 1 (k := 1) (by decide +kernel) rfl) ?_
  refine r_callVU mvX11_136 (ctX11_needPart a0 a1) (rcX11_needPart a0 a1) ⟨_, _, rfl⟩ (as := [vi a1]) (st := []) rfl rfl (by decide +kernel) rfl (Nat.le_of_ble_eq_true rfl) (Nat.le_of_ble_eq_true rfl) fun s => ?_
  refine r_p (pc' := 6) (p_aload_n 0 (k := 0) (by decide +kernel) rfl) ?_
  refine r_p (pc' := 7) (p_iload_n 1 (k := 1) (by decide +kernel) rfl) ?_
  refine r_callVU mvX11_243 (ctX11_needHeadPart a0 a1) (rcX11_needHeadPart a0 a1) ⟨_, _, rfl⟩ (as := [vi a1]) (st := []) rfl rfl (by decide +kernel) rfl (Nat.le_of_ble_eq_true rfl) (Nat.le_of_ble_eq_true rfl) fun s => ?_
  refine r_p (pc' := 11) (p_iload_n 2 (k := 2) (by decide +kernel) rfl) ?_
  refine r_callSU msX11_279 (ctX11_needGrade a2) (as := [vi a2]) (st := []) rfl rfl (by decide +kernel) rfl (Nat.le_of_ble_eq_true rfl) (Nat.le_of_ble_eq_true rfl) fun s => ?_
  refine r_p (pc' := 15) (p_iconst (n := -1) (v := -1) (by decide +kernel) rfl) ?_
  refine r_p (pc' := 17) (p_istore (i := 4) (lv' := [(4, vi (-1)), (0, vr a0), (1, vi a1), (2, vi a2), (3, vi a3)]) (by decide +kernel) (Nat.le_of_ble_eq_true rfl) rfl) ?_
  refine r_p (pc' := 18) (p_iconst (n := 0) (v := 0) (by decide +kernel) rfl) ?_
  refine r_p (pc' := 20) (p_istore (i := 5) (lv' := [(5, vi 0), (4, vi (-1)), (0, vr a0), (1, vi a1), (2, vi a2), (3, vi a3)]) (by decide +kernel) (Nat.le_of_ble_eq_true rfl) rfl) ?_
  refine r_sub (lv' := [(0, vr a0), (1, vi a1), (2, vi a2), (3, vi a3), (4, vi (-1)), (5, vi 0)]) [2, 3, 4, 5, 1, 0] rfl ?_
  refine r_loop2 (fun _ => 116) (fun (e33 : Int32) => [(4, vi e33)]) (fun (x1 : Int32 × Int32) => [(0, vr a0), (1, vi a1), (2, vi a2), (3, vi a3), (4, vi x1.1), (5, vi x1.2)]) (fun e33 s => ?_) (fun K2 hb3 he4 x1 s => ?_) (((-1), 0)) _
  · refine r_p (pc' := 118) (p_iload 0 (i := 4) (by decide +kernel) rfl) ?_
    exact r_iret rfl rfl _ rfl rfl (by decide +kernel)
  · unfold mX11_clock_L20
    refine r_p (pc' := 22) (p_iload 5 (i := 5) (by decide +kernel) rfl) ?_
    refine r_p (pc' := 23) (p_aload_n 0 (k := 0) (by decide +kernel) rfl) ?_
    refine r_gR flX11_54_10 (by decide +kernel) fun v5 => ?_
    refine r_gR flX11_191_1 (by decide +kernel) fun v6 => ?_
    refine r_gI flX11_293_8 (by decide +kernel) fun v7 => ?_
    refine r_icmpge (off := 84) (tgt := 116) (by decide +kernel) (by decide) (fun h8 => ?_) (fun h8 => ?_)
    · refine r_sub (lv' := [(4, vi x1.1)]) [4] rfl ?_
      exact he4 x1.1 _
    · refine r_p (pc' := 36) (p_aload_n 0 (k := 0) (by decide +kernel) rfl) ?_
      refine r_gR flX11_54_10 (by decide +kernel) fun v9 => ?_
      refine r_gR flX11_191_1 (by decide +kernel) fun v10 => ?_
      refine r_p (pc' := 44) (p_iload 5 (i := 5) (by decide +kernel) rfl) ?_
      refine r_p (pc' := 46) (p_bipush (n := 6) (v := 6) (by decide +kernel) (by decide +kernel)) ?_
      refine r_callVI mvX11_151 (ctX8_get v10 x1.2 6) (rcX8_get v10 x1.2 6) ⟨_, _, rfl⟩ (as := [vi x1.2, vi 6]) (st := []) rfl rfl (by decide +kernel) rfl (Nat.le_of_ble_eq_true rfl) (Nat.le_of_ble_eq_true rfl) fun v11 s => ?_
      refine r_p (pc' := 50) (p_iload_n 1 (k := 1) (by decide +kernel) rfl) ?_
      refine r_callSI msX11_319 (ctX11_inSet v11 a1) (as := [vi v11, vi a1]) (st := []) rfl rfl (by decide +kernel) rfl (Nat.le_of_ble_eq_true rfl) (Nat.le_of_ble_eq_true rfl) fun v12 s => ?_
      refine r_join 78 (fun (x14 : Int32) => [(0, vr a0), (1, vi a1), (2, vi a2), (3, vi a3), (4, vi x1.1), (5, vi x1.2)]) (fun (x14 : Int32) => [vi x14]) (fun x14 s => ?_) (fun K15 hj16 => ?_)
      · refine r_p (pc' := 80) (p_istore (i := 6) (lv' := [(6, vi x14), (0, vr a0), (1, vi a1), (2, vi a2), (3, vi a3), (4, vi x1.1), (5, vi x1.2)]) (by decide +kernel) (Nat.le_of_ble_eq_true rfl) rfl) ?_
        refine r_p (pc' := 82) (p_iload 0 (i := 6) (by decide +kernel) rfl) ?_
        refine r_join 110 (fun (x22 : Int32) => [(0, vr a0), (1, vi a1), (2, vi a2), (3, vi a3), (4, vi x22), (5, vi x1.2)]) (fun (x22 : Int32) => []) (fun x22 s => ?_) (fun K23 hj24 => ?_)
        · refine r_p (pc' := 113) (p_iinc 5 (i := 5) (n := 1) (x := x1.2) (v := x1.2 + 1) (lv' := [(5, vi (x1.2 + 1)), (0, vr a0), (1, vi a1), (2, vi a2), (3, vi a3), (4, vi x22)]) (by decide +kernel) rfl rfl (Nat.le_of_ble_eq_true rfl) rfl) ?_
          refine r_p (pc' := 20) (p_goto (off := -93) (tgt := 20) (by decide +kernel) (by decide)) ?_
          refine r_sub (lv' := [(0, vr a0), (1, vi a1), (2, vi a2), (3, vi a3), (4, vi x22), (5, vi (x1.2 + 1))]) [1, 2, 3, 4, 5, 0] rfl ?_
          exact hb3 (x22, x1.2 + 1) _
        · refine r_ifeq (off := 28) (tgt := 110) (by decide +kernel) (by decide) (fun h21 => ?_) (fun h21 => ?_)
          · refine r_sub (lv' := [(0, vr a0), (1, vi a1), (2, vi a2), (3, vi a3), (4, vi x1.1), (5, vi x1.2)]) [1, 2, 3, 4, 5, 6] rfl ?_
            exact hj24 x1.1 _
          · refine r_p (pc' := 86) (p_iload_n 4 (k := 3) (by decide +kernel) rfl) ?_
            refine r_ifne (off := 9) (tgt := 95) (by decide +kernel) (by decide) (fun h25 => ?_) (fun h25 => ?_)
            · refine r_p (pc' := 91) (p_iload 5 (i := 4) (by decide +kernel) rfl) ?_
              refine r_p (pc' := 92) (p_iconst (n := -1) (v := -1) (by decide +kernel) rfl) ?_
              refine r_icmpne (off := 18) (tgt := 110) (by decide +kernel) (by decide) (fun h26 => ?_) (fun h26 => ?_)
              · refine r_p (pc' := 96) (p_aload_n 1 (k := 0) (by decide +kernel) rfl) ?_
                refine r_gR flX11_54_10 (by decide +kernel) fun v27 => ?_
                refine r_gR flX11_191_1 (by decide +kernel) fun v28 => ?_
                refine r_p (pc' := 104) (p_iload 6 (i := 5) (by decide +kernel) rfl) ?_
                refine r_p (pc' := 105) (p_iconst (n := 0) (v := 0) (by decide +kernel) rfl) ?_
                refine r_callVI mvX11_151 (ctX8_get v28 x1.2 0) (rcX8_get v28 x1.2 0) ⟨_, _, rfl⟩ (as := [vi x1.2, vi 0]) (st := []) rfl rfl (by decide +kernel) rfl (Nat.le_of_ble_eq_true rfl) (Nat.le_of_ble_eq_true rfl) fun v29 s => ?_
                refine r_p (pc' := 110) (p_istore (i := 4) (lv' := [(4, vi v29), (6, vi x14), (0, vr a0), (1, vi a1), (2, vi a2), (3, vi a3), (5, vi x1.2)]) (by decide +kernel) (Nat.le_of_ble_eq_true rfl) rfl) ?_
                refine r_sub (lv' := [(0, vr a0), (1, vi a1), (2, vi a2), (3, vi a3), (4, vi v29), (5, vi x1.2)]) [2, 3, 4, 5, 0, 6] rfl ?_
                exact hj24 v29 _
              · refine r_sub (lv' := [(0, vr a0), (1, vi a1), (2, vi a2), (3, vi a3), (4, vi x1.1), (5, vi x1.2)]) [1, 2, 3, 4, 5, 6] rfl ?_
                exact hj24 x1.1 _
            · refine r_p (pc' := 96) (p_aload_n 1 (k := 0) (by decide +kernel) rfl) ?_
              refine r_gR flX11_54_10 (by decide +kernel) fun v30 => ?_
              refine r_gR flX11_191_1 (by decide +kernel) fun v31 => ?_
              refine r_p (pc' := 104) (p_iload 6 (i := 5) (by decide +kernel) rfl) ?_
              refine r_p (pc' := 105) (p_iconst (n := 0) (v := 0) (by decide +kernel) rfl) ?_
              refine r_callVI mvX11_151 (ctX8_get v31 x1.2 0) (rcX8_get v31 x1.2 0) ⟨_, _, rfl⟩ (as := [vi x1.2, vi 0]) (st := []) rfl rfl (by decide +kernel) rfl (Nat.le_of_ble_eq_true rfl) (Nat.le_of_ble_eq_true rfl) fun v32 s => ?_
              refine r_p (pc' := 110) (p_istore (i := 4) (lv' := [(4, vi v32), (6, vi x14), (0, vr a0), (1, vi a1), (2, vi a2), (3, vi a3), (5, vi x1.2)]) (by decide +kernel) (Nat.le_of_ble_eq_true rfl) rfl) ?_
              refine r_sub (lv' := [(0, vr a0), (1, vi a1), (2, vi a2), (3, vi a3), (4, vi v32), (5, vi x1.2)]) [2, 3, 4, 5, 0, 6] rfl ?_
              exact hj24 v32 _
      · refine r_ifeq (off := 24) (tgt := 77) (by decide +kernel) (by decide) (fun h13 => ?_) (fun h13 => ?_)
        · refine r_p (pc' := 78) (p_iconst (n := 0) (v := 0) (by decide +kernel) rfl) ?_
          exact hj16 0 _
        · refine r_p (pc' := 57) (p_aload_n 0 (k := 0) (by decide +kernel) rfl) ?_
          refine r_gR flX11_54_10 (by decide +kernel) fun v17 => ?_
          refine r_gR flX11_191_1 (by decide +kernel) fun v18 => ?_
          refine r_p (pc' := 65) (p_iload 5 (i := 5) (by decide +kernel) rfl) ?_
          refine r_p (pc' := 66) (p_iconst (n := 5) (v := 5) (by decide +kernel) rfl) ?_
          refine r_callVI mvX11_151 (ctX8_get v18 x1.2 5) (rcX8_get v18 x1.2 5) ⟨_, _, rfl⟩ (as := [vi x1.2, vi 5]) (st := []) rfl rfl (by decide +kernel) rfl (Nat.le_of_ble_eq_true rfl) (Nat.le_of_ble_eq_true rfl) fun v19 s => ?_
          refine r_p (pc' := 70) (p_iload_n 2 (k := 2) (by decide +kernel) rfl) ?_
          refine r_icmpne (off := 7) (tgt := 77) (by decide +kernel) (by decide) (fun h20 => ?_) (fun h20 => ?_)
          · refine r_p (pc' := 74) (p_iconst (n := 1) (v := 1) (by decide +kernel) rfl) ?_
            refine r_p (pc' := 78) (p_goto (off := 4) (tgt := 78) (by decide +kernel) (by decide)) ?_
            exact hj16 1 _
          · refine r_p (pc' := 78) (p_iconst (n := 0) (v := 0) (by decide +kernel) rfl) ?_
            exact hj16 0 _
def aX11_partsTold : StA := (RX11, cX11_partsTold, 4, some .int, yX11_partsTold, 9, [])
theorem mvX11_462 : MV RX11 462 aX9_byteAt 1 := ⟨tblG_of 1556 (by decide +kernel) (by decide +kernel), tblG_of 825 (by decide +kernel) (by decide +kernel), tblG_of 826 (by decide +kernel) (by decide +kernel), tblG_of 145 (by decide +kernel) (by decide +kernel), tblG_of 827 (by decide +kernel) (by decide +kernel), rfl, ⟨by decide, by decide⟩, by decide +kernel, by decide⟩
noncomputable def mX11_partsTold_L4 (a0 : Nat) (x1 : Int32 × Int32) : MM ((Int32 × Int32) ⊕ (Unit ⊕ Int32)) :=
  mbnd (gR 10 0 a0) fun (v5 : Nat) =>
  mbnd (gI 9 1 v5) fun (v6 : Int32) =>
  if v6 ≤ x1.2 then (
    mret (.inr (.inr x1.1))
  ) else (
    mbnd (gR 10 0 a0) fun (v8 : Nat) =>
    mbnd (mX9_byteAt v8 x1.2) fun (v9 : Int32) =>
    mbnd (gR 10 7 a0) fun (v10 : Nat) =>
    mbnd (gR 1 0 v10) fun (v11 : Nat) =>
    mbnd (mX8_has v11 v9) fun (v12 : Int32) =>
    if v12 = 0 then (
      mret (.inr ((.inl ())))
    ) else (
      mbnd (mret (x1.1 ||| (1 <<< (v9 &&& (31 : Int32))))) fun (v14 : Int32) =>
      mret (.inl (v14, x1.2 + 1))
    )
  )
noncomputable def mX11_partsTold (a0 : Nat) : MM Int32 := onC 10 a0 (
  mbnd (loopM (mX11_partsTold_L4 a0) (0, 0)) fun (e15 : Unit ⊕ Int32) => match e15 with
    | .inl e15 => (
      mret (-1)
      )
    | .inr e15 => (
      mret e15
      )
  )
theorem rcX11_partsTold (a0 : Nat) : Rcv 10 a0 (mX11_partsTold a0) := fun s r h => ⟨(onC_some h).1, (onC_some h).2.1⟩
set_option maxHeartbeats 4000000 in
set_option maxRecDepth 100000 in
theorem ctX11_partsTold (a0 : Nat) : Ct aX11_partsTold [vr a0] (mX11_partsTold a0) rI := by
  unfold mX11_partsTold
  refine ct_onC (ct_intro (by decide +kernel) rfl (Nat.le_of_ble_eq_true rfl) fun Y s => ?_)
  refine r_sub (lv' := [(0, vr a0)]) [0] rfl ?_
  refine r_p (pc' := 1) (p_iconst (n := 0) (v := 0) (by decide +kernel) rfl) ?_
  refine r_p (pc' := 2) (p_istore_n (k := 1) (lv' := [(1, vi 0), (0, vr a0)]) (by decide +kernel) (Nat.le_of_ble_eq_true rfl) rfl) ?_
  refine r_p (pc' := 3) (p_iconst (n := 0) (v := 0) (by decide +kernel) rfl) ?_
  refine r_p (pc' := 4) (p_istore_n (k := 2) (lv' := [(2, vi 0), (1, vi 0), (0, vr a0)]) (by decide +kernel) (Nat.le_of_ble_eq_true rfl) rfl) ?_
  refine r_sub (lv' := [(0, vr a0), (1, vi 0), (2, vi 0)]) [2, 1, 0] rfl ?_
  refine r_loop2 (fun (e15 : Unit ⊕ Int32) => match e15 with | .inl _ => 38 | .inr _ => 52) (fun (e15 : Unit ⊕ Int32) => match e15 with | .inl e15 => [] | .inr e15 => [(1, vi e15)]) (fun (x1 : Int32 × Int32) => [(0, vr a0), (1, vi x1.1), (2, vi x1.2)]) (fun e15 s => ?_) (fun K2 hb3 he4 x1 s => ?_) (0, 0) _
  · rcases e15 with e15 | e15
    · show Rr _ _ 38 [] [] _ _ _ _
      refine r_p (pc' := 39) (p_iconst (n := -1) (v := -1) (by decide +kernel) rfl) ?_
      exact r_iret rfl rfl _ rfl rfl (by decide +kernel)
    · show Rr _ _ 52 [(1, vi e15)] [] _ _ _ _
      refine r_p (pc' := 53) (p_iload_n 0 (k := 1) (by decide +kernel) rfl) ?_
      exact r_iret rfl rfl _ rfl rfl (by decide +kernel)
  · unfold mX11_partsTold_L4
    refine r_p (pc' := 5) (p_iload_n 2 (k := 2) (by decide +kernel) rfl) ?_
    refine r_p (pc' := 6) (p_aload_n 0 (k := 0) (by decide +kernel) rfl) ?_
    refine r_gR flX11_10_10 (by decide +kernel) fun v5 => ?_
    refine r_gI flX11_91_9 (by decide +kernel) fun v6 => ?_
    refine r_icmpge (off := 40) (tgt := 52) (by decide +kernel) (by decide) (fun h7 => ?_) (fun h7 => ?_)
    · refine r_sub (lv' := [(1, vi x1.1)]) [1] rfl ?_
      exact he4 (.inr x1.1) _
    · refine r_p (pc' := 16) (p_aload_n 0 (k := 0) (by decide +kernel) rfl) ?_
      refine r_gR flX11_10_10 (by decide +kernel) fun v8 => ?_
      refine r_p (pc' := 20) (p_iload_n 2 (k := 2) (by decide +kernel) rfl) ?_
      refine r_callVI mvX11_462 (ctX9_byteAt v8 x1.2) (rcX9_byteAt v8 x1.2) ⟨_, _, rfl⟩ (as := [vi x1.2]) (st := []) rfl rfl (by decide +kernel) rfl (Nat.le_of_ble_eq_true rfl) (Nat.le_of_ble_eq_true rfl) fun v9 s => ?_
      refine r_p (pc' := 24) (p_istore_n (k := 3) (lv' := [(3, vi v9), (0, vr a0), (1, vi x1.1), (2, vi x1.2)]) (by decide +kernel) (Nat.le_of_ble_eq_true rfl) rfl) ?_
      refine r_p (pc' := 25) (p_aload_n 1 (k := 0) (by decide +kernel) rfl) ?_
      refine r_gR flX11_54_10 (by decide +kernel) fun v10 => ?_
      refine r_gR flX11_147_1 (by decide +kernel) fun v11 => ?_
      refine r_p (pc' := 32) (p_iload_n 0 (k := 3) (by decide +kernel) rfl) ?_
      refine r_callVI mvX11_296 (ctX8_has v11 v9) (rcX8_has v11 v9) ⟨_, _, rfl⟩ (as := [vi v9]) (st := []) rfl rfl (by decide +kernel) rfl (Nat.le_of_ble_eq_true rfl) (Nat.le_of_ble_eq_true rfl) fun v12 s => ?_
      refine r_ifne (off := 5) (tgt := 40) (by decide +kernel) (by decide) (fun h13 => ?_) (fun h13 => ?_)
      · refine r_sub (lv' := []) [] rfl ?_
        exact he4 ((.inl ())) _
      · refine r_p (pc' := 41) (p_iload_n 2 (k := 1) (by decide +kernel) rfl) ?_
        refine r_p (pc' := 42) (p_iconst (n := 1) (v := 1) (by decide +kernel) rfl) ?_
        refine r_p (pc' := 43) (p_iload_n 0 (k := 3) (by decide +kernel) rfl) ?_
        refine r_p (pc' := 44) (p_ishl (by decide +kernel)) ?_
        refine r_p (pc' := 45) (p_ior (by decide +kernel)) ?_
        refine r_letI fun v14 => ?_
        refine r_p (pc' := 46) (p_istore_n (k := 1) (lv' := [(1, vi v14), (3, vi v9), (0, vr a0), (2, vi x1.2)]) (by decide +kernel) (Nat.le_of_ble_eq_true rfl) rfl) ?_
        refine r_p (pc' := 49) (p_iinc 3 (i := 2) (n := 1) (x := x1.2) (v := x1.2 + 1) (lv' := [(2, vi (x1.2 + 1)), (1, vi v14), (3, vi v9), (0, vr a0)]) (by decide +kernel) rfl rfl (Nat.le_of_ble_eq_true rfl) rfl) ?_
        refine r_p (pc' := 4) (p_goto (off := -45) (tgt := 4) (by decide +kernel) (by decide)) ?_
        refine r_sub (lv' := [(0, vr a0), (1, vi v14), (2, vi (x1.2 + 1))]) [3, 1, 0] rfl ?_
        exact hb3 (v14, x1.2 + 1) _
def aX11_together : StA := (RX11, cX11_together, 6, some .int, yX11_together, 10, [])
theorem mvX11_357 : MV RX11 357 aX11_partsTold 0 := ⟨tblG_of 1552 (by decide +kernel) (by decide +kernel), tblG_of 1554 (by decide +kernel) (by decide +kernel), tblG_of 50 (by decide +kernel) (by decide +kernel), tblG_of 144 (by decide +kernel) (by decide +kernel), tblG_of 1555 (by decide +kernel) (by decide +kernel), rfl, ⟨by decide, by decide⟩, by decide +kernel, by decide⟩
theorem thX11_360_105 : TH RX11 101 360 105 0 "a byte is no PART" 25 := ⟨by decide +kernel, tblG_of 1052 (by decide +kernel) (by decide +kernel), tblG_of 166 (by decide +kernel) (by decide +kernel), by decide +kernel, by decide +kernel, by decide +kernel⟩
noncomputable def mX11_together_L38 (a0 : Nat) (v1 : Int32) (x5 : Int32 × Int32 × Int32) : MM ((Int32 × Int32 × Int32) ⊕ ((Int32 × Int32))) :=
  mbnd (gR 10 7 a0) fun (v9 : Nat) =>
  mbnd (gR 1 3 v9) fun (v10 : Nat) =>
  mbnd (gI 8 3 v10) fun (v11 : Int32) =>
  if v11 ≤ x5.2.2 then (
    mret (.inr (x5.1, x5.2.1))
  ) else (
    mbnd (gR 10 7 a0) fun (v13 : Nat) =>
    mbnd (gR 1 3 v13) fun (v14 : Nat) =>
    mbnd (mX8_get v14 x5.2.2 6) fun (v15 : Int32) =>
    mbnd (α := Int32 × Int32) (
      if (v15 &&& v1) = v1 then (
        mbnd (α := Int32) (
          if x5.1 = 0 then (
            mbnd (gR 10 7 a0) fun (v24 : Nat) =>
            mbnd (gR 1 3 v24) fun (v25 : Nat) =>
            mbnd (mX8_get v25 x5.2.2 0) fun (v26 : Int32) =>
            mret v26
          ) else (
            mret x5.2.1
          )
        ) fun (x21 : Int32) =>
        mret (x5.1 + 1, x21)
      ) else (
        mret (x5.1, x5.2.1)
      )
    ) fun (x17 : Int32 × Int32) =>
    mret (.inl (x17.1, x17.2, x5.2.2 + 1))
  )
noncomputable def mX11_together (a0 : Nat) (a1 : Int32) : MM Int32 := onC 10 a0 (
  mbnd (mX11_partsTold a0) fun (v1 : Int32) =>
  mbnd (gR 10 0 a0) fun (v2 : Nat) =>
  mbnd (mX9_cut v2 0) fun (v3 : Int32) =>
  if v1 = (-1) then (
    mthr 0
  ) else (
    mbnd (loopM (mX11_together_L38 a0 v1) ((0, (-1), 0))) fun (e27 : Int32 × Int32) =>
    if a1 = 0 then (
      mret e27.1
    ) else (
      mret e27.2
    )
  )
  )
theorem rcX11_together (a0 : Nat) (a1 : Int32) : Rcv 10 a0 (mX11_together a0 a1) := fun s r h => ⟨(onC_some h).1, (onC_some h).2.1⟩
set_option maxHeartbeats 4000000 in
set_option maxRecDepth 100000 in
theorem ctX11_together (a0 : Nat) (a1 : Int32) : Ct aX11_together [vr a0, vi a1] (mX11_together a0 a1) rI := by
  unfold mX11_together
  refine ct_onC (ct_intro (by decide +kernel) rfl (Nat.le_of_ble_eq_true rfl) fun Y s => ?_)
  refine r_sub (lv' := [(0, vr a0), (1, vi a1)]) [0, 1] rfl ?_
  refine r_p (pc' := 1) (p_aload_n 0 (k := 0) (by decide +kernel) rfl) ?_
  refine r_callVI mvX11_357 (ctX11_partsTold a0) (rcX11_partsTold a0) ⟨_, _, rfl⟩ (as := []) (st := []) rfl rfl (by decide +kernel) rfl (Nat.le_of_ble_eq_true rfl) (Nat.le_of_ble_eq_true rfl) fun v1 s => ?_
  refine r_p (pc' := 5) (p_istore_n (k := 2) (lv' := [(2, vi v1), (0, vr a0), (1, vi a1)]) (by decide +kernel) (Nat.le_of_ble_eq_true rfl) rfl) ?_
  refine r_p (pc' := 6) (p_aload_n 1 (k := 0) (by decide +kernel) rfl) ?_
  refine r_gR flX11_10_10 (by decide +kernel) fun v2 => ?_
  refine r_p (pc' := 10) (p_iconst (n := 0) (v := 0) (by decide +kernel) rfl) ?_
  refine r_callVI mvX11_94 (ctX9_cut v2 0) (rcX9_cut v2 0) ⟨_, _, rfl⟩ (as := [vi 0]) (st := []) rfl rfl (by decide +kernel) rfl (Nat.le_of_ble_eq_true rfl) (Nat.le_of_ble_eq_true rfl) fun v3 s => ?_
  refine r_p (pc' := 14) (p_pop rfl (by decide +kernel)) ?_
  refine r_p (pc' := 15) (p_iload_n 0 (k := 2) (by decide +kernel) rfl) ?_
  refine r_p (pc' := 16) (p_iconst (n := -1) (v := -1) (by decide +kernel) rfl) ?_
  refine r_icmpne (off := 14) (tgt := 30) (by decide +kernel) (by decide) (fun h4 => ?_) (fun h4 => ?_)
  · exact r_thrw thX11_360_105 rfl (Nat.le_of_ble_eq_true rfl) (Nat.le_of_ble_eq_true rfl) (by decide +kernel) (by decide +kernel) (by decide +kernel) (by decide +kernel) (by decide +kernel)
  · refine r_p (pc' := 31) (p_iconst (n := 0) (v := 0) (by decide +kernel) rfl) ?_
    refine r_p (pc' := 32) (p_istore_n (k := 3) (lv' := [(3, vi 0), (2, vi v1), (0, vr a0), (1, vi a1)]) (by decide +kernel) (Nat.le_of_ble_eq_true rfl) rfl) ?_
    refine r_p (pc' := 33) (p_iconst (n := -1) (v := -1) (by decide +kernel) rfl) ?_
    refine r_p (pc' := 35) (p_istore (i := 4) (lv' := [(4, vi (-1)), (3, vi 0), (2, vi v1), (0, vr a0), (1, vi a1)]) (by decide +kernel) (Nat.le_of_ble_eq_true rfl) rfl) ?_
    refine r_p (pc' := 36) (p_iconst (n := 0) (v := 0) (by decide +kernel) rfl) ?_
    refine r_p (pc' := 38) (p_istore (i := 5) (lv' := [(5, vi 0), (4, vi (-1)), (3, vi 0), (2, vi v1), (0, vr a0), (1, vi a1)]) (by decide +kernel) (Nat.le_of_ble_eq_true rfl) rfl) ?_
    refine r_sub (lv' := [(0, vr a0), (1, vi a1), (2, vi v1), (3, vi 0), (4, vi (-1)), (5, vi 0)]) [4, 5, 3, 2, 1, 0] rfl ?_
    refine r_loop2 (fun _ => 106) (fun (e27 : Int32 × Int32) => [(1, vi a1), (3, vi e27.1), (4, vi e27.2)]) (fun (x5 : Int32 × Int32 × Int32) => [(0, vr a0), (1, vi a1), (2, vi v1), (3, vi x5.1), (4, vi x5.2.1), (5, vi x5.2.2)]) (fun e27 s => ?_) (fun K6 hb7 he8 x5 s => ?_) ((0, (-1), 0)) _
    · refine r_p (pc' := 107) (p_iload_n 0 (k := 1) (by decide +kernel) rfl) ?_
      refine r_ifeq (off := 8) (tgt := 115) (by decide +kernel) (by decide) (fun h28 => ?_) (fun h28 => ?_)
      · refine r_p (pc' := 116) (p_iload_n 1 (k := 3) (by decide +kernel) rfl) ?_
        exact r_iret rfl rfl _ rfl rfl (by decide +kernel)
      · refine r_p (pc' := 112) (p_iload 2 (i := 4) (by decide +kernel) rfl) ?_
        refine r_p (pc' := 116) (p_goto (off := 4) (tgt := 116) (by decide +kernel) (by decide)) ?_
        exact r_iret rfl rfl _ rfl rfl (by decide +kernel)
    · unfold mX11_together_L38
      refine r_p (pc' := 40) (p_iload 5 (i := 5) (by decide +kernel) rfl) ?_
      refine r_p (pc' := 41) (p_aload_n 0 (k := 0) (by decide +kernel) rfl) ?_
      refine r_gR flX11_54_10 (by decide +kernel) fun v9 => ?_
      refine r_gR flX11_191_1 (by decide +kernel) fun v10 => ?_
      refine r_gI flX11_293_8 (by decide +kernel) fun v11 => ?_
      refine r_icmpge (off := 56) (tgt := 106) (by decide +kernel) (by decide) (fun h12 => ?_) (fun h12 => ?_)
      · refine r_sub (lv' := [(1, vi a1), (3, vi x5.1), (4, vi x5.2.1)]) [1, 3, 4] rfl ?_
        exact he8 (x5.1, x5.2.1) _
      · refine r_p (pc' := 54) (p_aload_n 0 (k := 0) (by decide +kernel) rfl) ?_
        refine r_gR flX11_54_10 (by decide +kernel) fun v13 => ?_
        refine r_gR flX11_191_1 (by decide +kernel) fun v14 => ?_
        refine r_p (pc' := 62) (p_iload 5 (i := 5) (by decide +kernel) rfl) ?_
        refine r_p (pc' := 64) (p_bipush (n := 6) (v := 6) (by decide +kernel) (by decide +kernel)) ?_
        refine r_callVI mvX11_151 (ctX8_get v14 x5.2.2 6) (rcX8_get v14 x5.2.2 6) ⟨_, _, rfl⟩ (as := [vi x5.2.2, vi 6]) (st := []) rfl rfl (by decide +kernel) rfl (Nat.le_of_ble_eq_true rfl) (Nat.le_of_ble_eq_true rfl) fun v15 s => ?_
        refine r_p (pc' := 68) (p_iload_n 2 (k := 2) (by decide +kernel) rfl) ?_
        refine r_p (pc' := 69) (p_iand (by decide +kernel)) ?_
        refine r_p (pc' := 70) (p_iload_n 2 (k := 2) (by decide +kernel) rfl) ?_
        refine r_join 100 (fun (x17 : Int32 × Int32) => [(0, vr a0), (1, vi a1), (2, vi v1), (3, vi x17.1), (4, vi x17.2), (5, vi x5.2.2)]) (fun (x17 : Int32 × Int32) => []) (fun x17 s => ?_) (fun K18 hj19 => ?_)
        · refine r_p (pc' := 103) (p_iinc 5 (i := 5) (n := 1) (x := x5.2.2) (v := x5.2.2 + 1) (lv' := [(5, vi (x5.2.2 + 1)), (0, vr a0), (1, vi a1), (2, vi v1), (3, vi x17.1), (4, vi x17.2)]) (by decide +kernel) rfl rfl (Nat.le_of_ble_eq_true rfl) rfl) ?_
          refine r_p (pc' := 38) (p_goto (off := -65) (tgt := 38) (by decide +kernel) (by decide)) ?_
          refine r_sub (lv' := [(0, vr a0), (1, vi a1), (2, vi v1), (3, vi x17.1), (4, vi x17.2), (5, vi (x5.2.2 + 1))]) [1, 2, 3, 4, 5, 0] rfl ?_
          exact hb7 (x17.1, x17.2, x5.2.2 + 1) _
        · refine r_icmpne (off := 30) (tgt := 100) (by decide +kernel) (by decide) (fun h16 => ?_) (fun h16 => ?_)
          · refine r_p (pc' := 74) (p_iload_n 3 (k := 3) (by decide +kernel) rfl) ?_
            refine r_join 95 (fun (x21 : Int32) => [(0, vr a0), (1, vi a1), (2, vi v1), (3, vi x5.1), (5, vi x5.2.2)]) (fun (x21 : Int32) => [vi x21]) (fun x21 s => ?_) (fun K22 hj23 => ?_)
            · refine r_p (pc' := 97) (p_istore (i := 4) (lv' := [(4, vi x21), (0, vr a0), (1, vi a1), (2, vi v1), (3, vi x5.1), (5, vi x5.2.2)]) (by decide +kernel) (Nat.le_of_ble_eq_true rfl) rfl) ?_
              refine r_p (pc' := 100) (p_iinc 4 (i := 3) (n := 1) (x := x5.1) (v := x5.1 + 1) (lv' := [(3, vi (x5.1 + 1)), (4, vi x21), (0, vr a0), (1, vi a1), (2, vi v1), (5, vi x5.2.2)]) (by decide +kernel) rfl rfl (Nat.le_of_ble_eq_true rfl) rfl) ?_
              refine r_sub (lv' := [(0, vr a0), (1, vi a1), (2, vi v1), (3, vi (x5.1 + 1)), (4, vi x21), (5, vi x5.2.2)]) [2, 3, 4, 0, 1, 5] rfl ?_
              exact hj19 (x5.1 + 1, x21) _
            · refine r_ifne (off := 19) (tgt := 93) (by decide +kernel) (by decide) (fun h20 => ?_) (fun h20 => ?_)
              · refine r_p (pc' := 78) (p_aload_n 0 (k := 0) (by decide +kernel) rfl) ?_
                refine r_gR flX11_54_10 (by decide +kernel) fun v24 => ?_
                refine r_gR flX11_191_1 (by decide +kernel) fun v25 => ?_
                refine r_p (pc' := 86) (p_iload 5 (i := 5) (by decide +kernel) rfl) ?_
                refine r_p (pc' := 87) (p_iconst (n := 0) (v := 0) (by decide +kernel) rfl) ?_
                refine r_callVI mvX11_151 (ctX8_get v25 x5.2.2 0) (rcX8_get v25 x5.2.2 0) ⟨_, _, rfl⟩ (as := [vi x5.2.2, vi 0]) (st := []) rfl rfl (by decide +kernel) rfl (Nat.le_of_ble_eq_true rfl) (Nat.le_of_ble_eq_true rfl) fun v26 s => ?_
                refine r_p (pc' := 95) (p_goto (off := 5) (tgt := 95) (by decide +kernel) (by decide)) ?_
                refine r_sub (lv' := [(0, vr a0), (1, vi a1), (2, vi v1), (3, vi x5.1), (5, vi x5.2.2)]) [0, 1, 2, 3, 5] rfl ?_
                exact hj23 v26 _
              · refine r_p (pc' := 95) (p_iload 4 (i := 4) (by decide +kernel) rfl) ?_
                refine r_sub (lv' := [(0, vr a0), (1, vi a1), (2, vi v1), (3, vi x5.1), (5, vi x5.2.2)]) [0, 1, 2, 3, 5] rfl ?_
                exact hj23 x5.2.1 _
          · exact hj19 (x5.1, x5.2.1) _
def aX11_heir : StA := (RX11, cX11_heir, 5, some .int, yX11_heir, 9, [])
noncomputable def mX11_heir_L6 (a0 : Nat) (x1 : Int32 × Int32 × Int32) : MM ((Int32 × Int32 × Int32) ⊕ (Int32)) :=
  mbnd (gR 10 7 a0) fun (v5 : Nat) =>
  mbnd (gR 1 0 v5) fun (v6 : Nat) =>
  mbnd (gI 8 3 v6) fun (v7 : Int32) =>
  if v7 ≤ x1.2.2 then (
    mret (.inr x1.1)
  ) else (
    mbnd (gR 10 7 a0) fun (v9 : Nat) =>
    mbnd (gR 1 0 v9) fun (v10 : Nat) =>
    mbnd (mX8_get v10 x1.2.2 7) fun (v11 : Int32) =>
    mbnd (α := Int32 × Int32) (
      if v11 ≤ x1.2.1 then (
        mret (x1.1, x1.2.1)
      ) else (
        mret (x1.2.2, v11)
      )
    ) fun (x13 : Int32 × Int32) =>
    mret (.inl (x13.1, x13.2, x1.2.2 + 1))
  )
noncomputable def mX11_heir (a0 : Nat) : MM Int32 := onC 10 a0 (
  mbnd (loopM (mX11_heir_L6 a0) (((-1), 0, 0))) fun (e16 : Int32) =>
  mret e16
  )
theorem rcX11_heir (a0 : Nat) : Rcv 10 a0 (mX11_heir a0) := fun s r h => ⟨(onC_some h).1, (onC_some h).2.1⟩
set_option maxHeartbeats 4000000 in
set_option maxRecDepth 100000 in
theorem ctX11_heir (a0 : Nat) : Ct aX11_heir [vr a0] (mX11_heir a0) rI := by
  unfold mX11_heir
  refine ct_onC (ct_intro (by decide +kernel) rfl (Nat.le_of_ble_eq_true rfl) fun Y s => ?_)
  refine r_sub (lv' := [(0, vr a0)]) [0] rfl ?_
  refine r_p (pc' := 1) (p_iconst (n := -1) (v := -1) (by decide +kernel) rfl) ?_
  refine r_p (pc' := 2) (p_istore_n (k := 1) (lv' := [(1, vi (-1)), (0, vr a0)]) (by decide +kernel) (Nat.le_of_ble_eq_true rfl) rfl) ?_
  refine r_p (pc' := 3) (p_iconst (n := 0) (v := 0) (by decide +kernel) rfl) ?_
  refine r_p (pc' := 4) (p_istore_n (k := 2) (lv' := [(2, vi 0), (1, vi (-1)), (0, vr a0)]) (by decide +kernel) (Nat.le_of_ble_eq_true rfl) rfl) ?_
  refine r_p (pc' := 5) (p_iconst (n := 0) (v := 0) (by decide +kernel) rfl) ?_
  refine r_p (pc' := 6) (p_istore_n (k := 3) (lv' := [(3, vi 0), (2, vi 0), (1, vi (-1)), (0, vr a0)]) (by decide +kernel) (Nat.le_of_ble_eq_true rfl) rfl) ?_
  refine r_sub (lv' := [(0, vr a0), (1, vi (-1)), (2, vi 0), (3, vi 0)]) [3, 2, 1, 0] rfl ?_
  refine r_loop2 (fun _ => 52) (fun (e16 : Int32) => [(1, vi e16)]) (fun (x1 : Int32 × Int32 × Int32) => [(0, vr a0), (1, vi x1.1), (2, vi x1.2.1), (3, vi x1.2.2)]) (fun e16 s => ?_) (fun K2 hb3 he4 x1 s => ?_) (((-1), 0, 0)) _
  · refine r_p (pc' := 53) (p_iload_n 0 (k := 1) (by decide +kernel) rfl) ?_
    exact r_iret rfl rfl _ rfl rfl (by decide +kernel)
  · unfold mX11_heir_L6
    refine r_p (pc' := 7) (p_iload_n 3 (k := 3) (by decide +kernel) rfl) ?_
    refine r_p (pc' := 8) (p_aload_n 0 (k := 0) (by decide +kernel) rfl) ?_
    refine r_gR flX11_54_10 (by decide +kernel) fun v5 => ?_
    refine r_gR flX11_147_1 (by decide +kernel) fun v6 => ?_
    refine r_gI flX11_293_8 (by decide +kernel) fun v7 => ?_
    refine r_icmpge (off := 35) (tgt := 52) (by decide +kernel) (by decide) (fun h8 => ?_) (fun h8 => ?_)
    · refine r_sub (lv' := [(1, vi x1.1)]) [1] rfl ?_
      exact he4 x1.1 _
    · refine r_p (pc' := 21) (p_aload_n 0 (k := 0) (by decide +kernel) rfl) ?_
      refine r_gR flX11_54_10 (by decide +kernel) fun v9 => ?_
      refine r_gR flX11_147_1 (by decide +kernel) fun v10 => ?_
      refine r_p (pc' := 28) (p_iload_n 3 (k := 3) (by decide +kernel) rfl) ?_
      refine r_p (pc' := 30) (p_bipush (n := 7) (v := 7) (by decide +kernel) (by decide +kernel)) ?_
      refine r_callVI mvX11_151 (ctX8_get v10 x1.2.2 7) (rcX8_get v10 x1.2.2 7) ⟨_, _, rfl⟩ (as := [vi x1.2.2, vi 7]) (st := []) rfl rfl (by decide +kernel) rfl (Nat.le_of_ble_eq_true rfl) (Nat.le_of_ble_eq_true rfl) fun v11 s => ?_
      refine r_p (pc' := 35) (p_istore (i := 4) (lv' := [(4, vi v11), (0, vr a0), (1, vi x1.1), (2, vi x1.2.1), (3, vi x1.2.2)]) (by decide +kernel) (Nat.le_of_ble_eq_true rfl) rfl) ?_
      refine r_p (pc' := 37) (p_iload 0 (i := 4) (by decide +kernel) rfl) ?_
      refine r_p (pc' := 38) (p_iload_n 3 (k := 2) (by decide +kernel) rfl) ?_
      refine r_join 46 (fun (x13 : Int32 × Int32) => [(0, vr a0), (1, vi x13.1), (2, vi x13.2), (3, vi x1.2.2)]) (fun (x13 : Int32 × Int32) => []) (fun x13 s => ?_) (fun K14 hj15 => ?_)
      · refine r_p (pc' := 49) (p_iinc 3 (i := 3) (n := 1) (x := x1.2.2) (v := x1.2.2 + 1) (lv' := [(3, vi (x1.2.2 + 1)), (0, vr a0), (1, vi x13.1), (2, vi x13.2)]) (by decide +kernel) rfl rfl (Nat.le_of_ble_eq_true rfl) rfl) ?_
        refine r_p (pc' := 6) (p_goto (off := -43) (tgt := 6) (by decide +kernel) (by decide)) ?_
        refine r_sub (lv' := [(0, vr a0), (1, vi x13.1), (2, vi x13.2), (3, vi (x1.2.2 + 1))]) [1, 2, 3, 0] rfl ?_
        exact hb3 (x13.1, x13.2, x1.2.2 + 1) _
      · refine r_icmple (off := 8) (tgt := 46) (by decide +kernel) (by decide) (fun h12 => ?_) (fun h12 => ?_)
        · refine r_sub (lv' := [(0, vr a0), (1, vi x1.1), (2, vi x1.2.1), (3, vi x1.2.2)]) [1, 2, 3, 4] rfl ?_
          exact hj15 (x1.1, x1.2.1) _
        · refine r_p (pc' := 43) (p_iload 0 (i := 4) (by decide +kernel) rfl) ?_
          refine r_p (pc' := 44) (p_istore_n (k := 2) (lv' := [(2, vi v11), (4, vi v11), (0, vr a0), (1, vi x1.1), (3, vi x1.2.2)]) (by decide +kernel) (Nat.le_of_ble_eq_true rfl) rfl) ?_
          refine r_p (pc' := 45) (p_iload_n 4 (k := 3) (by decide +kernel) rfl) ?_
          refine r_p (pc' := 46) (p_istore_n (k := 1) (lv' := [(1, vi x1.2.2), (2, vi v11), (4, vi v11), (0, vr a0), (3, vi x1.2.2)]) (by decide +kernel) (Nat.le_of_ble_eq_true rfl) rfl) ?_
          refine r_sub (lv' := [(0, vr a0), (1, vi x1.2.2), (2, vi v11), (3, vi x1.2.2)]) [3, 0, 1, 4] rfl ?_
          exact hj15 (x1.2.2, v11) _
