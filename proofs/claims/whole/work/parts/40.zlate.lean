/-! PRINTED BY wip/whole/gen.py -/
def aJ7_copyOf_59c91 : StA := (RJ7, cJ7_copyOf_59c91, 3, some (.array .int), yJ7_copyOf_59c91, 8, [])
noncomputable def mJ7_copyOf_59c91 (a0 : Nat) (a1 : Int32) : MM Nat :=
  mbnd (lenI 0 a0) fun (v1 : Int32) =>
  if a1 = v1 then (
    mbnd (cln a0) fun (v3 : Nat) =>
    mbnd (isI0 v3) fun _ =>
    mret v3
  ) else (
    mbnd (nwI 0 a1) fun (v4 : Nat) =>
    mbnd (lenI 0 a0) fun (v5 : Int32) =>
    mbnd (cpI 0 a0 0 v4 0 (imin v5 a1)) fun _ =>
    mret v4
  )
set_option maxHeartbeats 4000000 in
set_option maxRecDepth 100000 in
theorem ctJ7_copyOf_59c91 (a0 : Nat) (a1 : Int32) : Ct aJ7_copyOf_59c91 [vr a0, vi a1] (mJ7_copyOf_59c91 a0 a1) rR := by
  unfold mJ7_copyOf_59c91
  refine ct_intro (by decide +kernel) rfl (Nat.le_of_ble_eq_true rfl) fun Y s => ?_
  refine r_sub (lv' := [(0, vr a0), (1, vi a1)]) [0, 1] rfl ?_
  refine r_p (pc' := 1) (p_iload_n 1 (k := 1) (by decide +kernel) rfl) ?_
  refine r_p (pc' := 2) (p_aload_n 0 (k := 0) (by decide +kernel) rfl) ?_
  refine r_lenI (by decide) (by decide +kernel) fun v1 => ?_
  refine r_icmpne (off := 11) (tgt := 14) (by decide +kernel) (by decide) (fun h2 => ?_) (fun h2 => ?_)
  · refine r_p (pc' := 7) (p_aload_n 0 (k := 0) (by decide +kernel) rfl) ?_
    refine r_cln (idx := 316) rfl rfl (Nat.le_of_ble_eq_true rfl) (Nat.le_of_ble_eq_true rfl) (by decide +kernel) fun v3 s => ?_
    refine r_castI (idx := 317) (tblG_of 1165 (by decide +kernel) (by decide +kernel)) (by decide +kernel) ?_
    exact r_aret rfl rfl _ rfl (Or.inr ⟨_, rfl⟩) (by decide +kernel)
  · refine r_p (pc' := 15) (p_iload_n 1 (k := 1) (by decide +kernel) rfl) ?_
    refine r_nwI (at9 := .int) (ty := .int) rfl (by decide) (by decide +kernel) fun v4 s => ?_
    refine r_p (pc' := 18) (p_astore_n (k := 2) (lv' := [(2, vr v4), (0, vr a0), (1, vi a1)]) (by decide +kernel) (Nat.le_of_ble_eq_true rfl) rfl) ?_
    refine r_p (pc' := 19) (p_aload_n 1 (k := 0) (by decide +kernel) rfl) ?_
    refine r_p (pc' := 20) (p_iconst (n := 0) (v := 0) (by decide +kernel) rfl) ?_
    refine r_p (pc' := 21) (p_aload_n 0 (k := 2) (by decide +kernel) rfl) ?_
    refine r_p (pc' := 22) (p_iconst (n := 0) (v := 0) (by decide +kernel) rfl) ?_
    refine r_p (pc' := 23) (p_aload_n 1 (k := 0) (by decide +kernel) rfl) ?_
    refine r_lenI (by decide) (by decide +kernel) fun v5 => ?_
    refine r_p (pc' := 25) (p_iload_n 2 (k := 1) (by decide +kernel) rfl) ?_
    refine r_p (pc' := 28) (p_min (idx := 304) (tblG_of 1166 (by decide +kernel) (by decide +kernel)) (Nat.le_of_ble_eq_true rfl) (Nat.le_of_ble_eq_true rfl) (by decide +kernel)) ?_
    refine r_cp (idx := 150) (tblG_of 1167 (by decide +kernel) (by decide +kernel)) (Nat.le_of_ble_eq_true rfl) (Nat.le_of_ble_eq_true rfl) (by decide +kernel) fun s => ?_
    refine r_p (pc' := 32) (p_aload_n 0 (k := 2) (by decide +kernel) rfl) ?_
    exact r_aret rfl rfl _ rfl (Or.inr ⟨_, rfl⟩) (by decide +kernel)
def aX5_made : StA := (RX5, cX5_made, 1, some (.object "ToolCourt$Law"), yX5_made, 9, [])
theorem nwX5_18 : NW RX5 18 4 3 [.int 0, .null, .null] := ⟨_, TX4, tyX4, rfl, tyX4_ok, tblG_of 1154 (by decide +kernel) (by decide +kernel), tblG_of 291 (by decide +kernel) (by decide +kernel), tblG_of 150 (by decide +kernel) (by decide +kernel), (fun j hj => by match j, hj with | 0, _ => rfl | 1, _ => rfl | 2, _ => rfl), rfl⟩
theorem flX5_20_5 : FL RX5 20 5 10 := ⟨_, TX5, 18, "ToolCourt$LawReader", rfl, by decide, Or.inl (tblG_of 440 (by decide +kernel) (by decide +kernel)), Or.inr (tblG_of 441 (by decide +kernel) (by decide +kernel))⟩
theorem msX5_33 : MS RX5 33 aJ7_copyOf_59c91 2 := ⟨tblG_of 1156 (by decide +kernel) (by decide +kernel), tblG_of 1157 (by decide +kernel) (by decide +kernel), tblG_of 168 (by decide +kernel) (by decide +kernel), tblG_of 1158 (by decide +kernel) (by decide +kernel), rfl, ⟨by decide, by decide⟩, by decide +kernel, by decide⟩
theorem miX5_39 : MI RX5 39 aX4_init 2 := ⟨tblG_of 1168 (by decide +kernel) (by decide +kernel), tblG_of 293 (by decide +kernel) (by decide +kernel), tblG_of 150 (by decide +kernel) (by decide +kernel), tblG_of 294 (by decide +kernel) (by decide +kernel), rfl, ⟨by decide, by decide⟩, by decide +kernel, by decide, rfl, rfl⟩
noncomputable def mX5_made (a0 : Nat) : MM Nat := onC 5 a0 (
  mbnd (nw 4 3 [.int 0, .null, .null]) fun (v1 : Nat) =>
  mbnd (gI 5 10 a0) fun (v2 : Int32) =>
  mbnd (gR 5 12 a0) fun (v3 : Nat) =>
  mbnd (gI 5 14 a0) fun (v4 : Int32) =>
  mbnd (mJ7_copyOf_59c91 v3 (imax 0 v4)) fun (v5 : Nat) =>
  mbnd (nox (mX4_init v1 v2 v5)) fun _ =>
  mret v1
  )
theorem rcX5_made (a0 : Nat) : Rcv 5 a0 (mX5_made a0) := fun s r h => ⟨(onC_some h).1, (onC_some h).2.1⟩
set_option maxHeartbeats 4000000 in
set_option maxRecDepth 100000 in
theorem ctX5_made (a0 : Nat) : Ct aX5_made [vr a0] (mX5_made a0) rR := by
  unfold mX5_made
  refine ct_onC (ct_intro (by decide +kernel) rfl (Nat.le_of_ble_eq_true rfl) fun Y s => ?_)
  refine r_sub (lv' := [(0, vr a0)]) [0] rfl ?_
  refine r_nw nwX5_18 (by decide +kernel) fun v1 s => ?_
  refine r_p (pc' := 4) (p_dup rfl (by decide +kernel)) ?_
  refine r_p (pc' := 5) (p_aload_n 0 (k := 0) (by decide +kernel) rfl) ?_
  refine r_gI flX5_20_5 (by decide +kernel) fun v2 => ?_
  refine r_p (pc' := 9) (p_aload_n 0 (k := 0) (by decide +kernel) rfl) ?_
  refine r_gR flX5_9_5 (by decide +kernel) fun v3 => ?_
  refine r_p (pc' := 13) (p_iconst (n := 0) (v := 0) (by decide +kernel) rfl) ?_
  refine r_p (pc' := 14) (p_aload_n 0 (k := 0) (by decide +kernel) rfl) ?_
  refine r_gI flX5_24_5 (by decide +kernel) fun v4 => ?_
  refine r_p (pc' := 20) (p_max (idx := 27) (tblG_of 1155 (by decide +kernel) (by decide +kernel)) (Nat.le_of_ble_eq_true rfl) (Nat.le_of_ble_eq_true rfl) (by decide +kernel)) ?_
  refine r_callSR msX5_33 (ctJ7_copyOf_59c91 v3 (imax 0 v4)) (as := [vr v3, vi (imax 0 v4)]) (st := [vi v2, vr v1, vr v1]) rfl rfl (by decide +kernel) rfl (Nat.le_of_ble_eq_true rfl) (Nat.le_of_ble_eq_true rfl) fun v5 s => ?_
  refine r_callIU miX5_39 (ctX4_init v1 v2 v5) (as := [vi v2, vr v5]) (st := [vr v1]) rfl rfl (by decide +kernel) rfl (Nat.le_of_ble_eq_true rfl) (Nat.le_of_ble_eq_true rfl) fun s => ?_
  exact r_aret rfl rfl _ rfl (Or.inl ⟨_, rfl⟩) (by decide +kernel)
def aX11_law : StA := (RX11, cX11_law, 2, some .int, yX11_law, 15, [])
theorem flX11_75_10 : FL RX11 75 10 2 := ⟨_, TX11, 10, "ToolCourt", rfl, by decide, Or.inl (tblG_of 516 (by decide +kernel) (by decide +kernel)), Or.inl rfl⟩
theorem muX11_123l : MU RX11 123 "ToolCourt$LawReader" "ToolCourt$TextReader" ⟨"ToolCourt$LawReader", "readLines", "(I)Z"⟩ aX10_readLinesl 1 := ⟨tblG_of 1147 (by decide +kernel) (by decide +kernel), tblG_of 808 (by decide +kernel) (by decide +kernel), tblG_of 1149 (by decide +kernel) (by decide +kernel), tblG_of 1148 (by decide +kernel) (by decide +kernel), tblG_of 154 (by decide +kernel) (by decide +kernel), tblG_of 809 (by decide +kernel) (by decide +kernel), rfl, ⟨by decide, by decide⟩, by decide +kernel, by decide, Or.inl rfl⟩
theorem flX11_124_5 : FL RX11 124 5 11 := ⟨_, TX5, 18, "ToolCourt$LawReader", rfl, by decide, Or.inl (tblG_of 446 (by decide +kernel) (by decide +kernel)), Or.inr (tblG_of 447 (by decide +kernel) (by decide +kernel))⟩
theorem mvX11_125 : MV RX11 125 aX5_made 0 := ⟨tblG_of 1150 (by decide +kernel) (by decide +kernel), tblG_of 1151 (by decide +kernel) (by decide +kernel), tblG_of 1152 (by decide +kernel) (by decide +kernel), tblG_of 156 (by decide +kernel) (by decide +kernel), tblG_of 1153 (by decide +kernel) (by decide +kernel), rfl, ⟨by decide, by decide⟩, by decide +kernel, by decide⟩
theorem fpX11_129_1 : FP RX11 129 1 6 (.object "ToolCourt$Law") false := ⟨_, TX1, 13, "ToolCourt$Court", tyX1, rfl, by decide, Or.inr ⟨rfl, "ToolCourt", List.mem_of_getElem? (i := 362) (by decide +kernel)⟩, Or.inl rfl, tyX1_ok, nmX1, rfl, by decide, by decide +kernel⟩
noncomputable def mX11_law (a0 : Nat) : MM Int32 := onC 10 a0 (
  mbnd (gR 10 2 a0) fun (v1 : Nat) =>
  mbnd (nox (mX10_readLinesl v1 12)) fun (v2 : Int32) =>
  mbnd (gR 10 2 a0) fun (v3 : Nat) =>
  mbnd (gI 5 11 v3) fun (v4 : Int32) =>
  mbnd (pI 10 9 a0 v4) fun _ =>
  mbnd (gR 10 0 a0) fun (v5 : Nat) =>
  mbnd (mX9_cut v5 0) fun (v6 : Int32) =>
  if v2 = 0 then (
    mthr 0
  ) else (
    mbnd (gR 10 7 a0) fun (v8 : Nat) =>
    mbnd (gR 10 2 a0) fun (v9 : Nat) =>
    mbnd (mX5_made v9) fun (v10 : Nat) =>
    mbnd (pR 1 6 v8 v10) fun _ =>
    mbnd (gR 10 6 a0) fun (v11 : Nat) =>
    mbnd (mX6_forgetActs v11) fun _ =>
    mbnd (gR 10 7 a0) fun (v12 : Nat) =>
    mbnd (gR 1 6 v12) fun (v13 : Nat) =>
    mbnd (gI 4 0 v13) fun (v14 : Int32) =>
    mret v14
  )
  )
theorem rcX11_law (a0 : Nat) : Rcv 10 a0 (mX11_law a0) := fun s r h => ⟨(onC_some h).1, (onC_some h).2.1⟩
set_option maxHeartbeats 4000000 in
set_option maxRecDepth 100000 in
theorem ctX11_law (a0 : Nat) : Ct aX11_law [vr a0] (mX11_law a0) rI := by
  unfold mX11_law
  refine ct_onC (ct_intro (by decide +kernel) rfl (Nat.le_of_ble_eq_true rfl) fun Y s => ?_)
  refine r_sub (lv' := [(0, vr a0)]) [0] rfl ?_
  refine r_p (pc' := 1) (p_aload_n 0 (k := 0) (by decide +kernel) rfl) ?_
  refine r_gR flX11_75_10 (by decide +kernel) fun v1 => ?_
  refine r_p (pc' := 6) (p_bipush (n := 12) (v := 12) (by decide +kernel) (by decide +kernel)) ?_
  refine r_callUI muX11_123l (ctX10_readLinesl v1 12) (rcX10_readLinesl v1 12) ⟨_, _, rfl⟩ (as := [vi 12]) (st := []) rfl rfl (by decide +kernel) rfl (Nat.le_of_ble_eq_true rfl) (Nat.le_of_ble_eq_true rfl) fun v2 s => ?_
  refine r_p (pc' := 10) (p_istore_n (k := 1) (lv' := [(1, vi v2), (0, vr a0)]) (by decide +kernel) (Nat.le_of_ble_eq_true rfl) rfl) ?_
  refine r_p (pc' := 11) (p_aload_n 1 (k := 0) (by decide +kernel) rfl) ?_
  refine r_p (pc' := 12) (p_aload_n 1 (k := 0) (by decide +kernel) rfl) ?_
  refine r_gR flX11_75_10 (by decide +kernel) fun v3 => ?_
  refine r_gI flX11_124_5 (by decide +kernel) fun v4 => ?_
  refine r_pI fpX11_79_10 (fun h => by cases h) (by decide +kernel) fun s => ?_
  refine r_p (pc' := 22) (p_aload_n 1 (k := 0) (by decide +kernel) rfl) ?_
  refine r_gR flX11_10_10 (by decide +kernel) fun v5 => ?_
  refine r_p (pc' := 26) (p_iconst (n := 0) (v := 0) (by decide +kernel) rfl) ?_
  refine r_callVI mvX11_94 (ctX9_cut v5 0) (rcX9_cut v5 0) ⟨_, _, rfl⟩ (as := [vi 0]) (st := []) rfl rfl (by decide +kernel) rfl (Nat.le_of_ble_eq_true rfl) (Nat.le_of_ble_eq_true rfl) fun v6 s => ?_
  refine r_p (pc' := 30) (p_pop rfl (by decide +kernel)) ?_
  refine r_p (pc' := 31) (p_iload_n 0 (k := 1) (by decide +kernel) rfl) ?_
  refine r_ifne (off := 13) (tgt := 44) (by decide +kernel) (by decide) (fun h7 => ?_) (fun h7 => ?_)
  · exact r_thr thX11_103_105 rfl (Nat.le_of_ble_eq_true rfl) (Nat.le_of_ble_eq_true rfl) (by decide +kernel) (by decide +kernel) (by decide +kernel) (by decide +kernel) (by decide +kernel)
  · refine r_p (pc' := 45) (p_aload_n 1 (k := 0) (by decide +kernel) rfl) ?_
    refine r_gR flX11_54_10 (by decide +kernel) fun v8 => ?_
    refine r_p (pc' := 49) (p_aload_n 1 (k := 0) (by decide +kernel) rfl) ?_
    refine r_gR flX11_75_10 (by decide +kernel) fun v9 => ?_
    refine r_callVR mvX11_125 (ctX5_made v9) (rcX5_made v9) ⟨_, _, rfl⟩ (as := []) (st := [vr v8]) rfl rfl (by decide +kernel) rfl (Nat.le_of_ble_eq_true rfl) (Nat.le_of_ble_eq_true rfl) fun v10 s => ?_
    refine r_pR fpX11_129_1 (fun h => by cases h) (Or.inl ⟨_, rfl⟩) (by decide +kernel) fun s => ?_
    refine r_p (pc' := 59) (p_aload_n 1 (k := 0) (by decide +kernel) rfl) ?_
    refine r_gR flX11_40_10 (by decide +kernel) fun v11 => ?_
    refine r_callVU mvX11_120 (ctX6_forgetActs v11) (rcX6_forgetActs v11) ⟨_, _, rfl⟩ (as := []) (st := []) rfl rfl (by decide +kernel) rfl (Nat.le_of_ble_eq_true rfl) (Nat.le_of_ble_eq_true rfl) fun s => ?_
    refine r_p (pc' := 66) (p_aload_n 1 (k := 0) (by decide +kernel) rfl) ?_
    refine r_gR flX11_54_10 (by decide +kernel) fun v12 => ?_
    refine r_gR flX11_129_1 (by decide +kernel) fun v13 => ?_
    refine r_gI flX11_133_4 (by decide +kernel) fun v14 => ?_
    exact r_iret rfl rfl _ rfl rfl (by decide +kernel)
def aX12_readAtom (d : Nat) : StA := (RX12, cX12_readAtom, 2, some .boolean, yX12_readAtom, d, [])
def aX12_readAllOf (d : Nat) : StA := (RX12, cX12_readAllOf, 1, some .boolean, yX12_readAllOf, d, [])
def aX12_readCond (d : Nat) : StA := (RX12, cX12_readCond, 1, some .boolean, yX12_readCond, d, [])
theorem mvX12_219 : MV RX12 219 aX12_passes 1 := ⟨tblG_of 1905 (by decide +kernel) (by decide +kernel), tblG_of 1907 (by decide +kernel) (by decide +kernel), tblG_of 78 (by decide +kernel) (by decide +kernel), tblG_of 157 (by decide +kernel) (by decide +kernel), tblG_of 1908 (by decide +kernel) (by decide +kernel), rfl, ⟨by decide, by decide⟩, by decide +kernel, by decide⟩
theorem mvX12_225 : MV RX12 225 aX12_readTag 0 := ⟨tblG_of 1930 (by decide +kernel) (by decide +kernel), tblG_of 1932 (by decide +kernel) (by decide +kernel), tblG_of 84 (by decide +kernel) (by decide +kernel), tblG_of 157 (by decide +kernel) (by decide +kernel), tblG_of 1933 (by decide +kernel) (by decide +kernel), rfl, ⟨by decide, by decide⟩, by decide +kernel, by decide⟩
theorem mvX12_228 : MV RX12 228 aX12_readSum 0 := ⟨tblG_of 1935 (by decide +kernel) (by decide +kernel), tblG_of 1937 (by decide +kernel) (by decide +kernel), tblG_of 85 (by decide +kernel) (by decide +kernel), tblG_of 157 (by decide +kernel) (by decide +kernel), tblG_of 1938 (by decide +kernel) (by decide +kernel), rfl, ⟨by decide, by decide⟩, by decide +kernel, by decide⟩
theorem flX12_211_11 : FL RX12 211 11 13 := ⟨_, TX12, 27, "ToolCourtModel", rfl, by decide, Or.inl (tblG_of 1678 (by decide +kernel) (by decide +kernel)), Or.inl rfl⟩
theorem fpX12_211_11 : FP RX12 211 11 13 .int false := ⟨_, TX12, 27, "ToolCourtModel", tyX12, rfl, by decide, Or.inl (tblG_of 1678 (by decide +kernel) (by decide +kernel)), Or.inl rfl, tyX12_ok, nmX12, rfl, by decide, by decide +kernel⟩
theorem mvX12_222z : MV RX12 222 (aX12_readAtom 0) 0 := ⟨tblG_of 1917 (by decide +kernel) (by decide +kernel), tblG_of 1919 (by decide +kernel) (by decide +kernel), tblG_of 81 (by decide +kernel) (by decide +kernel), tblG_of 157 (by decide +kernel) (by decide +kernel), tblG_of 1920 (by decide +kernel) (by decide +kernel), rfl, ⟨by decide, by decide⟩, by decide +kernel, by decide⟩
theorem mvX12_222 (drA : Nat) : MV RX12 222 (aX12_readAtom drA) 0 := mvX12_222z
theorem mvX12_214z : MV RX12 214 (aX12_readCond 0) 0 := ⟨tblG_of 1909 (by decide +kernel) (by decide +kernel), tblG_of 1911 (by decide +kernel) (by decide +kernel), tblG_of 79 (by decide +kernel) (by decide +kernel), tblG_of 157 (by decide +kernel) (by decide +kernel), tblG_of 1912 (by decide +kernel) (by decide +kernel), rfl, ⟨by decide, by decide⟩, by decide +kernel, by decide⟩
theorem mvX12_214 (drC : Nat) : MV RX12 214 (aX12_readCond drC) 0 := mvX12_214z
noncomputable def mX12_readAtom (rA : Nat → MM Int32) (rC : Nat → MM Int32) (a0 : Nat) : MM Int32 := onC 11 a0 (
  mbnd (mX12_sign a0 40) fun (v1 : Int32) =>
  if v1 = 0 then (
    mbnd (mX12_passes a0 44) fun (v3 : Int32) =>
    if v3 = 0 then (
      mbnd (mX12_readTag a0) fun (v5 : Int32) =>
      if v5 = 0 then (
        mbnd (mX12_readSum a0) fun (v7 : Int32) =>
        if v7 = 0 then (
          mret 0
        ) else (
          mbnd (mX12_sign a0 60) fun (v9 : Int32) =>
          if v9 = 0 then (
            mbnd (mX12_sign a0 62) fun (v11 : Int32) =>
            if v11 = 0 then (
              mret 0
            ) else (
              mbnd (mX12_readSum a0) fun (v13 : Int32) =>
              if v13 = 0 then (
                mret 0
              ) else (
                mbnd (α := Int32) (
                  if v9 = 0 then (
                    mret 13
                  ) else (
                    mret 12
                  )
                ) fun (x16 : Int32) =>
                mbnd (mX12_emits a0 x16 0) fun _ =>
                mret 1
              )
            )
          ) else (
            mbnd (mX12_readSum a0) fun (v19 : Int32) =>
            if v19 = 0 then (
              mret 0
            ) else (
              mbnd (α := Int32) (
                if v9 = 0 then (
                  mret 13
                ) else (
                  mret 12
                )
              ) fun (x22 : Int32) =>
              mbnd (mX12_emits a0 x22 0) fun _ =>
              mret 1
            )
          )
        )
      ) else (
        mret 1
      )
    ) else (
      mbnd (gI 11 13 a0) fun (v25 : Int32) =>
      if v25 = 6 then (
        mret 0
      ) else (
        mbnd (gI 11 13 a0) fun (v27 : Int32) =>
        mbnd (pI 11 13 a0 (v27 + 1)) fun _ =>
        mbnd (rA a0) fun (v28 : Int32) =>
        if v28 = 0 then (
          mret 0
        ) else (
          mbnd (gI 11 13 a0) fun (v30 : Int32) =>
          mbnd (pI 11 13 a0 (v30 - 1)) fun _ =>
          mbnd (mX12_emits a0 14 0) fun _ =>
          mret 1
        )
      )
    )
  ) else (
    mbnd (gI 11 13 a0) fun (v31 : Int32) =>
    if v31 = 6 then (
      mret 0
    ) else (
      mbnd (gI 11 13 a0) fun (v33 : Int32) =>
      mbnd (pI 11 13 a0 (v33 + 1)) fun _ =>
      mbnd (rC a0) fun (v34 : Int32) =>
      if v34 = 0 then (
        mret 0
      ) else (
        mbnd (gI 11 13 a0) fun (v36 : Int32) =>
        mbnd (pI 11 13 a0 (v36 - 1)) fun _ =>
        mbnd (mX12_sign a0 41) fun (v37 : Int32) =>
        mbool v37
      )
    )
  )
  )
theorem rcX12_readAtom (rA : Nat → MM Int32) (rC : Nat → MM Int32) (a0 : Nat) : Rcv 11 a0 (mX12_readAtom rA rC a0) := fun s r h => ⟨(onC_some h).1, (onC_some h).2.1⟩
set_option maxHeartbeats 4000000 in
set_option maxRecDepth 100000 in
theorem ctX12_readAtom (d : Nat) (hK : 13 ≤ d) (drA : Nat) (rA : Nat → MM Int32) (hrA : ∀ x, Ct (aX12_readAtom drA) [vr x] (rA x) rI) (qrA : ∀ x, Rcv 11 x (rA x)) (nrA : drA + 1 ≤ d) (drC : Nat) (rC : Nat → MM Int32) (hrC : ∀ x, Ct (aX12_readCond drC) [vr x] (rC x) rI) (qrC : ∀ x, Rcv 11 x (rC x)) (nrC : drC + 1 ≤ d) (a0 : Nat) : Ct (aX12_readAtom d) [vr a0] (mX12_readAtom rA rC a0) rI := by
  unfold mX12_readAtom
  refine ct_onC (ct_intro (show plainName RX12 = true ∧ RX12 = RX12 from by decide +kernel) rfl (Nat.le_of_ble_eq_true rfl) fun Y s => ?_)
  refine r_sub (lv' := [(0, vr a0)]) [0] rfl ?_
  refine r_p (pc' := 1) (p_aload_n 0 (k := 0) (by show decode cX12_readAtom _ = _; decide +kernel) rfl) ?_
  refine r_p (pc' := 3) (p_bipush (n := 40) (v := 40) (by show decode cX12_readAtom _ = _; decide +kernel) (by decide +kernel)) ?_
  refine r_callVI mvX12_206 (ctX12_sign a0 40) (rcX12_sign a0 40) ⟨_, _, rfl⟩ (as := [vi 40]) (st := []) rfl rfl (by show decode cX12_readAtom _ = _; decide +kernel) rfl (Nat.le_trans (Nat.le_of_ble_eq_true rfl) hK) (Nat.le_of_ble_eq_true rfl) fun v1 s => ?_
  refine r_ifeq (off := 50) (tgt := 56) (by show decode cX12_readAtom _ = _; decide +kernel) (by decide) (fun h2 => ?_) (fun h2 => ?_)
  · refine r_p (pc' := 57) (p_aload_n 0 (k := 0) (by show decode cX12_readAtom _ = _; decide +kernel) rfl) ?_
    refine r_p (pc' := 59) (p_ldcS (i := 217) (j := 44) (text := "not") (by show decode cX12_readAtom _ = _; decide +kernel) (by show (RX12, 217, _, 44) ∈ strT ∧ _; decide +kernel)) ?_
    refine r_callVI mvX12_219 (ctX12_passes a0 44) (rcX12_passes a0 44) ⟨_, _, rfl⟩ (as := [vt 44]) (st := []) rfl rfl (by show decode cX12_readAtom _ = _; decide +kernel) rfl (Nat.le_trans (Nat.le_of_ble_eq_true rfl) hK) (Nat.le_of_ble_eq_true rfl) fun v3 s => ?_
    refine r_ifeq (off := 52) (tgt := 114) (by show decode cX12_readAtom _ = _; decide +kernel) (by decide) (fun h4 => ?_) (fun h4 => ?_)
    · refine r_p (pc' := 115) (p_aload_n 0 (k := 0) (by show decode cX12_readAtom _ = _; decide +kernel) rfl) ?_
      refine r_callVI mvX12_225 (ctX12_readTag a0) (rcX12_readTag a0) ⟨_, _, rfl⟩ (as := []) (st := []) rfl rfl (by show decode cX12_readAtom _ = _; decide +kernel) rfl (Nat.le_trans (Nat.le_of_ble_eq_true rfl) hK) (Nat.le_of_ble_eq_true rfl) fun v5 s => ?_
      refine r_ifeq (off := 5) (tgt := 123) (by show decode cX12_readAtom _ = _; decide +kernel) (by decide) (fun h6 => ?_) (fun h6 => ?_)
      · refine r_p (pc' := 124) (p_aload_n 0 (k := 0) (by show decode cX12_readAtom _ = _; decide +kernel) rfl) ?_
        refine r_callVI mvX12_228 (ctX12_readSum a0) (rcX12_readSum a0) ⟨_, _, rfl⟩ (as := []) (st := []) rfl rfl (by show decode cX12_readAtom _ = _; decide +kernel) rfl (Nat.le_trans (Nat.le_of_ble_eq_true rfl) hK) (Nat.le_of_ble_eq_true rfl) fun v7 s => ?_
        refine r_ifne (off := 5) (tgt := 132) (by show decode cX12_readAtom _ = _; decide +kernel) (by decide) (fun h8 => ?_) (fun h8 => ?_)
        · refine r_p (pc' := 131) (p_iconst (n := 0) (v := 0) (by show decode cX12_readAtom _ = _; decide +kernel) rfl) ?_
          exact r_iret rfl rfl _ rfl rfl (by show decode cX12_readAtom _ = _; decide +kernel)
        · refine r_p (pc' := 133) (p_aload_n 0 (k := 0) (by show decode cX12_readAtom _ = _; decide +kernel) rfl) ?_
          refine r_p (pc' := 135) (p_bipush (n := 60) (v := 60) (by show decode cX12_readAtom _ = _; decide +kernel) (by decide +kernel)) ?_
          refine r_callVI mvX12_206 (ctX12_sign a0 60) (rcX12_sign a0 60) ⟨_, _, rfl⟩ (as := [vi 60]) (st := []) rfl rfl (by show decode cX12_readAtom _ = _; decide +kernel) rfl (Nat.le_trans (Nat.le_of_ble_eq_true rfl) hK) (Nat.le_of_ble_eq_true rfl) fun v9 s => ?_
          refine r_p (pc' := 139) (p_istore_n (k := 1) (lv' := [(1, vi v9), (0, vr a0)]) (by show decode cX12_readAtom _ = _; decide +kernel) (Nat.le_of_ble_eq_true rfl) rfl) ?_
          refine r_p (pc' := 140) (p_iload_n 0 (k := 1) (by show decode cX12_readAtom _ = _; decide +kernel) rfl) ?_
          refine r_ifne (off := 12) (tgt := 152) (by show decode cX12_readAtom _ = _; decide +kernel) (by decide) (fun h10 => ?_) (fun h10 => ?_)
          · refine r_p (pc' := 144) (p_aload_n 1 (k := 0) (by show decode cX12_readAtom _ = _; decide +kernel) rfl) ?_
            refine r_p (pc' := 146) (p_bipush (n := 62) (v := 62) (by show decode cX12_readAtom _ = _; decide +kernel) (by decide +kernel)) ?_
            refine r_callVI mvX12_206 (ctX12_sign a0 62) (rcX12_sign a0 62) ⟨_, _, rfl⟩ (as := [vi 62]) (st := []) rfl rfl (by show decode cX12_readAtom _ = _; decide +kernel) rfl (Nat.le_trans (Nat.le_of_ble_eq_true rfl) hK) (Nat.le_of_ble_eq_true rfl) fun v11 s => ?_
            refine r_ifeq (off := 10) (tgt := 159) (by show decode cX12_readAtom _ = _; decide +kernel) (by decide) (fun h12 => ?_) (fun h12 => ?_)
            · refine r_p (pc' := 160) (p_iconst (n := 0) (v := 0) (by show decode cX12_readAtom _ = _; decide +kernel) rfl) ?_
              exact r_iret rfl rfl _ rfl rfl (by show decode cX12_readAtom _ = _; decide +kernel)
            · refine r_p (pc' := 153) (p_aload_n 1 (k := 0) (by show decode cX12_readAtom _ = _; decide +kernel) rfl) ?_
              refine r_callVI mvX12_228 (ctX12_readSum a0) (rcX12_readSum a0) ⟨_, _, rfl⟩ (as := []) (st := []) rfl rfl (by show decode cX12_readAtom _ = _; decide +kernel) rfl (Nat.le_trans (Nat.le_of_ble_eq_true rfl) hK) (Nat.le_of_ble_eq_true rfl) fun v13 s => ?_
              refine r_ifne (off := 5) (tgt := 161) (by show decode cX12_readAtom _ = _; decide +kernel) (by decide) (fun h14 => ?_) (fun h14 => ?_)
              · refine r_p (pc' := 160) (p_iconst (n := 0) (v := 0) (by show decode cX12_readAtom _ = _; decide +kernel) rfl) ?_
                exact r_iret rfl rfl _ rfl rfl (by show decode cX12_readAtom _ = _; decide +kernel)
              · refine r_p (pc' := 162) (p_aload_n 1 (k := 0) (by show decode cX12_readAtom _ = _; decide +kernel) rfl) ?_
                refine r_p (pc' := 163) (p_iload_n 0 (k := 1) (by show decode cX12_readAtom _ = _; decide +kernel) rfl) ?_
                refine r_join 173 (fun (x16 : Int32) => []) (fun (x16 : Int32) => [vi x16, vr a0]) (fun x16 s => ?_) (fun K17 hj18 => ?_)
                · refine r_p (pc' := 174) (p_iconst (n := 0) (v := 0) (by show decode cX12_readAtom _ = _; decide +kernel) rfl) ?_
                  refine r_callVU mvX12_192 (ctX12_emits a0 x16 0) (rcX12_emits a0 x16 0) ⟨_, _, rfl⟩ (as := [vi x16, vi 0]) (st := []) rfl rfl (by show decode cX12_readAtom _ = _; decide +kernel) rfl (Nat.le_trans (Nat.le_of_ble_eq_true rfl) hK) (Nat.le_of_ble_eq_true rfl) fun s => ?_
                  refine r_p (pc' := 178) (p_iconst (n := 1) (v := 1) (by show decode cX12_readAtom _ = _; decide +kernel) rfl) ?_
                  exact r_iret rfl rfl _ rfl rfl (by show decode cX12_readAtom _ = _; decide +kernel)
                · refine r_ifeq (off := 8) (tgt := 171) (by show decode cX12_readAtom _ = _; decide +kernel) (by decide) (fun h15 => ?_) (fun h15 => ?_)
                  · refine r_p (pc' := 173) (p_bipush (n := 13) (v := 13) (by show decode cX12_readAtom _ = _; decide +kernel) (by decide +kernel)) ?_
                    refine r_sub (lv' := []) [] rfl ?_
                    exact hj18 13 _
                  · refine r_p (pc' := 168) (p_bipush (n := 12) (v := 12) (by show decode cX12_readAtom _ = _; decide +kernel) (by decide +kernel)) ?_
                    refine r_p (pc' := 173) (p_goto (off := 5) (tgt := 173) (by show decode cX12_readAtom _ = _; decide +kernel) (by decide)) ?_
                    refine r_sub (lv' := []) [] rfl ?_
                    exact hj18 12 _
          · refine r_p (pc' := 153) (p_aload_n 1 (k := 0) (by show decode cX12_readAtom _ = _; decide +kernel) rfl) ?_
            refine r_callVI mvX12_228 (ctX12_readSum a0) (rcX12_readSum a0) ⟨_, _, rfl⟩ (as := []) (st := []) rfl rfl (by show decode cX12_readAtom _ = _; decide +kernel) rfl (Nat.le_trans (Nat.le_of_ble_eq_true rfl) hK) (Nat.le_of_ble_eq_true rfl) fun v19 s => ?_
            refine r_ifne (off := 5) (tgt := 161) (by show decode cX12_readAtom _ = _; decide +kernel) (by decide) (fun h20 => ?_) (fun h20 => ?_)
            · refine r_p (pc' := 160) (p_iconst (n := 0) (v := 0) (by show decode cX12_readAtom _ = _; decide +kernel) rfl) ?_
              exact r_iret rfl rfl _ rfl rfl (by show decode cX12_readAtom _ = _; decide +kernel)
            · refine r_p (pc' := 162) (p_aload_n 1 (k := 0) (by show decode cX12_readAtom _ = _; decide +kernel) rfl) ?_
              refine r_p (pc' := 163) (p_iload_n 0 (k := 1) (by show decode cX12_readAtom _ = _; decide +kernel) rfl) ?_
              refine r_join 173 (fun (x22 : Int32) => []) (fun (x22 : Int32) => [vi x22, vr a0]) (fun x22 s => ?_) (fun K23 hj24 => ?_)
              · refine r_p (pc' := 174) (p_iconst (n := 0) (v := 0) (by show decode cX12_readAtom _ = _; decide +kernel) rfl) ?_
                refine r_callVU mvX12_192 (ctX12_emits a0 x22 0) (rcX12_emits a0 x22 0) ⟨_, _, rfl⟩ (as := [vi x22, vi 0]) (st := []) rfl rfl (by show decode cX12_readAtom _ = _; decide +kernel) rfl (Nat.le_trans (Nat.le_of_ble_eq_true rfl) hK) (Nat.le_of_ble_eq_true rfl) fun s => ?_
                refine r_p (pc' := 178) (p_iconst (n := 1) (v := 1) (by show decode cX12_readAtom _ = _; decide +kernel) rfl) ?_
                exact r_iret rfl rfl _ rfl rfl (by show decode cX12_readAtom _ = _; decide +kernel)
              · refine r_ifeq (off := 8) (tgt := 171) (by show decode cX12_readAtom _ = _; decide +kernel) (by decide) (fun h21 => ?_) (fun h21 => ?_)
                · refine r_p (pc' := 173) (p_bipush (n := 13) (v := 13) (by show decode cX12_readAtom _ = _; decide +kernel) (by decide +kernel)) ?_
                  refine r_sub (lv' := []) [] rfl ?_
                  exact hj24 13 _
                · refine r_p (pc' := 168) (p_bipush (n := 12) (v := 12) (by show decode cX12_readAtom _ = _; decide +kernel) (by decide +kernel)) ?_
                  refine r_p (pc' := 173) (p_goto (off := 5) (tgt := 173) (by show decode cX12_readAtom _ = _; decide +kernel) (by decide)) ?_
                  refine r_sub (lv' := []) [] rfl ?_
                  exact hj24 12 _
      · refine r_p (pc' := 122) (p_iconst (n := 1) (v := 1) (by show decode cX12_readAtom _ = _; decide +kernel) rfl) ?_
        exact r_iret rfl rfl _ rfl rfl (by show decode cX12_readAtom _ = _; decide +kernel)
    · refine r_p (pc' := 66) (p_aload_n 0 (k := 0) (by show decode cX12_readAtom _ = _; decide +kernel) rfl) ?_
      refine r_gI flX12_211_11 (by show decode cX12_readAtom _ = _; decide +kernel) fun v25 => ?_
      refine r_p (pc' := 71) (p_bipush (n := 6) (v := 6) (by show decode cX12_readAtom _ = _; decide +kernel) (by decide +kernel)) ?_
      refine r_icmpne (off := 5) (tgt := 76) (by show decode cX12_readAtom _ = _; decide +kernel) (by decide) (fun h26 => ?_) (fun h26 => ?_)
      · refine r_p (pc' := 75) (p_iconst (n := 0) (v := 0) (by show decode cX12_readAtom _ = _; decide +kernel) rfl) ?_
        exact r_iret rfl rfl _ rfl rfl (by show decode cX12_readAtom _ = _; decide +kernel)
      · refine r_p (pc' := 77) (p_aload_n 0 (k := 0) (by show decode cX12_readAtom _ = _; decide +kernel) rfl) ?_
        refine r_p (pc' := 78) (p_dup rfl (by show decode cX12_readAtom _ = _; decide +kernel)) ?_
        refine r_gI flX12_211_11 (by show decode cX12_readAtom _ = _; decide +kernel) fun v27 => ?_
        refine r_p (pc' := 82) (p_iconst (n := 1) (v := 1) (by show decode cX12_readAtom _ = _; decide +kernel) rfl) ?_
        refine r_p (pc' := 83) (p_iadd (by show decode cX12_readAtom _ = _; decide +kernel)) ?_
        refine r_pI fpX12_211_11 (fun h => by cases h) (by show decode cX12_readAtom _ = _; decide +kernel) fun s => ?_
        refine r_p (pc' := 87) (p_aload_n 0 (k := 0) (by show decode cX12_readAtom _ = _; decide +kernel) rfl) ?_
        refine r_callVI (mvX12_222 _) (hrA a0) (qrA a0) ⟨_, _, rfl⟩ (as := []) (st := []) rfl rfl (by show decode cX12_readAtom _ = _; decide +kernel) rfl nrA (Nat.le_of_ble_eq_true rfl) fun v28 s => ?_
        refine r_ifne (off := 5) (tgt := 95) (by show decode cX12_readAtom _ = _; decide +kernel) (by decide) (fun h29 => ?_) (fun h29 => ?_)
        · refine r_p (pc' := 94) (p_iconst (n := 0) (v := 0) (by show decode cX12_readAtom _ = _; decide +kernel) rfl) ?_
          exact r_iret rfl rfl _ rfl rfl (by show decode cX12_readAtom _ = _; decide +kernel)
        · refine r_p (pc' := 96) (p_aload_n 0 (k := 0) (by show decode cX12_readAtom _ = _; decide +kernel) rfl) ?_
          refine r_p (pc' := 97) (p_dup rfl (by show decode cX12_readAtom _ = _; decide +kernel)) ?_
          refine r_gI flX12_211_11 (by show decode cX12_readAtom _ = _; decide +kernel) fun v30 => ?_
          refine r_p (pc' := 101) (p_iconst (n := 1) (v := 1) (by show decode cX12_readAtom _ = _; decide +kernel) rfl) ?_
          refine r_p (pc' := 102) (p_isub (by show decode cX12_readAtom _ = _; decide +kernel)) ?_
          refine r_pI fpX12_211_11 (fun h => by cases h) (by show decode cX12_readAtom _ = _; decide +kernel) fun s => ?_
          refine r_p (pc' := 106) (p_aload_n 0 (k := 0) (by show decode cX12_readAtom _ = _; decide +kernel) rfl) ?_
          refine r_p (pc' := 108) (p_bipush (n := 14) (v := 14) (by show decode cX12_readAtom _ = _; decide +kernel) (by decide +kernel)) ?_
          refine r_p (pc' := 109) (p_iconst (n := 0) (v := 0) (by show decode cX12_readAtom _ = _; decide +kernel) rfl) ?_
          refine r_callVU mvX12_192 (ctX12_emits a0 14 0) (rcX12_emits a0 14 0) ⟨_, _, rfl⟩ (as := [vi 14, vi 0]) (st := []) rfl rfl (by show decode cX12_readAtom _ = _; decide +kernel) rfl (Nat.le_trans (Nat.le_of_ble_eq_true rfl) hK) (Nat.le_of_ble_eq_true rfl) fun s => ?_
          refine r_p (pc' := 113) (p_iconst (n := 1) (v := 1) (by show decode cX12_readAtom _ = _; decide +kernel) rfl) ?_
          exact r_iret rfl rfl _ rfl rfl (by show decode cX12_readAtom _ = _; decide +kernel)
  · refine r_p (pc' := 10) (p_aload_n 0 (k := 0) (by show decode cX12_readAtom _ = _; decide +kernel) rfl) ?_
    refine r_gI flX12_211_11 (by show decode cX12_readAtom _ = _; decide +kernel) fun v31 => ?_
    refine r_p (pc' := 15) (p_bipush (n := 6) (v := 6) (by show decode cX12_readAtom _ = _; decide +kernel) (by decide +kernel)) ?_
    refine r_icmpne (off := 5) (tgt := 20) (by show decode cX12_readAtom _ = _; decide +kernel) (by decide) (fun h32 => ?_) (fun h32 => ?_)
    · refine r_p (pc' := 19) (p_iconst (n := 0) (v := 0) (by show decode cX12_readAtom _ = _; decide +kernel) rfl) ?_
      exact r_iret rfl rfl _ rfl rfl (by show decode cX12_readAtom _ = _; decide +kernel)
    · refine r_p (pc' := 21) (p_aload_n 0 (k := 0) (by show decode cX12_readAtom _ = _; decide +kernel) rfl) ?_
      refine r_p (pc' := 22) (p_dup rfl (by show decode cX12_readAtom _ = _; decide +kernel)) ?_
      refine r_gI flX12_211_11 (by show decode cX12_readAtom _ = _; decide +kernel) fun v33 => ?_
      refine r_p (pc' := 26) (p_iconst (n := 1) (v := 1) (by show decode cX12_readAtom _ = _; decide +kernel) rfl) ?_
      refine r_p (pc' := 27) (p_iadd (by show decode cX12_readAtom _ = _; decide +kernel)) ?_
      refine r_pI fpX12_211_11 (fun h => by cases h) (by show decode cX12_readAtom _ = _; decide +kernel) fun s => ?_
      refine r_p (pc' := 31) (p_aload_n 0 (k := 0) (by show decode cX12_readAtom _ = _; decide +kernel) rfl) ?_
      refine r_callVI (mvX12_214 _) (hrC a0) (qrC a0) ⟨_, _, rfl⟩ (as := []) (st := []) rfl rfl (by show decode cX12_readAtom _ = _; decide +kernel) rfl nrC (Nat.le_of_ble_eq_true rfl) fun v34 s => ?_
      refine r_ifne (off := 5) (tgt := 39) (by show decode cX12_readAtom _ = _; decide +kernel) (by decide) (fun h35 => ?_) (fun h35 => ?_)
      · refine r_p (pc' := 38) (p_iconst (n := 0) (v := 0) (by show decode cX12_readAtom _ = _; decide +kernel) rfl) ?_
        exact r_iret rfl rfl _ rfl rfl (by show decode cX12_readAtom _ = _; decide +kernel)
      · refine r_p (pc' := 40) (p_aload_n 0 (k := 0) (by show decode cX12_readAtom _ = _; decide +kernel) rfl) ?_
        refine r_p (pc' := 41) (p_dup rfl (by show decode cX12_readAtom _ = _; decide +kernel)) ?_
        refine r_gI flX12_211_11 (by show decode cX12_readAtom _ = _; decide +kernel) fun v36 => ?_
        refine r_p (pc' := 45) (p_iconst (n := 1) (v := 1) (by show decode cX12_readAtom _ = _; decide +kernel) rfl) ?_
        refine r_p (pc' := 46) (p_isub (by show decode cX12_readAtom _ = _; decide +kernel)) ?_
        refine r_pI fpX12_211_11 (fun h => by cases h) (by show decode cX12_readAtom _ = _; decide +kernel) fun s => ?_
        refine r_p (pc' := 50) (p_aload_n 0 (k := 0) (by show decode cX12_readAtom _ = _; decide +kernel) rfl) ?_
        refine r_p (pc' := 52) (p_bipush (n := 41) (v := 41) (by show decode cX12_readAtom _ = _; decide +kernel) (by decide +kernel)) ?_
        refine r_callVI mvX12_206 (ctX12_sign a0 41) (rcX12_sign a0 41) ⟨_, _, rfl⟩ (as := [vi 41]) (st := []) rfl rfl (by show decode cX12_readAtom _ = _; decide +kernel) rfl (Nat.le_trans (Nat.le_of_ble_eq_true rfl) hK) (Nat.le_of_ble_eq_true rfl) fun v37 s => ?_
        exact r_bret (y9 := fun v => v) (fun _ => rfl) (fun _ => rfl) rfl (by show decode cX12_readAtom _ = _; decide +kernel)
noncomputable def mX12_readAllOf_L9 (rA : Nat → MM Int32) (a0 : Nat) (x3 : Unit) : MM ((Unit) ⊕ (Unit ⊕ Unit)) :=
  mbnd (mX12_passes a0 50) fun (v7 : Int32) =>
  if v7 = 0 then (
    mret (.inr ((.inr ())))
  ) else (
    mbnd (rA a0) fun (v9 : Int32) =>
    if v9 = 0 then (
      mret (.inr ((.inl ())))
    ) else (
      mbnd (mX12_emits a0 15 0) fun _ =>
      mret (.inl ())
    )
  )
noncomputable def mX12_readAllOf (rA : Nat → MM Int32) (a0 : Nat) : MM Int32 := onC 11 a0 (
  mbnd (rA a0) fun (v1 : Int32) =>
  if v1 = 0 then (
    mret 0
  ) else (
    mbnd (loopM (mX12_readAllOf_L9 rA a0) ()) fun (e11 : Unit ⊕ Unit) => match e11 with
      | .inl e11 => (
        mret 0
        )
      | .inr e11 => (
        mret 1
        )
  )
  )
theorem rcX12_readAllOf (rA : Nat → MM Int32) (a0 : Nat) : Rcv 11 a0 (mX12_readAllOf rA a0) := fun s r h => ⟨(onC_some h).1, (onC_some h).2.1⟩
set_option maxHeartbeats 4000000 in
set_option maxRecDepth 100000 in
theorem ctX12_readAllOf (d : Nat) (hK : 12 ≤ d) (drA : Nat) (rA : Nat → MM Int32) (hrA : ∀ x, Ct (aX12_readAtom drA) [vr x] (rA x) rI) (qrA : ∀ x, Rcv 11 x (rA x)) (nrA : drA + 1 ≤ d) (a0 : Nat) : Ct (aX12_readAllOf d) [vr a0] (mX12_readAllOf rA a0) rI := by
  unfold mX12_readAllOf
  refine ct_onC (ct_intro (show plainName RX12 = true ∧ RX12 = RX12 from by decide +kernel) rfl (Nat.le_of_ble_eq_true rfl) fun Y s => ?_)
  refine r_sub (lv' := [(0, vr a0)]) [0] rfl ?_
  refine r_p (pc' := 1) (p_aload_n 0 (k := 0) (by show decode cX12_readAllOf _ = _; decide +kernel) rfl) ?_
  refine r_callVI (mvX12_222 _) (hrA a0) (qrA a0) ⟨_, _, rfl⟩ (as := []) (st := []) rfl rfl (by show decode cX12_readAllOf _ = _; decide +kernel) rfl nrA (Nat.le_of_ble_eq_true rfl) fun v1 s => ?_
  refine r_ifne (off := 5) (tgt := 9) (by show decode cX12_readAllOf _ = _; decide +kernel) (by decide) (fun h2 => ?_) (fun h2 => ?_)
  · refine r_p (pc' := 8) (p_iconst (n := 0) (v := 0) (by show decode cX12_readAllOf _ = _; decide +kernel) rfl) ?_
    exact r_iret rfl rfl _ rfl rfl (by show decode cX12_readAllOf _ = _; decide +kernel)
  · refine r_loop2 (fun (e11 : Unit ⊕ Unit) => match e11 with | .inl _ => 25 | .inr _ => 37) (fun (e11 : Unit ⊕ Unit) => match e11 with | .inl e11 => [] | .inr e11 => []) (fun (x3 : Unit) => [(0, vr a0)]) (fun e11 s => ?_) (fun K4 hb5 he6 x3 s => ?_) () _
    · rcases e11 with e11 | e11
      · show Rr _ _ 25 [] [] _ _ _ _
        refine r_p (pc' := 26) (p_iconst (n := 0) (v := 0) (by show decode cX12_readAllOf _ = _; decide +kernel) rfl) ?_
        exact r_iret rfl rfl _ rfl rfl (by show decode cX12_readAllOf _ = _; decide +kernel)
      · show Rr _ _ 37 [] [] _ _ _ _
        refine r_p (pc' := 38) (p_iconst (n := 1) (v := 1) (by show decode cX12_readAllOf _ = _; decide +kernel) rfl) ?_
        exact r_iret rfl rfl _ rfl rfl (by show decode cX12_readAllOf _ = _; decide +kernel)
    · unfold mX12_readAllOf_L9
      refine r_p (pc' := 10) (p_aload_n 0 (k := 0) (by show decode cX12_readAllOf _ = _; decide +kernel) rfl) ?_
      refine r_p (pc' := 12) (p_ldcS (i := 231) (j := 50) (text := "and") (by show decode cX12_readAllOf _ = _; decide +kernel) (by show (RX12, 231, _, 50) ∈ strT ∧ _; decide +kernel)) ?_
      refine r_callVI mvX12_219 (ctX12_passes a0 50) (rcX12_passes a0 50) ⟨_, _, rfl⟩ (as := [vt 50]) (st := []) rfl rfl (by show decode cX12_readAllOf _ = _; decide +kernel) rfl (Nat.le_trans (Nat.le_of_ble_eq_true rfl) hK) (Nat.le_of_ble_eq_true rfl) fun v7 s => ?_
      refine r_ifeq (off := 22) (tgt := 37) (by show decode cX12_readAllOf _ = _; decide +kernel) (by decide) (fun h8 => ?_) (fun h8 => ?_)
      · refine r_sub (lv' := []) [] rfl ?_
        exact he6 ((.inr ())) _
      · refine r_p (pc' := 19) (p_aload_n 0 (k := 0) (by show decode cX12_readAllOf _ = _; decide +kernel) rfl) ?_
        refine r_callVI (mvX12_222 _) (hrA a0) (qrA a0) ⟨_, _, rfl⟩ (as := []) (st := []) rfl rfl (by show decode cX12_readAllOf _ = _; decide +kernel) rfl nrA (Nat.le_of_ble_eq_true rfl) fun v9 s => ?_
        refine r_ifne (off := 5) (tgt := 27) (by show decode cX12_readAllOf _ = _; decide +kernel) (by decide) (fun h10 => ?_) (fun h10 => ?_)
        · refine r_sub (lv' := []) [] rfl ?_
          exact he6 ((.inl ())) _
        · refine r_p (pc' := 28) (p_aload_n 0 (k := 0) (by show decode cX12_readAllOf _ = _; decide +kernel) rfl) ?_
          refine r_p (pc' := 30) (p_bipush (n := 15) (v := 15) (by show decode cX12_readAllOf _ = _; decide +kernel) (by decide +kernel)) ?_
          refine r_p (pc' := 31) (p_iconst (n := 0) (v := 0) (by show decode cX12_readAllOf _ = _; decide +kernel) rfl) ?_
          refine r_callVU mvX12_192 (ctX12_emits a0 15 0) (rcX12_emits a0 15 0) ⟨_, _, rfl⟩ (as := [vi 15, vi 0]) (st := []) rfl rfl (by show decode cX12_readAllOf _ = _; decide +kernel) rfl (Nat.le_trans (Nat.le_of_ble_eq_true rfl) hK) (Nat.le_of_ble_eq_true rfl) fun s => ?_
          refine r_p (pc' := 9) (p_goto (off := -25) (tgt := 9) (by show decode cX12_readAllOf _ = _; decide +kernel) (by decide)) ?_
          exact hb5 () _
theorem mvX12_233z : MV RX12 233 (aX12_readAllOf 0) 0 := ⟨tblG_of 1913 (by decide +kernel) (by decide +kernel), tblG_of 1915 (by decide +kernel) (by decide +kernel), tblG_of 80 (by decide +kernel) (by decide +kernel), tblG_of 157 (by decide +kernel) (by decide +kernel), tblG_of 1916 (by decide +kernel) (by decide +kernel), rfl, ⟨by decide, by decide⟩, by decide +kernel, by decide⟩
theorem mvX12_233 (drL : Nat) : MV RX12 233 (aX12_readAllOf drL) 0 := mvX12_233z
noncomputable def mX12_readCond_L9 (rL : Nat → MM Int32) (a0 : Nat) (x3 : Unit) : MM ((Unit) ⊕ (Unit ⊕ Unit)) :=
  mbnd (mX12_passes a0 51) fun (v7 : Int32) =>
  if v7 = 0 then (
    mret (.inr ((.inr ())))
  ) else (
    mbnd (rL a0) fun (v9 : Int32) =>
    if v9 = 0 then (
      mret (.inr ((.inl ())))
    ) else (
      mbnd (mX12_emits a0 16 0) fun _ =>
      mret (.inl ())
    )
  )
noncomputable def mX12_readCond (rL : Nat → MM Int32) (a0 : Nat) : MM Int32 := onC 11 a0 (
  mbnd (rL a0) fun (v1 : Int32) =>
  if v1 = 0 then (
    mret 0
  ) else (
    mbnd (loopM (mX12_readCond_L9 rL a0) ()) fun (e11 : Unit ⊕ Unit) => match e11 with
      | .inl e11 => (
        mret 0
        )
      | .inr e11 => (
        mret 1
        )
  )
  )
theorem rcX12_readCond (rL : Nat → MM Int32) (a0 : Nat) : Rcv 11 a0 (mX12_readCond rL a0) := fun s r h => ⟨(onC_some h).1, (onC_some h).2.1⟩
set_option maxHeartbeats 4000000 in
set_option maxRecDepth 100000 in
theorem ctX12_readCond (d : Nat) (hK : 12 ≤ d) (drL : Nat) (rL : Nat → MM Int32) (hrL : ∀ x, Ct (aX12_readAllOf drL) [vr x] (rL x) rI) (qrL : ∀ x, Rcv 11 x (rL x)) (nrL : drL + 1 ≤ d) (a0 : Nat) : Ct (aX12_readCond d) [vr a0] (mX12_readCond rL a0) rI := by
  unfold mX12_readCond
  refine ct_onC (ct_intro (show plainName RX12 = true ∧ RX12 = RX12 from by decide +kernel) rfl (Nat.le_of_ble_eq_true rfl) fun Y s => ?_)
  refine r_sub (lv' := [(0, vr a0)]) [0] rfl ?_
  refine r_p (pc' := 1) (p_aload_n 0 (k := 0) (by show decode cX12_readCond _ = _; decide +kernel) rfl) ?_
  refine r_callVI (mvX12_233 _) (hrL a0) (qrL a0) ⟨_, _, rfl⟩ (as := []) (st := []) rfl rfl (by show decode cX12_readCond _ = _; decide +kernel) rfl nrL (Nat.le_of_ble_eq_true rfl) fun v1 s => ?_
  refine r_ifne (off := 5) (tgt := 9) (by show decode cX12_readCond _ = _; decide +kernel) (by decide) (fun h2 => ?_) (fun h2 => ?_)
  · refine r_p (pc' := 8) (p_iconst (n := 0) (v := 0) (by show decode cX12_readCond _ = _; decide +kernel) rfl) ?_
    exact r_iret rfl rfl _ rfl rfl (by show decode cX12_readCond _ = _; decide +kernel)
  · refine r_loop2 (fun (e11 : Unit ⊕ Unit) => match e11 with | .inl _ => 25 | .inr _ => 37) (fun (e11 : Unit ⊕ Unit) => match e11 with | .inl e11 => [] | .inr e11 => []) (fun (x3 : Unit) => [(0, vr a0)]) (fun e11 s => ?_) (fun K4 hb5 he6 x3 s => ?_) () _
    · rcases e11 with e11 | e11
      · show Rr _ _ 25 [] [] _ _ _ _
        refine r_p (pc' := 26) (p_iconst (n := 0) (v := 0) (by show decode cX12_readCond _ = _; decide +kernel) rfl) ?_
        exact r_iret rfl rfl _ rfl rfl (by show decode cX12_readCond _ = _; decide +kernel)
      · show Rr _ _ 37 [] [] _ _ _ _
        refine r_p (pc' := 38) (p_iconst (n := 1) (v := 1) (by show decode cX12_readCond _ = _; decide +kernel) rfl) ?_
        exact r_iret rfl rfl _ rfl rfl (by show decode cX12_readCond _ = _; decide +kernel)
    · unfold mX12_readCond_L9
      refine r_p (pc' := 10) (p_aload_n 0 (k := 0) (by show decode cX12_readCond _ = _; decide +kernel) rfl) ?_
      refine r_p (pc' := 12) (p_ldcS (i := 236) (j := 51) (text := "or") (by show decode cX12_readCond _ = _; decide +kernel) (by show (RX12, 236, _, 51) ∈ strT ∧ _; decide +kernel)) ?_
      refine r_callVI mvX12_219 (ctX12_passes a0 51) (rcX12_passes a0 51) ⟨_, _, rfl⟩ (as := [vt 51]) (st := []) rfl rfl (by show decode cX12_readCond _ = _; decide +kernel) rfl (Nat.le_trans (Nat.le_of_ble_eq_true rfl) hK) (Nat.le_of_ble_eq_true rfl) fun v7 s => ?_
      refine r_ifeq (off := 22) (tgt := 37) (by show decode cX12_readCond _ = _; decide +kernel) (by decide) (fun h8 => ?_) (fun h8 => ?_)
      · refine r_sub (lv' := []) [] rfl ?_
        exact he6 ((.inr ())) _
      · refine r_p (pc' := 19) (p_aload_n 0 (k := 0) (by show decode cX12_readCond _ = _; decide +kernel) rfl) ?_
        refine r_callVI (mvX12_233 _) (hrL a0) (qrL a0) ⟨_, _, rfl⟩ (as := []) (st := []) rfl rfl (by show decode cX12_readCond _ = _; decide +kernel) rfl nrL (Nat.le_of_ble_eq_true rfl) fun v9 s => ?_
        refine r_ifne (off := 5) (tgt := 27) (by show decode cX12_readCond _ = _; decide +kernel) (by decide) (fun h10 => ?_) (fun h10 => ?_)
        · refine r_sub (lv' := []) [] rfl ?_
          exact he6 ((.inl ())) _
        · refine r_p (pc' := 28) (p_aload_n 0 (k := 0) (by show decode cX12_readCond _ = _; decide +kernel) rfl) ?_
          refine r_p (pc' := 30) (p_bipush (n := 16) (v := 16) (by show decode cX12_readCond _ = _; decide +kernel) (by decide +kernel)) ?_
          refine r_p (pc' := 31) (p_iconst (n := 0) (v := 0) (by show decode cX12_readCond _ = _; decide +kernel) rfl) ?_
          refine r_callVU mvX12_192 (ctX12_emits a0 16 0) (rcX12_emits a0 16 0) ⟨_, _, rfl⟩ (as := [vi 16, vi 0]) (st := []) rfl rfl (by show decode cX12_readCond _ = _; decide +kernel) rfl (Nat.le_trans (Nat.le_of_ble_eq_true rfl) hK) (Nat.le_of_ble_eq_true rfl) fun s => ?_
          refine r_p (pc' := 9) (p_goto (off := -25) (tgt := 9) (by show decode cX12_readCond _ = _; decide +kernel) (by decide)) ?_
          exact hb5 () _
/-! the knot of readAtom, readAllOf, readCond: f tells how deep they may still go -/
noncomputable def mRA : Nat → Nat → MM Int32
  | 0 => fun a0 => onC 11 a0 mfail
  | f + 1 => fun a0 => mX12_readAtom (mRA f) (fun x => mX12_readCond (fun y => mX12_readAllOf (mRA f) y) x) a0
noncomputable def mRL (f a0 : Nat) : MM Int32 := mX12_readAllOf (mRA f) a0
noncomputable def mRC (f a0 : Nat) : MM Int32 := mX12_readCond (mRL f) a0
theorem rcRA (f a0 : Nat) : Rcv 11 a0 (mRA f a0) := by
  cases f with
  | zero => exact fun s r h => ⟨(onC_some h).1, (onC_some h).2.1⟩
  | succ f => exact rcX12_readAtom _ _ a0
theorem rcRL (f a0 : Nat) : Rcv 11 a0 (mRL f a0) := rcX12_readAllOf _ a0
theorem rcRC (f a0 : Nat) : Rcv 11 a0 (mRC f a0) := rcX12_readCond _ a0
theorem ctRA (f : Nat) : ∀ a0, Ct (aX12_readAtom (13 + 3 * f)) [vr a0] (mRA f a0) rI := by
  induction f with
  | zero => exact fun a0 => ct_onC fun Y s s' o e => by cases e
  | succ f ih =>
    have hL : ∀ y, Ct (aX12_readAllOf (13 + 3 * f + 1)) [vr y] (mX12_readAllOf (mRA f) y) rI := fun y => ctX12_readAllOf (13 + 3 * f + 1) (by omega) (13 + 3 * f) (mRA f) ih (rcRA f) (by omega) y
    have hC : ∀ y, Ct (aX12_readCond (13 + 3 * f + 2)) [vr y] (mX12_readCond (fun y => mX12_readAllOf (mRA f) y) y) rI := fun y => ctX12_readCond (13 + 3 * f + 2) (by omega) (13 + 3 * f + 1) _ hL (fun y => rcX12_readAllOf _ y) (by omega) y
    exact fun a0 => ctX12_readAtom (13 + 3 * (f + 1)) (by omega) (13 + 3 * f) (mRA f) ih (rcRA f) (by omega) (13 + 3 * f + 2) _ hC (fun y => rcX12_readCond _ y) (by omega) a0
theorem ctRL (f a0 : Nat) : Ct (aX12_readAllOf (13 + 3 * f + 1)) [vr a0] (mRL f a0) rI := ctX12_readAllOf (13 + 3 * f + 1) (by omega) (13 + 3 * f) (mRA f) (ctRA f) (rcRA f) (by omega) a0
theorem ctRC (f a0 : Nat) : Ct (aX12_readCond (13 + 3 * f + 2)) [vr a0] (mRC f a0) rI := ctX12_readCond (13 + 3 * f + 2) (by omega) (13 + 3 * f + 1) (mRL f) (ctRL f) (rcRL f) (by omega) a0
theorem ctRC8 (a0 : Nat) : Ct (aX12_readCond 39) [vr a0] (mRC 8 a0) rI := ctRC 8 a0
theorem rcRC8 (a0 : Nat) : Rcv 11 a0 (mRC 8 a0) := rcRC 8 a0

def aX12_readLawLine : StA := (RX12, cX12_readLawLine, 3, some .boolean, yX12_readLawLine, 40, [])
noncomputable def mX12_readLawLine (a0 : Nat) (a1 : Int32) : MM Int32 := onC 11 a0 (
  mbnd (mret (1921 + (4 * a1))) fun (v1 : Int32) =>
  mbnd (gR 11 1 a0) fun (v2 : Nat) =>
  mbnd (mX12_isWord a0 39) fun (v3 : Int32) =>
  mbnd (α := Int32) (
    if v3 = 0 then (
      mbnd (mX12_isWord a0 40) fun (v8 : Int32) =>
      if v8 = 0 then (
        mbnd (mX12_isWord a0 41) fun (v10 : Int32) =>
        if v10 = 0 then (
          mbnd (mX12_isWord a0 42) fun (v12 : Int32) =>
          if v12 = 0 then (
            mret (-1)
          ) else (
            mret 3
          )
        ) else (
          mret 2
        )
      ) else (
        mret 1
      )
    ) else (
      mret 0
    )
  ) fun (x5 : Int32) =>
  mbnd (stI 0 v2 v1 x5) fun _ =>
  mbnd (gR 11 1 a0) fun (v14 : Nat) =>
  mbnd (ldI 0 v14 v1) fun (v15 : Int32) =>
  if 0 ≤ v15 then (
    mbnd (gR 11 1 a0) fun (v17 : Nat) =>
    mbnd (gR 11 1 a0) fun (v18 : Nat) =>
    mbnd (ldI 0 v18 v1) fun (v19 : Int32) =>
    mbnd (α := Int32) (
      if v19 = 3 then (
        mret 99
      ) else (
        mret 999
      )
    ) fun (x21 : Int32) =>
    mbnd (mX12_figures a0 0 x21 3) fun (v24 : Int32) =>
    mbnd (stI 0 v17 (v1 + 1) v24) fun _ =>
    mbnd (gR 11 1 a0) fun (v25 : Nat) =>
    mbnd (ldI 0 v25 (v1 + 1)) fun (v26 : Int32) =>
    if 0 ≤ v26 then (
      mbnd (gR 11 1 a0) fun (v28 : Nat) =>
      mbnd (gI 11 16 a0) fun (v29 : Int32) =>
      mbnd (stI 0 v28 (v1 + 2) v29) fun _ =>
      mbnd (pI 11 13 a0 0) fun _ =>
      mbnd (mX12_passes a0 43) fun (v30 : Int32) =>
      if v30 = 0 then (
        mbnd (gR 11 1 a0) fun (v32 : Nat) =>
        mbnd (gI 11 16 a0) fun (v33 : Int32) =>
        mbnd (stI 0 v32 (v1 + 3) v33) fun _ =>
        mret 1
      ) else (
        mbnd (mRC 8 a0) fun (v34 : Int32) =>
        if v34 = 0 then (
          mret 0
        ) else (
          mbnd (gR 11 1 a0) fun (v36 : Nat) =>
          mbnd (gI 11 16 a0) fun (v37 : Int32) =>
          mbnd (stI 0 v36 (v1 + 3) v37) fun _ =>
          mret 1
        )
      )
    ) else (
      mret 0
    )
  ) else (
    mret 0
  )
  )
theorem rcX12_readLawLine (a0 : Nat) (a1 : Int32) : Rcv 11 a0 (mX12_readLawLine a0 a1) := fun s r h => ⟨(onC_some h).1, (onC_some h).2.1⟩
set_option maxHeartbeats 4000000 in
set_option maxRecDepth 100000 in
theorem ctX12_readLawLine (a0 : Nat) (a1 : Int32) : Ct aX12_readLawLine [vr a0, vi a1] (mX12_readLawLine a0 a1) rI := by
  unfold mX12_readLawLine
  refine ct_onC (ct_intro (by decide +kernel) rfl (Nat.le_of_ble_eq_true rfl) fun Y s => ?_)
  refine r_sub (lv' := [(0, vr a0), (1, vi a1)]) [0, 1] rfl ?_
  refine r_p (pc' := 3) (p_sipush (n := 1921) (v := 1921) (by decide +kernel) (by decide +kernel)) ?_
  refine r_p (pc' := 4) (p_iconst (n := 4) (v := 4) (by decide +kernel) rfl) ?_
  refine r_p (pc' := 5) (p_iload_n 1 (k := 1) (by decide +kernel) rfl) ?_
  refine r_p (pc' := 6) (p_imul (by decide +kernel)) ?_
  refine r_p (pc' := 7) (p_iadd (by decide +kernel)) ?_
  refine r_letI fun v1 => ?_
  refine r_p (pc' := 8) (p_istore_n (k := 2) (lv' := [(2, vi v1), (0, vr a0), (1, vi a1)]) (by decide +kernel) (Nat.le_of_ble_eq_true rfl) rfl) ?_
  refine r_p (pc' := 9) (p_aload_n 1 (k := 0) (by decide +kernel) rfl) ?_
  refine r_gR flX12_13_11 (by decide +kernel) fun v2 => ?_
  refine r_p (pc' := 13) (p_iload_n 0 (k := 2) (by decide +kernel) rfl) ?_
  refine r_p (pc' := 14) (p_aload_n 1 (k := 0) (by decide +kernel) rfl) ?_
  refine r_p (pc' := 16) (p_ldcS (i := 238) (j := 39) (text := "answer") (by decide +kernel) (by decide +kernel)) ?_
  refine r_callVI mvX12_114 (ctX12_isWord a0 39) (rcX12_isWord a0 39) ⟨_, _, rfl⟩ (as := [vt 39]) (st := [vi v1, vr v2]) rfl rfl (by decide +kernel) rfl (Nat.le_of_ble_eq_true rfl) (Nat.le_of_ble_eq_true rfl) fun v3 s => ?_
  refine r_join 66 (fun (x5 : Int32) => [(0, vr a0), (2, vi v1)]) (fun (x5 : Int32) => [vi x5, vi v1, vr v2]) (fun x5 s => ?_) (fun K6 hj7 => ?_)
  · refine r_stI0 (by decide +kernel) fun s => ?_
    refine r_p (pc' := 68) (p_aload_n 0 (k := 0) (by decide +kernel) rfl) ?_
    refine r_gR flX12_13_11 (by decide +kernel) fun v14 => ?_
    refine r_p (pc' := 72) (p_iload_n 1 (k := 2) (by decide +kernel) rfl) ?_
    refine r_ldI0 (by decide +kernel) fun v15 => ?_
    refine r_ifge (off := 5) (tgt := 78) (by decide +kernel) (by decide) (fun h16 => ?_) (fun h16 => ?_)
    · refine r_p (pc' := 79) (p_aload_n 0 (k := 0) (by decide +kernel) rfl) ?_
      refine r_gR flX12_13_11 (by decide +kernel) fun v17 => ?_
      refine r_p (pc' := 83) (p_iload_n 1 (k := 2) (by decide +kernel) rfl) ?_
      refine r_p (pc' := 84) (p_iconst (n := 1) (v := 1) (by decide +kernel) rfl) ?_
      refine r_p (pc' := 85) (p_iadd (by decide +kernel)) ?_
      refine r_p (pc' := 86) (p_aload_n 0 (k := 0) (by decide +kernel) rfl) ?_
      refine r_p (pc' := 87) (p_iconst (n := 0) (v := 0) (by decide +kernel) rfl) ?_
      refine r_p (pc' := 88) (p_aload_n 0 (k := 0) (by decide +kernel) rfl) ?_
      refine r_gR flX12_13_11 (by decide +kernel) fun v18 => ?_
      refine r_p (pc' := 92) (p_iload_n 1 (k := 2) (by decide +kernel) rfl) ?_
      refine r_ldI0 (by decide +kernel) fun v19 => ?_
      refine r_p (pc' := 94) (p_iconst (n := 3) (v := 3) (by decide +kernel) rfl) ?_
      refine r_join 105 (fun (x21 : Int32) => [(0, vr a0), (2, vi v1)]) (fun (x21 : Int32) => [vi x21, vi 0, vr a0, vi (v1 + 1), vr v17]) (fun x21 s => ?_) (fun K22 hj23 => ?_)
      · refine r_p (pc' := 106) (p_iconst (n := 3) (v := 3) (by decide +kernel) rfl) ?_
        refine r_callVI mvX12_118 (ctX12_figures a0 0 x21 3) (rcX12_figures a0 0 x21 3) ⟨_, _, rfl⟩ (as := [vi 0, vi x21, vi 3]) (st := [vi (v1 + 1), vr v17]) rfl rfl (by decide +kernel) rfl (Nat.le_of_ble_eq_true rfl) (Nat.le_of_ble_eq_true rfl) fun v24 s => ?_
        refine r_stI0 (by decide +kernel) fun s => ?_
        refine r_p (pc' := 111) (p_aload_n 0 (k := 0) (by decide +kernel) rfl) ?_
        refine r_gR flX12_13_11 (by decide +kernel) fun v25 => ?_
        refine r_p (pc' := 115) (p_iload_n 1 (k := 2) (by decide +kernel) rfl) ?_
        refine r_p (pc' := 116) (p_iconst (n := 1) (v := 1) (by decide +kernel) rfl) ?_
        refine r_p (pc' := 117) (p_iadd (by decide +kernel)) ?_
        refine r_ldI0 (by decide +kernel) fun v26 => ?_
        refine r_ifge (off := 5) (tgt := 123) (by decide +kernel) (by decide) (fun h27 => ?_) (fun h27 => ?_)
        · refine r_p (pc' := 124) (p_aload_n 0 (k := 0) (by decide +kernel) rfl) ?_
          refine r_gR flX12_13_11 (by decide +kernel) fun v28 => ?_
          refine r_p (pc' := 128) (p_iload_n 1 (k := 2) (by decide +kernel) rfl) ?_
          refine r_p (pc' := 129) (p_iconst (n := 2) (v := 2) (by decide +kernel) rfl) ?_
          refine r_p (pc' := 130) (p_iadd (by decide +kernel)) ?_
          refine r_p (pc' := 131) (p_aload_n 0 (k := 0) (by decide +kernel) rfl) ?_
          refine r_gI flX12_189_11 (by decide +kernel) fun v29 => ?_
          refine r_stI0 (by decide +kernel) fun s => ?_
          refine r_p (pc' := 136) (p_aload_n 0 (k := 0) (by decide +kernel) rfl) ?_
          refine r_p (pc' := 137) (p_iconst (n := 0) (v := 0) (by decide +kernel) rfl) ?_
          refine r_pI fpX12_211_11 (fun h => by cases h) (by decide +kernel) fun s => ?_
          refine r_p (pc' := 141) (p_aload_n 0 (k := 0) (by decide +kernel) rfl) ?_
          refine r_p (pc' := 143) (p_ldcS (i := 246) (j := 43) (text := "if") (by decide +kernel) (by decide +kernel)) ?_
          refine r_callVI mvX12_219 (ctX12_passes a0 43) (rcX12_passes a0 43) ⟨_, _, rfl⟩ (as := [vt 43]) (st := []) rfl rfl (by decide +kernel) rfl (Nat.le_of_ble_eq_true rfl) (Nat.le_of_ble_eq_true rfl) fun v30 s => ?_
          refine r_ifeq (off := 12) (tgt := 158) (by decide +kernel) (by decide) (fun h31 => ?_) (fun h31 => ?_)
          · refine r_p (pc' := 159) (p_aload_n 0 (k := 0) (by decide +kernel) rfl) ?_
            refine r_gR flX12_13_11 (by decide +kernel) fun v32 => ?_
            refine r_p (pc' := 163) (p_iload_n 1 (k := 2) (by decide +kernel) rfl) ?_
            refine r_p (pc' := 164) (p_iconst (n := 3) (v := 3) (by decide +kernel) rfl) ?_
            refine r_p (pc' := 165) (p_iadd (by decide +kernel)) ?_
            refine r_p (pc' := 166) (p_aload_n 0 (k := 0) (by decide +kernel) rfl) ?_
            refine r_gI flX12_189_11 (by decide +kernel) fun v33 => ?_
            refine r_stI0 (by decide +kernel) fun s => ?_
            refine r_p (pc' := 171) (p_iconst (n := 1) (v := 1) (by decide +kernel) rfl) ?_
            exact r_iret rfl rfl _ rfl rfl (by decide +kernel)
          · refine r_p (pc' := 150) (p_aload_n 0 (k := 0) (by decide +kernel) rfl) ?_
            refine r_callVI (mvX12_214 _) (ctRC8 a0) (rcRC8 a0) ⟨_, _, rfl⟩ (as := []) (st := []) rfl rfl (by decide +kernel) rfl (Nat.le_of_ble_eq_true rfl) (Nat.le_of_ble_eq_true rfl) fun v34 s => ?_
            refine r_ifne (off := 5) (tgt := 158) (by decide +kernel) (by decide) (fun h35 => ?_) (fun h35 => ?_)
            · refine r_p (pc' := 157) (p_iconst (n := 0) (v := 0) (by decide +kernel) rfl) ?_
              exact r_iret rfl rfl _ rfl rfl (by decide +kernel)
            · refine r_p (pc' := 159) (p_aload_n 0 (k := 0) (by decide +kernel) rfl) ?_
              refine r_gR flX12_13_11 (by decide +kernel) fun v36 => ?_
              refine r_p (pc' := 163) (p_iload_n 1 (k := 2) (by decide +kernel) rfl) ?_
              refine r_p (pc' := 164) (p_iconst (n := 3) (v := 3) (by decide +kernel) rfl) ?_
              refine r_p (pc' := 165) (p_iadd (by decide +kernel)) ?_
              refine r_p (pc' := 166) (p_aload_n 0 (k := 0) (by decide +kernel) rfl) ?_
              refine r_gI flX12_189_11 (by decide +kernel) fun v37 => ?_
              refine r_stI0 (by decide +kernel) fun s => ?_
              refine r_p (pc' := 171) (p_iconst (n := 1) (v := 1) (by decide +kernel) rfl) ?_
              exact r_iret rfl rfl _ rfl rfl (by decide +kernel)
        · refine r_p (pc' := 122) (p_iconst (n := 0) (v := 0) (by decide +kernel) rfl) ?_
          exact r_iret rfl rfl _ rfl rfl (by decide +kernel)
      · refine r_icmpne (off := 8) (tgt := 102) (by decide +kernel) (by decide) (fun h20 => ?_) (fun h20 => ?_)
        · refine r_p (pc' := 99) (p_bipush (n := 99) (v := 99) (by decide +kernel) (by decide +kernel)) ?_
          refine r_p (pc' := 105) (p_goto (off := 6) (tgt := 105) (by decide +kernel) (by decide)) ?_
          exact hj23 99 _
        · refine r_p (pc' := 105) (p_sipush (n := 999) (v := 999) (by decide +kernel) (by decide +kernel)) ?_
          exact hj23 999 _
    · refine r_p (pc' := 77) (p_iconst (n := 0) (v := 0) (by decide +kernel) rfl) ?_
      exact r_iret rfl rfl _ rfl rfl (by decide +kernel)
  · refine r_ifeq (off := 7) (tgt := 26) (by decide +kernel) (by decide) (fun h4 => ?_) (fun h4 => ?_)
    · refine r_p (pc' := 27) (p_aload_n 1 (k := 0) (by decide +kernel) rfl) ?_
      refine r_p (pc' := 29) (p_ldcS (i := 240) (j := 40) (text := "plead") (by decide +kernel) (by decide +kernel)) ?_
      refine r_callVI mvX12_114 (ctX12_isWord a0 40) (rcX12_isWord a0 40) ⟨_, _, rfl⟩ (as := [vt 40]) (st := [vi v1, vr v2]) rfl rfl (by decide +kernel) rfl (Nat.le_of_ble_eq_true rfl) (Nat.le_of_ble_eq_true rfl) fun v8 s => ?_
      refine r_ifeq (off := 7) (tgt := 39) (by decide +kernel) (by decide) (fun h9 => ?_) (fun h9 => ?_)
      · refine r_p (pc' := 40) (p_aload_n 1 (k := 0) (by decide +kernel) rfl) ?_
        refine r_p (pc' := 42) (p_ldcS (i := 242) (j := 41) (text := "heir") (by decide +kernel) (by decide +kernel)) ?_
        refine r_callVI mvX12_114 (ctX12_isWord a0 41) (rcX12_isWord a0 41) ⟨_, _, rfl⟩ (as := [vt 41]) (st := [vi v1, vr v2]) rfl rfl (by decide +kernel) rfl (Nat.le_of_ble_eq_true rfl) (Nat.le_of_ble_eq_true rfl) fun v10 s => ?_
        refine r_ifeq (off := 7) (tgt := 52) (by decide +kernel) (by decide) (fun h11 => ?_) (fun h11 => ?_)
        · refine r_p (pc' := 53) (p_aload_n 1 (k := 0) (by decide +kernel) rfl) ?_
          refine r_p (pc' := 55) (p_ldcS (i := 244) (j := 42) (text := "blunt") (by decide +kernel) (by decide +kernel)) ?_
          refine r_callVI mvX12_114 (ctX12_isWord a0 42) (rcX12_isWord a0 42) ⟨_, _, rfl⟩ (as := [vt 42]) (st := [vi v1, vr v2]) rfl rfl (by decide +kernel) rfl (Nat.le_of_ble_eq_true rfl) (Nat.le_of_ble_eq_true rfl) fun v12 s => ?_
          refine r_ifeq (off := 7) (tgt := 65) (by decide +kernel) (by decide) (fun h13 => ?_) (fun h13 => ?_)
          · refine r_p (pc' := 66) (p_iconst (n := -1) (v := -1) (by decide +kernel) rfl) ?_
            refine r_sub (lv' := [(0, vr a0), (2, vi v1)]) [1, 0] rfl ?_
            exact hj7 (-1) _
          · refine r_p (pc' := 62) (p_iconst (n := 3) (v := 3) (by decide +kernel) rfl) ?_
            refine r_p (pc' := 66) (p_goto (off := 4) (tgt := 66) (by decide +kernel) (by decide)) ?_
            refine r_sub (lv' := [(0, vr a0), (2, vi v1)]) [1, 0] rfl ?_
            exact hj7 3 _
        · refine r_p (pc' := 49) (p_iconst (n := 2) (v := 2) (by decide +kernel) rfl) ?_
          refine r_p (pc' := 66) (p_goto (off := 17) (tgt := 66) (by decide +kernel) (by decide)) ?_
          refine r_sub (lv' := [(0, vr a0), (2, vi v1)]) [1, 0] rfl ?_
          exact hj7 2 _
      · refine r_p (pc' := 36) (p_iconst (n := 1) (v := 1) (by decide +kernel) rfl) ?_
        refine r_p (pc' := 66) (p_goto (off := 30) (tgt := 66) (by decide +kernel) (by decide)) ?_
        refine r_sub (lv' := [(0, vr a0), (2, vi v1)]) [1, 0] rfl ?_
        exact hj7 1 _
    · refine r_p (pc' := 23) (p_iconst (n := 0) (v := 0) (by decide +kernel) rfl) ?_
      refine r_p (pc' := 66) (p_goto (off := 43) (tgt := 66) (by decide +kernel) (by decide)) ?_
      refine r_sub (lv' := [(0, vr a0), (2, vi v1)]) [1, 0] rfl ?_
      exact hj7 0 _
def aX12_readLine : StA := (RX12, cX12_readLine, 3, some .boolean, yX12_readLine, 41, [])
theorem mvX12_251 : MV RX12 251 aX12_readLawLine 1 := ⟨tblG_of 1896 (by decide +kernel) (by decide +kernel), tblG_of 1898 (by decide +kernel) (by decide +kernel), tblG_of 77 (by decide +kernel) (by decide +kernel), tblG_of 157 (by decide +kernel) (by decide +kernel), tblG_of 1899 (by decide +kernel) (by decide +kernel), rfl, ⟨by decide, by decide⟩, by decide +kernel, by decide⟩
theorem mvX12_248 : MV RX12 248 aX12_readShopLine 0 := ⟨tblG_of 1799 (by decide +kernel) (by decide +kernel), tblG_of 1801 (by decide +kernel) (by decide +kernel), tblG_of 57 (by decide +kernel) (by decide +kernel), tblG_of 157 (by decide +kernel) (by decide +kernel), tblG_of 1802 (by decide +kernel) (by decide +kernel), rfl, ⟨by decide, by decide⟩, by decide +kernel, by decide⟩
noncomputable def mX12_readLine (a0 : Nat) (a1 : Int32) (a2 : Int32) : MM Int32 := onC 11 a0 (
  mbnd (mX12_letters a0) fun _ =>
  mbnd (α := Int32) (
    if a1 = 0 then (
      mret 12
    ) else (
      mret 14
    )
  ) fun (x2 : Int32) =>
  if x2 ≤ a2 then (
    mret 0
  ) else (
    if a1 = 0 then (
      mbnd (mX12_readLawLine a0 a2) fun (v7 : Int32) =>
      if v7 = 0 then (
        mret 0
      ) else (
        mret 1
      )
    ) else (
      mbnd (mX12_readShopLine a0) fun (v9 : Int32) =>
      if v9 = 0 then (
        mret 0
      ) else (
        mret 1
      )
    )
  )
  )
theorem rcX12_readLine (a0 : Nat) (a1 : Int32) (a2 : Int32) : Rcv 11 a0 (mX12_readLine a0 a1 a2) := fun s r h => ⟨(onC_some h).1, (onC_some h).2.1⟩
set_option maxHeartbeats 4000000 in
set_option maxRecDepth 100000 in
theorem ctX12_readLine (a0 : Nat) (a1 : Int32) (a2 : Int32) : Ct aX12_readLine [vr a0, vi a1, vi a2] (mX12_readLine a0 a1 a2) rI := by
  unfold mX12_readLine
  refine ct_onC (ct_intro (by decide +kernel) rfl (Nat.le_of_ble_eq_true rfl) fun Y s => ?_)
  refine r_sub (lv' := [(0, vr a0), (1, vi a1), (2, vi a2)]) [0, 1, 2] rfl ?_
  refine r_p (pc' := 1) (p_aload_n 0 (k := 0) (by decide +kernel) rfl) ?_
  refine r_callVU mvX12_111 (ctX12_letters a0) (rcX12_letters a0) ⟨_, _, rfl⟩ (as := []) (st := []) rfl rfl (by decide +kernel) rfl (Nat.le_of_ble_eq_true rfl) (Nat.le_of_ble_eq_true rfl) fun s => ?_
  refine r_p (pc' := 5) (p_iload_n 2 (k := 2) (by decide +kernel) rfl) ?_
  refine r_p (pc' := 6) (p_iload_n 1 (k := 1) (by decide +kernel) rfl) ?_
  refine r_join 16 (fun (x2 : Int32) => [(0, vr a0), (1, vi a1), (2, vi a2)]) (fun (x2 : Int32) => [vi x2, vi a2]) (fun x2 s => ?_) (fun K3 hj4 => ?_)
  · refine r_icmpge (off := 29) (tgt := 45) (by decide +kernel) (by decide) (fun h5 => ?_) (fun h5 => ?_)
    · refine r_p (pc' := 46) (p_iconst (n := 0) (v := 0) (by decide +kernel) rfl) ?_
      exact r_iret rfl rfl _ rfl rfl (by decide +kernel)
    · refine r_p (pc' := 20) (p_iload_n 1 (k := 1) (by decide +kernel) rfl) ?_
      refine r_ifeq (off := 13) (tgt := 33) (by decide +kernel) (by decide) (fun h6 => ?_) (fun h6 => ?_)
      · refine r_p (pc' := 34) (p_aload_n 0 (k := 0) (by decide +kernel) rfl) ?_
        refine r_p (pc' := 35) (p_iload_n 2 (k := 2) (by decide +kernel) rfl) ?_
        refine r_callVI mvX12_251 (ctX12_readLawLine a0 a2) (rcX12_readLawLine a0 a2) ⟨_, _, rfl⟩ (as := [vi a2]) (st := []) rfl rfl (by decide +kernel) rfl (Nat.le_of_ble_eq_true rfl) (Nat.le_of_ble_eq_true rfl) fun v7 s => ?_
        refine r_ifeq (off := 7) (tgt := 45) (by decide +kernel) (by decide) (fun h8 => ?_) (fun h8 => ?_)
        · refine r_p (pc' := 46) (p_iconst (n := 0) (v := 0) (by decide +kernel) rfl) ?_
          exact r_iret rfl rfl _ rfl rfl (by decide +kernel)
        · refine r_p (pc' := 42) (p_iconst (n := 1) (v := 1) (by decide +kernel) rfl) ?_
          refine r_p (pc' := 46) (p_goto (off := 4) (tgt := 46) (by decide +kernel) (by decide)) ?_
          exact r_iret rfl rfl _ rfl rfl (by decide +kernel)
      · refine r_p (pc' := 24) (p_aload_n 0 (k := 0) (by decide +kernel) rfl) ?_
        refine r_callVI mvX12_248 (ctX12_readShopLine a0) (rcX12_readShopLine a0) ⟨_, _, rfl⟩ (as := []) (st := []) rfl rfl (by decide +kernel) rfl (Nat.le_of_ble_eq_true rfl) (Nat.le_of_ble_eq_true rfl) fun v9 s => ?_
        refine r_ifeq (off := 18) (tgt := 45) (by decide +kernel) (by decide) (fun h10 => ?_) (fun h10 => ?_)
        · refine r_p (pc' := 46) (p_iconst (n := 0) (v := 0) (by decide +kernel) rfl) ?_
          exact r_iret rfl rfl _ rfl rfl (by decide +kernel)
        · refine r_p (pc' := 41) (p_goto (off := 11) (tgt := 41) (by decide +kernel) (by decide)) ?_
          refine r_p (pc' := 42) (p_iconst (n := 1) (v := 1) (by decide +kernel) rfl) ?_
          refine r_p (pc' := 46) (p_goto (off := 4) (tgt := 46) (by decide +kernel) (by decide)) ?_
          exact r_iret rfl rfl _ rfl rfl (by decide +kernel)
  · refine r_ifeq (off := 8) (tgt := 14) (by decide +kernel) (by decide) (fun h1 => ?_) (fun h1 => ?_)
    · refine r_p (pc' := 16) (p_bipush (n := 12) (v := 12) (by decide +kernel) (by decide +kernel)) ?_
      exact hj4 12 _
    · refine r_p (pc' := 11) (p_bipush (n := 14) (v := 14) (by decide +kernel) (by decide +kernel)) ?_
      refine r_p (pc' := 16) (p_goto (off := 5) (tgt := 16) (by decide +kernel) (by decide)) ?_
      exact hj4 14 _
def aX12_readAll : StA := (RX12, cX12_readAll, 3, some .int, yX12_readAll, 42, [])
theorem mvX12_257 : MV RX12 257 aX12_readLine 2 := ⟨tblG_of 1791 (by decide +kernel) (by decide +kernel), tblG_of 1793 (by decide +kernel) (by decide +kernel), tblG_of 55 (by decide +kernel) (by decide +kernel), tblG_of 157 (by decide +kernel) (by decide +kernel), tblG_of 1794 (by decide +kernel) (by decide +kernel), rfl, ⟨by decide, by decide⟩, by decide +kernel, by decide⟩
noncomputable def mX12_readAll_L28 (a0 : Nat) (a1 : Int32) (x4 : Int32) : MM ((Int32) ⊕ (Unit ⊕ Int32 ⊕ Unit)) :=
  mbnd (mX12_readLine a0 a1 x4) fun (v8 : Int32) =>
  if v8 = 0 then (
    mret (.inr ((.inl ())))
  ) else (
    mbnd (mX12_blanks a0) fun _ =>
    mbnd (gI 11 10 a0) fun (v10 : Int32) =>
    mbnd (gI 11 11 a0) fun (v11 : Int32) =>
    if v10 = v11 then (
      mret (.inr ((.inr (.inl x4))))
    ) else (
      mbnd (mX12_isAt a0 59 59) fun (v13 : Int32) =>
      if v13 = 0 then (
        mret (.inr ((.inr (.inr ()))))
      ) else (
        mbnd (gI 11 10 a0) fun (v15 : Int32) =>
        mbnd (pI 11 10 a0 (v15 + 1)) fun _ =>
        mret (.inl (x4 + 1))
      )
    )
  )
noncomputable def mX12_readAll (a0 : Nat) (a1 : Int32) : MM Int32 := onC 11 a0 (
  mbnd (mX12_uses a0) fun _ =>
  mbnd (pI 11 16 a0 0) fun _ =>
  mbnd (mX12_blanks a0) fun _ =>
  mbnd (gI 11 10 a0) fun (v1 : Int32) =>
  mbnd (gI 11 11 a0) fun (v2 : Int32) =>
  if v1 = v2 then (
    mret 0
  ) else (
    mbnd (loopM (mX12_readAll_L28 a0 a1) 0) fun (e16 : Unit ⊕ Int32 ⊕ Unit) => match e16 with
      | .inl e16 => (
        mret (-1)
        )
      | .inr (.inl e16) => (
        mret (e16 + 1)
        )
      | .inr (.inr e16) => (
        mret (-1)
        )
  )
  )
theorem rcX12_readAll (a0 : Nat) (a1 : Int32) : Rcv 11 a0 (mX12_readAll a0 a1) := fun s r h => ⟨(onC_some h).1, (onC_some h).2.1⟩
set_option maxHeartbeats 4000000 in
set_option maxRecDepth 100000 in
theorem ctX12_readAll (a0 : Nat) (a1 : Int32) : Ct aX12_readAll [vr a0, vi a1] (mX12_readAll a0 a1) rI := by
  unfold mX12_readAll
  refine ct_onC (ct_intro (by decide +kernel) rfl (Nat.le_of_ble_eq_true rfl) fun Y s => ?_)
  refine r_sub (lv' := [(0, vr a0), (1, vi a1)]) [0, 1] rfl ?_
  refine r_p (pc' := 1) (p_aload_n 0 (k := 0) (by decide +kernel) rfl) ?_
  refine r_callVU mvX12_254 (ctX12_uses a0) (rcX12_uses a0) ⟨_, _, rfl⟩ (as := []) (st := []) rfl rfl (by decide +kernel) rfl (Nat.le_of_ble_eq_true rfl) (Nat.le_of_ble_eq_true rfl) fun s => ?_
  refine r_p (pc' := 5) (p_aload_n 0 (k := 0) (by decide +kernel) rfl) ?_
  refine r_p (pc' := 6) (p_iconst (n := 0) (v := 0) (by decide +kernel) rfl) ?_
  refine r_pI fpX12_189_11 (fun h => by cases h) (by decide +kernel) fun s => ?_
  refine r_p (pc' := 10) (p_aload_n 0 (k := 0) (by decide +kernel) rfl) ?_
  refine r_callVU mvX12_99 (ctX12_blanks a0) (rcX12_blanks a0) ⟨_, _, rfl⟩ (as := []) (st := []) rfl rfl (by decide +kernel) rfl (Nat.le_of_ble_eq_true rfl) (Nat.le_of_ble_eq_true rfl) fun s => ?_
  refine r_p (pc' := 14) (p_aload_n 0 (k := 0) (by decide +kernel) rfl) ?_
  refine r_gI flX12_86_11 (by decide +kernel) fun v1 => ?_
  refine r_p (pc' := 18) (p_aload_n 0 (k := 0) (by decide +kernel) rfl) ?_
  refine r_gI flX12_89_11 (by decide +kernel) fun v2 => ?_
  refine r_icmpne (off := 5) (tgt := 26) (by decide +kernel) (by decide) (fun h3 => ?_) (fun h3 => ?_)
  · refine r_p (pc' := 25) (p_iconst (n := 0) (v := 0) (by decide +kernel) rfl) ?_
    exact r_iret rfl rfl _ rfl rfl (by decide +kernel)
  · refine r_p (pc' := 27) (p_iconst (n := 0) (v := 0) (by decide +kernel) rfl) ?_
    refine r_p (pc' := 28) (p_istore_n (k := 2) (lv' := [(2, vi 0), (0, vr a0), (1, vi a1)]) (by decide +kernel) (Nat.le_of_ble_eq_true rfl) rfl) ?_
    refine r_sub (lv' := [(0, vr a0), (1, vi a1), (2, vi 0)]) [1, 2, 0] rfl ?_
    refine r_loop2 (fun (e16 : Unit ⊕ Int32 ⊕ Unit) => match e16 with | .inl _ => 37 | .inr (.inl _) => 54 | .inr (.inr _) => 69) (fun (e16 : Unit ⊕ Int32 ⊕ Unit) => match e16 with | .inl e16 => [] | .inr (.inl e16) => [(2, vi e16)] | .inr (.inr e16) => []) (fun (x4 : Int32) => [(0, vr a0), (1, vi a1), (2, vi x4)]) (fun e16 s => ?_) (fun K5 hb6 he7 x4 s => ?_) 0 _
    · rcases e16 with e16 | e16 | e16
      · show Rr _ _ 37 [] [] _ _ _ _
        refine r_p (pc' := 38) (p_iconst (n := -1) (v := -1) (by decide +kernel) rfl) ?_
        exact r_iret rfl rfl _ rfl rfl (by decide +kernel)
      · show Rr _ _ 54 [(2, vi e16)] [] _ _ _ _
        refine r_p (pc' := 55) (p_iload_n 0 (k := 2) (by decide +kernel) rfl) ?_
        refine r_p (pc' := 56) (p_iconst (n := 1) (v := 1) (by decide +kernel) rfl) ?_
        refine r_p (pc' := 57) (p_iadd (by decide +kernel)) ?_
        exact r_iret rfl rfl _ rfl rfl (by decide +kernel)
      · show Rr _ _ 69 [] [] _ _ _ _
        refine r_p (pc' := 70) (p_iconst (n := -1) (v := -1) (by decide +kernel) rfl) ?_
        exact r_iret rfl rfl _ rfl rfl (by decide +kernel)
    · unfold mX12_readAll_L28
      refine r_p (pc' := 29) (p_aload_n 0 (k := 0) (by decide +kernel) rfl) ?_
      refine r_p (pc' := 30) (p_iload_n 1 (k := 1) (by decide +kernel) rfl) ?_
      refine r_p (pc' := 31) (p_iload_n 2 (k := 2) (by decide +kernel) rfl) ?_
      refine r_callVI mvX12_257 (ctX12_readLine a0 a1 x4) (rcX12_readLine a0 a1 x4) ⟨_, _, rfl⟩ (as := [vi a1, vi x4]) (st := []) rfl rfl (by decide +kernel) rfl (Nat.le_of_ble_eq_true rfl) (Nat.le_of_ble_eq_true rfl) fun v8 s => ?_
      refine r_ifne (off := 5) (tgt := 39) (by decide +kernel) (by decide) (fun h9 => ?_) (fun h9 => ?_)
      · refine r_sub (lv' := []) [] rfl ?_
        exact he7 ((.inl ())) _
      · refine r_p (pc' := 40) (p_aload_n 0 (k := 0) (by decide +kernel) rfl) ?_
        refine r_callVU mvX12_99 (ctX12_blanks a0) (rcX12_blanks a0) ⟨_, _, rfl⟩ (as := []) (st := []) rfl rfl (by decide +kernel) rfl (Nat.le_of_ble_eq_true rfl) (Nat.le_of_ble_eq_true rfl) fun s => ?_
        refine r_p (pc' := 44) (p_aload_n 0 (k := 0) (by decide +kernel) rfl) ?_
        refine r_gI flX12_86_11 (by decide +kernel) fun v10 => ?_
        refine r_p (pc' := 48) (p_aload_n 0 (k := 0) (by decide +kernel) rfl) ?_
        refine r_gI flX12_89_11 (by decide +kernel) fun v11 => ?_
        refine r_icmpne (off := 7) (tgt := 58) (by decide +kernel) (by decide) (fun h12 => ?_) (fun h12 => ?_)
        · refine r_sub (lv' := [(2, vi x4)]) [2] rfl ?_
          exact he7 ((.inr (.inl x4))) _
        · refine r_p (pc' := 59) (p_aload_n 0 (k := 0) (by decide +kernel) rfl) ?_
          refine r_p (pc' := 61) (p_bipush (n := 59) (v := 59) (by decide +kernel) (by decide +kernel)) ?_
          refine r_p (pc' := 63) (p_bipush (n := 59) (v := 59) (by decide +kernel) (by decide +kernel)) ?_
          refine r_callVI mvX12_92 (ctX12_isAt a0 59 59) (rcX12_isAt a0 59 59) ⟨_, _, rfl⟩ (as := [vi 59, vi 59]) (st := []) rfl rfl (by decide +kernel) rfl (Nat.le_of_ble_eq_true rfl) (Nat.le_of_ble_eq_true rfl) fun v13 s => ?_
          refine r_ifne (off := 5) (tgt := 71) (by decide +kernel) (by decide) (fun h14 => ?_) (fun h14 => ?_)
          · refine r_sub (lv' := []) [] rfl ?_
            exact he7 ((.inr (.inr ()))) _
          · refine r_p (pc' := 72) (p_aload_n 0 (k := 0) (by decide +kernel) rfl) ?_
            refine r_p (pc' := 73) (p_dup rfl (by decide +kernel)) ?_
            refine r_gI flX12_86_11 (by decide +kernel) fun v15 => ?_
            refine r_p (pc' := 77) (p_iconst (n := 1) (v := 1) (by decide +kernel) rfl) ?_
            refine r_p (pc' := 78) (p_iadd (by decide +kernel)) ?_
            refine r_pI fpX12_86_11 (fun h => by cases h) (by decide +kernel) fun s => ?_
            refine r_p (pc' := 84) (p_iinc 2 (i := 2) (n := 1) (x := x4) (v := x4 + 1) (lv' := [(2, vi (x4 + 1)), (0, vr a0), (1, vi a1)]) (by decide +kernel) rfl rfl (Nat.le_of_ble_eq_true rfl) rfl) ?_
            refine r_p (pc' := 28) (p_goto (off := -56) (tgt := 28) (by decide +kernel) (by decide)) ?_
            refine r_sub (lv' := [(0, vr a0), (1, vi a1), (2, vi (x4 + 1))]) [1, 2, 0] rfl ?_
            exact hb6 (x4 + 1) _
def aX12_shop : StA := (RX12, cX12_shop, 3, some .int, yX12_shop, 43, [])
theorem flX12_20_11 : FL RX12 20 11 3 := ⟨_, TX12, 27, "ToolCourtModel", rfl, by decide, Or.inl (tblG_of 1668 (by decide +kernel) (by decide +kernel)), Or.inl rfl⟩
theorem mvX12_261 : MV RX12 261 aX12_readAll 1 := ⟨tblG_of 1775 (by decide +kernel) (by decide +kernel), tblG_of 1777 (by decide +kernel) (by decide +kernel), tblG_of 51 (by decide +kernel) (by decide +kernel), tblG_of 157 (by decide +kernel) (by decide +kernel), tblG_of 1778 (by decide +kernel) (by decide +kernel), rfl, ⟨by decide, by decide⟩, by decide +kernel, by decide⟩
noncomputable def mX12_shop_L2 (a0 : Nat) (x1 : Int32) : MM ((Int32) ⊕ (Unit)) :=
  if 1920 ≤ x1 then (
    mret (.inr ())
  ) else (
    mbnd (gR 11 3 a0) fun (v6 : Nat) =>
    mbnd (gR 11 1 a0) fun (v7 : Nat) =>
    mbnd (ldI 0 v7 x1) fun (v8 : Int32) =>
    mbnd (stI 0 v6 x1 v8) fun _ =>
    mret (.inl (x1 + 1))
  )
noncomputable def mX12_shop_L92 (a0 : Nat) (x34 : Int32) : MM ((Int32) ⊕ (Unit)) :=
  if 1920 ≤ x34 then (
    mret (.inr ())
  ) else (
    mbnd (gR 11 1 a0) fun (v39 : Nat) =>
    mbnd (gR 11 3 a0) fun (v40 : Nat) =>
    mbnd (ldI 0 v40 x34) fun (v41 : Int32) =>
    mbnd (stI 0 v39 x34 v41) fun _ =>
    mret (.inl (x34 + 1))
  )
noncomputable def mX12_shop_L92b (a0 : Nat) (x43 : Int32) : MM ((Int32) ⊕ (Unit)) :=
  if 1920 ≤ x43 then (
    mret (.inr ())
  ) else (
    mbnd (gR 11 1 a0) fun (v48 : Nat) =>
    mbnd (gR 11 3 a0) fun (v49 : Nat) =>
    mbnd (ldI 0 v49 x43) fun (v50 : Int32) =>
    mbnd (stI 0 v48 x43 v50) fun _ =>
    mret (.inl (x43 + 1))
  )
noncomputable def mX12_shop (a0 : Nat) : MM Int32 := onC 11 a0 (
  mbnd (loopM (mX12_shop_L2 a0) 0) fun (e9 : Unit) =>
  mbnd (mX12_readAll a0 1) fun (v10 : Int32) =>
  mbnd (α := Int32) (
    if 0 ≤ v10 then (
      mret (-1)
    ) else (
      mbnd (gI 11 12 a0) fun (v15 : Int32) =>
      mret v15
    )
  ) fun (x12 : Int32) =>
  mbnd (pI 11 14 a0 x12) fun _ =>
  mbnd (α := Int32) (
    if 0 ≤ v10 then (
      mret 0
    ) else (
      mret 1
    )
  ) fun (x17 : Int32) =>
  mbnd (mX12_throwsIf a0 x17 1) fun (v20 : Int32) =>
  if v20 = 0 then (
    mbnd (gR 11 1 a0) fun (v22 : Nat) =>
    mbnd (ldI 0 v22 3) fun (v23 : Int32) =>
    mbnd (α := Int32) (
      if v23 = 12 then (
        mret 1
      ) else (
        mret 0
      )
    ) fun (x25 : Int32) =>
    mbnd (mX12_throwsIf a0 x25 2) fun (v28 : Int32) =>
    if v28 = 0 then (
      mbnd (gR 11 1 a0) fun (v30 : Nat) =>
      mbnd (ldI 0 v30 3) fun (v31 : Int32) =>
      mbnd (stI 0 v30 3 (v31 + 1)) fun _ =>
      mbnd (pI 11 7 a0 0) fun _ =>
      mbnd (gR 11 1 a0) fun (v32 : Nat) =>
      mbnd (ldI 0 v32 3) fun (v33 : Int32) =>
      mret v33
    ) else (
      mbnd (loopM (mX12_shop_L92 a0) 0) fun (e42 : Unit) =>
      mret 0
    )
  ) else (
    mbnd (loopM (mX12_shop_L92b a0) 0) fun (e51 : Unit) =>
    mret 0
  )
  )
theorem rcX12_shop (a0 : Nat) : Rcv 11 a0 (mX12_shop a0) := fun s r h => ⟨(onC_some h).1, (onC_some h).2.1⟩
set_option maxHeartbeats 4000000 in
set_option maxRecDepth 100000 in
theorem ctX12_shop (a0 : Nat) : Ct aX12_shop [vr a0] (mX12_shop a0) rI := by
  unfold mX12_shop
  refine ct_onC (ct_intro (by decide +kernel) rfl (Nat.le_of_ble_eq_true rfl) fun Y s => ?_)
  refine r_sub (lv' := [(0, vr a0)]) [0] rfl ?_
  refine r_p (pc' := 1) (p_iconst (n := 0) (v := 0) (by decide +kernel) rfl) ?_
  refine r_p (pc' := 2) (p_istore_n (k := 1) (lv' := [(1, vi 0), (0, vr a0)]) (by decide +kernel) (Nat.le_of_ble_eq_true rfl) rfl) ?_
  refine r_sub (lv' := [(0, vr a0), (1, vi 0)]) [1, 0] rfl ?_
  refine r_loop2 (fun _ => 27) (fun (e9 : Unit) => [(0, vr a0)]) (fun (x1 : Int32) => [(0, vr a0), (1, vi x1)]) (fun e9 s => ?_) (fun K2 hb3 he4 x1 s => ?_) 0 _
  · refine r_p (pc' := 28) (p_aload_n 0 (k := 0) (by decide +kernel) rfl) ?_
    refine r_p (pc' := 29) (p_iconst (n := 1) (v := 1) (by decide +kernel) rfl) ?_
    refine r_callVI mvX12_261 (ctX12_readAll a0 1) (rcX12_readAll a0 1) ⟨_, _, rfl⟩ (as := [vi 1]) (st := []) rfl rfl (by decide +kernel) rfl (Nat.le_of_ble_eq_true rfl) (Nat.le_of_ble_eq_true rfl) fun v10 s => ?_
    refine r_p (pc' := 33) (p_istore_n (k := 1) (lv' := [(1, vi v10), (0, vr a0)]) (by decide +kernel) (Nat.le_of_ble_eq_true rfl) rfl) ?_
    refine r_p (pc' := 34) (p_aload_n 1 (k := 0) (by decide +kernel) rfl) ?_
    refine r_p (pc' := 35) (p_iload_n 0 (k := 1) (by decide +kernel) rfl) ?_
    refine r_join 46 (fun (x12 : Int32) => [(0, vr a0), (1, vi v10)]) (fun (x12 : Int32) => [vi x12, vr a0]) (fun x12 s => ?_) (fun K13 hj14 => ?_)
    · refine r_pI fpX12_33_11 (fun h => by cases h) (by decide +kernel) fun s => ?_
      refine r_p (pc' := 50) (p_aload_n 0 (k := 0) (by decide +kernel) rfl) ?_
      refine r_p (pc' := 51) (p_iload_n 1 (k := 1) (by decide +kernel) rfl) ?_
      refine r_join 59 (fun (x17 : Int32) => [(0, vr a0)]) (fun (x17 : Int32) => [vi x17, vr a0]) (fun x17 s => ?_) (fun K18 hj19 => ?_)
      · refine r_p (pc' := 60) (p_iconst (n := 1) (v := 1) (by decide +kernel) rfl) ?_
        refine r_callVI mvX12_265 (ctX12_throwsIf a0 x17 1) (rcX12_throwsIf a0 x17 1) ⟨_, _, rfl⟩ (as := [vi x17, vi 1]) (st := []) rfl rfl (by decide +kernel) rfl (Nat.le_of_ble_eq_true rfl) (Nat.le_of_ble_eq_true rfl) fun v20 s => ?_
        refine r_ifne (off := 27) (tgt := 90) (by decide +kernel) (by decide) (fun h21 => ?_) (fun h21 => ?_)
        · refine r_p (pc' := 67) (p_aload_n 0 (k := 0) (by decide +kernel) rfl) ?_
          refine r_p (pc' := 68) (p_aload_n 0 (k := 0) (by decide +kernel) rfl) ?_
          refine r_gR flX12_13_11 (by decide +kernel) fun v22 => ?_
          refine r_p (pc' := 72) (p_iconst (n := 3) (v := 3) (by decide +kernel) rfl) ?_
          refine r_ldI0 (by decide +kernel) fun v23 => ?_
          refine r_p (pc' := 75) (p_bipush (n := 12) (v := 12) (by decide +kernel) (by decide +kernel)) ?_
          refine r_join 83 (fun (x25 : Int32) => [(0, vr a0)]) (fun (x25 : Int32) => [vi x25, vr a0]) (fun x25 s => ?_) (fun K26 hj27 => ?_)
          · refine r_p (pc' := 84) (p_iconst (n := 2) (v := 2) (by decide +kernel) rfl) ?_
            refine r_callVI mvX12_265 (ctX12_throwsIf a0 x25 2) (rcX12_throwsIf a0 x25 2) ⟨_, _, rfl⟩ (as := [vi x25, vi 2]) (st := []) rfl rfl (by decide +kernel) rfl (Nat.le_of_ble_eq_true rfl) (Nat.le_of_ble_eq_true rfl) fun v28 s => ?_
            refine r_ifeq (off := 32) (tgt := 119) (by decide +kernel) (by decide) (fun h29 => ?_) (fun h29 => ?_)
            · refine r_p (pc' := 120) (p_aload_n 0 (k := 0) (by decide +kernel) rfl) ?_
              refine r_gR flX12_13_11 (by decide +kernel) fun v30 => ?_
              refine r_p (pc' := 124) (p_iconst (n := 3) (v := 3) (by decide +kernel) rfl) ?_
              refine r_p (pc' := 125) (p_dup2 rfl rfl (by decide +kernel)) ?_
              refine r_ldI0 (by decide +kernel) fun v31 => ?_
              refine r_p (pc' := 127) (p_iconst (n := 1) (v := 1) (by decide +kernel) rfl) ?_
              refine r_p (pc' := 128) (p_iadd (by decide +kernel)) ?_
              refine r_stI0 (by decide +kernel) fun s => ?_
              refine r_p (pc' := 130) (p_aload_n 0 (k := 0) (by decide +kernel) rfl) ?_
              refine r_p (pc' := 131) (p_iconst (n := 0) (v := 0) (by decide +kernel) rfl) ?_
              refine r_pI fpX12_58_11 (fun h => by cases h) (by decide +kernel) fun s => ?_
              refine r_p (pc' := 135) (p_aload_n 0 (k := 0) (by decide +kernel) rfl) ?_
              refine r_gR flX12_13_11 (by decide +kernel) fun v32 => ?_
              refine r_p (pc' := 139) (p_iconst (n := 3) (v := 3) (by decide +kernel) rfl) ?_
              refine r_ldI0 (by decide +kernel) fun v33 => ?_
              exact r_iret rfl rfl _ rfl rfl (by decide +kernel)
            · refine r_p (pc' := 91) (p_iconst (n := 0) (v := 0) (by decide +kernel) rfl) ?_
              refine r_p (pc' := 92) (p_istore_n (k := 2) (lv' := [(2, vi 0), (0, vr a0)]) (by decide +kernel) (Nat.le_of_ble_eq_true rfl) rfl) ?_
              refine r_sub (lv' := [(0, vr a0), (2, vi 0)]) [1, 0] rfl ?_
              refine r_loop2 (fun _ => 117) (fun (e42 : Unit) => []) (fun (x34 : Int32) => [(0, vr a0), (2, vi x34)]) (fun e42 s => ?_) (fun K35 hb36 he37 x34 s => ?_) 0 _
              · refine r_p (pc' := 118) (p_iconst (n := 0) (v := 0) (by decide +kernel) rfl) ?_
                exact r_iret rfl rfl _ rfl rfl (by decide +kernel)
              · unfold mX12_shop_L92
                refine r_p (pc' := 93) (p_iload_n 1 (k := 2) (by decide +kernel) rfl) ?_
                refine r_p (pc' := 96) (p_sipush (n := 1920) (v := 1920) (by decide +kernel) (by decide +kernel)) ?_
                refine r_icmpge (off := 21) (tgt := 117) (by decide +kernel) (by decide) (fun h38 => ?_) (fun h38 => ?_)
                · refine r_sub (lv' := []) [] rfl ?_
                  exact he37 () _
                · refine r_p (pc' := 100) (p_aload_n 0 (k := 0) (by decide +kernel) rfl) ?_
                  refine r_gR flX12_13_11 (by decide +kernel) fun v39 => ?_
                  refine r_p (pc' := 104) (p_iload_n 1 (k := 2) (by decide +kernel) rfl) ?_
                  refine r_p (pc' := 105) (p_aload_n 0 (k := 0) (by decide +kernel) rfl) ?_
                  refine r_gR flX12_20_11 (by decide +kernel) fun v40 => ?_
                  refine r_p (pc' := 109) (p_iload_n 1 (k := 2) (by decide +kernel) rfl) ?_
                  refine r_ldI0 (by decide +kernel) fun v41 => ?_
                  refine r_stI0 (by decide +kernel) fun s => ?_
                  refine r_p (pc' := 114) (p_iinc 1 (i := 2) (n := 1) (x := x34) (v := x34 + 1) (lv' := [(2, vi (x34 + 1)), (0, vr a0)]) (by decide +kernel) rfl rfl (Nat.le_of_ble_eq_true rfl) rfl) ?_
                  refine r_p (pc' := 92) (p_goto (off := -22) (tgt := 92) (by decide +kernel) (by decide)) ?_
                  refine r_sub (lv' := [(0, vr a0), (2, vi (x34 + 1))]) [1, 0] rfl ?_
                  exact hb36 (x34 + 1) _
          · refine r_icmpne (off := 7) (tgt := 82) (by decide +kernel) (by decide) (fun h24 => ?_) (fun h24 => ?_)
            · refine r_p (pc' := 79) (p_iconst (n := 1) (v := 1) (by decide +kernel) rfl) ?_
              refine r_p (pc' := 83) (p_goto (off := 4) (tgt := 83) (by decide +kernel) (by decide)) ?_
              exact hj27 1 _
            · refine r_p (pc' := 83) (p_iconst (n := 0) (v := 0) (by decide +kernel) rfl) ?_
              exact hj27 0 _
        · refine r_p (pc' := 91) (p_iconst (n := 0) (v := 0) (by decide +kernel) rfl) ?_
          refine r_p (pc' := 92) (p_istore_n (k := 2) (lv' := [(2, vi 0), (0, vr a0)]) (by decide +kernel) (Nat.le_of_ble_eq_true rfl) rfl) ?_
          refine r_sub (lv' := [(0, vr a0), (2, vi 0)]) [1, 0] rfl ?_
          refine r_loop2 (fun _ => 117) (fun (e51 : Unit) => []) (fun (x43 : Int32) => [(0, vr a0), (2, vi x43)]) (fun e51 s => ?_) (fun K44 hb45 he46 x43 s => ?_) 0 _
          · refine r_p (pc' := 118) (p_iconst (n := 0) (v := 0) (by decide +kernel) rfl) ?_
            exact r_iret rfl rfl _ rfl rfl (by decide +kernel)
          · unfold mX12_shop_L92b
            refine r_p (pc' := 93) (p_iload_n 1 (k := 2) (by decide +kernel) rfl) ?_
            refine r_p (pc' := 96) (p_sipush (n := 1920) (v := 1920) (by decide +kernel) (by decide +kernel)) ?_
            refine r_icmpge (off := 21) (tgt := 117) (by decide +kernel) (by decide) (fun h47 => ?_) (fun h47 => ?_)
            · refine r_sub (lv' := []) [] rfl ?_
              exact he46 () _
            · refine r_p (pc' := 100) (p_aload_n 0 (k := 0) (by decide +kernel) rfl) ?_
              refine r_gR flX12_13_11 (by decide +kernel) fun v48 => ?_
              refine r_p (pc' := 104) (p_iload_n 1 (k := 2) (by decide +kernel) rfl) ?_
              refine r_p (pc' := 105) (p_aload_n 0 (k := 0) (by decide +kernel) rfl) ?_
              refine r_gR flX12_20_11 (by decide +kernel) fun v49 => ?_
              refine r_p (pc' := 109) (p_iload_n 1 (k := 2) (by decide +kernel) rfl) ?_
              refine r_ldI0 (by decide +kernel) fun v50 => ?_
              refine r_stI0 (by decide +kernel) fun s => ?_
              refine r_p (pc' := 114) (p_iinc 1 (i := 2) (n := 1) (x := x43) (v := x43 + 1) (lv' := [(2, vi (x43 + 1)), (0, vr a0)]) (by decide +kernel) rfl rfl (Nat.le_of_ble_eq_true rfl) rfl) ?_
              refine r_p (pc' := 92) (p_goto (off := -22) (tgt := 92) (by decide +kernel) (by decide)) ?_
              refine r_sub (lv' := [(0, vr a0), (2, vi (x43 + 1))]) [1, 0] rfl ?_
              exact hb45 (x43 + 1) _
      · refine r_ifge (off := 7) (tgt := 58) (by decide +kernel) (by decide) (fun h16 => ?_) (fun h16 => ?_)
        · refine r_p (pc' := 59) (p_iconst (n := 0) (v := 0) (by decide +kernel) rfl) ?_
          refine r_sub (lv' := [(0, vr a0)]) [0] rfl ?_
          exact hj19 0 _
        · refine r_p (pc' := 55) (p_iconst (n := 1) (v := 1) (by decide +kernel) rfl) ?_
          refine r_p (pc' := 59) (p_goto (off := 4) (tgt := 59) (by decide +kernel) (by decide)) ?_
          refine r_sub (lv' := [(0, vr a0)]) [0] rfl ?_
          exact hj19 1 _
    · refine r_ifge (off := 10) (tgt := 45) (by decide +kernel) (by decide) (fun h11 => ?_) (fun h11 => ?_)
      · refine r_p (pc' := 46) (p_iconst (n := -1) (v := -1) (by decide +kernel) rfl) ?_
        refine r_sub (lv' := [(0, vr a0), (1, vi v10)]) [1, 0] rfl ?_
        exact hj14 (-1) _
      · refine r_p (pc' := 39) (p_aload_n 1 (k := 0) (by decide +kernel) rfl) ?_
        refine r_gI flX12_96_11 (by decide +kernel) fun v15 => ?_
        refine r_p (pc' := 46) (p_goto (off := 4) (tgt := 46) (by decide +kernel) (by decide)) ?_
        refine r_sub (lv' := [(0, vr a0), (1, vi v10)]) [1, 0] rfl ?_
        exact hj14 v15 _
  · unfold mX12_shop_L2
    refine r_p (pc' := 3) (p_iload_n 1 (k := 1) (by decide +kernel) rfl) ?_
    refine r_p (pc' := 6) (p_sipush (n := 1920) (v := 1920) (by decide +kernel) (by decide +kernel)) ?_
    refine r_icmpge (off := 21) (tgt := 27) (by decide +kernel) (by decide) (fun h5 => ?_) (fun h5 => ?_)
    · refine r_sub (lv' := [(0, vr a0)]) [0] rfl ?_
      exact he4 () _
    · refine r_p (pc' := 10) (p_aload_n 0 (k := 0) (by decide +kernel) rfl) ?_
      refine r_gR flX12_20_11 (by decide +kernel) fun v6 => ?_
      refine r_p (pc' := 14) (p_iload_n 1 (k := 1) (by decide +kernel) rfl) ?_
      refine r_p (pc' := 15) (p_aload_n 0 (k := 0) (by decide +kernel) rfl) ?_
      refine r_gR flX12_13_11 (by decide +kernel) fun v7 => ?_
      refine r_p (pc' := 19) (p_iload_n 1 (k := 1) (by decide +kernel) rfl) ?_
      refine r_ldI0 (by decide +kernel) fun v8 => ?_
      refine r_stI0 (by decide +kernel) fun s => ?_
      refine r_p (pc' := 24) (p_iinc 1 (i := 1) (n := 1) (x := x1) (v := x1 + 1) (lv' := [(1, vi (x1 + 1)), (0, vr a0)]) (by decide +kernel) rfl rfl (Nat.le_of_ble_eq_true rfl) rfl) ?_
      refine r_p (pc' := 2) (p_goto (off := -22) (tgt := 2) (by decide +kernel) (by decide)) ?_
      refine r_sub (lv' := [(0, vr a0), (1, vi (x1 + 1))]) [1, 0] rfl ?_
      exact hb3 (x1 + 1) _
def aX12_law : StA := (RX12, cX12_law, 3, some .int, yX12_law, 43, [])
noncomputable def mX12_law_L52 (a0 : Nat) (x14 : Int32) : MM ((Int32) ⊕ (Unit)) :=
  if 849 ≤ x14 then (
    mret (.inr ())
  ) else (
    mbnd (gR 11 1 a0) fun (v19 : Nat) =>
    mbnd (gR 11 1 a0) fun (v20 : Nat) =>
    mbnd (ldI 0 v20 (1920 + x14)) fun (v21 : Int32) =>
    mbnd (stI 0 v19 (1071 + x14) v21) fun _ =>
    mret (.inl (x14 + 1))
  )
noncomputable def mX12_law (a0 : Nat) : MM Int32 := onC 11 a0 (
  mbnd (mX12_readAll a0 0) fun (v1 : Int32) =>
  mbnd (α := Int32) (
    if 0 ≤ v1 then (
      mret (-1)
    ) else (
      mbnd (gI 11 12 a0) fun (v6 : Int32) =>
      mret v6
    )
  ) fun (x3 : Int32) =>
  mbnd (pI 11 14 a0 x3) fun _ =>
  mbnd (α := Int32) (
    if 0 ≤ v1 then (
      mret 0
    ) else (
      mret 1
    )
  ) fun (x8 : Int32) =>
  mbnd (mX12_throwsIf a0 x8 1) fun (v11 : Int32) =>
  if v11 = 0 then (
    mbnd (gR 11 1 a0) fun (v13 : Nat) =>
    mbnd (stI 0 v13 1920 v1) fun _ =>
    mbnd (loopM (mX12_law_L52 a0) 0) fun (e22 : Unit) =>
    mbnd (gR 11 1 a0) fun (v23 : Nat) =>
    mbnd (stI 0 v23 4 1) fun _ =>
    mbnd (pI 11 7 a0 0) fun _ =>
    mret v1
  ) else (
    mret 0
  )
  )
theorem rcX12_law (a0 : Nat) : Rcv 11 a0 (mX12_law a0) := fun s r h => ⟨(onC_some h).1, (onC_some h).2.1⟩
set_option maxHeartbeats 4000000 in
set_option maxRecDepth 100000 in
theorem ctX12_law (a0 : Nat) : Ct aX12_law [vr a0] (mX12_law a0) rI := by
  unfold mX12_law
  refine ct_onC (ct_intro (by decide +kernel) rfl (Nat.le_of_ble_eq_true rfl) fun Y s => ?_)
  refine r_sub (lv' := [(0, vr a0)]) [0] rfl ?_
  refine r_p (pc' := 1) (p_aload_n 0 (k := 0) (by decide +kernel) rfl) ?_
  refine r_p (pc' := 2) (p_iconst (n := 0) (v := 0) (by decide +kernel) rfl) ?_
  refine r_callVI mvX12_261 (ctX12_readAll a0 0) (rcX12_readAll a0 0) ⟨_, _, rfl⟩ (as := [vi 0]) (st := []) rfl rfl (by decide +kernel) rfl (Nat.le_of_ble_eq_true rfl) (Nat.le_of_ble_eq_true rfl) fun v1 s => ?_
  refine r_p (pc' := 6) (p_istore_n (k := 1) (lv' := [(1, vi v1), (0, vr a0)]) (by decide +kernel) (Nat.le_of_ble_eq_true rfl) rfl) ?_
  refine r_p (pc' := 7) (p_aload_n 1 (k := 0) (by decide +kernel) rfl) ?_
  refine r_p (pc' := 8) (p_iload_n 0 (k := 1) (by decide +kernel) rfl) ?_
  refine r_join 19 (fun (x3 : Int32) => [(0, vr a0), (1, vi v1)]) (fun (x3 : Int32) => [vi x3, vr a0]) (fun x3 s => ?_) (fun K4 hj5 => ?_)
  · refine r_pI fpX12_33_11 (fun h => by cases h) (by decide +kernel) fun s => ?_
    refine r_p (pc' := 23) (p_aload_n 0 (k := 0) (by decide +kernel) rfl) ?_
    refine r_p (pc' := 24) (p_iload_n 1 (k := 1) (by decide +kernel) rfl) ?_
    refine r_join 32 (fun (x8 : Int32) => [(0, vr a0), (1, vi v1)]) (fun (x8 : Int32) => [vi x8, vr a0]) (fun x8 s => ?_) (fun K9 hj10 => ?_)
    · refine r_p (pc' := 33) (p_iconst (n := 1) (v := 1) (by decide +kernel) rfl) ?_
      refine r_callVI mvX12_265 (ctX12_throwsIf a0 x8 1) (rcX12_throwsIf a0 x8 1) ⟨_, _, rfl⟩ (as := [vi x8, vi 1]) (st := []) rfl rfl (by decide +kernel) rfl (Nat.le_of_ble_eq_true rfl) (Nat.le_of_ble_eq_true rfl) fun v11 s => ?_
      refine r_ifeq (off := 5) (tgt := 41) (by decide +kernel) (by decide) (fun h12 => ?_) (fun h12 => ?_)
      · refine r_p (pc' := 42) (p_aload_n 0 (k := 0) (by decide +kernel) rfl) ?_
        refine r_gR flX12_13_11 (by decide +kernel) fun v13 => ?_
        refine r_p (pc' := 48) (p_sipush (n := 1920) (v := 1920) (by decide +kernel) (by decide +kernel)) ?_
        refine r_p (pc' := 49) (p_iload_n 1 (k := 1) (by decide +kernel) rfl) ?_
        refine r_stI0 (by decide +kernel) fun s => ?_
        refine r_p (pc' := 51) (p_iconst (n := 0) (v := 0) (by decide +kernel) rfl) ?_
        refine r_p (pc' := 52) (p_istore_n (k := 2) (lv' := [(2, vi 0), (0, vr a0), (1, vi v1)]) (by decide +kernel) (Nat.le_of_ble_eq_true rfl) rfl) ?_
        refine r_sub (lv' := [(0, vr a0), (1, vi v1), (2, vi 0)]) [1, 2, 0] rfl ?_
        refine r_loop2 (fun _ => 85) (fun (e22 : Unit) => [(0, vr a0), (1, vi v1)]) (fun (x14 : Int32) => [(0, vr a0), (1, vi v1), (2, vi x14)]) (fun e22 s => ?_) (fun K15 hb16 he17 x14 s => ?_) 0 _
        · refine r_p (pc' := 86) (p_aload_n 0 (k := 0) (by decide +kernel) rfl) ?_
          refine r_gR flX12_13_11 (by decide +kernel) fun v23 => ?_
          refine r_p (pc' := 90) (p_iconst (n := 4) (v := 4) (by decide +kernel) rfl) ?_
          refine r_p (pc' := 91) (p_iconst (n := 1) (v := 1) (by decide +kernel) rfl) ?_
          refine r_stI0 (by decide +kernel) fun s => ?_
          refine r_p (pc' := 93) (p_aload_n 0 (k := 0) (by decide +kernel) rfl) ?_
          refine r_p (pc' := 94) (p_iconst (n := 0) (v := 0) (by decide +kernel) rfl) ?_
          refine r_pI fpX12_58_11 (fun h => by cases h) (by decide +kernel) fun s => ?_
          refine r_p (pc' := 98) (p_iload_n 1 (k := 1) (by decide +kernel) rfl) ?_
          exact r_iret rfl rfl _ rfl rfl (by decide +kernel)
        · unfold mX12_law_L52
          refine r_p (pc' := 53) (p_iload_n 2 (k := 2) (by decide +kernel) rfl) ?_
          refine r_p (pc' := 56) (p_sipush (n := 849) (v := 849) (by decide +kernel) (by decide +kernel)) ?_
          refine r_icmpge (off := 29) (tgt := 85) (by decide +kernel) (by decide) (fun h18 => ?_) (fun h18 => ?_)
          · refine r_sub (lv' := [(0, vr a0), (1, vi v1)]) [0, 1] rfl ?_
            exact he17 () _
          · refine r_p (pc' := 60) (p_aload_n 0 (k := 0) (by decide +kernel) rfl) ?_
            refine r_gR flX12_13_11 (by decide +kernel) fun v19 => ?_
            refine r_p (pc' := 66) (p_sipush (n := 1071) (v := 1071) (by decide +kernel) (by decide +kernel)) ?_
            refine r_p (pc' := 67) (p_iload_n 2 (k := 2) (by decide +kernel) rfl) ?_
            refine r_p (pc' := 68) (p_iadd (by decide +kernel)) ?_
            refine r_p (pc' := 69) (p_aload_n 0 (k := 0) (by decide +kernel) rfl) ?_
            refine r_gR flX12_13_11 (by decide +kernel) fun v20 => ?_
            refine r_p (pc' := 75) (p_sipush (n := 1920) (v := 1920) (by decide +kernel) (by decide +kernel)) ?_
            refine r_p (pc' := 76) (p_iload_n 2 (k := 2) (by decide +kernel) rfl) ?_
            refine r_p (pc' := 77) (p_iadd (by decide +kernel)) ?_
            refine r_ldI0 (by decide +kernel) fun v21 => ?_
            refine r_stI0 (by decide +kernel) fun s => ?_
            refine r_p (pc' := 82) (p_iinc 2 (i := 2) (n := 1) (x := x14) (v := x14 + 1) (lv' := [(2, vi (x14 + 1)), (0, vr a0), (1, vi v1)]) (by decide +kernel) rfl rfl (Nat.le_of_ble_eq_true rfl) rfl) ?_
            refine r_p (pc' := 52) (p_goto (off := -30) (tgt := 52) (by decide +kernel) (by decide)) ?_
            refine r_sub (lv' := [(0, vr a0), (1, vi v1), (2, vi (x14 + 1))]) [1, 2, 0] rfl ?_
            exact hb16 (x14 + 1) _
      · refine r_p (pc' := 40) (p_iconst (n := 0) (v := 0) (by decide +kernel) rfl) ?_
        exact r_iret rfl rfl _ rfl rfl (by decide +kernel)
    · refine r_ifge (off := 7) (tgt := 31) (by decide +kernel) (by decide) (fun h7 => ?_) (fun h7 => ?_)
      · refine r_p (pc' := 32) (p_iconst (n := 0) (v := 0) (by decide +kernel) rfl) ?_
        exact hj10 0 _
      · refine r_p (pc' := 28) (p_iconst (n := 1) (v := 1) (by decide +kernel) rfl) ?_
        refine r_p (pc' := 32) (p_goto (off := 4) (tgt := 32) (by decide +kernel) (by decide)) ?_
        exact hj10 1 _
  · refine r_ifge (off := 10) (tgt := 18) (by decide +kernel) (by decide) (fun h2 => ?_) (fun h2 => ?_)
    · refine r_p (pc' := 19) (p_iconst (n := -1) (v := -1) (by decide +kernel) rfl) ?_
      refine r_sub (lv' := [(0, vr a0), (1, vi v1)]) [1, 0] rfl ?_
      exact hj5 (-1) _
    · refine r_p (pc' := 12) (p_aload_n 1 (k := 0) (by decide +kernel) rfl) ?_
      refine r_gI flX12_96_11 (by decide +kernel) fun v6 => ?_
      refine r_p (pc' := 19) (p_goto (off := 4) (tgt := 19) (by decide +kernel) (by decide)) ?_
      refine r_sub (lv' := [(0, vr a0), (1, vi v1)]) [1, 0] rfl ?_
      exact hj5 v6 _
