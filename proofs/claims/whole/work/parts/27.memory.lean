/-! PRINTED BY wip/whole/gen.py -/
def aX6_init : StA := (RX6, cX6_init, 1, none, yX6_init, 8, [])
theorem fpX6_11_6 : FP RX6 11 6 0 (.array (.object "ToolCourt$Court")) true := ⟨_, TX6, 4, "ToolCourt$Memory", tyX6, rfl, by decide, Or.inl (tblG_of 276 (by decide +kernel) (by decide +kernel)), Or.inl rfl, tyX6_ok, nmX6, rfl, by decide, by decide +kernel⟩
noncomputable def mX6_init (a0 : Nat) : MM Unit := onC 6 a0 (
  mbnd (nwQ 3 10) fun (v1 : Nat) =>
  mbnd (pR 6 0 a0 v1) fun _ =>
  mret ()
  )
theorem rcX6_init (a0 : Nat) : Rcv 6 a0 (mX6_init a0) := fun s r h => ⟨(onC_some h).1, (onC_some h).2.1⟩
set_option maxHeartbeats 4000000 in
set_option maxRecDepth 100000 in
theorem ctX6_init (a0 : Nat) : Ct aX6_init [vr a0] (mX6_init a0) rU := by
  unfold mX6_init
  refine ct_onC (ct_intro (by decide +kernel) rfl (Nat.le_of_ble_eq_true rfl) fun Y s => ?_)
  refine r_sub (lv' := [(0, vr a0)]) [0] rfl ?_
  refine r_p (pc' := 1) (p_aload_n 0 (k := 0) (by decide +kernel) rfl) ?_
  refine r_p (pc' := 4) (p_obj (idx := 3) (tblG_of 273 (by decide +kernel) (by decide +kernel)) (Nat.le_of_ble_eq_true rfl) (Nat.le_of_ble_eq_true rfl) (by decide +kernel)) ?_
  refine r_p (pc' := 5) (p_aload_n 0 (k := 0) (by decide +kernel) rfl) ?_
  refine r_p (pc' := 7) (p_bipush (n := 10) (v := 10) (by decide +kernel) (by decide +kernel)) ?_
  refine r_nwQ (idx := 9) (tblG_of 274 (by decide +kernel) (by decide +kernel)) (by decide +kernel) fun v1 s => ?_
  refine r_pR fpX6_11_6 (fun _ => rfl) (Or.inr ⟨_, rfl⟩) (by decide +kernel) fun s => ?_
  exact r_vret (y9 := ()) rfl rfl rfl (by decide +kernel)
def aX6_forgetActs : StA := (RX6, cX6_forgetActs, 1, none, yX6_forgetActs, 8, [])
theorem fpX6_21_6 : FP RX6 21 6 2 .int false := ⟨_, TX6, 4, "ToolCourt$Memory", tyX6, rfl, by decide, Or.inl (tblG_of 278 (by decide +kernel) (by decide +kernel)), Or.inl rfl, tyX6_ok, nmX6, rfl, by decide, by decide +kernel⟩
noncomputable def mX6_forgetActs (a0 : Nat) : MM Unit := onC 6 a0 (
  mbnd (pI 6 2 a0 0) fun _ =>
  mret ()
  )
theorem rcX6_forgetActs (a0 : Nat) : Rcv 6 a0 (mX6_forgetActs a0) := fun s r h => ⟨(onC_some h).1, (onC_some h).2.1⟩
set_option maxHeartbeats 4000000 in
set_option maxRecDepth 100000 in
theorem ctX6_forgetActs (a0 : Nat) : Ct aX6_forgetActs [vr a0] (mX6_forgetActs a0) rU := by
  unfold mX6_forgetActs
  refine ct_onC (ct_intro (by decide +kernel) rfl (Nat.le_of_ble_eq_true rfl) fun Y s => ?_)
  refine r_sub (lv' := [(0, vr a0)]) [0] rfl ?_
  refine r_p (pc' := 1) (p_aload_n 0 (k := 0) (by decide +kernel) rfl) ?_
  refine r_p (pc' := 2) (p_iconst (n := 0) (v := 0) (by decide +kernel) rfl) ?_
  refine r_pI fpX6_21_6 (fun h => by cases h) (by decide +kernel) fun s => ?_
  exact r_vret (y9 := ()) rfl rfl rfl (by decide +kernel)
def aX6_copied : StA := (RX6, cX6_copied, 3, some (.object "ToolCourt$Court"), yX6_copied, 10, [])
theorem nwX6_9 : NW RX6 9 1 13 [.null, .null, .null, .null, .null, .null, .null, .int 0, .int 0, .int 0, .int 0, .int 0, .int 0] := ⟨_, TX1, tyX1, rfl, tyX1_ok, tblG_of 274 (by decide +kernel) (by decide +kernel), tblG_of 308 (by decide +kernel) (by decide +kernel), tblG_of 151 (by decide +kernel) (by decide +kernel), (fun j hj => by match j, hj with | 0, _ => rfl | 1, _ => rfl | 2, _ => rfl | 3, _ => rfl | 4, _ => rfl | 5, _ => rfl | 6, _ => rfl | 7, _ => rfl | 8, _ => rfl | 9, _ => rfl | 10, _ => rfl | 11, _ => rfl | 12, _ => rfl), rfl⟩
theorem flX6_39_1 : FL RX6 39 1 6 := ⟨_, TX1, 13, "ToolCourt$Court", rfl, by decide, Or.inr ⟨"ToolCourt", List.mem_of_getElem? (i := 363) (by decide +kernel)⟩, Or.inl rfl⟩
theorem miX6_43 : MI RX6 43 aX1_init 1 := ⟨tblG_of 769 (by decide +kernel) (by decide +kernel), tblG_of 310 (by decide +kernel) (by decide +kernel), tblG_of 151 (by decide +kernel) (by decide +kernel), tblG_of 311 (by decide +kernel) (by decide +kernel), rfl, ⟨by decide, by decide⟩, by decide +kernel, by decide, rfl, rfl⟩
theorem mvX6_28 : MV RX6 28 aX1_copyFrom 1 := ⟨tblG_of 748 (by decide +kernel) (by decide +kernel), tblG_of 749 (by decide +kernel) (by decide +kernel), tblG_of 750 (by decide +kernel) (by decide +kernel), tblG_of 151 (by decide +kernel) (by decide +kernel), tblG_of 751 (by decide +kernel) (by decide +kernel), rfl, ⟨by decide, by decide⟩, by decide +kernel, by decide⟩
noncomputable def mX6_copied (a0 : Nat) (a1 : Option Nat) : MM Nat :=
  mbnd (α := Nat) (
    match a1 with
    | none => (
      mbnd (nw 1 13 [.null, .null, .null, .null, .null, .null, .null, .int 0, .int 0, .int 0, .int 0, .int 0, .int 0]) fun (v6 : Nat) =>
      mbnd (gR 1 6 a0) fun (v7 : Nat) =>
      mbnd (nox (mX1_init v6 v7)) fun _ =>
      mret v6
    )
    | some v2 => (
      mret v2
    )
  ) fun (x3 : Nat) =>
  mbnd (mX1_copyFrom x3 a0) fun _ =>
  mret x3
set_option maxHeartbeats 4000000 in
set_option maxRecDepth 100000 in
theorem ctX6_copied (a0 : Nat) (a1 : Option Nat) : Ct aX6_copied [vr a0, vq a1] (mX6_copied a0 a1) rR := by
  unfold mX6_copied
  refine ct_intro (by decide +kernel) rfl (by cases a1 <;> exact Nat.le_of_ble_eq_true rfl) fun Y s => ?_
  refine r_sub (lv' := [(0, vr a0), (1, vq a1)]) [0, 1] rfl ?_
  refine r_p (pc' := 1) (p_qload_n 1 (k := 1) (by decide +kernel) rfl) ?_
  refine r_join 19 (fun (x3 : Nat) => [(0, vr a0)]) (fun (x3 : Nat) => [vr x3]) (fun x3 s => ?_) (fun K4 hj5 => ?_)
  · refine r_p (pc' := 20) (p_astore_n (k := 2) (lv' := [(2, vr x3), (0, vr a0)]) (by decide +kernel) (Nat.le_of_ble_eq_true rfl) rfl) ?_
    refine r_p (pc' := 21) (p_aload_n 0 (k := 2) (by decide +kernel) rfl) ?_
    refine r_p (pc' := 22) (p_aload_n 1 (k := 0) (by decide +kernel) rfl) ?_
    refine r_callVU mvX6_28 (ctX1_copyFrom x3 a0) (rcX1_copyFrom x3 a0) ⟨_, _, rfl⟩ (as := [vr a0]) (st := []) rfl rfl (by decide +kernel) rfl (Nat.le_of_ble_eq_true rfl) (Nat.le_of_ble_eq_true rfl) fun s => ?_
    refine r_p (pc' := 26) (p_aload_n 0 (k := 2) (by decide +kernel) rfl) ?_
    exact r_aret rfl rfl _ rfl (Or.inl ⟨_, rfl⟩) (by decide +kernel)
  · cases a1 with
    | none =>
      refine r_ifnonnull0 (off := 17) (tgt := 18) (by decide +kernel) (by decide) ?_
      refine r_nw nwX6_9 (by decide +kernel) fun v6 s => ?_
      refine r_p (pc' := 8) (p_dup rfl (by decide +kernel)) ?_
      refine r_p (pc' := 9) (p_aload_n 0 (k := 0) (by decide +kernel) rfl) ?_
      refine r_gR flX6_39_1 (by decide +kernel) fun v7 => ?_
      refine r_callIU miX6_43 (ctX1_init v6 v7) (as := [vr v7]) (st := [vr v6]) rfl rfl (by decide +kernel) rfl (Nat.le_of_ble_eq_true rfl) (Nat.le_of_ble_eq_true rfl) fun s => ?_
      refine r_p (pc' := 19) (p_goto (off := 4) (tgt := 19) (by decide +kernel) (by decide)) ?_
      refine r_sub (lv' := [(0, vr a0)]) [0] rfl ?_
      exact hj5 v6 _
    | some v2 =>
      refine r_ifnonnull1 (off := 17) (tgt := 18) (by decide +kernel) (by decide) ?_
      refine r_p (pc' := 19) (p_aload_n 1 (k := 1) (by decide +kernel) rfl) ?_
      refine r_sub (lv' := [(0, vr a0)]) [0] rfl ?_
      exact hj5 v2 _
def aX6_keepAct : StA := (RX6, cX6_keepAct, 3, none, yX6_keepAct, 11, [])
theorem flX6_17_6 : FL RX6 17 6 1 := ⟨_, TX6, 4, "ToolCourt$Memory", rfl, by decide, Or.inl (tblG_of 277 (by decide +kernel) (by decide +kernel)), Or.inl rfl⟩
theorem flX6_21_6 : FL RX6 21 6 2 := ⟨_, TX6, 4, "ToolCourt$Memory", rfl, by decide, Or.inl (tblG_of 278 (by decide +kernel) (by decide +kernel)), Or.inl rfl⟩
theorem fpX6_17_6 : FP RX6 17 6 1 .int false := ⟨_, TX6, 4, "ToolCourt$Memory", tyX6, rfl, by decide, Or.inl (tblG_of 277 (by decide +kernel) (by decide +kernel)), Or.inl rfl, tyX6_ok, nmX6, rfl, by decide, by decide +kernel⟩
theorem flX6_11_6 : FL RX6 11 6 0 := ⟨_, TX6, 4, "ToolCourt$Memory", rfl, by decide, Or.inl (tblG_of 276 (by decide +kernel) (by decide +kernel)), Or.inl rfl⟩
theorem msX6_24 : MS RX6 24 aX6_copied 2 := ⟨tblG_of 766 (by decide +kernel) (by decide +kernel), tblG_of 767 (by decide +kernel) (by decide +kernel), tblG_of 149 (by decide +kernel) (by decide +kernel), tblG_of 768 (by decide +kernel) (by decide +kernel), rfl, ⟨by decide, by decide⟩, by decide +kernel, by decide⟩
noncomputable def mX6_keepAct (a0 : Nat) (a1 : Nat) : MM Unit := onC 6 a0 (
  mbnd (gI 6 1 a0) fun (v1 : Int32) =>
  mbnd (gI 6 2 a0) fun (v2 : Int32) =>
  mbnd (mret ((v1 + v2) - (v1 + v2) / 10 * 10)) fun (v3 : Int32) =>
  mbnd (gI 6 2 a0) fun (v4 : Int32) =>
  mbnd (α := Unit) (
    if v4 = 10 then (
      mbnd (gI 6 1 a0) fun (v9 : Int32) =>
      mbnd (pI 6 1 a0 ((v9 + 1) - (v9 + 1) / 10 * 10)) fun _ =>
      mret ()
    ) else (
      mbnd (gI 6 2 a0) fun (v10 : Int32) =>
      mbnd (pI 6 2 a0 (v10 + 1)) fun _ =>
      mret ()
    )
  ) fun (x6 : Unit) =>
  if v3 < 0 then (
    mret ()
  ) else (
    mbnd (gR 6 0 a0) fun (v12 : Nat) =>
    mbnd (lenQ 3 v12) fun (v13 : Int32) =>
    if v13 ≤ v3 then (
      mret ()
    ) else (
      mbnd (gR 6 0 a0) fun (v15 : Nat) =>
      mbnd (gR 6 0 a0) fun (v16 : Nat) =>
      mbnd (ldQ 3 v16 v3) fun (v17 : Option Nat) =>
      mbnd (mX6_copied a1 v17) fun (v18 : Nat) =>
      mbnd (onC 1 v18 (stQ 3 v15 v3 v18)) fun _ =>
      mret ()
    )
  )
  )
theorem rcX6_keepAct (a0 : Nat) (a1 : Nat) : Rcv 6 a0 (mX6_keepAct a0 a1) := fun s r h => ⟨(onC_some h).1, (onC_some h).2.1⟩
set_option maxHeartbeats 4000000 in
set_option maxRecDepth 100000 in
theorem ctX6_keepAct (a0 : Nat) (a1 : Nat) : Ct aX6_keepAct [vr a0, vr a1] (mX6_keepAct a0 a1) rU := by
  unfold mX6_keepAct
  refine ct_onC (ct_intro (by decide +kernel) rfl (Nat.le_of_ble_eq_true rfl) fun Y s => ?_)
  refine r_sub (lv' := [(0, vr a0), (1, vr a1)]) [0, 1] rfl ?_
  refine r_p (pc' := 1) (p_aload_n 0 (k := 0) (by decide +kernel) rfl) ?_
  refine r_gI flX6_17_6 (by decide +kernel) fun v1 => ?_
  refine r_p (pc' := 5) (p_aload_n 0 (k := 0) (by decide +kernel) rfl) ?_
  refine r_gI flX6_21_6 (by decide +kernel) fun v2 => ?_
  refine r_p (pc' := 9) (p_iadd (by decide +kernel)) ?_
  refine r_p (pc' := 11) (p_bipush (n := 10) (v := 10) (by decide +kernel) (by decide +kernel)) ?_
  refine r_p (pc' := 12) (p_irem (by decide +kernel) (by decide)) ?_
  refine r_letI fun v3 => ?_
  refine r_p (pc' := 13) (p_istore_n (k := 2) (lv' := [(2, vi v3), (0, vr a0), (1, vr a1)]) (by decide +kernel) (Nat.le_of_ble_eq_true rfl) rfl) ?_
  refine r_p (pc' := 14) (p_aload_n 1 (k := 0) (by decide +kernel) rfl) ?_
  refine r_gI flX6_21_6 (by decide +kernel) fun v4 => ?_
  refine r_p (pc' := 19) (p_bipush (n := 10) (v := 10) (by decide +kernel) (by decide +kernel)) ?_
  refine r_join 48 (fun (x6 : Unit) => [(0, vr a0), (1, vr a1), (2, vi v3)]) (fun (x6 : Unit) => []) (fun x6 s => ?_) (fun K7 hj8 => ?_)
  · refine r_p (pc' := 49) (p_iload_n 2 (k := 2) (by decide +kernel) rfl) ?_
    refine r_iflt (off := 28) (tgt := 77) (by decide +kernel) (by decide) (fun h11 => ?_) (fun h11 => ?_)
    · exact r_vret (y9 := ()) rfl rfl rfl (by decide +kernel)
    · refine r_p (pc' := 53) (p_iload_n 2 (k := 2) (by decide +kernel) rfl) ?_
      refine r_p (pc' := 54) (p_aload_n 0 (k := 0) (by decide +kernel) rfl) ?_
      refine r_gR flX6_11_6 (by decide +kernel) fun v12 => ?_
      refine r_lenQ (by decide) (by decide +kernel) fun v13 => ?_
      refine r_icmpge (off := 19) (tgt := 77) (by decide +kernel) (by decide) (fun h14 => ?_) (fun h14 => ?_)
      · exact r_vret (y9 := ()) rfl rfl rfl (by decide +kernel)
      · refine r_p (pc' := 62) (p_aload_n 0 (k := 0) (by decide +kernel) rfl) ?_
        refine r_gR flX6_11_6 (by decide +kernel) fun v15 => ?_
        refine r_p (pc' := 66) (p_iload_n 2 (k := 2) (by decide +kernel) rfl) ?_
        refine r_p (pc' := 67) (p_aload_n 1 (k := 1) (by decide +kernel) rfl) ?_
        refine r_p (pc' := 68) (p_aload_n 0 (k := 0) (by decide +kernel) rfl) ?_
        refine r_gR flX6_11_6 (by decide +kernel) fun v16 => ?_
        refine r_p (pc' := 72) (p_iload_n 2 (k := 2) (by decide +kernel) rfl) ?_
        refine r_ldQ (by decide) (by decide +kernel) fun v17 => ?_
        refine r_callSR msX6_24 (ctX6_copied a1 v17) (as := [vr a1, vq v17]) (st := [vi v3, vr v15]) rfl rfl (by decide +kernel) rfl (Nat.le_of_ble_eq_true rfl) (Nat.le_of_ble_eq_true rfl) fun v18 s => ?_
        refine r_stC (by decide +kernel) fun s => ?_
        exact r_vret (y9 := ()) rfl rfl rfl (by decide +kernel)
  · refine r_icmpne (off := 19) (tgt := 38) (by decide +kernel) (by decide) (fun h5 => ?_) (fun h5 => ?_)
    · refine r_p (pc' := 23) (p_aload_n 1 (k := 0) (by decide +kernel) rfl) ?_
      refine r_p (pc' := 24) (p_aload_n 1 (k := 0) (by decide +kernel) rfl) ?_
      refine r_gI flX6_17_6 (by decide +kernel) fun v9 => ?_
      refine r_p (pc' := 28) (p_iconst (n := 1) (v := 1) (by decide +kernel) rfl) ?_
      refine r_p (pc' := 29) (p_iadd (by decide +kernel)) ?_
      refine r_p (pc' := 31) (p_bipush (n := 10) (v := 10) (by decide +kernel) (by decide +kernel)) ?_
      refine r_p (pc' := 32) (p_irem (by decide +kernel) (by decide)) ?_
      refine r_pI fpX6_17_6 (fun h => by cases h) (by decide +kernel) fun s => ?_
      refine r_p (pc' := 48) (p_goto (off := 13) (tgt := 48) (by decide +kernel) (by decide)) ?_
      refine r_sub (lv' := [(0, vr a0), (1, vr a1), (2, vi v3)]) [1, 2, 0] rfl ?_
      exact hj8 () _
    · refine r_p (pc' := 39) (p_aload_n 1 (k := 0) (by decide +kernel) rfl) ?_
      refine r_p (pc' := 40) (p_dup rfl (by decide +kernel)) ?_
      refine r_gI flX6_21_6 (by decide +kernel) fun v10 => ?_
      refine r_p (pc' := 44) (p_iconst (n := 1) (v := 1) (by decide +kernel) rfl) ?_
      refine r_p (pc' := 45) (p_iadd (by decide +kernel)) ?_
      refine r_pI fpX6_21_6 (fun h => by cases h) (by decide +kernel) fun s => ?_
      refine r_sub (lv' := [(0, vr a0), (1, vr a1), (2, vi v3)]) [1, 2, 0] rfl ?_
      exact hj8 () _
def aX6_takeBackAct : StA := (RX6, cX6_takeBackAct, 3, some .boolean, yX6_takeBackAct, 10, [])
noncomputable def mX6_takeBackAct (a0 : Nat) (a1 : Nat) : MM Int32 := onC 6 a0 (
  mbnd (gI 6 2 a0) fun (v1 : Int32) =>
  if 0 < v1 then (
    mbnd (gI 6 2 a0) fun (v3 : Int32) =>
    mbnd (pI 6 2 a0 (v3 - 1)) fun _ =>
    mbnd (gI 6 1 a0) fun (v4 : Int32) =>
    mbnd (gI 6 2 a0) fun (v5 : Int32) =>
    mbnd (mret ((v4 + v5) - (v4 + v5) / 10 * 10)) fun (v6 : Int32) =>
    if v6 < 0 then (
      mret 1
    ) else (
      mbnd (gR 6 0 a0) fun (v8 : Nat) =>
      mbnd (lenQ 3 v8) fun (v9 : Int32) =>
      if v9 ≤ v6 then (
        mret 1
      ) else (
        mbnd (gR 6 0 a0) fun (v11 : Nat) =>
        mbnd (ldQ 3 v11 v6) fun (v12 : Option Nat) =>
        match v12 with
        | none => (
          mret 1
        )
        | some v14 => (
          mbnd (gR 6 0 a0) fun (v15 : Nat) =>
          mbnd (ldQ 3 v15 v6) fun (v16 : Option Nat) =>
          mbnd (unq v16) fun (v17 : Nat) =>
          mbnd (mX1_copyFrom a1 v17) fun _ =>
          mret 1
        )
      )
    )
  ) else (
    mret 0
  )
  )
theorem rcX6_takeBackAct (a0 : Nat) (a1 : Nat) : Rcv 6 a0 (mX6_takeBackAct a0 a1) := fun s r h => ⟨(onC_some h).1, (onC_some h).2.1⟩
set_option maxHeartbeats 4000000 in
set_option maxRecDepth 100000 in
theorem ctX6_takeBackAct (a0 : Nat) (a1 : Nat) : Ct aX6_takeBackAct [vr a0, vr a1] (mX6_takeBackAct a0 a1) rI := by
  unfold mX6_takeBackAct
  refine ct_onC (ct_intro (by decide +kernel) rfl (Nat.le_of_ble_eq_true rfl) fun Y s => ?_)
  refine r_sub (lv' := [(0, vr a0), (1, vr a1)]) [0, 1] rfl ?_
  refine r_p (pc' := 1) (p_aload_n 0 (k := 0) (by decide +kernel) rfl) ?_
  refine r_gI flX6_21_6 (by decide +kernel) fun v1 => ?_
  refine r_ifgt (off := 5) (tgt := 9) (by decide +kernel) (by decide) (fun h2 => ?_) (fun h2 => ?_)
  · refine r_p (pc' := 10) (p_aload_n 0 (k := 0) (by decide +kernel) rfl) ?_
    refine r_p (pc' := 11) (p_dup rfl (by decide +kernel)) ?_
    refine r_gI flX6_21_6 (by decide +kernel) fun v3 => ?_
    refine r_p (pc' := 15) (p_iconst (n := 1) (v := 1) (by decide +kernel) rfl) ?_
    refine r_p (pc' := 16) (p_isub (by decide +kernel)) ?_
    refine r_pI fpX6_21_6 (fun h => by cases h) (by decide +kernel) fun s => ?_
    refine r_p (pc' := 20) (p_aload_n 0 (k := 0) (by decide +kernel) rfl) ?_
    refine r_gI flX6_17_6 (by decide +kernel) fun v4 => ?_
    refine r_p (pc' := 24) (p_aload_n 0 (k := 0) (by decide +kernel) rfl) ?_
    refine r_gI flX6_21_6 (by decide +kernel) fun v5 => ?_
    refine r_p (pc' := 28) (p_iadd (by decide +kernel)) ?_
    refine r_p (pc' := 30) (p_bipush (n := 10) (v := 10) (by decide +kernel) (by decide +kernel)) ?_
    refine r_p (pc' := 31) (p_irem (by decide +kernel) (by decide)) ?_
    refine r_letI fun v6 => ?_
    refine r_p (pc' := 32) (p_istore_n (k := 2) (lv' := [(2, vi v6), (0, vr a0), (1, vr a1)]) (by decide +kernel) (Nat.le_of_ble_eq_true rfl) rfl) ?_
    refine r_p (pc' := 33) (p_iload_n 0 (k := 2) (by decide +kernel) rfl) ?_
    refine r_iflt (off := 31) (tgt := 64) (by decide +kernel) (by decide) (fun h7 => ?_) (fun h7 => ?_)
    · refine r_p (pc' := 65) (p_iconst (n := 1) (v := 1) (by decide +kernel) rfl) ?_
      exact r_iret rfl rfl _ rfl rfl (by decide +kernel)
    · refine r_p (pc' := 37) (p_iload_n 0 (k := 2) (by decide +kernel) rfl) ?_
      refine r_p (pc' := 38) (p_aload_n 1 (k := 0) (by decide +kernel) rfl) ?_
      refine r_gR flX6_11_6 (by decide +kernel) fun v8 => ?_
      refine r_lenQ (by decide) (by decide +kernel) fun v9 => ?_
      refine r_icmpge (off := 22) (tgt := 64) (by decide +kernel) (by decide) (fun h10 => ?_) (fun h10 => ?_)
      · refine r_p (pc' := 65) (p_iconst (n := 1) (v := 1) (by decide +kernel) rfl) ?_
        exact r_iret rfl rfl _ rfl rfl (by decide +kernel)
      · refine r_p (pc' := 46) (p_aload_n 1 (k := 0) (by decide +kernel) rfl) ?_
        refine r_gR flX6_11_6 (by decide +kernel) fun v11 => ?_
        refine r_p (pc' := 50) (p_iload_n 0 (k := 2) (by decide +kernel) rfl) ?_
        refine r_ldQ (by decide) (by decide +kernel) fun v12 => ?_
        cases v12 with
        | none =>
          refine r_ifnull0 (off := 13) (tgt := 64) (by decide +kernel) (by decide) ?_
          refine r_p (pc' := 65) (p_iconst (n := 1) (v := 1) (by decide +kernel) rfl) ?_
          exact r_iret rfl rfl _ rfl rfl (by decide +kernel)
        | some v14 =>
          refine r_ifnull1 (off := 13) (tgt := 64) (by decide +kernel) (by decide) ?_
          refine r_p (pc' := 55) (p_aload_n 2 (k := 1) (by decide +kernel) rfl) ?_
          refine r_p (pc' := 56) (p_aload_n 1 (k := 0) (by decide +kernel) rfl) ?_
          refine r_gR flX6_11_6 (by decide +kernel) fun v15 => ?_
          refine r_p (pc' := 60) (p_iload_n 0 (k := 2) (by decide +kernel) rfl) ?_
          refine r_ldQ (by decide) (by decide +kernel) fun v16 => ?_
          refine r_unq fun v17 h18 => ?_
          subst h18
          refine r_callVU mvX6_28 (ctX1_copyFrom a1 v17) (rcX1_copyFrom a1 v17) ⟨_, _, rfl⟩ (as := [vr v17]) (st := []) rfl rfl (by decide +kernel) rfl (Nat.le_of_ble_eq_true rfl) (Nat.le_of_ble_eq_true rfl) fun s => ?_
          refine r_p (pc' := 65) (p_iconst (n := 1) (v := 1) (by decide +kernel) rfl) ?_
          exact r_iret rfl rfl _ rfl rfl (by decide +kernel)
  · refine r_p (pc' := 8) (p_iconst (n := 0) (v := 0) (by decide +kernel) rfl) ?_
    exact r_iret rfl rfl _ rfl rfl (by decide +kernel)
def aX6_keepImage : StA := (RX6, cX6_keepImage, 2, none, yX6_keepImage, 11, [])
theorem flX6_32_6 : FL RX6 32 6 3 := ⟨_, TX6, 4, "ToolCourt$Memory", rfl, by decide, Or.inl (tblG_of 280 (by decide +kernel) (by decide +kernel)), Or.inl rfl⟩
theorem fpX6_32_6 : FP RX6 32 6 3 (.object "ToolCourt$Court") false := ⟨_, TX6, 4, "ToolCourt$Memory", tyX6, rfl, by decide, Or.inl (tblG_of 280 (by decide +kernel) (by decide +kernel)), Or.inl rfl, tyX6_ok, nmX6, rfl, by decide, by decide +kernel⟩
noncomputable def mX6_keepImage (a0 : Nat) (a1 : Nat) : MM Unit := onC 6 a0 (
  mbnd (gQ 6 3 a0) fun (v1 : Option Nat) =>
  mbnd (mX6_copied a1 v1) fun (v2 : Nat) =>
  mbnd (pR 6 3 a0 v2) fun _ =>
  mret ()
  )
theorem rcX6_keepImage (a0 : Nat) (a1 : Nat) : Rcv 6 a0 (mX6_keepImage a0 a1) := fun s r h => ⟨(onC_some h).1, (onC_some h).2.1⟩
set_option maxHeartbeats 4000000 in
set_option maxRecDepth 100000 in
theorem ctX6_keepImage (a0 : Nat) (a1 : Nat) : Ct aX6_keepImage [vr a0, vr a1] (mX6_keepImage a0 a1) rU := by
  unfold mX6_keepImage
  refine ct_onC (ct_intro (by decide +kernel) rfl (Nat.le_of_ble_eq_true rfl) fun Y s => ?_)
  refine r_sub (lv' := [(0, vr a0), (1, vr a1)]) [0, 1] rfl ?_
  refine r_p (pc' := 1) (p_aload_n 0 (k := 0) (by decide +kernel) rfl) ?_
  refine r_p (pc' := 2) (p_aload_n 1 (k := 1) (by decide +kernel) rfl) ?_
  refine r_p (pc' := 3) (p_aload_n 0 (k := 0) (by decide +kernel) rfl) ?_
  refine r_gQ flX6_32_6 (by decide +kernel) fun v1 => ?_
  refine r_callSR msX6_24 (ctX6_copied a1 v1) (as := [vr a1, vq v1]) (st := [vr a0]) rfl rfl (by decide +kernel) rfl (Nat.le_of_ble_eq_true rfl) (Nat.le_of_ble_eq_true rfl) fun v2 s => ?_
  refine r_pR fpX6_32_6 (fun h => by cases h) (Or.inl ⟨_, rfl⟩) (by decide +kernel) fun s => ?_
  exact r_vret (y9 := ()) rfl rfl rfl (by decide +kernel)
def aX6_goBack : StA := (RX6, cX6_goBack, 2, some .boolean, yX6_goBack, 10, [])
theorem mvX6_36 : MV RX6 36 aX6_forgetActs 0 := ⟨tblG_of 778 (by decide +kernel) (by decide +kernel), tblG_of 779 (by decide +kernel) (by decide +kernel), tblG_of 780 (by decide +kernel) (by decide +kernel), tblG_of 149 (by decide +kernel) (by decide +kernel), tblG_of 781 (by decide +kernel) (by decide +kernel), rfl, ⟨by decide, by decide⟩, by decide +kernel, by decide⟩
noncomputable def mX6_goBack (a0 : Nat) (a1 : Nat) : MM Int32 := onC 6 a0 (
  mbnd (gQ 6 3 a0) fun (v1 : Option Nat) =>
  match v1 with
  | none => (
    mret 0
  )
  | some v3 => (
    mbnd (gQ 6 3 a0) fun (v4 : Option Nat) =>
    mbnd (unq v4) fun (v5 : Nat) =>
    mbnd (mX1_copyFrom a1 v5) fun _ =>
    mbnd (mX6_forgetActs a0) fun _ =>
    mret 1
  )
  )
theorem rcX6_goBack (a0 : Nat) (a1 : Nat) : Rcv 6 a0 (mX6_goBack a0 a1) := fun s r h => ⟨(onC_some h).1, (onC_some h).2.1⟩
set_option maxHeartbeats 4000000 in
set_option maxRecDepth 100000 in
theorem ctX6_goBack (a0 : Nat) (a1 : Nat) : Ct aX6_goBack [vr a0, vr a1] (mX6_goBack a0 a1) rI := by
  unfold mX6_goBack
  refine ct_onC (ct_intro (by decide +kernel) rfl (Nat.le_of_ble_eq_true rfl) fun Y s => ?_)
  refine r_sub (lv' := [(0, vr a0), (1, vr a1)]) [0, 1] rfl ?_
  refine r_p (pc' := 1) (p_aload_n 0 (k := 0) (by decide +kernel) rfl) ?_
  refine r_gQ flX6_32_6 (by decide +kernel) fun v1 => ?_
  cases v1 with
  | none =>
    refine r_ifnonnull0 (off := 5) (tgt := 9) (by decide +kernel) (by decide) ?_
    refine r_p (pc' := 8) (p_iconst (n := 0) (v := 0) (by decide +kernel) rfl) ?_
    exact r_iret rfl rfl _ rfl rfl (by decide +kernel)
  | some v3 =>
    refine r_ifnonnull1 (off := 5) (tgt := 9) (by decide +kernel) (by decide) ?_
    refine r_p (pc' := 10) (p_aload_n 1 (k := 1) (by decide +kernel) rfl) ?_
    refine r_p (pc' := 11) (p_aload_n 0 (k := 0) (by decide +kernel) rfl) ?_
    refine r_gQ flX6_32_6 (by decide +kernel) fun v4 => ?_
    refine r_unq fun v5 h6 => ?_
    subst h6
    refine r_callVU mvX6_28 (ctX1_copyFrom a1 v5) (rcX1_copyFrom a1 v5) ⟨_, _, rfl⟩ (as := [vr v5]) (st := []) rfl rfl (by decide +kernel) rfl (Nat.le_of_ble_eq_true rfl) (Nat.le_of_ble_eq_true rfl) fun s => ?_
    refine r_p (pc' := 18) (p_aload_n 0 (k := 0) (by decide +kernel) rfl) ?_
    refine r_callVU mvX6_36 (ctX6_forgetActs a0) (rcX6_forgetActs a0) ⟨_, _, rfl⟩ (as := []) (st := []) rfl rfl (by decide +kernel) rfl (Nat.le_of_ble_eq_true rfl) (Nat.le_of_ble_eq_true rfl) fun s => ?_
    refine r_p (pc' := 22) (p_iconst (n := 1) (v := 1) (by decide +kernel) rfl) ?_
    exact r_iret rfl rfl _ rfl rfl (by decide +kernel)
