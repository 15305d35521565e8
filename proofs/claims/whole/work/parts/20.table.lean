/-! PRINTED BY wip/whole/gen.py -/
def aX8_init : StA := (RX8, cX8_init, 3, none, yX8_init, 8, [])
theorem fpX8_15_8 : FP RX8 15 8 1 .int true := ⟨_, TX8, 4, "ToolCourt$Table", tyX8, rfl, by decide, Or.inl (tblG_of 323 (by decide +kernel) (by decide +kernel)), Or.inl rfl, tyX8_ok, nmX8, rfl, by decide, by decide +kernel⟩
theorem fpX8_21_8 : FP RX8 21 8 2 .int true := ⟨_, TX8, 4, "ToolCourt$Table", tyX8, rfl, by decide, Or.inl (tblG_of 324 (by decide +kernel) (by decide +kernel)), Or.inl rfl, tyX8_ok, nmX8, rfl, by decide, by decide +kernel⟩
theorem flX8_15_8 : FL RX8 15 8 1 := ⟨_, TX8, 4, "ToolCourt$Table", rfl, by decide, Or.inl (tblG_of 323 (by decide +kernel) (by decide +kernel)), Or.inl rfl⟩
theorem flX8_21_8 : FL RX8 21 8 2 := ⟨_, TX8, 4, "ToolCourt$Table", rfl, by decide, Or.inl (tblG_of 324 (by decide +kernel) (by decide +kernel)), Or.inl rfl⟩
theorem fpX8_24_8 : FP RX8 24 8 0 (.array .int) true := ⟨_, TX8, 4, "ToolCourt$Table", tyX8, rfl, by decide, Or.inl (tblG_of 322 (by decide +kernel) (by decide +kernel)), Or.inl rfl, tyX8_ok, nmX8, rfl, by decide, by decide +kernel⟩
noncomputable def mX8_init (a0 : Nat) (a1 : Int32) (a2 : Int32) : MM Unit := onC 8 a0 (
  mbnd (pI 8 1 a0 (imax 0 a1)) fun _ =>
  mbnd (pI 8 2 a0 (imax 0 a2)) fun _ =>
  mbnd (gI 8 1 a0) fun (v1 : Int32) =>
  mbnd (gI 8 2 a0) fun (v2 : Int32) =>
  mbnd (nwI 0 (imax 0 (v1 * v2))) fun (v3 : Nat) =>
  mbnd (pR 8 0 a0 v3) fun _ =>
  mret ()
  )
theorem rcX8_init (a0 : Nat) (a1 : Int32) (a2 : Int32) : Rcv 8 a0 (mX8_init a0 a1 a2) := fun s r h => ⟨(onC_some h).1, (onC_some h).2.1⟩
set_option maxHeartbeats 4000000 in
set_option maxRecDepth 100000 in
theorem ctX8_init (a0 : Nat) (a1 : Int32) (a2 : Int32) : Ct aX8_init [vr a0, vi a1, vi a2] (mX8_init a0 a1 a2) rU := by
  unfold mX8_init
  refine ct_onC (ct_intro (by decide +kernel) rfl (Nat.le_of_ble_eq_true rfl) fun Y s => ?_)
  refine r_sub (lv' := [(0, vr a0), (1, vi a1), (2, vi a2)]) [0, 1, 2] rfl ?_
  refine r_p (pc' := 1) (p_aload_n 0 (k := 0) (by decide +kernel) rfl) ?_
  refine r_p (pc' := 4) (p_obj (idx := 3) (tblG_of 318 (by decide +kernel) (by decide +kernel)) (Nat.le_of_ble_eq_true rfl) (Nat.le_of_ble_eq_true rfl) (by decide +kernel)) ?_
  refine r_p (pc' := 5) (p_aload_n 0 (k := 0) (by decide +kernel) rfl) ?_
  refine r_p (pc' := 6) (p_iconst (n := 0) (v := 0) (by decide +kernel) rfl) ?_
  refine r_p (pc' := 7) (p_iload_n 1 (k := 1) (by decide +kernel) rfl) ?_
  refine r_p (pc' := 10) (p_max (idx := 9) (tblG_of 319 (by decide +kernel) (by decide +kernel)) (Nat.le_of_ble_eq_true rfl) (Nat.le_of_ble_eq_true rfl) (by decide +kernel)) ?_
  refine r_pI fpX8_15_8 (fun _ => rfl) (by decide +kernel) fun s => ?_
  refine r_p (pc' := 14) (p_aload_n 0 (k := 0) (by decide +kernel) rfl) ?_
  refine r_p (pc' := 15) (p_iconst (n := 0) (v := 0) (by decide +kernel) rfl) ?_
  refine r_p (pc' := 16) (p_iload_n 2 (k := 2) (by decide +kernel) rfl) ?_
  refine r_p (pc' := 19) (p_max (idx := 9) (tblG_of 319 (by decide +kernel) (by decide +kernel)) (Nat.le_of_ble_eq_true rfl) (Nat.le_of_ble_eq_true rfl) (by decide +kernel)) ?_
  refine r_pI fpX8_21_8 (fun _ => rfl) (by decide +kernel) fun s => ?_
  refine r_p (pc' := 23) (p_aload_n 0 (k := 0) (by decide +kernel) rfl) ?_
  refine r_p (pc' := 24) (p_iconst (n := 0) (v := 0) (by decide +kernel) rfl) ?_
  refine r_p (pc' := 25) (p_aload_n 0 (k := 0) (by decide +kernel) rfl) ?_
  refine r_gI flX8_15_8 (by decide +kernel) fun v1 => ?_
  refine r_p (pc' := 29) (p_aload_n 0 (k := 0) (by decide +kernel) rfl) ?_
  refine r_gI flX8_21_8 (by decide +kernel) fun v2 => ?_
  refine r_p (pc' := 33) (p_imul (by decide +kernel)) ?_
  refine r_p (pc' := 36) (p_max (idx := 9) (tblG_of 319 (by decide +kernel) (by decide +kernel)) (Nat.le_of_ble_eq_true rfl) (Nat.le_of_ble_eq_true rfl) (by decide +kernel)) ?_
  refine r_nwI (at9 := .int) (ty := .int) rfl (by decide) (by decide +kernel) fun v3 s => ?_
  refine r_pR fpX8_24_8 (fun _ => rfl) (Or.inr ⟨_, rfl⟩) (by decide +kernel) fun s => ?_
  exact r_vret (y9 := ()) rfl rfl rfl (by decide +kernel)
def aX8_copyFrom : StA := (RX8, cX8_copyFrom, 3, none, yX8_copyFrom, 8, [])
theorem flX8_28_8 : FL RX8 28 8 3 := ⟨_, TX8, 4, "ToolCourt$Table", rfl, by decide, Or.inl (tblG_of 325 (by decide +kernel) (by decide +kernel)), Or.inl rfl⟩
theorem flX8_24_8 : FL RX8 24 8 0 := ⟨_, TX8, 4, "ToolCourt$Table", rfl, by decide, Or.inl (tblG_of 322 (by decide +kernel) (by decide +kernel)), Or.inl rfl⟩
theorem fpX8_28_8 : FP RX8 28 8 3 .int false := ⟨_, TX8, 4, "ToolCourt$Table", tyX8, rfl, by decide, Or.inl (tblG_of 325 (by decide +kernel) (by decide +kernel)), Or.inl rfl, tyX8_ok, nmX8, rfl, by decide, by decide +kernel⟩
noncomputable def mX8_copyFrom (a0 : Nat) (a1 : Nat) : MM Unit := onC 8 a0 (
  mbnd (gI 8 3 a1) fun (v1 : Int32) =>
  mbnd (gI 8 2 a1) fun (v2 : Int32) =>
  mbnd (gR 8 0 a1) fun (v3 : Nat) =>
  mbnd (lenI 0 v3) fun (v4 : Int32) =>
  mbnd (gR 8 0 a0) fun (v5 : Nat) =>
  mbnd (lenI 0 v5) fun (v6 : Int32) =>
  mbnd (mret (imax 0 (imin (v1 * v2) (imin v4 v6)))) fun (v7 : Int32) =>
  mbnd (gR 8 0 a1) fun (v8 : Nat) =>
  mbnd (gR 8 0 a0) fun (v9 : Nat) =>
  mbnd (cpI 0 v8 0 v9 0 v7) fun _ =>
  mbnd (gI 8 3 a1) fun (v10 : Int32) =>
  mbnd (pI 8 3 a0 v10) fun _ =>
  mret ()
  )
theorem rcX8_copyFrom (a0 : Nat) (a1 : Nat) : Rcv 8 a0 (mX8_copyFrom a0 a1) := fun s r h => ⟨(onC_some h).1, (onC_some h).2.1⟩
set_option maxHeartbeats 4000000 in
set_option maxRecDepth 100000 in
theorem ctX8_copyFrom (a0 : Nat) (a1 : Nat) : Ct aX8_copyFrom [vr a0, vr a1] (mX8_copyFrom a0 a1) rU := by
  unfold mX8_copyFrom
  refine ct_onC (ct_intro (by decide +kernel) rfl (Nat.le_of_ble_eq_true rfl) fun Y s => ?_)
  refine r_sub (lv' := [(0, vr a0), (1, vr a1)]) [0, 1] rfl ?_
  refine r_p (pc' := 1) (p_iconst (n := 0) (v := 0) (by decide +kernel) rfl) ?_
  refine r_p (pc' := 2) (p_aload_n 1 (k := 1) (by decide +kernel) rfl) ?_
  refine r_gI flX8_28_8 (by decide +kernel) fun v1 => ?_
  refine r_p (pc' := 6) (p_aload_n 1 (k := 1) (by decide +kernel) rfl) ?_
  refine r_gI flX8_21_8 (by decide +kernel) fun v2 => ?_
  refine r_p (pc' := 10) (p_imul (by decide +kernel)) ?_
  refine r_p (pc' := 11) (p_aload_n 1 (k := 1) (by decide +kernel) rfl) ?_
  refine r_gR flX8_24_8 (by decide +kernel) fun v3 => ?_
  refine r_lenI (by decide) (by decide +kernel) fun v4 => ?_
  refine r_p (pc' := 16) (p_aload_n 0 (k := 0) (by decide +kernel) rfl) ?_
  refine r_gR flX8_24_8 (by decide +kernel) fun v5 => ?_
  refine r_lenI (by decide) (by decide +kernel) fun v6 => ?_
  refine r_p (pc' := 23) (p_min (idx := 48) (tblG_of 756 (by decide +kernel) (by decide +kernel)) (Nat.le_of_ble_eq_true rfl) (Nat.le_of_ble_eq_true rfl) (by decide +kernel)) ?_
  refine r_p (pc' := 26) (p_min (idx := 48) (tblG_of 756 (by decide +kernel) (by decide +kernel)) (Nat.le_of_ble_eq_true rfl) (Nat.le_of_ble_eq_true rfl) (by decide +kernel)) ?_
  refine r_p (pc' := 29) (p_max (idx := 9) (tblG_of 319 (by decide +kernel) (by decide +kernel)) (Nat.le_of_ble_eq_true rfl) (Nat.le_of_ble_eq_true rfl) (by decide +kernel)) ?_
  refine r_letI fun v7 => ?_
  refine r_p (pc' := 30) (p_istore_n (k := 2) (lv' := [(2, vi v7), (0, vr a0), (1, vr a1)]) (by decide +kernel) (Nat.le_of_ble_eq_true rfl) rfl) ?_
  refine r_p (pc' := 31) (p_aload_n 2 (k := 1) (by decide +kernel) rfl) ?_
  refine r_gR flX8_24_8 (by decide +kernel) fun v8 => ?_
  refine r_p (pc' := 35) (p_iconst (n := 0) (v := 0) (by decide +kernel) rfl) ?_
  refine r_p (pc' := 36) (p_aload_n 1 (k := 0) (by decide +kernel) rfl) ?_
  refine r_gR flX8_24_8 (by decide +kernel) fun v9 => ?_
  refine r_p (pc' := 40) (p_iconst (n := 0) (v := 0) (by decide +kernel) rfl) ?_
  refine r_p (pc' := 41) (p_iload_n 0 (k := 2) (by decide +kernel) rfl) ?_
  refine r_cp (idx := 38) (tblG_of 757 (by decide +kernel) (by decide +kernel)) (Nat.le_of_ble_eq_true rfl) (Nat.le_of_ble_eq_true rfl) (by decide +kernel) fun s => ?_
  refine r_p (pc' := 45) (p_aload_n 1 (k := 0) (by decide +kernel) rfl) ?_
  refine r_p (pc' := 46) (p_aload_n 2 (k := 1) (by decide +kernel) rfl) ?_
  refine r_gI flX8_28_8 (by decide +kernel) fun v10 => ?_
  refine r_pI fpX8_28_8 (fun h => by cases h) (by decide +kernel) fun s => ?_
  exact r_vret (y9 := ()) rfl rfl rfl (by decide +kernel)
def aX8_isFull : StA := (RX8, cX8_isFull, 1, some .boolean, yX8_isFull, 8, [])
noncomputable def mX8_isFull (a0 : Nat) : MM Int32 := onC 8 a0 (
  mbnd (gI 8 3 a0) fun (v1 : Int32) =>
  mbnd (gI 8 1 a0) fun (v2 : Int32) =>
  if v1 < v2 then (
    mret 0
  ) else (
    mret 1
  )
  )
theorem rcX8_isFull (a0 : Nat) : Rcv 8 a0 (mX8_isFull a0) := fun s r h => ⟨(onC_some h).1, (onC_some h).2.1⟩
set_option maxHeartbeats 4000000 in
set_option maxRecDepth 100000 in
theorem ctX8_isFull (a0 : Nat) : Ct aX8_isFull [vr a0] (mX8_isFull a0) rI := by
  unfold mX8_isFull
  refine ct_onC (ct_intro (by decide +kernel) rfl (Nat.le_of_ble_eq_true rfl) fun Y s => ?_)
  refine r_sub (lv' := [(0, vr a0)]) [0] rfl ?_
  refine r_p (pc' := 1) (p_aload_n 0 (k := 0) (by decide +kernel) rfl) ?_
  refine r_gI flX8_28_8 (by decide +kernel) fun v1 => ?_
  refine r_p (pc' := 5) (p_aload_n 0 (k := 0) (by decide +kernel) rfl) ?_
  refine r_gI flX8_15_8 (by decide +kernel) fun v2 => ?_
  refine r_icmplt (off := 7) (tgt := 15) (by decide +kernel) (by decide) (fun h3 => ?_) (fun h3 => ?_)
  · refine r_p (pc' := 16) (p_iconst (n := 0) (v := 0) (by decide +kernel) rfl) ?_
    exact r_iret rfl rfl _ rfl rfl (by decide +kernel)
  · refine r_p (pc' := 12) (p_iconst (n := 1) (v := 1) (by decide +kernel) rfl) ?_
    refine r_p (pc' := 16) (p_goto (off := 4) (tgt := 16) (by decide +kernel) (by decide)) ?_
    exact r_iret rfl rfl _ rfl rfl (by decide +kernel)
def aX8_put : StA := (RX8, cX8_put, 5, none, yX8_put, 8, [])
noncomputable def mX8_put (a0 : Nat) (a1 : Int32) (a2 : Int32) (a3 : Int32) : MM Unit := onC 8 a0 (
  if a1 < 0 then (
    mret ()
  ) else (
    mbnd (gI 8 3 a0) fun (v2 : Int32) =>
    if v2 ≤ a1 then (
      mret ()
    ) else (
      if a2 < 0 then (
        mret ()
      ) else (
        mbnd (gI 8 2 a0) fun (v5 : Int32) =>
        if a2 < v5 then (
          mbnd (gI 8 2 a0) fun (v7 : Int32) =>
          mbnd (mret ((a1 * v7) + a2)) fun (v8 : Int32) =>
          mbnd (gR 8 0 a0) fun (v9 : Nat) =>
          mbnd (lenI 0 v9) fun (v10 : Int32) =>
          if v10 ≤ v8 then (
            mret ()
          ) else (
            mbnd (gR 8 0 a0) fun (v12 : Nat) =>
            mbnd (stI 0 v12 v8 a3) fun _ =>
            mret ()
          )
        ) else (
          mret ()
        )
      )
    )
  )
  )
theorem rcX8_put (a0 : Nat) (a1 : Int32) (a2 : Int32) (a3 : Int32) : Rcv 8 a0 (mX8_put a0 a1 a2 a3) := fun s r h => ⟨(onC_some h).1, (onC_some h).2.1⟩
set_option maxHeartbeats 4000000 in
set_option maxRecDepth 100000 in
theorem ctX8_put (a0 : Nat) (a1 : Int32) (a2 : Int32) (a3 : Int32) : Ct aX8_put [vr a0, vi a1, vi a2, vi a3] (mX8_put a0 a1 a2 a3) rU := by
  unfold mX8_put
  refine ct_onC (ct_intro (by decide +kernel) rfl (Nat.le_of_ble_eq_true rfl) fun Y s => ?_)
  refine r_sub (lv' := [(0, vr a0), (1, vi a1), (2, vi a2), (3, vi a3)]) [0, 1, 2, 3] rfl ?_
  refine r_p (pc' := 1) (p_iload_n 1 (k := 1) (by decide +kernel) rfl) ?_
  refine r_iflt (off := 23) (tgt := 24) (by decide +kernel) (by decide) (fun h1 => ?_) (fun h1 => ?_)
  · exact r_vret (y9 := ()) rfl rfl rfl (by decide +kernel)
  · refine r_p (pc' := 5) (p_iload_n 1 (k := 1) (by decide +kernel) rfl) ?_
    refine r_p (pc' := 6) (p_aload_n 0 (k := 0) (by decide +kernel) rfl) ?_
    refine r_gI flX8_28_8 (by decide +kernel) fun v2 => ?_
    refine r_icmpge (off := 15) (tgt := 24) (by decide +kernel) (by decide) (fun h3 => ?_) (fun h3 => ?_)
    · exact r_vret (y9 := ()) rfl rfl rfl (by decide +kernel)
    · refine r_p (pc' := 13) (p_iload_n 2 (k := 2) (by decide +kernel) rfl) ?_
      refine r_iflt (off := 11) (tgt := 24) (by decide +kernel) (by decide) (fun h4 => ?_) (fun h4 => ?_)
      · exact r_vret (y9 := ()) rfl rfl rfl (by decide +kernel)
      · refine r_p (pc' := 17) (p_iload_n 2 (k := 2) (by decide +kernel) rfl) ?_
        refine r_p (pc' := 18) (p_aload_n 0 (k := 0) (by decide +kernel) rfl) ?_
        refine r_gI flX8_21_8 (by decide +kernel) fun v5 => ?_
        refine r_icmplt (off := 4) (tgt := 25) (by decide +kernel) (by decide) (fun h6 => ?_) (fun h6 => ?_)
        · refine r_p (pc' := 26) (p_iload_n 1 (k := 1) (by decide +kernel) rfl) ?_
          refine r_p (pc' := 27) (p_aload_n 0 (k := 0) (by decide +kernel) rfl) ?_
          refine r_gI flX8_21_8 (by decide +kernel) fun v7 => ?_
          refine r_p (pc' := 31) (p_imul (by decide +kernel)) ?_
          refine r_p (pc' := 32) (p_iload_n 2 (k := 2) (by decide +kernel) rfl) ?_
          refine r_p (pc' := 33) (p_iadd (by decide +kernel)) ?_
          refine r_letI fun v8 => ?_
          refine r_p (pc' := 35) (p_istore (i := 4) (lv' := [(4, vi v8), (0, vr a0), (1, vi a1), (2, vi a2), (3, vi a3)]) (by decide +kernel) (Nat.le_of_ble_eq_true rfl) rfl) ?_
          refine r_p (pc' := 37) (p_iload 0 (i := 4) (by decide +kernel) rfl) ?_
          refine r_p (pc' := 38) (p_aload_n 1 (k := 0) (by decide +kernel) rfl) ?_
          refine r_gR flX8_24_8 (by decide +kernel) fun v9 => ?_
          refine r_lenI (by decide) (by decide +kernel) fun v10 => ?_
          refine r_icmpge (off := 11) (tgt := 53) (by decide +kernel) (by decide) (fun h11 => ?_) (fun h11 => ?_)
          · exact r_vret (y9 := ()) rfl rfl rfl (by decide +kernel)
          · refine r_p (pc' := 46) (p_aload_n 1 (k := 0) (by decide +kernel) rfl) ?_
            refine r_gR flX8_24_8 (by decide +kernel) fun v12 => ?_
            refine r_p (pc' := 51) (p_iload 0 (i := 4) (by decide +kernel) rfl) ?_
            refine r_p (pc' := 52) (p_iload_n 4 (k := 3) (by decide +kernel) rfl) ?_
            refine r_stI0 (by decide +kernel) fun s => ?_
            exact r_vret (y9 := ()) rfl rfl rfl (by decide +kernel)
        · exact r_vret (y9 := ()) rfl rfl rfl (by decide +kernel)
def aX8_open : StA := (RX8, cX8_open, 3, some .int, yX8_open, 9, [])
theorem mvX8_34 : MV RX8 34 aX8_put 3 := ⟨tblG_of 1007 (by decide +kernel) (by decide +kernel), tblG_of 1008 (by decide +kernel) (by decide +kernel), tblG_of 1009 (by decide +kernel) (by decide +kernel), tblG_of 152 (by decide +kernel) (by decide +kernel), tblG_of 1010 (by decide +kernel) (by decide +kernel), rfl, ⟨by decide, by decide⟩, by decide +kernel, by decide⟩
noncomputable def mX8_open_L25 (a0 : Nat) (a1 : Int32) (x5 : Int32) : MM ((Int32) ⊕ (Unit)) :=
  mbnd (gI 8 2 a0) fun (v9 : Int32) =>
  if v9 ≤ x5 then (
    mret (.inr ())
  ) else (
    mbnd (gI 8 3 a0) fun (v11 : Int32) =>
    mbnd (mX8_put a0 (v11 - 1) x5 a1) fun _ =>
    mret (.inl (x5 + 1))
  )
noncomputable def mX8_open (a0 : Nat) (a1 : Int32) : MM Int32 := onC 8 a0 (
  mbnd (gI 8 3 a0) fun (v1 : Int32) =>
  mbnd (gI 8 1 a0) fun (v2 : Int32) =>
  if v1 < v2 then (
    mbnd (gI 8 3 a0) fun (v4 : Int32) =>
    mbnd (pI 8 3 a0 (v4 + 1)) fun _ =>
    mbnd (loopM (mX8_open_L25 a0 a1) 0) fun (e12 : Unit) =>
    mbnd (gI 8 3 a0) fun (v13 : Int32) =>
    mret (v13 - 1)
  ) else (
    mret (-1)
  )
  )
theorem rcX8_open (a0 : Nat) (a1 : Int32) : Rcv 8 a0 (mX8_open a0 a1) := fun s r h => ⟨(onC_some h).1, (onC_some h).2.1⟩
set_option maxHeartbeats 4000000 in
set_option maxRecDepth 100000 in
theorem ctX8_open (a0 : Nat) (a1 : Int32) : Ct aX8_open [vr a0, vi a1] (mX8_open a0 a1) rI := by
  unfold mX8_open
  refine ct_onC (ct_intro (by decide +kernel) rfl (Nat.le_of_ble_eq_true rfl) fun Y s => ?_)
  refine r_sub (lv' := [(0, vr a0), (1, vi a1)]) [0, 1] rfl ?_
  refine r_p (pc' := 1) (p_aload_n 0 (k := 0) (by decide +kernel) rfl) ?_
  refine r_gI flX8_28_8 (by decide +kernel) fun v1 => ?_
  refine r_p (pc' := 5) (p_aload_n 0 (k := 0) (by decide +kernel) rfl) ?_
  refine r_gI flX8_15_8 (by decide +kernel) fun v2 => ?_
  refine r_icmplt (off := 5) (tgt := 13) (by decide +kernel) (by decide) (fun h3 => ?_) (fun h3 => ?_)
  · refine r_p (pc' := 14) (p_aload_n 0 (k := 0) (by decide +kernel) rfl) ?_
    refine r_p (pc' := 15) (p_dup rfl (by decide +kernel)) ?_
    refine r_gI flX8_28_8 (by decide +kernel) fun v4 => ?_
    refine r_p (pc' := 19) (p_iconst (n := 1) (v := 1) (by decide +kernel) rfl) ?_
    refine r_p (pc' := 20) (p_iadd (by decide +kernel)) ?_
    refine r_pI fpX8_28_8 (fun h => by cases h) (by decide +kernel) fun s => ?_
    refine r_p (pc' := 24) (p_iconst (n := 0) (v := 0) (by decide +kernel) rfl) ?_
    refine r_p (pc' := 25) (p_istore_n (k := 2) (lv' := [(2, vi 0), (0, vr a0), (1, vi a1)]) (by decide +kernel) (Nat.le_of_ble_eq_true rfl) rfl) ?_
    refine r_sub (lv' := [(0, vr a0), (1, vi a1), (2, vi 0)]) [1, 2, 0] rfl ?_
    refine r_loop2 (fun _ => 51) (fun (e12 : Unit) => [(0, vr a0)]) (fun (x5 : Int32) => [(0, vr a0), (1, vi a1), (2, vi x5)]) (fun e12 s => ?_) (fun K6 hb7 he8 x5 s => ?_) 0 _
    · refine r_p (pc' := 52) (p_aload_n 0 (k := 0) (by decide +kernel) rfl) ?_
      refine r_gI flX8_28_8 (by decide +kernel) fun v13 => ?_
      refine r_p (pc' := 56) (p_iconst (n := 1) (v := 1) (by decide +kernel) rfl) ?_
      refine r_p (pc' := 57) (p_isub (by decide +kernel)) ?_
      exact r_iret rfl rfl _ rfl rfl (by decide +kernel)
    · unfold mX8_open_L25
      refine r_p (pc' := 26) (p_iload_n 2 (k := 2) (by decide +kernel) rfl) ?_
      refine r_p (pc' := 27) (p_aload_n 0 (k := 0) (by decide +kernel) rfl) ?_
      refine r_gI flX8_21_8 (by decide +kernel) fun v9 => ?_
      refine r_icmpge (off := 21) (tgt := 51) (by decide +kernel) (by decide) (fun h10 => ?_) (fun h10 => ?_)
      · refine r_sub (lv' := [(0, vr a0)]) [0] rfl ?_
        exact he8 () _
      · refine r_p (pc' := 34) (p_aload_n 0 (k := 0) (by decide +kernel) rfl) ?_
        refine r_p (pc' := 35) (p_aload_n 0 (k := 0) (by decide +kernel) rfl) ?_
        refine r_gI flX8_28_8 (by decide +kernel) fun v11 => ?_
        refine r_p (pc' := 39) (p_iconst (n := 1) (v := 1) (by decide +kernel) rfl) ?_
        refine r_p (pc' := 40) (p_isub (by decide +kernel)) ?_
        refine r_p (pc' := 41) (p_iload_n 2 (k := 2) (by decide +kernel) rfl) ?_
        refine r_p (pc' := 42) (p_iload_n 1 (k := 1) (by decide +kernel) rfl) ?_
        refine r_callVU mvX8_34 (ctX8_put a0 (v11 - 1) x5 a1) (rcX8_put a0 (v11 - 1) x5 a1) ⟨_, _, rfl⟩ (as := [vi (v11 - 1), vi x5, vi a1]) (st := []) rfl rfl (by decide +kernel) rfl (Nat.le_of_ble_eq_true rfl) (Nat.le_of_ble_eq_true rfl) fun s => ?_
        refine r_p (pc' := 48) (p_iinc 2 (i := 2) (n := 1) (x := x5) (v := x5 + 1) (lv' := [(2, vi (x5 + 1)), (0, vr a0), (1, vi a1)]) (by decide +kernel) rfl rfl (Nat.le_of_ble_eq_true rfl) rfl) ?_
        refine r_p (pc' := 25) (p_goto (off := -23) (tgt := 25) (by decide +kernel) (by decide)) ?_
        refine r_sub (lv' := [(0, vr a0), (1, vi a1), (2, vi (x5 + 1))]) [1, 2, 0] rfl ?_
        exact hb7 (x5 + 1) _
  · refine r_p (pc' := 12) (p_iconst (n := -1) (v := -1) (by decide +kernel) rfl) ?_
    exact r_iret rfl rfl _ rfl rfl (by decide +kernel)
def aX8_get : StA := (RX8, cX8_get, 4, some .int, yX8_get, 8, [])
noncomputable def mX8_get (a0 : Nat) (a1 : Int32) (a2 : Int32) : MM Int32 := onC 8 a0 (
  if a1 < 0 then (
    mret (-1)
  ) else (
    mbnd (gI 8 3 a0) fun (v2 : Int32) =>
    if v2 ≤ a1 then (
      mret (-1)
    ) else (
      if a2 < 0 then (
        mret (-1)
      ) else (
        mbnd (gI 8 2 a0) fun (v5 : Int32) =>
        if a2 < v5 then (
          mbnd (gI 8 2 a0) fun (v7 : Int32) =>
          mbnd (mret ((a1 * v7) + a2)) fun (v8 : Int32) =>
          mbnd (gR 8 0 a0) fun (v9 : Nat) =>
          mbnd (lenI 0 v9) fun (v10 : Int32) =>
          if v10 ≤ v8 then (
            mret (-1)
          ) else (
            mbnd (gR 8 0 a0) fun (v12 : Nat) =>
            mbnd (ldI 0 v12 v8) fun (v13 : Int32) =>
            mret v13
          )
        ) else (
          mret (-1)
        )
      )
    )
  )
  )
theorem rcX8_get (a0 : Nat) (a1 : Int32) (a2 : Int32) : Rcv 8 a0 (mX8_get a0 a1 a2) := fun s r h => ⟨(onC_some h).1, (onC_some h).2.1⟩
set_option maxHeartbeats 4000000 in
set_option maxRecDepth 100000 in
theorem ctX8_get (a0 : Nat) (a1 : Int32) (a2 : Int32) : Ct aX8_get [vr a0, vi a1, vi a2] (mX8_get a0 a1 a2) rI := by
  unfold mX8_get
  refine ct_onC (ct_intro (by decide +kernel) rfl (Nat.le_of_ble_eq_true rfl) fun Y s => ?_)
  refine r_sub (lv' := [(0, vr a0), (1, vi a1), (2, vi a2)]) [0, 1, 2] rfl ?_
  refine r_p (pc' := 1) (p_iload_n 1 (k := 1) (by decide +kernel) rfl) ?_
  refine r_iflt (off := 23) (tgt := 24) (by decide +kernel) (by decide) (fun h1 => ?_) (fun h1 => ?_)
  · refine r_p (pc' := 25) (p_iconst (n := -1) (v := -1) (by decide +kernel) rfl) ?_
    exact r_iret rfl rfl _ rfl rfl (by decide +kernel)
  · refine r_p (pc' := 5) (p_iload_n 1 (k := 1) (by decide +kernel) rfl) ?_
    refine r_p (pc' := 6) (p_aload_n 0 (k := 0) (by decide +kernel) rfl) ?_
    refine r_gI flX8_28_8 (by decide +kernel) fun v2 => ?_
    refine r_icmpge (off := 15) (tgt := 24) (by decide +kernel) (by decide) (fun h3 => ?_) (fun h3 => ?_)
    · refine r_p (pc' := 25) (p_iconst (n := -1) (v := -1) (by decide +kernel) rfl) ?_
      exact r_iret rfl rfl _ rfl rfl (by decide +kernel)
    · refine r_p (pc' := 13) (p_iload_n 2 (k := 2) (by decide +kernel) rfl) ?_
      refine r_iflt (off := 11) (tgt := 24) (by decide +kernel) (by decide) (fun h4 => ?_) (fun h4 => ?_)
      · refine r_p (pc' := 25) (p_iconst (n := -1) (v := -1) (by decide +kernel) rfl) ?_
        exact r_iret rfl rfl _ rfl rfl (by decide +kernel)
      · refine r_p (pc' := 17) (p_iload_n 2 (k := 2) (by decide +kernel) rfl) ?_
        refine r_p (pc' := 18) (p_aload_n 0 (k := 0) (by decide +kernel) rfl) ?_
        refine r_gI flX8_21_8 (by decide +kernel) fun v5 => ?_
        refine r_icmplt (off := 5) (tgt := 26) (by decide +kernel) (by decide) (fun h6 => ?_) (fun h6 => ?_)
        · refine r_p (pc' := 27) (p_iload_n 1 (k := 1) (by decide +kernel) rfl) ?_
          refine r_p (pc' := 28) (p_aload_n 0 (k := 0) (by decide +kernel) rfl) ?_
          refine r_gI flX8_21_8 (by decide +kernel) fun v7 => ?_
          refine r_p (pc' := 32) (p_imul (by decide +kernel)) ?_
          refine r_p (pc' := 33) (p_iload_n 2 (k := 2) (by decide +kernel) rfl) ?_
          refine r_p (pc' := 34) (p_iadd (by decide +kernel)) ?_
          refine r_letI fun v8 => ?_
          refine r_p (pc' := 35) (p_istore_n (k := 3) (lv' := [(3, vi v8), (0, vr a0), (1, vi a1), (2, vi a2)]) (by decide +kernel) (Nat.le_of_ble_eq_true rfl) rfl) ?_
          refine r_p (pc' := 36) (p_iload_n 0 (k := 3) (by decide +kernel) rfl) ?_
          refine r_p (pc' := 37) (p_aload_n 1 (k := 0) (by decide +kernel) rfl) ?_
          refine r_gR flX8_24_8 (by decide +kernel) fun v9 => ?_
          refine r_lenI (by decide) (by decide +kernel) fun v10 => ?_
          refine r_icmpge (off := 12) (tgt := 53) (by decide +kernel) (by decide) (fun h11 => ?_) (fun h11 => ?_)
          · refine r_p (pc' := 54) (p_iconst (n := -1) (v := -1) (by decide +kernel) rfl) ?_
            exact r_iret rfl rfl _ rfl rfl (by decide +kernel)
          · refine r_p (pc' := 45) (p_aload_n 1 (k := 0) (by decide +kernel) rfl) ?_
            refine r_gR flX8_24_8 (by decide +kernel) fun v12 => ?_
            refine r_p (pc' := 49) (p_iload_n 0 (k := 3) (by decide +kernel) rfl) ?_
            refine r_ldI0 (by decide +kernel) fun v13 => ?_
            refine r_p (pc' := 54) (p_goto (off := 4) (tgt := 54) (by decide +kernel) (by decide)) ?_
            exact r_iret rfl rfl _ rfl rfl (by decide +kernel)
        · refine r_p (pc' := 25) (p_iconst (n := -1) (v := -1) (by decide +kernel) rfl) ?_
          exact r_iret rfl rfl _ rfl rfl (by decide +kernel)
def aX8_has : StA := (RX8, cX8_has, 2, some .boolean, yX8_has, 8, [])
noncomputable def mX8_has (a0 : Nat) (a1 : Int32) : MM Int32 := onC 8 a0 (
  if a1 < 0 then (
    mret 0
  ) else (
    mbnd (gI 8 3 a0) fun (v2 : Int32) =>
    if v2 ≤ a1 then (
      mret 0
    ) else (
      mret 1
    )
  )
  )
theorem rcX8_has (a0 : Nat) (a1 : Int32) : Rcv 8 a0 (mX8_has a0 a1) := fun s r h => ⟨(onC_some h).1, (onC_some h).2.1⟩
set_option maxHeartbeats 4000000 in
set_option maxRecDepth 100000 in
theorem ctX8_has (a0 : Nat) (a1 : Int32) : Ct aX8_has [vr a0, vi a1] (mX8_has a0 a1) rI := by
  unfold mX8_has
  refine ct_onC (ct_intro (by decide +kernel) rfl (Nat.le_of_ble_eq_true rfl) fun Y s => ?_)
  refine r_sub (lv' := [(0, vr a0), (1, vi a1)]) [0, 1] rfl ?_
  refine r_p (pc' := 1) (p_iload_n 1 (k := 1) (by decide +kernel) rfl) ?_
  refine r_iflt (off := 15) (tgt := 16) (by decide +kernel) (by decide) (fun h1 => ?_) (fun h1 => ?_)
  · refine r_p (pc' := 17) (p_iconst (n := 0) (v := 0) (by decide +kernel) rfl) ?_
    exact r_iret rfl rfl _ rfl rfl (by decide +kernel)
  · refine r_p (pc' := 5) (p_iload_n 1 (k := 1) (by decide +kernel) rfl) ?_
    refine r_p (pc' := 6) (p_aload_n 0 (k := 0) (by decide +kernel) rfl) ?_
    refine r_gI flX8_28_8 (by decide +kernel) fun v2 => ?_
    refine r_icmpge (off := 7) (tgt := 16) (by decide +kernel) (by decide) (fun h3 => ?_) (fun h3 => ?_)
    · refine r_p (pc' := 17) (p_iconst (n := 0) (v := 0) (by decide +kernel) rfl) ?_
      exact r_iret rfl rfl _ rfl rfl (by decide +kernel)
    · refine r_p (pc' := 13) (p_iconst (n := 1) (v := 1) (by decide +kernel) rfl) ?_
      refine r_p (pc' := 17) (p_goto (off := 4) (tgt := 17) (by decide +kernel) (by decide)) ?_
      exact r_iret rfl rfl _ rfl rfl (by decide +kernel)
def aX8_add : StA := (RX8, cX8_add, 4, none, yX8_add, 9, [])
theorem mvX8_31 : MV RX8 31 aX8_get 2 := ⟨tblG_of 1320 (by decide +kernel) (by decide +kernel), tblG_of 582 (by decide +kernel) (by decide +kernel), tblG_of 583 (by decide +kernel) (by decide +kernel), tblG_of 152 (by decide +kernel) (by decide +kernel), tblG_of 584 (by decide +kernel) (by decide +kernel), rfl, ⟨by decide, by decide⟩, by decide +kernel, by decide⟩
noncomputable def mX8_add (a0 : Nat) (a1 : Int32) (a2 : Int32) (a3 : Int32) : MM Unit := onC 8 a0 (
  mbnd (mX8_get a0 a1 a2) fun (v1 : Int32) =>
  mbnd (mX8_put a0 a1 a2 (v1 + a3)) fun _ =>
  mret ()
  )
theorem rcX8_add (a0 : Nat) (a1 : Int32) (a2 : Int32) (a3 : Int32) : Rcv 8 a0 (mX8_add a0 a1 a2 a3) := fun s r h => ⟨(onC_some h).1, (onC_some h).2.1⟩
set_option maxHeartbeats 4000000 in
set_option maxRecDepth 100000 in
theorem ctX8_add (a0 : Nat) (a1 : Int32) (a2 : Int32) (a3 : Int32) : Ct aX8_add [vr a0, vi a1, vi a2, vi a3] (mX8_add a0 a1 a2 a3) rU := by
  unfold mX8_add
  refine ct_onC (ct_intro (by decide +kernel) rfl (Nat.le_of_ble_eq_true rfl) fun Y s => ?_)
  refine r_sub (lv' := [(0, vr a0), (1, vi a1), (2, vi a2), (3, vi a3)]) [0, 1, 2, 3] rfl ?_
  refine r_p (pc' := 1) (p_aload_n 0 (k := 0) (by decide +kernel) rfl) ?_
  refine r_p (pc' := 2) (p_iload_n 1 (k := 1) (by decide +kernel) rfl) ?_
  refine r_p (pc' := 3) (p_iload_n 2 (k := 2) (by decide +kernel) rfl) ?_
  refine r_p (pc' := 4) (p_aload_n 0 (k := 0) (by decide +kernel) rfl) ?_
  refine r_p (pc' := 5) (p_iload_n 1 (k := 1) (by decide +kernel) rfl) ?_
  refine r_p (pc' := 6) (p_iload_n 2 (k := 2) (by decide +kernel) rfl) ?_
  refine r_callVI mvX8_31 (ctX8_get a0 a1 a2) (rcX8_get a0 a1 a2) ⟨_, _, rfl⟩ (as := [vi a1, vi a2]) (st := [vi a2, vi a1, vr a0]) rfl rfl (by decide +kernel) rfl (Nat.le_of_ble_eq_true rfl) (Nat.le_of_ble_eq_true rfl) fun v1 s => ?_
  refine r_p (pc' := 10) (p_iload_n 3 (k := 3) (by decide +kernel) rfl) ?_
  refine r_p (pc' := 11) (p_iadd (by decide +kernel)) ?_
  refine r_callVU mvX8_34 (ctX8_put a0 a1 a2 (v1 + a3)) (rcX8_put a0 a1 a2 (v1 + a3)) ⟨_, _, rfl⟩ (as := [vi a1, vi a2, vi (v1 + a3)]) (st := []) rfl rfl (by decide +kernel) rfl (Nat.le_of_ble_eq_true rfl) (Nat.le_of_ble_eq_true rfl) fun s => ?_
  exact r_vret (y9 := ()) rfl rfl rfl (by decide +kernel)
def aX8_openLatest : StA := (RX8, cX8_openLatest, 3, some .int, yX8_openLatest, 10, [])
theorem mvX8_44 : MV RX8 44 aX8_open 1 := ⟨tblG_of 1325 (by decide +kernel) (by decide +kernel), tblG_of 1004 (by decide +kernel) (by decide +kernel), tblG_of 1005 (by decide +kernel) (by decide +kernel), tblG_of 152 (by decide +kernel) (by decide +kernel), tblG_of 1006 (by decide +kernel) (by decide +kernel), rfl, ⟨by decide, by decide⟩, by decide +kernel, by decide⟩
noncomputable def mX8_openLatest (a0 : Nat) (a1 : Int32) : MM Int32 := onC 8 a0 (
  mbnd (gI 8 3 a0) fun (v1 : Int32) =>
  mbnd (gI 8 1 a0) fun (v2 : Int32) =>
  mbnd (α := Unit) (
    if v1 < v2 then (
      mret ()
    ) else (
      mbnd (gI 8 3 a0) fun (v7 : Int32) =>
      if v7 ≤ 0 then (
        mret ()
      ) else (
        mbnd (gI 8 3 a0) fun (v9 : Int32) =>
        mbnd (gI 8 2 a0) fun (v10 : Int32) =>
        mbnd (mret ((v9 - 1) * v10)) fun (v11 : Int32) =>
        mbnd (α := Unit) (
          if v11 < 0 then (
            mret ()
          ) else (
            mbnd (gI 8 2 a0) fun (v16 : Int32) =>
            mbnd (gR 8 0 a0) fun (v17 : Nat) =>
            mbnd (lenI 0 v17) fun (v18 : Int32) =>
            if v18 < (v16 + v11) then (
              mret ()
            ) else (
              mbnd (gR 8 0 a0) fun (v20 : Nat) =>
              mbnd (gI 8 2 a0) fun (v21 : Int32) =>
              mbnd (gR 8 0 a0) fun (v22 : Nat) =>
              mbnd (cpI 0 v20 v21 v22 0 v11) fun _ =>
              mret ()
            )
          )
        ) fun (x13 : Unit) =>
        mbnd (gI 8 3 a0) fun (v23 : Int32) =>
        mbnd (pI 8 3 a0 (v23 - 1)) fun _ =>
        mret ()
      )
    )
  ) fun (x4 : Unit) =>
  mbnd (mX8_open a0 a1) fun (v24 : Int32) =>
  mret v24
  )
theorem rcX8_openLatest (a0 : Nat) (a1 : Int32) : Rcv 8 a0 (mX8_openLatest a0 a1) := fun s r h => ⟨(onC_some h).1, (onC_some h).2.1⟩
set_option maxHeartbeats 4000000 in
set_option maxRecDepth 100000 in
theorem ctX8_openLatest (a0 : Nat) (a1 : Int32) : Ct aX8_openLatest [vr a0, vi a1] (mX8_openLatest a0 a1) rI := by
  unfold mX8_openLatest
  refine ct_onC (ct_intro (by decide +kernel) rfl (Nat.le_of_ble_eq_true rfl) fun Y s => ?_)
  refine r_sub (lv' := [(0, vr a0), (1, vi a1)]) [0, 1] rfl ?_
  refine r_p (pc' := 1) (p_aload_n 0 (k := 0) (by decide +kernel) rfl) ?_
  refine r_gI flX8_28_8 (by decide +kernel) fun v1 => ?_
  refine r_p (pc' := 5) (p_aload_n 0 (k := 0) (by decide +kernel) rfl) ?_
  refine r_gI flX8_15_8 (by decide +kernel) fun v2 => ?_
  refine r_join 75 (fun (x4 : Unit) => [(0, vr a0), (1, vi a1)]) (fun (x4 : Unit) => []) (fun x4 s => ?_) (fun K5 hj6 => ?_)
  · refine r_p (pc' := 76) (p_aload_n 0 (k := 0) (by decide +kernel) rfl) ?_
    refine r_p (pc' := 77) (p_iload_n 1 (k := 1) (by decide +kernel) rfl) ?_
    refine r_callVI mvX8_44 (ctX8_open a0 a1) (rcX8_open a0 a1) ⟨_, _, rfl⟩ (as := [vi a1]) (st := []) rfl rfl (by decide +kernel) rfl (Nat.le_of_ble_eq_true rfl) (Nat.le_of_ble_eq_true rfl) fun v24 s => ?_
    exact r_iret rfl rfl _ rfl rfl (by decide +kernel)
  · refine r_icmplt (off := 67) (tgt := 75) (by decide +kernel) (by decide) (fun h3 => ?_) (fun h3 => ?_)
    · exact hj6 () _
    · refine r_p (pc' := 12) (p_aload_n 0 (k := 0) (by decide +kernel) rfl) ?_
      refine r_gI flX8_28_8 (by decide +kernel) fun v7 => ?_
      refine r_ifle (off := 60) (tgt := 75) (by decide +kernel) (by decide) (fun h8 => ?_) (fun h8 => ?_)
      · exact hj6 () _
      · refine r_p (pc' := 19) (p_aload_n 0 (k := 0) (by decide +kernel) rfl) ?_
        refine r_gI flX8_28_8 (by decide +kernel) fun v9 => ?_
        refine r_p (pc' := 23) (p_iconst (n := 1) (v := 1) (by decide +kernel) rfl) ?_
        refine r_p (pc' := 24) (p_isub (by decide +kernel)) ?_
        refine r_p (pc' := 25) (p_aload_n 0 (k := 0) (by decide +kernel) rfl) ?_
        refine r_gI flX8_21_8 (by decide +kernel) fun v10 => ?_
        refine r_p (pc' := 29) (p_imul (by decide +kernel)) ?_
        refine r_letI fun v11 => ?_
        refine r_p (pc' := 30) (p_istore_n (k := 2) (lv' := [(2, vi v11), (0, vr a0), (1, vi a1)]) (by decide +kernel) (Nat.le_of_ble_eq_true rfl) rfl) ?_
        refine r_p (pc' := 31) (p_iload_n 0 (k := 2) (by decide +kernel) rfl) ?_
        refine r_join 65 (fun (x13 : Unit) => [(0, vr a0), (1, vi a1)]) (fun (x13 : Unit) => []) (fun x13 s => ?_) (fun K14 hj15 => ?_)
        · refine r_p (pc' := 66) (p_aload_n 0 (k := 0) (by decide +kernel) rfl) ?_
          refine r_p (pc' := 67) (p_dup rfl (by decide +kernel)) ?_
          refine r_gI flX8_28_8 (by decide +kernel) fun v23 => ?_
          refine r_p (pc' := 71) (p_iconst (n := 1) (v := 1) (by decide +kernel) rfl) ?_
          refine r_p (pc' := 72) (p_isub (by decide +kernel)) ?_
          refine r_pI fpX8_28_8 (fun h => by cases h) (by decide +kernel) fun s => ?_
          exact hj6 () _
        · refine r_iflt (off := 34) (tgt := 65) (by decide +kernel) (by decide) (fun h12 => ?_) (fun h12 => ?_)
          · refine r_sub (lv' := [(0, vr a0), (1, vi a1)]) [1, 2] rfl ?_
            exact hj15 () _
          · refine r_p (pc' := 35) (p_aload_n 1 (k := 0) (by decide +kernel) rfl) ?_
            refine r_gI flX8_21_8 (by decide +kernel) fun v16 => ?_
            refine r_p (pc' := 39) (p_iload_n 0 (k := 2) (by decide +kernel) rfl) ?_
            refine r_p (pc' := 40) (p_iadd (by decide +kernel)) ?_
            refine r_p (pc' := 41) (p_aload_n 1 (k := 0) (by decide +kernel) rfl) ?_
            refine r_gR flX8_24_8 (by decide +kernel) fun v17 => ?_
            refine r_lenI (by decide) (by decide +kernel) fun v18 => ?_
            refine r_icmpgt (off := 20) (tgt := 65) (by decide +kernel) (by decide) (fun h19 => ?_) (fun h19 => ?_)
            · refine r_sub (lv' := [(0, vr a0), (1, vi a1)]) [1, 2] rfl ?_
              exact hj15 () _
            · refine r_p (pc' := 49) (p_aload_n 1 (k := 0) (by decide +kernel) rfl) ?_
              refine r_gR flX8_24_8 (by decide +kernel) fun v20 => ?_
              refine r_p (pc' := 53) (p_aload_n 1 (k := 0) (by decide +kernel) rfl) ?_
              refine r_gI flX8_21_8 (by decide +kernel) fun v21 => ?_
              refine r_p (pc' := 57) (p_aload_n 1 (k := 0) (by decide +kernel) rfl) ?_
              refine r_gR flX8_24_8 (by decide +kernel) fun v22 => ?_
              refine r_p (pc' := 61) (p_iconst (n := 0) (v := 0) (by decide +kernel) rfl) ?_
              refine r_p (pc' := 62) (p_iload_n 0 (k := 2) (by decide +kernel) rfl) ?_
              refine r_cp (idx := 38) (tblG_of 757 (by decide +kernel) (by decide +kernel)) (Nat.le_of_ble_eq_true rfl) (Nat.le_of_ble_eq_true rfl) (by decide +kernel) fun s => ?_
              refine r_sub (lv' := [(0, vr a0), (1, vi a1)]) [1, 2] rfl ?_
              exact hj15 () _
