/-! PRINTED BY wip/whole/gen.py -/
def aX9_init : StA := (RX9, cX9_init, 1, none, yX9_init, 8, [])
theorem fpX9_9_9 : FP RX9 9 9 0 (.array .int) true := ⟨_, TX9, 2, "ToolCourt$Tape", tyX9, rfl, by decide, Or.inl (tblG_of 187 (by decide +kernel) (by decide +kernel)), Or.inl rfl, tyX9_ok, nmX9, rfl, by decide, by decide +kernel⟩
noncomputable def mX9_init (a0 : Nat) : MM Unit := onC 9 a0 (
  mbnd (nwI 0 400) fun (v1 : Nat) =>
  mbnd (pR 9 0 a0 v1) fun _ =>
  mret ()
  )
theorem rcX9_init (a0 : Nat) : Rcv 9 a0 (mX9_init a0) := fun s r h => ⟨(onC_some h).1, (onC_some h).2.1⟩
set_option maxHeartbeats 4000000 in
set_option maxRecDepth 100000 in
theorem ctX9_init (a0 : Nat) : Ct aX9_init [vr a0] (mX9_init a0) rU := by
  unfold mX9_init
  refine ct_onC (ct_intro (by decide +kernel) rfl (Nat.le_of_ble_eq_true rfl) fun Y s => ?_)
  refine r_sub (lv' := [(0, vr a0)]) [0] rfl ?_
  refine r_p (pc' := 1) (p_aload_n 0 (k := 0) (by decide +kernel) rfl) ?_
  refine r_p (pc' := 4) (p_obj (idx := 3) (tblG_of 186 (by decide +kernel) (by decide +kernel)) (Nat.le_of_ble_eq_true rfl) (Nat.le_of_ble_eq_true rfl) (by decide +kernel)) ?_
  refine r_p (pc' := 5) (p_aload_n 0 (k := 0) (by decide +kernel) rfl) ?_
  refine r_p (pc' := 8) (p_sipush (n := 400) (v := 400) (by decide +kernel) (by decide +kernel)) ?_
  refine r_nwI (at9 := .int) (ty := .int) rfl (by decide) (by decide +kernel) fun v1 s => ?_
  refine r_pR fpX9_9_9 (fun _ => rfl) (Or.inr ⟨_, rfl⟩) (by decide +kernel) fun s => ?_
  exact r_vret (y9 := ()) rfl rfl rfl (by decide +kernel)
def aX9_hasRoom : StA := (RX9, cX9_hasRoom, 2, some .boolean, yX9_hasRoom, 8, [])
theorem flX9_15_9 : FL RX9 15 9 1 := ⟨_, TX9, 2, "ToolCourt$Tape", rfl, by decide, Or.inl (tblG_of 188 (by decide +kernel) (by decide +kernel)), Or.inl rfl⟩
theorem flX9_9_9 : FL RX9 9 9 0 := ⟨_, TX9, 2, "ToolCourt$Tape", rfl, by decide, Or.inl (tblG_of 187 (by decide +kernel) (by decide +kernel)), Or.inl rfl⟩
noncomputable def mX9_hasRoom (a0 : Nat) (a1 : Int32) : MM Int32 := onC 9 a0 (
  mbnd (gI 9 1 a0) fun (v1 : Int32) =>
  mbnd (gR 9 0 a0) fun (v2 : Nat) =>
  mbnd (lenI 0 v2) fun (v3 : Int32) =>
  if v3 < (v1 + a1) then (
    mret 0
  ) else (
    mret 1
  )
  )
theorem rcX9_hasRoom (a0 : Nat) (a1 : Int32) : Rcv 9 a0 (mX9_hasRoom a0 a1) := fun s r h => ⟨(onC_some h).1, (onC_some h).2.1⟩
set_option maxHeartbeats 4000000 in
set_option maxRecDepth 100000 in
theorem ctX9_hasRoom (a0 : Nat) (a1 : Int32) : Ct aX9_hasRoom [vr a0, vi a1] (mX9_hasRoom a0 a1) rI := by
  unfold mX9_hasRoom
  refine ct_onC (ct_intro (by decide +kernel) rfl (Nat.le_of_ble_eq_true rfl) fun Y s => ?_)
  refine r_sub (lv' := [(0, vr a0), (1, vi a1)]) [0, 1] rfl ?_
  refine r_p (pc' := 1) (p_aload_n 0 (k := 0) (by decide +kernel) rfl) ?_
  refine r_gI flX9_15_9 (by decide +kernel) fun v1 => ?_
  refine r_p (pc' := 5) (p_iload_n 1 (k := 1) (by decide +kernel) rfl) ?_
  refine r_p (pc' := 6) (p_iadd (by decide +kernel)) ?_
  refine r_p (pc' := 7) (p_aload_n 0 (k := 0) (by decide +kernel) rfl) ?_
  refine r_gR flX9_9_9 (by decide +kernel) fun v2 => ?_
  refine r_lenI (by decide) (by decide +kernel) fun v3 => ?_
  refine r_icmpgt (off := 7) (tgt := 18) (by decide +kernel) (by decide) (fun h4 => ?_) (fun h4 => ?_)
  · refine r_p (pc' := 19) (p_iconst (n := 0) (v := 0) (by decide +kernel) rfl) ?_
    exact r_iret rfl rfl _ rfl rfl (by decide +kernel)
  · refine r_p (pc' := 15) (p_iconst (n := 1) (v := 1) (by decide +kernel) rfl) ?_
    refine r_p (pc' := 19) (p_goto (off := 4) (tgt := 19) (by decide +kernel) (by decide)) ?_
    exact r_iret rfl rfl _ rfl rfl (by decide +kernel)
def aX9_append : StA := (RX9, cX9_append, 3, none, yX9_append, 8, [])
theorem fpX9_15_9 : FP RX9 15 9 1 .int false := ⟨_, TX9, 2, "ToolCourt$Tape", tyX9, rfl, by decide, Or.inl (tblG_of 188 (by decide +kernel) (by decide +kernel)), Or.inl rfl, tyX9_ok, nmX9, rfl, by decide, by decide +kernel⟩
noncomputable def mX9_append_L3 (a0 : Nat) (a1 : Int32) (x1 : Int32) : MM ((Int32) ⊕ (Unit)) :=
  if x1 < 0 then (
    mret (.inr ())
  ) else (
    mbnd (gI 9 1 a0) fun (v6 : Int32) =>
    mbnd (gR 9 0 a0) fun (v7 : Nat) =>
    mbnd (lenI 0 v7) fun (v8 : Int32) =>
    mbnd (α := Unit) (
      if v8 ≤ v6 then (
        mret ()
      ) else (
        mbnd (gR 9 0 a0) fun (v13 : Nat) =>
        mbnd (gI 9 1 a0) fun (v14 : Int32) =>
        mbnd (stI 0 v13 v14 ((iushr a1 x1) &&& 255)) fun _ =>
        mbnd (gI 9 1 a0) fun (v15 : Int32) =>
        mbnd (pI 9 1 a0 (v15 + 1)) fun _ =>
        mret ()
      )
    ) fun (x10 : Unit) =>
    mret (.inl (x1 + (-8)))
  )
noncomputable def mX9_append (a0 : Nat) (a1 : Int32) : MM Unit := onC 9 a0 (
  mbnd (loopM (mX9_append_L3 a0 a1) 24) fun (e16 : Unit) =>
  mret ()
  )
theorem rcX9_append (a0 : Nat) (a1 : Int32) : Rcv 9 a0 (mX9_append a0 a1) := fun s r h => ⟨(onC_some h).1, (onC_some h).2.1⟩
set_option maxHeartbeats 4000000 in
set_option maxRecDepth 100000 in
theorem ctX9_append (a0 : Nat) (a1 : Int32) : Ct aX9_append [vr a0, vi a1] (mX9_append a0 a1) rU := by
  unfold mX9_append
  refine ct_onC (ct_intro (by decide +kernel) rfl (Nat.le_of_ble_eq_true rfl) fun Y s => ?_)
  refine r_sub (lv' := [(0, vr a0), (1, vi a1)]) [0, 1] rfl ?_
  refine r_p (pc' := 2) (p_bipush (n := 24) (v := 24) (by decide +kernel) (by decide +kernel)) ?_
  refine r_p (pc' := 3) (p_istore_n (k := 2) (lv' := [(2, vi 24), (0, vr a0), (1, vi a1)]) (by decide +kernel) (Nat.le_of_ble_eq_true rfl) rfl) ?_
  refine r_sub (lv' := [(0, vr a0), (1, vi a1), (2, vi 24)]) [1, 2, 0] rfl ?_
  refine r_loop2 (fun _ => 51) (fun (e16 : Unit) => []) (fun (x1 : Int32) => [(0, vr a0), (1, vi a1), (2, vi x1)]) (fun e16 s => ?_) (fun K2 hb3 he4 x1 s => ?_) 24 _
  · exact r_vret (y9 := ()) rfl rfl rfl (by decide +kernel)
  · unfold mX9_append_L3
    refine r_p (pc' := 4) (p_iload_n 2 (k := 2) (by decide +kernel) rfl) ?_
    refine r_iflt (off := 47) (tgt := 51) (by decide +kernel) (by decide) (fun h5 => ?_) (fun h5 => ?_)
    · refine r_sub (lv' := []) [] rfl ?_
      exact he4 () _
    · refine r_p (pc' := 8) (p_aload_n 0 (k := 0) (by decide +kernel) rfl) ?_
      refine r_gI flX9_15_9 (by decide +kernel) fun v6 => ?_
      refine r_p (pc' := 12) (p_aload_n 0 (k := 0) (by decide +kernel) rfl) ?_
      refine r_gR flX9_9_9 (by decide +kernel) fun v7 => ?_
      refine r_lenI (by decide) (by decide +kernel) fun v8 => ?_
      refine r_join 45 (fun (x10 : Unit) => [(0, vr a0), (1, vi a1), (2, vi x1)]) (fun (x10 : Unit) => []) (fun x10 s => ?_) (fun K11 hj12 => ?_)
      · refine r_p (pc' := 48) (p_iinc 2 (i := 2) (n := -8) (x := x1) (v := x1 + (-8)) (lv' := [(2, vi (x1 + (-8))), (0, vr a0), (1, vi a1)]) (by decide +kernel) rfl rfl (Nat.le_of_ble_eq_true rfl) rfl) ?_
        refine r_p (pc' := 3) (p_goto (off := -45) (tgt := 3) (by decide +kernel) (by decide)) ?_
        refine r_sub (lv' := [(0, vr a0), (1, vi a1), (2, vi (x1 + (-8)))]) [1, 2, 0] rfl ?_
        exact hb3 (x1 + (-8)) _
      · refine r_icmpge (off := 29) (tgt := 45) (by decide +kernel) (by decide) (fun h9 => ?_) (fun h9 => ?_)
        · exact hj12 () _
        · refine r_p (pc' := 20) (p_aload_n 0 (k := 0) (by decide +kernel) rfl) ?_
          refine r_gR flX9_9_9 (by decide +kernel) fun v13 => ?_
          refine r_p (pc' := 24) (p_aload_n 0 (k := 0) (by decide +kernel) rfl) ?_
          refine r_gI flX9_15_9 (by decide +kernel) fun v14 => ?_
          refine r_p (pc' := 28) (p_iload_n 1 (k := 1) (by decide +kernel) rfl) ?_
          refine r_p (pc' := 29) (p_iload_n 2 (k := 2) (by decide +kernel) rfl) ?_
          refine r_p (pc' := 30) (p_iushr (by decide +kernel)) ?_
          refine r_p (pc' := 33) (p_sipush (n := 255) (v := 255) (by decide +kernel) (by decide +kernel)) ?_
          refine r_p (pc' := 34) (p_iand (by decide +kernel)) ?_
          refine r_stI0 (by decide +kernel) fun s => ?_
          refine r_p (pc' := 36) (p_aload_n 0 (k := 0) (by decide +kernel) rfl) ?_
          refine r_p (pc' := 37) (p_dup rfl (by decide +kernel)) ?_
          refine r_gI flX9_15_9 (by decide +kernel) fun v15 => ?_
          refine r_p (pc' := 41) (p_iconst (n := 1) (v := 1) (by decide +kernel) rfl) ?_
          refine r_p (pc' := 42) (p_iadd (by decide +kernel)) ?_
          refine r_pI fpX9_15_9 (fun h => by cases h) (by decide +kernel) fun s => ?_
          exact hj12 () _
def aX9_cut : StA := (RX9, cX9_cut, 2, some .boolean, yX9_cut, 8, [])
noncomputable def mX9_cut (a0 : Nat) (a1 : Int32) : MM Int32 := onC 9 a0 (
  if a1 < 0 then (
    mret 0
  ) else (
    mbnd (gI 9 1 a0) fun (v2 : Int32) =>
    if a1 ≤ v2 then (
      mbnd (pI 9 1 a0 a1) fun _ =>
      mret 1
    ) else (
      mret 0
    )
  )
  )
theorem rcX9_cut (a0 : Nat) (a1 : Int32) : Rcv 9 a0 (mX9_cut a0 a1) := fun s r h => ⟨(onC_some h).1, (onC_some h).2.1⟩
set_option maxHeartbeats 4000000 in
set_option maxRecDepth 100000 in
theorem ctX9_cut (a0 : Nat) (a1 : Int32) : Ct aX9_cut [vr a0, vi a1] (mX9_cut a0 a1) rI := by
  unfold mX9_cut
  refine ct_onC (ct_intro (by decide +kernel) rfl (Nat.le_of_ble_eq_true rfl) fun Y s => ?_)
  refine r_sub (lv' := [(0, vr a0), (1, vi a1)]) [0, 1] rfl ?_
  refine r_p (pc' := 1) (p_iload_n 1 (k := 1) (by decide +kernel) rfl) ?_
  refine r_iflt (off := 11) (tgt := 12) (by decide +kernel) (by decide) (fun h1 => ?_) (fun h1 => ?_)
  · refine r_p (pc' := 13) (p_iconst (n := 0) (v := 0) (by decide +kernel) rfl) ?_
    exact r_iret rfl rfl _ rfl rfl (by decide +kernel)
  · refine r_p (pc' := 5) (p_iload_n 1 (k := 1) (by decide +kernel) rfl) ?_
    refine r_p (pc' := 6) (p_aload_n 0 (k := 0) (by decide +kernel) rfl) ?_
    refine r_gI flX9_15_9 (by decide +kernel) fun v2 => ?_
    refine r_icmple (off := 5) (tgt := 14) (by decide +kernel) (by decide) (fun h3 => ?_) (fun h3 => ?_)
    · refine r_p (pc' := 15) (p_aload_n 0 (k := 0) (by decide +kernel) rfl) ?_
      refine r_p (pc' := 16) (p_iload_n 1 (k := 1) (by decide +kernel) rfl) ?_
      refine r_pI fpX9_15_9 (fun h => by cases h) (by decide +kernel) fun s => ?_
      refine r_p (pc' := 20) (p_iconst (n := 1) (v := 1) (by decide +kernel) rfl) ?_
      exact r_iret rfl rfl _ rfl rfl (by decide +kernel)
    · refine r_p (pc' := 13) (p_iconst (n := 0) (v := 0) (by decide +kernel) rfl) ?_
      exact r_iret rfl rfl _ rfl rfl (by decide +kernel)
def aX9_byteAt : StA := (RX9, cX9_byteAt, 2, some .int, yX9_byteAt, 8, [])
noncomputable def mX9_byteAt (a0 : Nat) (a1 : Int32) : MM Int32 := onC 9 a0 (
  if a1 < 0 then (
    mret (-1)
  ) else (
    mbnd (gI 9 1 a0) fun (v2 : Int32) =>
    if v2 ≤ a1 then (
      mret (-1)
    ) else (
      mbnd (gR 9 0 a0) fun (v4 : Nat) =>
      mbnd (lenI 0 v4) fun (v5 : Int32) =>
      if v5 ≤ a1 then (
        mret (-1)
      ) else (
        mbnd (gR 9 0 a0) fun (v7 : Nat) =>
        mbnd (ldI 0 v7 a1) fun (v8 : Int32) =>
        mret v8
      )
    )
  )
  )
theorem rcX9_byteAt (a0 : Nat) (a1 : Int32) : Rcv 9 a0 (mX9_byteAt a0 a1) := fun s r h => ⟨(onC_some h).1, (onC_some h).2.1⟩
set_option maxHeartbeats 4000000 in
set_option maxRecDepth 100000 in
theorem ctX9_byteAt (a0 : Nat) (a1 : Int32) : Ct aX9_byteAt [vr a0, vi a1] (mX9_byteAt a0 a1) rI := by
  unfold mX9_byteAt
  refine ct_onC (ct_intro (by decide +kernel) rfl (Nat.le_of_ble_eq_true rfl) fun Y s => ?_)
  refine r_sub (lv' := [(0, vr a0), (1, vi a1)]) [0, 1] rfl ?_
  refine r_p (pc' := 1) (p_iload_n 1 (k := 1) (by decide +kernel) rfl) ?_
  refine r_iflt (off := 29) (tgt := 30) (by decide +kernel) (by decide) (fun h1 => ?_) (fun h1 => ?_)
  · refine r_p (pc' := 31) (p_iconst (n := -1) (v := -1) (by decide +kernel) rfl) ?_
    exact r_iret rfl rfl _ rfl rfl (by decide +kernel)
  · refine r_p (pc' := 5) (p_iload_n 1 (k := 1) (by decide +kernel) rfl) ?_
    refine r_p (pc' := 6) (p_aload_n 0 (k := 0) (by decide +kernel) rfl) ?_
    refine r_gI flX9_15_9 (by decide +kernel) fun v2 => ?_
    refine r_icmpge (off := 21) (tgt := 30) (by decide +kernel) (by decide) (fun h3 => ?_) (fun h3 => ?_)
    · refine r_p (pc' := 31) (p_iconst (n := -1) (v := -1) (by decide +kernel) rfl) ?_
      exact r_iret rfl rfl _ rfl rfl (by decide +kernel)
    · refine r_p (pc' := 13) (p_iload_n 1 (k := 1) (by decide +kernel) rfl) ?_
      refine r_p (pc' := 14) (p_aload_n 0 (k := 0) (by decide +kernel) rfl) ?_
      refine r_gR flX9_9_9 (by decide +kernel) fun v4 => ?_
      refine r_lenI (by decide) (by decide +kernel) fun v5 => ?_
      refine r_icmpge (off := 12) (tgt := 30) (by decide +kernel) (by decide) (fun h6 => ?_) (fun h6 => ?_)
      · refine r_p (pc' := 31) (p_iconst (n := -1) (v := -1) (by decide +kernel) rfl) ?_
        exact r_iret rfl rfl _ rfl rfl (by decide +kernel)
      · refine r_p (pc' := 22) (p_aload_n 0 (k := 0) (by decide +kernel) rfl) ?_
        refine r_gR flX9_9_9 (by decide +kernel) fun v7 => ?_
        refine r_p (pc' := 26) (p_iload_n 1 (k := 1) (by decide +kernel) rfl) ?_
        refine r_ldI0 (by decide +kernel) fun v8 => ?_
        refine r_p (pc' := 31) (p_goto (off := 4) (tgt := 31) (by decide +kernel) (by decide)) ?_
        exact r_iret rfl rfl _ rfl rfl (by decide +kernel)
def aX11_inSet : StA := (RX11, cX11_inSet, 2, some .boolean, yX11_inSet, 8, [])
noncomputable def mX11_inSet (a0 : Int32) (a1 : Int32) : MM Int32 :=
  if a1 < 0 then (
    mret 0
  ) else (
    if 32 ≤ a1 then (
      mret 0
    ) else (
      if ((iushr a0 a1) &&& 1) = 0 then (
        mret 0
      ) else (
        mret 1
      )
    )
  )
set_option maxHeartbeats 4000000 in
set_option maxRecDepth 100000 in
theorem ctX11_inSet (a0 : Int32) (a1 : Int32) : Ct aX11_inSet [vi a0, vi a1] (mX11_inSet a0 a1) rI := by
  unfold mX11_inSet
  refine ct_intro (by decide +kernel) rfl (Nat.le_of_ble_eq_true rfl) fun Y s => ?_
  refine r_sub (lv' := [(0, vi a0), (1, vi a1)]) [0, 1] rfl ?_
  refine r_p (pc' := 1) (p_iload_n 1 (k := 1) (by decide +kernel) rfl) ?_
  refine r_iflt (off := 21) (tgt := 22) (by decide +kernel) (by decide) (fun h1 => ?_) (fun h1 => ?_)
  · refine r_p (pc' := 23) (p_iconst (n := 0) (v := 0) (by decide +kernel) rfl) ?_
    exact r_iret rfl rfl _ rfl rfl (by decide +kernel)
  · refine r_p (pc' := 5) (p_iload_n 1 (k := 1) (by decide +kernel) rfl) ?_
    refine r_p (pc' := 7) (p_bipush (n := 32) (v := 32) (by decide +kernel) (by decide +kernel)) ?_
    refine r_icmpge (off := 15) (tgt := 22) (by decide +kernel) (by decide) (fun h2 => ?_) (fun h2 => ?_)
    · refine r_p (pc' := 23) (p_iconst (n := 0) (v := 0) (by decide +kernel) rfl) ?_
      exact r_iret rfl rfl _ rfl rfl (by decide +kernel)
    · refine r_p (pc' := 11) (p_iload_n 0 (k := 0) (by decide +kernel) rfl) ?_
      refine r_p (pc' := 12) (p_iload_n 1 (k := 1) (by decide +kernel) rfl) ?_
      refine r_p (pc' := 13) (p_iushr (by decide +kernel)) ?_
      refine r_p (pc' := 14) (p_iconst (n := 1) (v := 1) (by decide +kernel) rfl) ?_
      refine r_p (pc' := 15) (p_iand (by decide +kernel)) ?_
      refine r_ifeq (off := 7) (tgt := 22) (by decide +kernel) (by decide) (fun h3 => ?_) (fun h3 => ?_)
      · refine r_p (pc' := 23) (p_iconst (n := 0) (v := 0) (by decide +kernel) rfl) ?_
        exact r_iret rfl rfl _ rfl rfl (by decide +kernel)
      · refine r_p (pc' := 19) (p_iconst (n := 1) (v := 1) (by decide +kernel) rfl) ?_
        refine r_p (pc' := 23) (p_goto (off := 4) (tgt := 23) (by decide +kernel) (by decide)) ?_
        exact r_iret rfl rfl _ rfl rfl (by decide +kernel)
def aJ6_bitCount_0f7a4 : StA := (RJ6, cJ6_bitCount_0f7a4, 1, some .int, yJ6_bitCount_0f7a4, 8, [])
noncomputable def mJ6_bitCount_0f7a4 (a0 : Int32) : MM Int32 :=
  mbnd (mret (a0 - ((iushr a0 1) &&& 1431655765))) fun (v1 : Int32) =>
  mbnd (mret ((v1 &&& 858993459) + ((iushr v1 2) &&& 858993459))) fun (v2 : Int32) =>
  mbnd (mret ((v2 + (iushr v2 4)) &&& 252645135)) fun (v3 : Int32) =>
  mbnd (mret (v3 + (iushr v3 8))) fun (v4 : Int32) =>
  mbnd (mret (v4 + (iushr v4 16))) fun (v5 : Int32) =>
  mret (v5 &&& 63)
set_option maxHeartbeats 4000000 in
set_option maxRecDepth 100000 in
theorem ctJ6_bitCount_0f7a4 (a0 : Int32) : Ct aJ6_bitCount_0f7a4 [vi a0] (mJ6_bitCount_0f7a4 a0) rI := by
  unfold mJ6_bitCount_0f7a4
  refine ct_intro (by decide +kernel) rfl (Nat.le_of_ble_eq_true rfl) fun Y s => ?_
  refine r_sub (lv' := [(0, vi a0)]) [0] rfl ?_
  refine r_p (pc' := 1) (p_iload_n 0 (k := 0) (by decide +kernel) rfl) ?_
  refine r_p (pc' := 2) (p_iload_n 0 (k := 0) (by decide +kernel) rfl) ?_
  refine r_p (pc' := 3) (p_iconst (n := 1) (v := 1) (by decide +kernel) rfl) ?_
  refine r_p (pc' := 4) (p_iushr (by decide +kernel)) ?_
  refine r_p (pc' := 7) (p_ldcw (i := 265) (v := 1431655765) (by decide +kernel) (tblG_of 1483 (by decide +kernel) (by decide +kernel))) ?_
  refine r_p (pc' := 8) (p_iand (by decide +kernel)) ?_
  refine r_p (pc' := 9) (p_isub (by decide +kernel)) ?_
  refine r_letI fun v1 => ?_
  refine r_p (pc' := 10) (p_istore_n (k := 0) (lv' := [(0, vi v1)]) (by decide +kernel) (Nat.le_of_ble_eq_true rfl) rfl) ?_
  refine r_p (pc' := 11) (p_iload_n 0 (k := 0) (by decide +kernel) rfl) ?_
  refine r_p (pc' := 14) (p_ldcw (i := 266) (v := 858993459) (by decide +kernel) (tblG_of 1484 (by decide +kernel) (by decide +kernel))) ?_
  refine r_p (pc' := 15) (p_iand (by decide +kernel)) ?_
  refine r_p (pc' := 16) (p_iload_n 0 (k := 0) (by decide +kernel) rfl) ?_
  refine r_p (pc' := 17) (p_iconst (n := 2) (v := 2) (by decide +kernel) rfl) ?_
  refine r_p (pc' := 18) (p_iushr (by decide +kernel)) ?_
  refine r_p (pc' := 21) (p_ldcw (i := 266) (v := 858993459) (by decide +kernel) (tblG_of 1484 (by decide +kernel) (by decide +kernel))) ?_
  refine r_p (pc' := 22) (p_iand (by decide +kernel)) ?_
  refine r_p (pc' := 23) (p_iadd (by decide +kernel)) ?_
  refine r_letI fun v2 => ?_
  refine r_p (pc' := 24) (p_istore_n (k := 0) (lv' := [(0, vi v2)]) (by decide +kernel) (Nat.le_of_ble_eq_true rfl) rfl) ?_
  refine r_p (pc' := 25) (p_iload_n 0 (k := 0) (by decide +kernel) rfl) ?_
  refine r_p (pc' := 26) (p_iload_n 0 (k := 0) (by decide +kernel) rfl) ?_
  refine r_p (pc' := 27) (p_iconst (n := 4) (v := 4) (by decide +kernel) rfl) ?_
  refine r_p (pc' := 28) (p_iushr (by decide +kernel)) ?_
  refine r_p (pc' := 29) (p_iadd (by decide +kernel)) ?_
  refine r_p (pc' := 32) (p_ldcw (i := 267) (v := 252645135) (by decide +kernel) (tblG_of 1485 (by decide +kernel) (by decide +kernel))) ?_
  refine r_p (pc' := 33) (p_iand (by decide +kernel)) ?_
  refine r_letI fun v3 => ?_
  refine r_p (pc' := 34) (p_istore_n (k := 0) (lv' := [(0, vi v3)]) (by decide +kernel) (Nat.le_of_ble_eq_true rfl) rfl) ?_
  refine r_p (pc' := 35) (p_iload_n 0 (k := 0) (by decide +kernel) rfl) ?_
  refine r_p (pc' := 36) (p_iload_n 0 (k := 0) (by decide +kernel) rfl) ?_
  refine r_p (pc' := 38) (p_bipush (n := 8) (v := 8) (by decide +kernel) (by decide +kernel)) ?_
  refine r_p (pc' := 39) (p_iushr (by decide +kernel)) ?_
  refine r_p (pc' := 40) (p_iadd (by decide +kernel)) ?_
  refine r_letI fun v4 => ?_
  refine r_p (pc' := 41) (p_istore_n (k := 0) (lv' := [(0, vi v4)]) (by decide +kernel) (Nat.le_of_ble_eq_true rfl) rfl) ?_
  refine r_p (pc' := 42) (p_iload_n 0 (k := 0) (by decide +kernel) rfl) ?_
  refine r_p (pc' := 43) (p_iload_n 0 (k := 0) (by decide +kernel) rfl) ?_
  refine r_p (pc' := 45) (p_bipush (n := 16) (v := 16) (by decide +kernel) (by decide +kernel)) ?_
  refine r_p (pc' := 46) (p_iushr (by decide +kernel)) ?_
  refine r_p (pc' := 47) (p_iadd (by decide +kernel)) ?_
  refine r_letI fun v5 => ?_
  refine r_p (pc' := 48) (p_istore_n (k := 0) (lv' := [(0, vi v5)]) (by decide +kernel) (Nat.le_of_ble_eq_true rfl) rfl) ?_
  refine r_p (pc' := 49) (p_iload_n 0 (k := 0) (by decide +kernel) rfl) ?_
  refine r_p (pc' := 51) (p_bipush (n := 63) (v := 63) (by decide +kernel) (by decide +kernel)) ?_
  refine r_p (pc' := 52) (p_iand (by decide +kernel)) ?_
  exact r_iret rfl rfl _ rfl rfl (by decide +kernel)
