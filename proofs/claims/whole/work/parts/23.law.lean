/-! PRINTED BY wip/whole/gen.py -/
def aX4_init : StA := (RX4, cX4_init, 3, none, yX4_init, 8, [])
theorem fpX4_9_4 : FP RX4 9 4 2 (.array .int) true := ⟨_, TX4, 3, "ToolCourt$Law", tyX4, rfl, by decide, Or.inl (tblG_of 299 (by decide +kernel) (by decide +kernel)), Or.inl rfl, tyX4_ok, nmX4, rfl, by decide, by decide +kernel⟩
theorem fpX4_15_4 : FP RX4 15 4 0 .int true := ⟨_, TX4, 3, "ToolCourt$Law", tyX4, rfl, by decide, Or.inl (tblG_of 296 (by decide +kernel) (by decide +kernel)), Or.inl rfl, tyX4_ok, nmX4, rfl, by decide, by decide +kernel⟩
theorem fpX4_19_4 : FP RX4 19 4 1 (.array .int) true := ⟨_, TX4, 3, "ToolCourt$Law", tyX4, rfl, by decide, Or.inl (tblG_of 298 (by decide +kernel) (by decide +kernel)), Or.inl rfl, tyX4_ok, nmX4, rfl, by decide, by decide +kernel⟩
noncomputable def mX4_init (a0 : Nat) (a1 : Int32) (a2 : Nat) : MM Unit := onC 4 a0 (
  mbnd (nwI 0 40) fun (v1 : Nat) =>
  mbnd (pR 4 2 a0 v1) fun _ =>
  mbnd (pI 4 0 a0 a1) fun _ =>
  mbnd (pR 4 1 a0 a2) fun _ =>
  mret ()
  )
theorem rcX4_init (a0 : Nat) (a1 : Int32) (a2 : Nat) : Rcv 4 a0 (mX4_init a0 a1 a2) := fun s r h => ⟨(onC_some h).1, (onC_some h).2.1⟩
set_option maxHeartbeats 4000000 in
set_option maxRecDepth 100000 in
theorem ctX4_init (a0 : Nat) (a1 : Int32) (a2 : Nat) : Ct aX4_init [vr a0, vi a1, vr a2] (mX4_init a0 a1 a2) rU := by
  unfold mX4_init
  refine ct_onC (ct_intro (by decide +kernel) rfl (Nat.le_of_ble_eq_true rfl) fun Y s => ?_)
  refine r_sub (lv' := [(0, vr a0), (1, vi a1), (2, vr a2)]) [0, 1, 2] rfl ?_
  refine r_p (pc' := 1) (p_aload_n 0 (k := 0) (by decide +kernel) rfl) ?_
  refine r_p (pc' := 4) (p_obj (idx := 3) (tblG_of 295 (by decide +kernel) (by decide +kernel)) (Nat.le_of_ble_eq_true rfl) (Nat.le_of_ble_eq_true rfl) (by decide +kernel)) ?_
  refine r_p (pc' := 5) (p_aload_n 0 (k := 0) (by decide +kernel) rfl) ?_
  refine r_p (pc' := 7) (p_bipush (n := 40) (v := 40) (by decide +kernel) (by decide +kernel)) ?_
  refine r_nwI (at9 := .int) (ty := .int) rfl (by decide) (by decide +kernel) fun v1 s => ?_
  refine r_pR fpX4_9_4 (fun _ => rfl) (Or.inr ⟨_, rfl⟩) (by decide +kernel) fun s => ?_
  refine r_p (pc' := 13) (p_aload_n 0 (k := 0) (by decide +kernel) rfl) ?_
  refine r_p (pc' := 14) (p_iload_n 1 (k := 1) (by decide +kernel) rfl) ?_
  refine r_pI fpX4_15_4 (fun _ => rfl) (by decide +kernel) fun s => ?_
  refine r_p (pc' := 18) (p_aload_n 0 (k := 0) (by decide +kernel) rfl) ?_
  refine r_p (pc' := 19) (p_aload_n 2 (k := 2) (by decide +kernel) rfl) ?_
  refine r_pR fpX4_19_4 (fun _ => rfl) (Or.inr ⟨_, rfl⟩) (by decide +kernel) fun s => ?_
  exact r_vret (y9 := ()) rfl rfl rfl (by decide +kernel)
def aX4_unwritten : StA := (RX4, cX4_unwritten, 2, some .int, yX4_unwritten, 8, [])
noncomputable def mX4_unwritten (a0 : Int32) (a1 : Int32) : MM Int32 :=
  if a1 = 1 then (
    if a0 = 0 then (
      mret 100
    ) else (
      if a0 = 3 then (
        mret 1
      ) else (
        mret 0
      )
    )
  ) else (
    mret 0
  )
set_option maxHeartbeats 4000000 in
set_option maxRecDepth 100000 in
theorem ctX4_unwritten (a0 : Int32) (a1 : Int32) : Ct aX4_unwritten [vi a0, vi a1] (mX4_unwritten a0 a1) rI := by
  unfold mX4_unwritten
  refine ct_intro (by decide +kernel) rfl (Nat.le_of_ble_eq_true rfl) fun Y s => ?_
  refine r_sub (lv' := [(0, vi a0), (1, vi a1)]) [0, 1] rfl ?_
  refine r_p (pc' := 1) (p_iload_n 1 (k := 1) (by decide +kernel) rfl) ?_
  refine r_p (pc' := 2) (p_iconst (n := 1) (v := 1) (by decide +kernel) rfl) ?_
  refine r_icmpeq (off := 5) (tgt := 7) (by decide +kernel) (by decide) (fun h1 => ?_) (fun h1 => ?_)
  · refine r_p (pc' := 8) (p_iload_n 0 (k := 0) (by decide +kernel) rfl) ?_
    refine r_ifne (off := 8) (tgt := 16) (by decide +kernel) (by decide) (fun h2 => ?_) (fun h2 => ?_)
    · refine r_p (pc' := 13) (p_bipush (n := 100) (v := 100) (by decide +kernel) (by decide +kernel)) ?_
      refine r_p (pc' := 26) (p_goto (off := 13) (tgt := 26) (by decide +kernel) (by decide)) ?_
      exact r_iret rfl rfl _ rfl rfl (by decide +kernel)
    · refine r_p (pc' := 17) (p_iload_n 0 (k := 0) (by decide +kernel) rfl) ?_
      refine r_p (pc' := 18) (p_iconst (n := 3) (v := 3) (by decide +kernel) rfl) ?_
      refine r_icmpne (off := 7) (tgt := 25) (by decide +kernel) (by decide) (fun h3 => ?_) (fun h3 => ?_)
      · refine r_p (pc' := 22) (p_iconst (n := 1) (v := 1) (by decide +kernel) rfl) ?_
        refine r_p (pc' := 26) (p_goto (off := 4) (tgt := 26) (by decide +kernel) (by decide)) ?_
        exact r_iret rfl rfl _ rfl rfl (by decide +kernel)
      · refine r_p (pc' := 26) (p_iconst (n := 0) (v := 0) (by decide +kernel) rfl) ?_
        exact r_iret rfl rfl _ rfl rfl (by decide +kernel)
  · refine r_p (pc' := 6) (p_iconst (n := 0) (v := 0) (by decide +kernel) rfl) ?_
    exact r_iret rfl rfl _ rfl rfl (by decide +kernel)
def aX4_asked : StA := (RX4, cX4_asked, 3, some .int, yX4_asked, 8, [])
noncomputable def mX4_asked (a0 : Int32) (a1 : Nat) : MM Int32 :=
  if 1000 ≤ a0 then (
    if a0 < 1020 then (
      mbnd (mret (a0 - 1000)) fun (v3 : Int32) =>
      mbnd (lenI 0 a1) fun (v4 : Int32) =>
      if v4 ≤ v3 then (
        mret 0
      ) else (
        mbnd (ldI 0 a1 v3) fun (v6 : Int32) =>
        mret v6
      )
    ) else (
      mbnd (ldI 0 a1 8) fun (v7 : Int32) =>
      if v7 = (a0 - 1020) then (
        mret 1
      ) else (
        mret 0
      )
    )
  ) else (
    mret a0
  )
set_option maxHeartbeats 4000000 in
set_option maxRecDepth 100000 in
theorem ctX4_asked (a0 : Int32) (a1 : Nat) : Ct aX4_asked [vi a0, vr a1] (mX4_asked a0 a1) rI := by
  unfold mX4_asked
  refine ct_intro (by decide +kernel) rfl (Nat.le_of_ble_eq_true rfl) fun Y s => ?_
  refine r_sub (lv' := [(0, vi a0), (1, vr a1)]) [0, 1] rfl ?_
  refine r_p (pc' := 1) (p_iload_n 0 (k := 0) (by decide +kernel) rfl) ?_
  refine r_p (pc' := 4) (p_sipush (n := 1000) (v := 1000) (by decide +kernel) (by decide +kernel)) ?_
  refine r_icmpge (off := 5) (tgt := 9) (by decide +kernel) (by decide) (fun h1 => ?_) (fun h1 => ?_)
  · refine r_p (pc' := 10) (p_iload_n 0 (k := 0) (by decide +kernel) rfl) ?_
    refine r_p (pc' := 13) (p_sipush (n := 1020) (v := 1020) (by decide +kernel) (by decide +kernel)) ?_
    refine r_icmplt (off := 21) (tgt := 34) (by decide +kernel) (by decide) (fun h2 => ?_) (fun h2 => ?_)
    · refine r_p (pc' := 35) (p_iload_n 0 (k := 0) (by decide +kernel) rfl) ?_
      refine r_p (pc' := 38) (p_sipush (n := 1000) (v := 1000) (by decide +kernel) (by decide +kernel)) ?_
      refine r_p (pc' := 39) (p_isub (by decide +kernel)) ?_
      refine r_letI fun v3 => ?_
      refine r_p (pc' := 40) (p_istore_n (k := 2) (lv' := [(2, vi v3), (0, vi a0), (1, vr a1)]) (by decide +kernel) (Nat.le_of_ble_eq_true rfl) rfl) ?_
      refine r_p (pc' := 41) (p_iload_n 0 (k := 2) (by decide +kernel) rfl) ?_
      refine r_p (pc' := 42) (p_aload_n 2 (k := 1) (by decide +kernel) rfl) ?_
      refine r_lenI (by decide) (by decide +kernel) fun v4 => ?_
      refine r_icmpge (off := 9) (tgt := 52) (by decide +kernel) (by decide) (fun h5 => ?_) (fun h5 => ?_)
      · refine r_p (pc' := 53) (p_iconst (n := 0) (v := 0) (by decide +kernel) rfl) ?_
        exact r_iret rfl rfl _ rfl rfl (by decide +kernel)
      · refine r_p (pc' := 47) (p_aload_n 2 (k := 1) (by decide +kernel) rfl) ?_
        refine r_p (pc' := 48) (p_iload_n 0 (k := 2) (by decide +kernel) rfl) ?_
        refine r_ldI0 (by decide +kernel) fun v6 => ?_
        refine r_p (pc' := 53) (p_goto (off := 4) (tgt := 53) (by decide +kernel) (by decide)) ?_
        exact r_iret rfl rfl _ rfl rfl (by decide +kernel)
    · refine r_p (pc' := 17) (p_aload_n 1 (k := 1) (by decide +kernel) rfl) ?_
      refine r_p (pc' := 19) (p_bipush (n := 8) (v := 8) (by decide +kernel) (by decide +kernel)) ?_
      refine r_ldI0 (by decide +kernel) fun v7 => ?_
      refine r_p (pc' := 21) (p_iload_n 0 (k := 0) (by decide +kernel) rfl) ?_
      refine r_p (pc' := 24) (p_sipush (n := 1020) (v := 1020) (by decide +kernel) (by decide +kernel)) ?_
      refine r_p (pc' := 25) (p_isub (by decide +kernel)) ?_
      refine r_icmpne (off := 7) (tgt := 32) (by decide +kernel) (by decide) (fun h8 => ?_) (fun h8 => ?_)
      · refine r_p (pc' := 29) (p_iconst (n := 1) (v := 1) (by decide +kernel) rfl) ?_
        refine r_p (pc' := 33) (p_goto (off := 4) (tgt := 33) (by decide +kernel) (by decide)) ?_
        exact r_iret rfl rfl _ rfl rfl (by decide +kernel)
      · refine r_p (pc' := 33) (p_iconst (n := 0) (v := 0) (by decide +kernel) rfl) ?_
        exact r_iret rfl rfl _ rfl rfl (by decide +kernel)
  · refine r_p (pc' := 8) (p_iload_n 0 (k := 0) (by decide +kernel) rfl) ?_
    exact r_iret rfl rfl _ rfl rfl (by decide +kernel)
def aX4_joined : StA := (RX4, cX4_joined, 3, some .int, yX4_joined, 8, [])
noncomputable def mX4_joined (a0 : Int32) (a1 : Int32) (a2 : Int32) : MM Int32 :=
  if a0 = 1030 then (
    mret (a1 + a2)
  ) else (
    if a0 = 1031 then (
      if a2 ≤ a1 then (
        mret 0
      ) else (
        mret 1
      )
    ) else (
      if a0 = 1032 then (
        if a1 ≤ a2 then (
          mret 0
        ) else (
          mret 1
        )
      ) else (
        if a0 = 1033 then (
          if a2 = 0 then (
            mret 1
          ) else (
            mret 0
          )
        ) else (
          if a0 = 1034 then (
            if a1 = 0 then (
              mret 0
            ) else (
              if a2 = 0 then (
                mret 0
              ) else (
                mret 1
              )
            )
          ) else (
            if a1 = 0 then (
              if a2 = 0 then (
                mret 0
              ) else (
                mret 1
              )
            ) else (
              mret 1
            )
          )
        )
      )
    )
  )
set_option maxHeartbeats 4000000 in
set_option maxRecDepth 100000 in
theorem ctX4_joined (a0 : Int32) (a1 : Int32) (a2 : Int32) : Ct aX4_joined [vi a0, vi a1, vi a2] (mX4_joined a0 a1 a2) rI := by
  unfold mX4_joined
  refine ct_intro (by decide +kernel) rfl (Nat.le_of_ble_eq_true rfl) fun Y s => ?_
  refine r_sub (lv' := [(0, vi a0), (1, vi a1), (2, vi a2)]) [0, 1, 2] rfl ?_
  refine r_p (pc' := 1) (p_iload_n 0 (k := 0) (by decide +kernel) rfl) ?_
  refine r_tcase (fun h1 => ?_) (fun h1 => ?_)
  · refine r_tsin (tgt := 36) (lo := 1030) (hi := 1034) (dflt := 85) (offs := #[35, 39, 50, 61, 71]) (len := 35) (off := 35) (by decide +kernel) (by rw [h1]; decide) (by rw [h1]; decide) (by rw [h1]; rfl) (by decide) ?_
    refine r_p (pc' := 37) (p_iload_n 1 (k := 1) (by decide +kernel) rfl) ?_
    refine r_p (pc' := 38) (p_iload_n 2 (k := 2) (by decide +kernel) rfl) ?_
    refine r_p (pc' := 39) (p_iadd (by decide +kernel)) ?_
    exact r_iret rfl rfl _ rfl rfl (by decide +kernel)
  · refine r_tcase (fun h2 => ?_) (fun h2 => ?_)
    · refine r_tsin (tgt := 40) (lo := 1030) (hi := 1034) (dflt := 85) (offs := #[35, 39, 50, 61, 71]) (len := 35) (off := 39) (by decide +kernel) (by rw [h2]; decide) (by rw [h2]; decide) (by rw [h2]; rfl) (by decide) ?_
      refine r_p (pc' := 41) (p_iload_n 1 (k := 1) (by decide +kernel) rfl) ?_
      refine r_p (pc' := 42) (p_iload_n 2 (k := 2) (by decide +kernel) rfl) ?_
      refine r_icmpge (off := 7) (tgt := 49) (by decide +kernel) (by decide) (fun h3 => ?_) (fun h3 => ?_)
      · refine r_p (pc' := 50) (p_iconst (n := 0) (v := 0) (by decide +kernel) rfl) ?_
        exact r_iret rfl rfl _ rfl rfl (by decide +kernel)
      · refine r_p (pc' := 46) (p_iconst (n := 1) (v := 1) (by decide +kernel) rfl) ?_
        refine r_p (pc' := 50) (p_goto (off := 4) (tgt := 50) (by decide +kernel) (by decide)) ?_
        exact r_iret rfl rfl _ rfl rfl (by decide +kernel)
    · refine r_tcase (fun h4 => ?_) (fun h4 => ?_)
      · refine r_tsin (tgt := 51) (lo := 1030) (hi := 1034) (dflt := 85) (offs := #[35, 39, 50, 61, 71]) (len := 35) (off := 50) (by decide +kernel) (by rw [h4]; decide) (by rw [h4]; decide) (by rw [h4]; rfl) (by decide) ?_
        refine r_p (pc' := 52) (p_iload_n 1 (k := 1) (by decide +kernel) rfl) ?_
        refine r_p (pc' := 53) (p_iload_n 2 (k := 2) (by decide +kernel) rfl) ?_
        refine r_icmple (off := 7) (tgt := 60) (by decide +kernel) (by decide) (fun h5 => ?_) (fun h5 => ?_)
        · refine r_p (pc' := 61) (p_iconst (n := 0) (v := 0) (by decide +kernel) rfl) ?_
          exact r_iret rfl rfl _ rfl rfl (by decide +kernel)
        · refine r_p (pc' := 57) (p_iconst (n := 1) (v := 1) (by decide +kernel) rfl) ?_
          refine r_p (pc' := 61) (p_goto (off := 4) (tgt := 61) (by decide +kernel) (by decide)) ?_
          exact r_iret rfl rfl _ rfl rfl (by decide +kernel)
      · refine r_tcase (fun h6 => ?_) (fun h6 => ?_)
        · refine r_tsin (tgt := 62) (lo := 1030) (hi := 1034) (dflt := 85) (offs := #[35, 39, 50, 61, 71]) (len := 35) (off := 61) (by decide +kernel) (by rw [h6]; decide) (by rw [h6]; decide) (by rw [h6]; rfl) (by decide) ?_
          refine r_p (pc' := 63) (p_iload_n 2 (k := 2) (by decide +kernel) rfl) ?_
          refine r_ifne (off := 7) (tgt := 70) (by decide +kernel) (by decide) (fun h7 => ?_) (fun h7 => ?_)
          · refine r_p (pc' := 67) (p_iconst (n := 1) (v := 1) (by decide +kernel) rfl) ?_
            refine r_p (pc' := 71) (p_goto (off := 4) (tgt := 71) (by decide +kernel) (by decide)) ?_
            exact r_iret rfl rfl _ rfl rfl (by decide +kernel)
          · refine r_p (pc' := 71) (p_iconst (n := 0) (v := 0) (by decide +kernel) rfl) ?_
            exact r_iret rfl rfl _ rfl rfl (by decide +kernel)
        · refine r_tcase (fun h8 => ?_) (fun h8 => ?_)
          · refine r_tsin (tgt := 72) (lo := 1030) (hi := 1034) (dflt := 85) (offs := #[35, 39, 50, 61, 71]) (len := 35) (off := 71) (by decide +kernel) (by rw [h8]; decide) (by rw [h8]; decide) (by rw [h8]; rfl) (by decide) ?_
            refine r_p (pc' := 73) (p_iload_n 1 (k := 1) (by decide +kernel) rfl) ?_
            refine r_ifeq (off := 11) (tgt := 84) (by decide +kernel) (by decide) (fun h9 => ?_) (fun h9 => ?_)
            · refine r_p (pc' := 85) (p_iconst (n := 0) (v := 0) (by decide +kernel) rfl) ?_
              exact r_iret rfl rfl _ rfl rfl (by decide +kernel)
            · refine r_p (pc' := 77) (p_iload_n 2 (k := 2) (by decide +kernel) rfl) ?_
              refine r_ifeq (off := 7) (tgt := 84) (by decide +kernel) (by decide) (fun h10 => ?_) (fun h10 => ?_)
              · refine r_p (pc' := 85) (p_iconst (n := 0) (v := 0) (by decide +kernel) rfl) ?_
                exact r_iret rfl rfl _ rfl rfl (by decide +kernel)
              · refine r_p (pc' := 81) (p_iconst (n := 1) (v := 1) (by decide +kernel) rfl) ?_
                refine r_p (pc' := 85) (p_goto (off := 4) (tgt := 85) (by decide +kernel) (by decide)) ?_
                exact r_iret rfl rfl _ rfl rfl (by decide +kernel)
          · have h1i := lv_neT (a := 1030) h1 rfl
            have h2i := lv_neT (a := 1031) h2 rfl
            have h4i := lv_neT (a := 1032) h4 rfl
            have h6i := lv_neT (a := 1033) h6 rfl
            have h8i := lv_neT (a := 1034) h8 rfl
            refine r_tsout (tgt := 86) (lo := 1030) (hi := 1034) (dflt := 85) (offs := #[35, 39, 50, 61, 71]) (len := 35) (by decide +kernel) (by omega) (by decide) ?_
            refine r_p (pc' := 87) (p_iload_n 1 (k := 1) (by decide +kernel) rfl) ?_
            refine r_ifne (off := 7) (tgt := 94) (by decide +kernel) (by decide) (fun h11 => ?_) (fun h11 => ?_)
            · refine r_p (pc' := 91) (p_iload_n 2 (k := 2) (by decide +kernel) rfl) ?_
              refine r_ifeq (off := 7) (tgt := 98) (by decide +kernel) (by decide) (fun h12 => ?_) (fun h12 => ?_)
              · refine r_p (pc' := 99) (p_iconst (n := 0) (v := 0) (by decide +kernel) rfl) ?_
                exact r_iret rfl rfl _ rfl rfl (by decide +kernel)
              · refine r_p (pc' := 95) (p_iconst (n := 1) (v := 1) (by decide +kernel) rfl) ?_
                refine r_p (pc' := 99) (p_goto (off := 4) (tgt := 99) (by decide +kernel) (by decide)) ?_
                exact r_iret rfl rfl _ rfl rfl (by decide +kernel)
            · refine r_p (pc' := 95) (p_iconst (n := 1) (v := 1) (by decide +kernel) rfl) ?_
              refine r_p (pc' := 99) (p_goto (off := 4) (tgt := 99) (by decide +kernel) (by decide)) ?_
              exact r_iret rfl rfl _ rfl rfl (by decide +kernel)
def aX4_holds : StA := (RX4, cX4_holds, 10, some .boolean, yX4_holds, 9, [])
theorem flX4_19_4 : FL RX4 19 4 1 := ⟨_, TX4, 3, "ToolCourt$Law", rfl, by decide, Or.inl (tblG_of 298 (by decide +kernel) (by decide +kernel)), Or.inl rfl⟩
theorem flX4_9_4 : FL RX4 9 4 2 := ⟨_, TX4, 3, "ToolCourt$Law", rfl, by decide, Or.inl (tblG_of 299 (by decide +kernel) (by decide +kernel)), Or.inl rfl⟩
theorem msX4_38 : MS RX4 38 aX4_asked 2 := ⟨tblG_of 661 (by decide +kernel) (by decide +kernel), tblG_of 662 (by decide +kernel) (by decide +kernel), tblG_of 150 (by decide +kernel) (by decide +kernel), tblG_of 663 (by decide +kernel) (by decide +kernel), rfl, ⟨by decide, by decide⟩, by decide +kernel, by decide⟩
theorem msX4_42 : MS RX4 42 aX4_joined 3 := ⟨tblG_of 664 (by decide +kernel) (by decide +kernel), tblG_of 665 (by decide +kernel) (by decide +kernel), tblG_of 150 (by decide +kernel) (by decide +kernel), tblG_of 666 (by decide +kernel) (by decide +kernel), rfl, ⟨by decide, by decide⟩, by decide +kernel, by decide⟩
noncomputable def mX4_holds_L6 (a0 : Nat) (a2 : Int32) (a3 : Nat) (x1 : Int32 × Int32) : MM ((Int32 × Int32) ⊕ (Unit ⊕ Int32)) :=
  if a2 ≤ x1.2 then (
    mret (.inr (.inr x1.1))
  ) else (
    mbnd (gR 4 1 a0) fun (v6 : Nat) =>
    mbnd (lenI 0 v6) fun (v7 : Int32) =>
    if v7 ≤ x1.2 then (
      mret (.inr (.inr x1.1))
    ) else (
      mbnd (gR 4 1 a0) fun (v9 : Nat) =>
      mbnd (ldI 0 v9 x1.2) fun (v10 : Int32) =>
      mbnd (α := Int32) (
        if 1030 ≤ v10 then (
          mbnd (gR 4 1 a0) fun (v15 : Nat) =>
          mbnd (ldI 0 v15 x1.2) fun (v16 : Int32) =>
          if v16 = 1033 then (
            mret 1
          ) else (
            mret 2
          )
        ) else (
          mret 0
        )
      ) fun (x12 : Int32) =>
      mbnd (mret (x1.1 - x12)) fun (v18 : Int32) =>
      if v18 < 0 then (
        mret (.inr ((.inl ())))
      ) else (
        mbnd (gR 4 2 a0) fun (v20 : Nat) =>
        mbnd (lenI 0 v20) fun (v21 : Int32) =>
        if v21 ≤ v18 then (
          mret (.inr ((.inl ())))
        ) else (
          mbnd (gR 4 2 a0) fun (v23 : Nat) =>
          mbnd (lenI 0 v23) fun (v24 : Int32) =>
          if x1.1 ≤ v24 then (
            mbnd (α := Int32) (
              if x12 ≤ 0 then (
                mret 0
              ) else (
                mbnd (gR 4 2 a0) fun (v30 : Nat) =>
                mbnd (ldI 0 v30 (x1.1 - 1)) fun (v31 : Int32) =>
                mret v31
              )
            ) fun (x27 : Int32) =>
            mbnd (α := Int32) (
              if x12 ≤ 1 then (
                mret 0
              ) else (
                mbnd (gR 4 2 a0) fun (v36 : Nat) =>
                mbnd (ldI 0 v36 v18) fun (v37 : Int32) =>
                mret v37
              )
            ) fun (x33 : Int32) =>
            mbnd (gR 4 2 a0) fun (v38 : Nat) =>
            mbnd (α := Int32) (
              if x12 = 0 then (
                mbnd (gR 4 1 a0) fun (v43 : Nat) =>
                mbnd (ldI 0 v43 x1.2) fun (v44 : Int32) =>
                mbnd (mX4_asked v44 a3) fun (v45 : Int32) =>
                mret v45
              ) else (
                mbnd (gR 4 1 a0) fun (v46 : Nat) =>
                mbnd (ldI 0 v46 x1.2) fun (v47 : Int32) =>
                mbnd (mX4_joined v47 x33 x27) fun (v48 : Int32) =>
                mret v48
              )
            ) fun (x40 : Int32) =>
            mbnd (stI 0 v38 v18 x40) fun _ =>
            mbnd (mret (v18 + 1)) fun (v49 : Int32) =>
            mret (.inl (v49, x1.2 + 1))
          ) else (
            mret (.inr ((.inl ())))
          )
        )
      )
    )
  )
noncomputable def mX4_holds (a0 : Nat) (a1 : Int32) (a2 : Int32) (a3 : Nat) : MM Int32 := onC 4 a0 (
  mbnd (loopM (mX4_holds_L6 a0 a2 a3) (0, a1)) fun (e50 : Unit ⊕ Int32) => match e50 with
    | .inl e50 => (
      mret 0
      )
    | .inr e50 => (
      if e50 = 0 then (
        mret 1
      ) else (
        mbnd (gR 4 2 a0) fun (v52 : Nat) =>
        mbnd (ldI 0 v52 0) fun (v53 : Int32) =>
        if v53 = 0 then (
          mret 0
        ) else (
          mret 1
        )
      )
      )
  )
theorem rcX4_holds (a0 : Nat) (a1 : Int32) (a2 : Int32) (a3 : Nat) : Rcv 4 a0 (mX4_holds a0 a1 a2 a3) := fun s r h => ⟨(onC_some h).1, (onC_some h).2.1⟩
set_option maxHeartbeats 4000000 in
set_option maxRecDepth 100000 in
theorem ctX4_holds (a0 : Nat) (a1 : Int32) (a2 : Int32) (a3 : Nat) : Ct aX4_holds [vr a0, vi a1, vi a2, vr a3] (mX4_holds a0 a1 a2 a3) rI := by
  unfold mX4_holds
  refine ct_onC (ct_intro (by decide +kernel) rfl (Nat.le_of_ble_eq_true rfl) fun Y s => ?_)
  refine r_sub (lv' := [(0, vr a0), (1, vi a1), (2, vi a2), (3, vr a3)]) [0, 1, 2, 3] rfl ?_
  refine r_p (pc' := 1) (p_iconst (n := 0) (v := 0) (by decide +kernel) rfl) ?_
  refine r_p (pc' := 3) (p_istore (i := 4) (lv' := [(4, vi 0), (0, vr a0), (1, vi a1), (2, vi a2), (3, vr a3)]) (by decide +kernel) (Nat.le_of_ble_eq_true rfl) rfl) ?_
  refine r_p (pc' := 4) (p_iload_n 2 (k := 1) (by decide +kernel) rfl) ?_
  refine r_p (pc' := 6) (p_istore (i := 5) (lv' := [(5, vi a1), (4, vi 0), (0, vr a0), (1, vi a1), (2, vi a2), (3, vr a3)]) (by decide +kernel) (Nat.le_of_ble_eq_true rfl) rfl) ?_
  refine r_sub (lv' := [(0, vr a0), (2, vi a2), (3, vr a3), (4, vi 0), (5, vi a1)]) [2, 4, 5, 1, 0] rfl ?_
  refine r_loop2 (fun (e50 : Unit ⊕ Int32) => match e50 with | .inl _ => 91 | .inr _ => 184) (fun (e50 : Unit ⊕ Int32) => match e50 with | .inl e50 => [] | .inr e50 => [(0, vr a0), (4, vi e50)]) (fun (x1 : Int32 × Int32) => [(0, vr a0), (2, vi a2), (3, vr a3), (4, vi x1.1), (5, vi x1.2)]) (fun e50 s => ?_) (fun K2 hb3 he4 x1 s => ?_) (0, a1) _
  · rcases e50 with e50 | e50
    · show Rr _ _ 91 [] [] _ _ _ _
      refine r_p (pc' := 92) (p_iconst (n := 0) (v := 0) (by decide +kernel) rfl) ?_
      exact r_iret rfl rfl _ rfl rfl (by decide +kernel)
    · show Rr _ _ 184 [(0, vr a0), (4, vi e50)] [] _ _ _ _
      refine r_p (pc' := 186) (p_iload 1 (i := 4) (by decide +kernel) rfl) ?_
      refine r_ifeq (off := 12) (tgt := 198) (by decide +kernel) (by decide) (fun h51 => ?_) (fun h51 => ?_)
      · refine r_p (pc' := 199) (p_iconst (n := 1) (v := 1) (by decide +kernel) rfl) ?_
        refine r_p (pc' := 203) (p_goto (off := 4) (tgt := 203) (by decide +kernel) (by decide)) ?_
        exact r_iret rfl rfl _ rfl rfl (by decide +kernel)
      · refine r_p (pc' := 190) (p_aload_n 0 (k := 0) (by decide +kernel) rfl) ?_
        refine r_gR flX4_9_4 (by decide +kernel) fun v52 => ?_
        refine r_p (pc' := 194) (p_iconst (n := 0) (v := 0) (by decide +kernel) rfl) ?_
        refine r_ldI0 (by decide +kernel) fun v53 => ?_
        refine r_ifeq (off := 7) (tgt := 202) (by decide +kernel) (by decide) (fun h54 => ?_) (fun h54 => ?_)
        · refine r_p (pc' := 203) (p_iconst (n := 0) (v := 0) (by decide +kernel) rfl) ?_
          exact r_iret rfl rfl _ rfl rfl (by decide +kernel)
        · refine r_p (pc' := 199) (p_iconst (n := 1) (v := 1) (by decide +kernel) rfl) ?_
          refine r_p (pc' := 203) (p_goto (off := 4) (tgt := 203) (by decide +kernel) (by decide)) ?_
          exact r_iret rfl rfl _ rfl rfl (by decide +kernel)
  · unfold mX4_holds_L6
    refine r_p (pc' := 8) (p_iload 4 (i := 5) (by decide +kernel) rfl) ?_
    refine r_p (pc' := 9) (p_iload_n 1 (k := 2) (by decide +kernel) rfl) ?_
    refine r_icmpge (off := 175) (tgt := 184) (by decide +kernel) (by decide) (fun h5 => ?_) (fun h5 => ?_)
    · refine r_sub (lv' := [(0, vr a0), (4, vi x1.1)]) [0, 3] rfl ?_
      exact he4 (.inr x1.1) _
    · refine r_p (pc' := 14) (p_iload 4 (i := 5) (by decide +kernel) rfl) ?_
      refine r_p (pc' := 15) (p_aload_n 0 (k := 0) (by decide +kernel) rfl) ?_
      refine r_gR flX4_19_4 (by decide +kernel) fun v6 => ?_
      refine r_lenI (by decide) (by decide +kernel) fun v7 => ?_
      refine r_icmpge (off := 165) (tgt := 184) (by decide +kernel) (by decide) (fun h8 => ?_) (fun h8 => ?_)
      · refine r_sub (lv' := [(0, vr a0), (4, vi x1.1)]) [0, 3] rfl ?_
        exact he4 (.inr x1.1) _
      · refine r_p (pc' := 23) (p_aload_n 0 (k := 0) (by decide +kernel) rfl) ?_
        refine r_gR flX4_19_4 (by decide +kernel) fun v9 => ?_
        refine r_p (pc' := 28) (p_iload 4 (i := 5) (by decide +kernel) rfl) ?_
        refine r_ldI0 (by decide +kernel) fun v10 => ?_
        refine r_p (pc' := 32) (p_sipush (n := 1030) (v := 1030) (by decide +kernel) (by decide +kernel)) ?_
        refine r_join 57 (fun (x12 : Int32) => [(0, vr a0), (2, vi a2), (3, vr a3), (4, vi x1.1), (5, vi x1.2)]) (fun (x12 : Int32) => [vi x12]) (fun x12 s => ?_) (fun K13 hj14 => ?_)
        · refine r_p (pc' := 59) (p_istore (i := 6) (lv' := [(6, vi x12), (0, vr a0), (2, vi a2), (3, vr a3), (4, vi x1.1), (5, vi x1.2)]) (by decide +kernel) (Nat.le_of_ble_eq_true rfl) rfl) ?_
          refine r_p (pc' := 61) (p_iload 4 (i := 4) (by decide +kernel) rfl) ?_
          refine r_p (pc' := 63) (p_iload 0 (i := 6) (by decide +kernel) rfl) ?_
          refine r_p (pc' := 64) (p_isub (by decide +kernel)) ?_
          refine r_letI fun v18 => ?_
          refine r_p (pc' := 66) (p_istore (i := 7) (lv' := [(7, vi v18), (6, vi x12), (0, vr a0), (2, vi a2), (3, vr a3), (4, vi x1.1), (5, vi x1.2)]) (by decide +kernel) (Nat.le_of_ble_eq_true rfl) rfl) ?_
          refine r_p (pc' := 68) (p_iload 0 (i := 7) (by decide +kernel) rfl) ?_
          refine r_iflt (off := 23) (tgt := 91) (by decide +kernel) (by decide) (fun h19 => ?_) (fun h19 => ?_)
          · refine r_sub (lv' := []) [] rfl ?_
            exact he4 ((.inl ())) _
          · refine r_p (pc' := 73) (p_iload 0 (i := 7) (by decide +kernel) rfl) ?_
            refine r_p (pc' := 74) (p_aload_n 2 (k := 0) (by decide +kernel) rfl) ?_
            refine r_gR flX4_9_4 (by decide +kernel) fun v20 => ?_
            refine r_lenI (by decide) (by decide +kernel) fun v21 => ?_
            refine r_icmpge (off := 13) (tgt := 91) (by decide +kernel) (by decide) (fun h22 => ?_) (fun h22 => ?_)
            · refine r_sub (lv' := []) [] rfl ?_
              exact he4 ((.inl ())) _
            · refine r_p (pc' := 83) (p_iload 5 (i := 4) (by decide +kernel) rfl) ?_
              refine r_p (pc' := 84) (p_aload_n 2 (k := 0) (by decide +kernel) rfl) ?_
              refine r_gR flX4_9_4 (by decide +kernel) fun v23 => ?_
              refine r_lenI (by decide) (by decide +kernel) fun v24 => ?_
              refine r_icmple (off := 5) (tgt := 93) (by decide +kernel) (by decide) (fun h25 => ?_) (fun h25 => ?_)
              · refine r_p (pc' := 95) (p_iload 1 (i := 6) (by decide +kernel) rfl) ?_
                refine r_join 111 (fun (x27 : Int32) => [(0, vr a0), (2, vi a2), (3, vr a3), (5, vi x1.2), (6, vi x12), (7, vi v18)]) (fun (x27 : Int32) => [vi x27]) (fun x27 s => ?_) (fun K28 hj29 => ?_)
                · refine r_p (pc' := 113) (p_istore (i := 8) (lv' := [(8, vi x27), (0, vr a0), (2, vi a2), (3, vr a3), (5, vi x1.2), (6, vi x12), (7, vi v18)]) (by decide +kernel) (Nat.le_of_ble_eq_true rfl) rfl) ?_
                  refine r_p (pc' := 115) (p_iload 5 (i := 6) (by decide +kernel) rfl) ?_
                  refine r_p (pc' := 116) (p_iconst (n := 1) (v := 1) (by decide +kernel) rfl) ?_
                  refine r_join 130 (fun (x33 : Int32) => [(0, vr a0), (2, vi a2), (3, vr a3), (5, vi x1.2), (6, vi x12), (7, vi v18), (8, vi x27)]) (fun (x33 : Int32) => [vi x33]) (fun x33 s => ?_) (fun K34 hj35 => ?_)
                  · refine r_p (pc' := 132) (p_istore (i := 9) (lv' := [(9, vi x33), (0, vr a0), (2, vi a2), (3, vr a3), (5, vi x1.2), (6, vi x12), (7, vi v18), (8, vi x27)]) (by decide +kernel) (Nat.le_of_ble_eq_true rfl) rfl) ?_
                    refine r_p (pc' := 133) (p_aload_n 1 (k := 0) (by decide +kernel) rfl) ?_
                    refine r_gR flX4_9_4 (by decide +kernel) fun v38 => ?_
                    refine r_p (pc' := 138) (p_iload 6 (i := 7) (by decide +kernel) rfl) ?_
                    refine r_p (pc' := 140) (p_iload 5 (i := 6) (by decide +kernel) rfl) ?_
                    refine r_join 171 (fun (x40 : Int32) => [(0, vr a0), (2, vi a2), (3, vr a3), (5, vi x1.2), (7, vi v18)]) (fun (x40 : Int32) => [vi x40, vi v18, vr v38]) (fun x40 s => ?_) (fun K41 hj42 => ?_)
                    · refine r_stI0 (by decide +kernel) fun s => ?_
                      refine r_p (pc' := 174) (p_iload 4 (i := 7) (by decide +kernel) rfl) ?_
                      refine r_p (pc' := 175) (p_iconst (n := 1) (v := 1) (by decide +kernel) rfl) ?_
                      refine r_p (pc' := 176) (p_iadd (by decide +kernel)) ?_
                      refine r_letI fun v49 => ?_
                      refine r_p (pc' := 178) (p_istore (i := 4) (lv' := [(4, vi v49), (0, vr a0), (2, vi a2), (3, vr a3), (5, vi x1.2), (7, vi v18)]) (by decide +kernel) (Nat.le_of_ble_eq_true rfl) rfl) ?_
                      refine r_p (pc' := 181) (p_iinc 4 (i := 5) (n := 1) (x := x1.2) (v := x1.2 + 1) (lv' := [(5, vi (x1.2 + 1)), (4, vi v49), (0, vr a0), (2, vi a2), (3, vr a3), (7, vi v18)]) (by decide +kernel) rfl rfl (Nat.le_of_ble_eq_true rfl) rfl) ?_
                      refine r_p (pc' := 6) (p_goto (off := -175) (tgt := 6) (by decide +kernel) (by decide)) ?_
                      refine r_sub (lv' := [(0, vr a0), (2, vi a2), (3, vr a3), (4, vi v49), (5, vi (x1.2 + 1))]) [2, 3, 4, 1, 0] rfl ?_
                      exact hb3 (v49, x1.2 + 1) _
                    · refine r_ifne (off := 17) (tgt := 157) (by decide +kernel) (by decide) (fun h39 => ?_) (fun h39 => ?_)
                      · refine r_p (pc' := 144) (p_aload_n 1 (k := 0) (by decide +kernel) rfl) ?_
                        refine r_gR flX4_19_4 (by decide +kernel) fun v43 => ?_
                        refine r_p (pc' := 149) (p_iload 4 (i := 5) (by decide +kernel) rfl) ?_
                        refine r_ldI0 (by decide +kernel) fun v44 => ?_
                        refine r_p (pc' := 151) (p_aload_n 3 (k := 3) (by decide +kernel) rfl) ?_
                        refine r_callSI msX4_38 (ctX4_asked v44 a3) (as := [vi v44, vr a3]) (st := [vi v18, vr v38]) rfl rfl (by decide +kernel) rfl (Nat.le_of_ble_eq_true rfl) (Nat.le_of_ble_eq_true rfl) fun v45 s => ?_
                        refine r_p (pc' := 171) (p_goto (off := 17) (tgt := 171) (by decide +kernel) (by decide)) ?_
                        refine r_sub (lv' := [(0, vr a0), (2, vi a2), (3, vr a3), (5, vi x1.2), (7, vi v18)]) [1, 2, 3, 4, 6] rfl ?_
                        exact hj42 v45 _
                      · refine r_p (pc' := 158) (p_aload_n 1 (k := 0) (by decide +kernel) rfl) ?_
                        refine r_gR flX4_19_4 (by decide +kernel) fun v46 => ?_
                        refine r_p (pc' := 163) (p_iload 4 (i := 5) (by decide +kernel) rfl) ?_
                        refine r_ldI0 (by decide +kernel) fun v47 => ?_
                        refine r_p (pc' := 166) (p_iload 0 (i := 9) (by decide +kernel) rfl) ?_
                        refine r_p (pc' := 168) (p_iload 7 (i := 8) (by decide +kernel) rfl) ?_
                        refine r_callSI msX4_42 (ctX4_joined v47 x33 x27) (as := [vi v47, vi x33, vi x27]) (st := [vi v18, vr v38]) rfl rfl (by decide +kernel) rfl (Nat.le_of_ble_eq_true rfl) (Nat.le_of_ble_eq_true rfl) fun v48 s => ?_
                        refine r_sub (lv' := [(0, vr a0), (2, vi a2), (3, vr a3), (5, vi x1.2), (7, vi v18)]) [1, 2, 3, 4, 6] rfl ?_
                        exact hj42 v48 _
                  · refine r_icmple (off := 13) (tgt := 129) (by decide +kernel) (by decide) (fun h32 => ?_) (fun h32 => ?_)
                    · refine r_p (pc' := 130) (p_iconst (n := 0) (v := 0) (by decide +kernel) rfl) ?_
                      refine r_sub (lv' := [(0, vr a0), (2, vi a2), (3, vr a3), (5, vi x1.2), (6, vi x12), (7, vi v18), (8, vi x27)]) [1, 2, 3, 4, 5, 6, 0] rfl ?_
                      exact hj35 0 _
                    · refine r_p (pc' := 120) (p_aload_n 1 (k := 0) (by decide +kernel) rfl) ?_
                      refine r_gR flX4_9_4 (by decide +kernel) fun v36 => ?_
                      refine r_p (pc' := 125) (p_iload 6 (i := 7) (by decide +kernel) rfl) ?_
                      refine r_ldI0 (by decide +kernel) fun v37 => ?_
                      refine r_p (pc' := 130) (p_goto (off := 4) (tgt := 130) (by decide +kernel) (by decide)) ?_
                      refine r_sub (lv' := [(0, vr a0), (2, vi a2), (3, vr a3), (5, vi x1.2), (6, vi x12), (7, vi v18), (8, vi x27)]) [1, 2, 3, 4, 5, 6, 0] rfl ?_
                      exact hj35 v37 _
                · refine r_ifle (off := 15) (tgt := 110) (by decide +kernel) (by decide) (fun h26 => ?_) (fun h26 => ?_)
                  · refine r_p (pc' := 111) (p_iconst (n := 0) (v := 0) (by decide +kernel) rfl) ?_
                    refine r_sub (lv' := [(0, vr a0), (2, vi a2), (3, vr a3), (5, vi x1.2), (6, vi x12), (7, vi v18)]) [2, 3, 4, 6, 1, 0] rfl ?_
                    exact hj29 0 _
                  · refine r_p (pc' := 99) (p_aload_n 2 (k := 0) (by decide +kernel) rfl) ?_
                    refine r_gR flX4_9_4 (by decide +kernel) fun v30 => ?_
                    refine r_p (pc' := 104) (p_iload 5 (i := 4) (by decide +kernel) rfl) ?_
                    refine r_p (pc' := 105) (p_iconst (n := 1) (v := 1) (by decide +kernel) rfl) ?_
                    refine r_p (pc' := 106) (p_isub (by decide +kernel)) ?_
                    refine r_ldI0 (by decide +kernel) fun v31 => ?_
                    refine r_p (pc' := 111) (p_goto (off := 4) (tgt := 111) (by decide +kernel) (by decide)) ?_
                    refine r_sub (lv' := [(0, vr a0), (2, vi a2), (3, vr a3), (5, vi x1.2), (6, vi x12), (7, vi v18)]) [2, 3, 4, 6, 1, 0] rfl ?_
                    exact hj29 v31 _
              · refine r_sub (lv' := []) [] rfl ?_
                exact he4 ((.inl ())) _
        · refine r_icmpge (off := 7) (tgt := 39) (by decide +kernel) (by decide) (fun h11 => ?_) (fun h11 => ?_)
          · refine r_p (pc' := 40) (p_aload_n 0 (k := 0) (by decide +kernel) rfl) ?_
            refine r_gR flX4_19_4 (by decide +kernel) fun v15 => ?_
            refine r_p (pc' := 45) (p_iload 4 (i := 5) (by decide +kernel) rfl) ?_
            refine r_ldI0 (by decide +kernel) fun v16 => ?_
            refine r_p (pc' := 49) (p_sipush (n := 1033) (v := 1033) (by decide +kernel) (by decide +kernel)) ?_
            refine r_icmpne (off := 7) (tgt := 56) (by decide +kernel) (by decide) (fun h17 => ?_) (fun h17 => ?_)
            · refine r_p (pc' := 53) (p_iconst (n := 1) (v := 1) (by decide +kernel) rfl) ?_
              refine r_p (pc' := 57) (p_goto (off := 4) (tgt := 57) (by decide +kernel) (by decide)) ?_
              exact hj14 1 _
            · refine r_p (pc' := 57) (p_iconst (n := 2) (v := 2) (by decide +kernel) rfl) ?_
              exact hj14 2 _
          · refine r_p (pc' := 36) (p_iconst (n := 0) (v := 0) (by decide +kernel) rfl) ?_
            refine r_p (pc' := 57) (p_goto (off := 21) (tgt := 57) (by decide +kernel) (by decide)) ?_
            exact hj14 0 _
def aX4_total : StA := (RX4, cX4_total, 8, some .int, yX4_total, 10, [])
theorem flX4_15_4 : FL RX4 15 4 0 := ⟨_, TX4, 3, "ToolCourt$Law", rfl, by decide, Or.inl (tblG_of 296 (by decide +kernel) (by decide +kernel)), Or.inl rfl⟩
theorem msX4_22 : MS RX4 22 aX4_unwritten 2 := ⟨tblG_of 654 (by decide +kernel) (by decide +kernel), tblG_of 655 (by decide +kernel) (by decide +kernel), tblG_of 150 (by decide +kernel) (by decide +kernel), tblG_of 656 (by decide +kernel) (by decide +kernel), rfl, ⟨by decide, by decide⟩, by decide +kernel, by decide⟩
theorem mvX4_26 : MV RX4 26 aX4_holds 3 := ⟨tblG_of 657 (by decide +kernel) (by decide +kernel), tblG_of 659 (by decide +kernel) (by decide +kernel), tblG_of 4 (by decide +kernel) (by decide +kernel), tblG_of 150 (by decide +kernel) (by decide +kernel), tblG_of 660 (by decide +kernel) (by decide +kernel), rfl, ⟨by decide, by decide⟩, by decide +kernel, by decide⟩
noncomputable def mX4_total_L34 (a0 : Nat) (a1 : Int32) (a2 : Nat) (x7 : Int32 × Int32 × Int32) : MM ((Int32 × Int32 × Int32) ⊕ (Int32)) :=
  mbnd (gI 4 0 a0) fun (v11 : Int32) =>
  if v11 ≤ x7.2.2 then (
    mret (.inr x7.1)
  ) else (
    mbnd (gR 4 1 a0) fun (v13 : Nat) =>
    mbnd (lenI 0 v13) fun (v14 : Int32) =>
    if v14 < (x7.2.1 + 3) then (
      mret (.inr x7.1)
    ) else (
      mbnd (mret (x7.2.1 + 3)) fun (v16 : Int32) =>
      mbnd (gR 4 1 a0) fun (v17 : Nat) =>
      mbnd (ldI 0 v17 (x7.2.1 + 2)) fun (v18 : Int32) =>
      mbnd (mret (v16 + v18)) fun (v19 : Int32) =>
      mbnd (gR 4 1 a0) fun (v20 : Nat) =>
      mbnd (ldI 0 v20 x7.2.1) fun (v21 : Int32) =>
      mbnd (α := Int32) (
        if v21 = a1 then (
          mbnd (mX4_holds a0 v16 v19 a2) fun (v26 : Int32) =>
          if v26 = 0 then (
            mret x7.1
          ) else (
            mbnd (gR 4 1 a0) fun (v28 : Nat) =>
            mbnd (ldI 0 v28 (x7.2.1 + 1)) fun (v29 : Int32) =>
            mbnd (mret (x7.1 + v29)) fun (v30 : Int32) =>
            mret v30
          )
        ) else (
          mret x7.1
        )
      ) fun (x23 : Int32) =>
      mbnd (mret (imax v19 v16)) fun (v31 : Int32) =>
      mret (.inl (x23, v31, x7.2.2 + 1))
    )
  )
noncomputable def mX4_total (a0 : Nat) (a1 : Int32) (a2 : Nat) : MM Int32 := onC 4 a0 (
  mbnd (lenI 0 a2) fun (v1 : Int32) =>
  if 10 ≤ v1 then (
    mbnd (gI 4 0 a0) fun (v3 : Int32) =>
    if v3 = (-1) then (
      mbnd (ldI 0 a2 8) fun (v5 : Int32) =>
      mbnd (mX4_unwritten a1 v5) fun (v6 : Int32) =>
      mret v6
    ) else (
      mbnd (loopM (mX4_total_L34 a0 a1 a2) (0, 0, 0)) fun (e32 : Int32) =>
      if a1 = 3 then (
        mret (imin e32 99)
      ) else (
        mret (imin e32 100)
      )
    )
  ) else (
    mret 0
  )
  )
theorem rcX4_total (a0 : Nat) (a1 : Int32) (a2 : Nat) : Rcv 4 a0 (mX4_total a0 a1 a2) := fun s r h => ⟨(onC_some h).1, (onC_some h).2.1⟩
set_option maxHeartbeats 4000000 in
set_option maxRecDepth 100000 in
theorem ctX4_total (a0 : Nat) (a1 : Int32) (a2 : Nat) : Ct aX4_total [vr a0, vi a1, vr a2] (mX4_total a0 a1 a2) rI := by
  unfold mX4_total
  refine ct_onC (ct_intro (by decide +kernel) rfl (Nat.le_of_ble_eq_true rfl) fun Y s => ?_)
  refine r_sub (lv' := [(0, vr a0), (1, vi a1), (2, vr a2)]) [0, 1, 2] rfl ?_
  refine r_p (pc' := 1) (p_aload_n 2 (k := 2) (by decide +kernel) rfl) ?_
  refine r_lenI (by decide) (by decide +kernel) fun v1 => ?_
  refine r_p (pc' := 4) (p_bipush (n := 10) (v := 10) (by decide +kernel) (by decide +kernel)) ?_
  refine r_icmpge (off := 5) (tgt := 9) (by decide +kernel) (by decide) (fun h2 => ?_) (fun h2 => ?_)
  · refine r_p (pc' := 10) (p_aload_n 0 (k := 0) (by decide +kernel) rfl) ?_
    refine r_gI flX4_15_4 (by decide +kernel) fun v3 => ?_
    refine r_p (pc' := 14) (p_iconst (n := -1) (v := -1) (by decide +kernel) rfl) ?_
    refine r_icmpne (off := 12) (tgt := 26) (by decide +kernel) (by decide) (fun h4 => ?_) (fun h4 => ?_)
    · refine r_p (pc' := 18) (p_iload_n 1 (k := 1) (by decide +kernel) rfl) ?_
      refine r_p (pc' := 19) (p_aload_n 2 (k := 2) (by decide +kernel) rfl) ?_
      refine r_p (pc' := 21) (p_bipush (n := 8) (v := 8) (by decide +kernel) (by decide +kernel)) ?_
      refine r_ldI0 (by decide +kernel) fun v5 => ?_
      refine r_callSI msX4_22 (ctX4_unwritten a1 v5) (as := [vi a1, vi v5]) (st := []) rfl rfl (by decide +kernel) rfl (Nat.le_of_ble_eq_true rfl) (Nat.le_of_ble_eq_true rfl) fun v6 s => ?_
      exact r_iret rfl rfl _ rfl rfl (by decide +kernel)
    · refine r_p (pc' := 27) (p_iconst (n := 0) (v := 0) (by decide +kernel) rfl) ?_
      refine r_p (pc' := 28) (p_istore_n (k := 3) (lv' := [(3, vi 0), (0, vr a0), (1, vi a1), (2, vr a2)]) (by decide +kernel) (Nat.le_of_ble_eq_true rfl) rfl) ?_
      refine r_p (pc' := 29) (p_iconst (n := 0) (v := 0) (by decide +kernel) rfl) ?_
      refine r_p (pc' := 31) (p_istore (i := 4) (lv' := [(4, vi 0), (3, vi 0), (0, vr a0), (1, vi a1), (2, vr a2)]) (by decide +kernel) (Nat.le_of_ble_eq_true rfl) rfl) ?_
      refine r_p (pc' := 32) (p_iconst (n := 0) (v := 0) (by decide +kernel) rfl) ?_
      refine r_p (pc' := 34) (p_istore (i := 5) (lv' := [(5, vi 0), (4, vi 0), (3, vi 0), (0, vr a0), (1, vi a1), (2, vr a2)]) (by decide +kernel) (Nat.le_of_ble_eq_true rfl) rfl) ?_
      refine r_sub (lv' := [(0, vr a0), (1, vi a1), (2, vr a2), (3, vi 0), (4, vi 0), (5, vi 0)]) [3, 4, 5, 2, 1, 0] rfl ?_
      refine r_loop2 (fun _ => 125) (fun (e32 : Int32) => [(1, vi a1), (3, vi e32)]) (fun (x7 : Int32 × Int32 × Int32) => [(0, vr a0), (1, vi a1), (2, vr a2), (3, vi x7.1), (4, vi x7.2.1), (5, vi x7.2.2)]) (fun e32 s => ?_) (fun K8 hb9 he10 x7 s => ?_) (0, 0, 0) _
      · refine r_p (pc' := 126) (p_iload_n 1 (k := 3) (by decide +kernel) rfl) ?_
        refine r_p (pc' := 127) (p_iload_n 0 (k := 1) (by decide +kernel) rfl) ?_
        refine r_p (pc' := 128) (p_iconst (n := 3) (v := 3) (by decide +kernel) rfl) ?_
        refine r_icmpne (off := 8) (tgt := 136) (by decide +kernel) (by decide) (fun h33 => ?_) (fun h33 => ?_)
        · refine r_p (pc' := 133) (p_bipush (n := 99) (v := 99) (by decide +kernel) (by decide +kernel)) ?_
          refine r_p (pc' := 138) (p_goto (off := 5) (tgt := 138) (by decide +kernel) (by decide)) ?_
          refine r_p (pc' := 141) (p_min (idx := 35) (tblG_of 668 (by decide +kernel) (by decide +kernel)) (Nat.le_of_ble_eq_true rfl) (Nat.le_of_ble_eq_true rfl) (by decide +kernel)) ?_
          exact r_iret rfl rfl _ rfl rfl (by decide +kernel)
        · refine r_p (pc' := 138) (p_bipush (n := 100) (v := 100) (by decide +kernel) (by decide +kernel)) ?_
          refine r_p (pc' := 141) (p_min (idx := 35) (tblG_of 668 (by decide +kernel) (by decide +kernel)) (Nat.le_of_ble_eq_true rfl) (Nat.le_of_ble_eq_true rfl) (by decide +kernel)) ?_
          exact r_iret rfl rfl _ rfl rfl (by decide +kernel)
      · unfold mX4_total_L34
        refine r_p (pc' := 36) (p_iload 5 (i := 5) (by decide +kernel) rfl) ?_
        refine r_p (pc' := 37) (p_aload_n 0 (k := 0) (by decide +kernel) rfl) ?_
        refine r_gI flX4_15_4 (by decide +kernel) fun v11 => ?_
        refine r_icmpge (off := 85) (tgt := 125) (by decide +kernel) (by decide) (fun h12 => ?_) (fun h12 => ?_)
        · refine r_sub (lv' := [(1, vi a1), (3, vi x7.1)]) [1, 3] rfl ?_
          exact he10 x7.1 _
        · refine r_p (pc' := 45) (p_iload 4 (i := 4) (by decide +kernel) rfl) ?_
          refine r_p (pc' := 46) (p_iconst (n := 3) (v := 3) (by decide +kernel) rfl) ?_
          refine r_p (pc' := 47) (p_iadd (by decide +kernel)) ?_
          refine r_p (pc' := 48) (p_aload_n 0 (k := 0) (by decide +kernel) rfl) ?_
          refine r_gR flX4_19_4 (by decide +kernel) fun v13 => ?_
          refine r_lenI (by decide) (by decide +kernel) fun v14 => ?_
          refine r_icmpgt (off := 73) (tgt := 125) (by decide +kernel) (by decide) (fun h15 => ?_) (fun h15 => ?_)
          · refine r_sub (lv' := [(1, vi a1), (3, vi x7.1)]) [1, 3] rfl ?_
            exact he10 x7.1 _
          · refine r_p (pc' := 57) (p_iload 4 (i := 4) (by decide +kernel) rfl) ?_
            refine r_p (pc' := 58) (p_iconst (n := 3) (v := 3) (by decide +kernel) rfl) ?_
            refine r_p (pc' := 59) (p_iadd (by decide +kernel)) ?_
            refine r_letI fun v16 => ?_
            refine r_p (pc' := 61) (p_istore (i := 6) (lv' := [(6, vi v16), (0, vr a0), (1, vi a1), (2, vr a2), (3, vi x7.1), (4, vi x7.2.1), (5, vi x7.2.2)]) (by decide +kernel) (Nat.le_of_ble_eq_true rfl) rfl) ?_
            refine r_p (pc' := 63) (p_iload 0 (i := 6) (by decide +kernel) rfl) ?_
            refine r_p (pc' := 64) (p_aload_n 1 (k := 0) (by decide +kernel) rfl) ?_
            refine r_gR flX4_19_4 (by decide +kernel) fun v17 => ?_
            refine r_p (pc' := 69) (p_iload 5 (i := 4) (by decide +kernel) rfl) ?_
            refine r_p (pc' := 70) (p_iconst (n := 2) (v := 2) (by decide +kernel) rfl) ?_
            refine r_p (pc' := 71) (p_iadd (by decide +kernel)) ?_
            refine r_ldI0 (by decide +kernel) fun v18 => ?_
            refine r_p (pc' := 73) (p_iadd (by decide +kernel)) ?_
            refine r_letI fun v19 => ?_
            refine r_p (pc' := 75) (p_istore (i := 7) (lv' := [(7, vi v19), (6, vi v16), (0, vr a0), (1, vi a1), (2, vr a2), (3, vi x7.1), (4, vi x7.2.1), (5, vi x7.2.2)]) (by decide +kernel) (Nat.le_of_ble_eq_true rfl) rfl) ?_
            refine r_p (pc' := 76) (p_aload_n 2 (k := 0) (by decide +kernel) rfl) ?_
            refine r_gR flX4_19_4 (by decide +kernel) fun v20 => ?_
            refine r_p (pc' := 81) (p_iload 6 (i := 4) (by decide +kernel) rfl) ?_
            refine r_ldI0 (by decide +kernel) fun v21 => ?_
            refine r_p (pc' := 83) (p_iload_n 3 (k := 1) (by decide +kernel) rfl) ?_
            refine r_join 110 (fun (x23 : Int32) => [(0, vr a0), (1, vi a1), (2, vr a2), (3, vi x23), (5, vi x7.2.2), (6, vi v16), (7, vi v19)]) (fun (x23 : Int32) => []) (fun x23 s => ?_) (fun K24 hj25 => ?_)
            · refine r_p (pc' := 112) (p_iload 6 (i := 7) (by decide +kernel) rfl) ?_
              refine r_p (pc' := 114) (p_iload 5 (i := 6) (by decide +kernel) rfl) ?_
              refine r_p (pc' := 117) (p_max (idx := 30) (tblG_of 667 (by decide +kernel) (by decide +kernel)) (Nat.le_of_ble_eq_true rfl) (Nat.le_of_ble_eq_true rfl) (by decide +kernel)) ?_
              refine r_letI fun v31 => ?_
              refine r_p (pc' := 119) (p_istore (i := 4) (lv' := [(4, vi v31), (0, vr a0), (1, vi a1), (2, vr a2), (3, vi x23), (5, vi x7.2.2), (6, vi v16), (7, vi v19)]) (by decide +kernel) (Nat.le_of_ble_eq_true rfl) rfl) ?_
              refine r_p (pc' := 122) (p_iinc 5 (i := 5) (n := 1) (x := x7.2.2) (v := x7.2.2 + 1) (lv' := [(5, vi (x7.2.2 + 1)), (4, vi v31), (0, vr a0), (1, vi a1), (2, vr a2), (3, vi x23), (6, vi v16), (7, vi v19)]) (by decide +kernel) rfl rfl (Nat.le_of_ble_eq_true rfl) rfl) ?_
              refine r_p (pc' := 34) (p_goto (off := -88) (tgt := 34) (by decide +kernel) (by decide)) ?_
              refine r_sub (lv' := [(0, vr a0), (1, vi a1), (2, vr a2), (3, vi x23), (4, vi v31), (5, vi (x7.2.2 + 1))]) [2, 3, 4, 5, 1, 0] rfl ?_
              exact hb9 (x23, v31, x7.2.2 + 1) _
            · refine r_icmpne (off := 27) (tgt := 110) (by decide +kernel) (by decide) (fun h22 => ?_) (fun h22 => ?_)
              · refine r_p (pc' := 87) (p_aload_n 2 (k := 0) (by decide +kernel) rfl) ?_
                refine r_p (pc' := 89) (p_iload 1 (i := 6) (by decide +kernel) rfl) ?_
                refine r_p (pc' := 91) (p_iload 0 (i := 7) (by decide +kernel) rfl) ?_
                refine r_p (pc' := 92) (p_aload_n 4 (k := 2) (by decide +kernel) rfl) ?_
                refine r_callVI mvX4_26 (ctX4_holds a0 v16 v19 a2) (rcX4_holds a0 v16 v19 a2) ⟨_, _, rfl⟩ (as := [vi v16, vi v19, vr a2]) (st := []) rfl rfl (by decide +kernel) rfl (Nat.le_of_ble_eq_true rfl) (Nat.le_of_ble_eq_true rfl) fun v26 s => ?_
                refine r_ifeq (off := 15) (tgt := 110) (by decide +kernel) (by decide) (fun h27 => ?_) (fun h27 => ?_)
                · refine r_sub (lv' := [(0, vr a0), (1, vi a1), (2, vr a2), (3, vi x7.1), (5, vi x7.2.2), (6, vi v16), (7, vi v19)]) [2, 3, 4, 5, 7, 1, 0] rfl ?_
                  exact hj25 x7.1 _
                · refine r_p (pc' := 99) (p_iload_n 5 (k := 3) (by decide +kernel) rfl) ?_
                  refine r_p (pc' := 100) (p_aload_n 2 (k := 0) (by decide +kernel) rfl) ?_
                  refine r_gR flX4_19_4 (by decide +kernel) fun v28 => ?_
                  refine r_p (pc' := 105) (p_iload 6 (i := 4) (by decide +kernel) rfl) ?_
                  refine r_p (pc' := 106) (p_iconst (n := 1) (v := 1) (by decide +kernel) rfl) ?_
                  refine r_p (pc' := 107) (p_iadd (by decide +kernel)) ?_
                  refine r_ldI0 (by decide +kernel) fun v29 => ?_
                  refine r_p (pc' := 109) (p_iadd (by decide +kernel)) ?_
                  refine r_letI fun v30 => ?_
                  refine r_p (pc' := 110) (p_istore_n (k := 3) (lv' := [(3, vi v30), (7, vi v19), (6, vi v16), (0, vr a0), (1, vi a1), (2, vr a2), (4, vi x7.2.1), (5, vi x7.2.2)]) (by decide +kernel) (Nat.le_of_ble_eq_true rfl) rfl) ?_
                  refine r_sub (lv' := [(0, vr a0), (1, vi a1), (2, vr a2), (3, vi v30), (5, vi x7.2.2), (6, vi v16), (7, vi v19)]) [3, 4, 5, 0, 7, 2, 1] rfl ?_
                  exact hj25 v30 _
              · refine r_sub (lv' := [(0, vr a0), (1, vi a1), (2, vr a2), (3, vi x7.1), (5, vi x7.2.2), (6, vi v16), (7, vi v19)]) [2, 3, 4, 5, 7, 1, 0] rfl ?_
                exact hj25 x7.1 _
  · refine r_p (pc' := 8) (p_iconst (n := 0) (v := 0) (by decide +kernel) rfl) ?_
    exact r_iret rfl rfl _ rfl rfl (by decide +kernel)
def aX4_asksHarm : StA := (RX4, cX4_asksHarm, 2, some .boolean, yX4_asksHarm, 8, [])
noncomputable def mX4_asksHarm_L2 (a0 : Nat) (x1 : Int32) : MM ((Int32) ⊕ (Unit ⊕ Unit)) :=
  mbnd (gR 4 1 a0) fun (v5 : Nat) =>
  mbnd (lenI 0 v5) fun (v6 : Int32) =>
  if v6 ≤ x1 then (
    mret (.inr ((.inr ())))
  ) else (
    mbnd (gR 4 1 a0) fun (v8 : Nat) =>
    mbnd (ldI 0 v8 x1) fun (v9 : Int32) =>
    if v9 = 1003 then (
      mret (.inr ((.inl ())))
    ) else (
      mret (.inl (x1 + 1))
    )
  )
noncomputable def mX4_asksHarm (a0 : Nat) : MM Int32 := onC 4 a0 (
  mbnd (loopM (mX4_asksHarm_L2 a0) 0) fun (e11 : Unit ⊕ Unit) => match e11 with
    | .inl e11 => (
      mret 1
      )
    | .inr e11 => (
      mret 0
      )
  )
theorem rcX4_asksHarm (a0 : Nat) : Rcv 4 a0 (mX4_asksHarm a0) := fun s r h => ⟨(onC_some h).1, (onC_some h).2.1⟩
set_option maxHeartbeats 4000000 in
set_option maxRecDepth 100000 in
theorem ctX4_asksHarm (a0 : Nat) : Ct aX4_asksHarm [vr a0] (mX4_asksHarm a0) rI := by
  unfold mX4_asksHarm
  refine ct_onC (ct_intro (by decide +kernel) rfl (Nat.le_of_ble_eq_true rfl) fun Y s => ?_)
  refine r_sub (lv' := [(0, vr a0)]) [0] rfl ?_
  refine r_p (pc' := 1) (p_iconst (n := 0) (v := 0) (by decide +kernel) rfl) ?_
  refine r_p (pc' := 2) (p_istore_n (k := 1) (lv' := [(1, vi 0), (0, vr a0)]) (by decide +kernel) (Nat.le_of_ble_eq_true rfl) rfl) ?_
  refine r_sub (lv' := [(0, vr a0), (1, vi 0)]) [1, 0] rfl ?_
  refine r_loop2 (fun (e11 : Unit ⊕ Unit) => match e11 with | .inl _ => 23 | .inr _ => 31) (fun (e11 : Unit ⊕ Unit) => match e11 with | .inl e11 => [] | .inr e11 => []) (fun (x1 : Int32) => [(0, vr a0), (1, vi x1)]) (fun e11 s => ?_) (fun K2 hb3 he4 x1 s => ?_) 0 _
  · rcases e11 with e11 | e11
    · show Rr _ _ 23 [] [] _ _ _ _
      refine r_p (pc' := 24) (p_iconst (n := 1) (v := 1) (by decide +kernel) rfl) ?_
      exact r_iret rfl rfl _ rfl rfl (by decide +kernel)
    · show Rr _ _ 31 [] [] _ _ _ _
      refine r_p (pc' := 32) (p_iconst (n := 0) (v := 0) (by decide +kernel) rfl) ?_
      exact r_iret rfl rfl _ rfl rfl (by decide +kernel)
  · unfold mX4_asksHarm_L2
    refine r_p (pc' := 3) (p_iload_n 1 (k := 1) (by decide +kernel) rfl) ?_
    refine r_p (pc' := 4) (p_aload_n 0 (k := 0) (by decide +kernel) rfl) ?_
    refine r_gR flX4_19_4 (by decide +kernel) fun v5 => ?_
    refine r_lenI (by decide) (by decide +kernel) fun v6 => ?_
    refine r_icmpge (off := 23) (tgt := 31) (by decide +kernel) (by decide) (fun h7 => ?_) (fun h7 => ?_)
    · refine r_sub (lv' := []) [] rfl ?_
      exact he4 ((.inr ())) _
    · refine r_p (pc' := 12) (p_aload_n 0 (k := 0) (by decide +kernel) rfl) ?_
      refine r_gR flX4_19_4 (by decide +kernel) fun v8 => ?_
      refine r_p (pc' := 16) (p_iload_n 1 (k := 1) (by decide +kernel) rfl) ?_
      refine r_ldI0 (by decide +kernel) fun v9 => ?_
      refine r_p (pc' := 20) (p_sipush (n := 1003) (v := 1003) (by decide +kernel) (by decide +kernel)) ?_
      refine r_icmpne (off := 5) (tgt := 25) (by decide +kernel) (by decide) (fun h10 => ?_) (fun h10 => ?_)
      · refine r_sub (lv' := []) [] rfl ?_
        exact he4 ((.inl ())) _
      · refine r_p (pc' := 28) (p_iinc 1 (i := 1) (n := 1) (x := x1) (v := x1 + 1) (lv' := [(1, vi (x1 + 1)), (0, vr a0)]) (by decide +kernel) rfl rfl (Nat.le_of_ble_eq_true rfl) rfl) ?_
        refine r_p (pc' := 2) (p_goto (off := -26) (tgt := 2) (by decide +kernel) (by decide)) ?_
        refine r_sub (lv' := [(0, vr a0), (1, vi (x1 + 1))]) [1, 0] rfl ?_
        exact hb3 (x1 + 1) _
