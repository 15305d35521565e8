/-! WHAT IS PLAIN of a law's text on both sides -/
noncomputable def pCS : MM Int32 :=
  mbnd (mX5_readSum 59) fun (v3 : Int32) =>
  if v3 = 0 then (
    mret 0
  ) else (
    mbnd (gI 5 7 59) fun (v5 : Int32) =>
    if v5 = 60 then (
      mbnd (nox (mX10_goOnl 59)) fun _ =>
      mbnd (mX5_readSum 59) fun (v7 : Int32) =>
      if v7 = 0 then (
        mret 0
      ) else (
        mbnd (α := Int32) (
          if v5 = 60 then (
            mret 1031
          ) else (
            mret 1032
          )
        ) fun (x10 : Int32) =>
        mbnd (mX5_write 59 x10) fun (v13 : Int32) =>
        if v13 = 0 then (
          mret 0
        ) else (
          mret 1
        )
      )
    ) else (
      if v5 = 62 then (
        mbnd (nox (mX10_goOnl 59)) fun _ =>
        mbnd (mX5_readSum 59) fun (v16 : Int32) =>
        if v16 = 0 then (
          mret 0
        ) else (
          mbnd (α := Int32) (
            if v5 = 60 then (
              mret 1031
            ) else (
              mret 1032
            )
          ) fun (x19 : Int32) =>
          mbnd (mX5_write 59 x19) fun (v22 : Int32) =>
          if v22 = 0 then (
            mret 0
          ) else (
            mret 1
          )
        )
      ) else (
        mbnd (gI 5 8 59) fun (v24 : Int32) =>
        mbnd (nox (mX10_wrongl 59 v24)) fun (v25 : Int32) =>
        mbool v25
      )
    )
  )
noncomputable def pRS : MM Int32 :=
  mbnd (mX12_readSum 66) fun (v7 : Int32) =>
  if v7 = 0 then (
    mret 0
  ) else (
    mbnd (mX12_sign 66 60) fun (v9 : Int32) =>
    if v9 = 0 then (
      mbnd (mX12_sign 66 62) fun (v11 : Int32) =>
      if v11 = 0 then (
        mret 0
      ) else (
        mbnd (mX12_readSum 66) fun (v13 : Int32) =>
        if v13 = 0 then (
          mret 0
        ) else (
          mbnd (α := Int32) (
            if v9 = 0 then (
              mret 13
            ) else (
              mret 12
            )
          ) fun (x16 : Int32) =>
          mbnd (mX12_emits 66 x16 0) fun _ =>
          mret 1
        )
      )
    ) else (
      mbnd (mX12_readSum 66) fun (v19 : Int32) =>
      if v19 = 0 then (
        mret 0
      ) else (
        mbnd (α := Int32) (
          if v9 = 0 then (
            mret 13
          ) else (
            mret 12
          )
        ) fun (x22 : Int32) =>
        mbnd (mX12_emits 66 x22 0) fun _ =>
        mret 1
      )
    )
  )
noncomputable def pRA : MM Int32 := mbnd (mX12_readTag 66) fun (v5 : Int32) => if v5 = 0 then pRS else mret 1
section PLB
variable {s sm : aS} {M : MK} {W0 : Nat → Int32} {P : List It} {dp n c0 k d b : Nat} {B : Nat → Nat} {C S : List Nat} {nu li fa : Int32}
noncomputable def tl2C (it : Nat) : MM Int32 := mbnd (mX5_readSum 59) fun (v : Int32) => if v = 0 then mret 0 else mbnd (mX5_write 59 (Int32.ofNat (1019 + it))) fun (v13 : Int32) => if v13 = 0 then mret 0 else mret 1
noncomputable def tl2R (it : Nat) : MM Int32 := mbnd (mX12_readSum 66) fun (v : Int32) => if v = 0 then mret 0 else mbnd (mX12_emits 66 (Int32.ofNat it) 0) fun _ => mret 1
theorem half {it : Nat} (hit : it = 12 ∨ it = 13) (TB : Byt M n B) (L : LSt s n B c0 k C S d b nu li fa) (H : RSt sm M n B W0 P dp k) (hC : C.length + S.length + 1 ≤ tb B n k) (hP : P.length + 1 + 3 ≤ tb B n k) :
    (∃ z, (LRun (tl2C it) s 0 fun s' => LFl s' z) ∧ NRun (tl2R it) sm 0 fun s' => RBad s' M W0 z) ∨
    ∃ k' Q nu', (LRun (tl2C it) s 1 fun s' => LSt s' n B c0 k' (C ++ Q.map encI ++ [1019 + it]) S d b nu' li fa) ∧ (NRun (tl2R it) sm 1 fun s' => RSt s' M n B W0 (P ++ Q ++ [(it, 0)]) dp k') ∧ k < k' ∧ tb B n k + Q.length ≤ tb B n k' ∧ (∀ i, i ∈ Q → itOk i) ∧ ∀ T, T.length ≤ 28 → tyP Q T = some (false :: T) := by
  have hn := L.bd.1
  rcases sum_both TB L H (by omega) (by omega) with ⟨z, c3, r3⟩ | ⟨k3, Q3, nu3, ⟨s3, e3, L3, o3⟩, ⟨m3, f3, R3, p3⟩, hk3, hq3, hok3, ty3⟩
  · refine Or.inl ⟨z, LRun.bnd c3 fun s4 L4 => ?_, NRun.bnd r3 fun s4 R4 => ?_⟩
    · rw [if_pos rfl]
      exact LRun.ret L4
    · rw [if_pos rfl]
      exact NRun.ret R4
  · have ht3 := tb_le B n k3
    have lC3 : (C ++ Q3.map encI).length = C.length + Q3.length := by rw [List.length_append, List.length_map]
    have lP3 : (P ++ Q3).length = P.length + Q3.length := List.length_append
    obtain ⟨s4, e4, L4, o4⟩ := L3.write (v := 1019 + it) (u := Int32.ofNat (1019 + it)) (by omega) rfl
    obtain ⟨m4, f4, R4, p4⟩ := R3.emits (by omega) (it, 0) (a := Int32.ofNat it) (v := 0) rfl (fun q => by
      have q' : it = 8 ∨ it = 10 := q
      omega)
    refine Or.inr ⟨k3, Q3, nu3, ⟨s4, ?_, L4, o3.trans o4⟩, ⟨m4, ?_, R4, p3.trans p4⟩, hk3, hq3, hok3, ty3⟩
    · unfold tl2C
      rw [bnd_ok e3, if_neg (show ¬ (1 : Int32) = 0 by decide), bnd_ok e4, if_neg (show ¬ (1 : Int32) = 0 by decide)]
      rfl
    · unfold tl2R
      rw [bnd_ok f3, if_neg (show ¬ (1 : Int32) = 0 by decide), bnd_ok f4]
      rfl
theorem plain_sum (TB : Byt M n B) (L : LSt s n B c0 k C S d b nu li fa) (H : RSt sm M n B W0 P dp k) (hC : C.length + S.length ≤ tb B n k) (hP : P.length + 3 ≤ tb B n k) : BothP true 27 pCS pRS s sm M W0 n B c0 k C S P d b dp li fa := by
  have hb := L.bd.2.2.2.1
  have hn := L.bd.1
  rcases sum_both TB L H hC hP with ⟨z, c1, r1⟩ | ⟨k1, Q1, nu1, ⟨s1, e1, L1, o1⟩, ⟨m1, f1, R1, p1⟩, hk1, hq1, hok1, ty1'⟩
  · refine Or.inl ⟨z, ?_, ?_⟩
    · unfold pCS
      exact LRun.bnd c1 fun s1 L1 => by
        rw [if_pos rfl]
        exact LRun.ret L1
    · unfold pRS
      exact NRun.bnd r1 fun s1 R1 => by
        rw [if_pos rfl]
        exact NRun.ret R1
  have lC1 : (C ++ Q1.map encI).length = C.length + Q1.length := by rw [List.length_append, List.length_map]
  have lP1 : (P ++ Q1).length = P.length + Q1.length := List.length_append
  have fin : ∀ (it : Nat) (s2 m2 : aS), (it = 12 ∨ it = 13) → tb B n k1 < n → LSt s2 n B c0 (k1 + 1) (C ++ Q1.map encI) S d b nu1 li fa → RSt m2 M n B W0 (P ++ Q1) dp (k1 + 1) → Off s s2 59 65 → Off sm m2 66 (66 + 12) → pCS s = tl2C it s2 → pRS sm = tl2R it m2 → BothP true 27 pCS pRS s sm M W0 n B c0 k C S P d b dp li fa := by
    intro it s2 m2 hit hlt L2 R2 o2 p2 ec er
    have hst := tb_step hlt
    rcases half hit TB L2 R2 (by omega) (by omega) with ⟨z, ⟨s3, e3, L3, o3⟩, ⟨m3, f3, R3, p3⟩⟩ | ⟨k3, Q3, nu3, ⟨s3, e3, L3, o3⟩, ⟨m3, f3, R3, p3⟩, hk3, hq3, hok3, ty3⟩
    · exact Or.inl ⟨z, ⟨s3, ec.trans e3, L3, o2.trans o3⟩, ⟨m3, er.trans f3, R3, p2.trans p3⟩⟩
    · have ee : encI (it, 0) = 1019 + it := by rcases hit with rfl | rfl <;> rfl
      refine Or.inr ⟨k3, Q1 ++ (Q3 ++ [(it, 0)]), nu3, ⟨s3, ec.trans e3, ?_, o2.trans o3⟩, ⟨m3, er.trans f3, ?_, p2.trans p3⟩, by omega, ?_, fun i hi => ?_, fun T hT => ?_⟩
      · have eC : C ++ (Q1 ++ (Q3 ++ [(it, 0)])).map encI = C ++ Q1.map encI ++ Q3.map encI ++ [1019 + it] := by
          rw [List.map_append, List.map_append, List.append_assoc, List.append_assoc, ← ee]
          rfl
        rw [eC]
        exact L3
      · have eP : P ++ (Q1 ++ (Q3 ++ [(it, 0)])) = P ++ Q1 ++ Q3 ++ [(it, 0)] := by rw [List.append_assoc, List.append_assoc]
        rw [eP]
        exact R3
      · rw [List.length_append, List.length_append]
        show _ + (Q1.length + (Q3.length + 1)) ≤ _
        omega
      · rcases List.mem_append.mp hi with hi | hi
        · exact hok1 i hi
        · rcases List.mem_append.mp hi with hi | hi
          · exact hok3 i hi
          · rw [List.mem_singleton.mp hi]
            exact itOk_op (by omega) (by omega)
      · rw [tyP_app _ _ _ _ (ty1' T (by omega)), tyP_app _ _ _ _ (ty3 (false :: T) (by show T.length + 1 ≤ 28; omega))]
        rcases hit with rfl | rfl
        · exact tyP_one (ty_less T) []
        · exact tyP_one (ty_more T) []
  have cs : ∀ {α : Type} (X Y : MM α), X = Y → X s = Y s := fun X Y e => by rw [e]
  by_cases h60 : thing B n (tb B n k1) = 60
  · have hlt := ((sign_thing2 hb (ch := 60) (by decide) (by decide)).mp h60).1
    obtain ⟨m2, f2, ⟨i2, hi2, hx2, R2⟩, p2⟩ := (R1.sign TB (c := 60) (Or.inr (by decide)) (u := 60) rfl).1 h60
    obtain ⟨s2, e2, L2, o2⟩ := L1.go (L1.more hlt)
    refine fin 12 s2 m2 (Or.inl rfl) hlt L2 ⟨i2, _, hi2, hx2, R2⟩ (o1.trans o2) (p1.trans p2) ?_ ?_
    · unfold pCS
      rw [bnd_ok e1, if_neg (show ¬ (1 : Int32) = 0 by decide), bnd_ok L1.g7, if_pos h60, bnd_ok e2, if_pos h60]
      rfl
    · unfold pRS
      rw [bnd_ok f1, if_neg (show ¬ (1 : Int32) = 0 by decide), bnd_ok f2, if_neg (show ¬ (1 : Int32) = 0 by decide), if_neg (show ¬ (1 : Int32) = 0 by decide)]
      rfl
  · obtain ⟨m2, f2, R2, p2⟩ := (R1.sign TB (c := 60) (Or.inr (by decide)) (u := 60) rfl).2 h60
    by_cases h62 : thing B n (tb B n k1) = 62
    · have hlt := ((sign_thing2 hb (ch := 62) (by decide) (by decide)).mp h62).1
      obtain ⟨m3, f3, ⟨i3, hi3, hx3, R3⟩, p3⟩ := (R2.here.sign TB (c := 62) (Or.inr (by decide)) (u := 62) rfl).1 h62
      obtain ⟨s2, e2, L2, o2⟩ := L1.go (L1.more hlt)
      refine fin 13 s2 m3 (Or.inr rfl) hlt L2 ⟨i3, _, hi3, hx3, R3⟩ (o1.trans o2) (p1.trans (p2.trans p3)) ?_ ?_
      · unfold pCS
        rw [bnd_ok e1, if_neg (show ¬ (1 : Int32) = 0 by decide), bnd_ok L1.g7, if_neg h60, if_pos h62, bnd_ok e2, if_neg h60]
        rfl
      · unfold pRS
        rw [bnd_ok f1, if_neg (show ¬ (1 : Int32) = 0 by decide), bnd_ok f2, if_pos rfl, bnd_ok f3, if_neg (show ¬ (1 : Int32) = 0 by decide), if_pos rfl]
        rfl
    · obtain ⟨m3, f3, R3, p3⟩ := (R2.here.sign TB (c := 62) (Or.inr (by decide)) (u := 62) rfl).2 h62
      obtain ⟨s2, e2, L2, o2⟩ := L1.wrong
      refine Or.inl ⟨tb B n k1, ⟨s2, ?_, L2, o1.trans o2⟩, ⟨m3, ?_, R3.bad, p1.trans (p2.trans p3)⟩⟩
      · unfold pCS
        rw [bnd_ok e1, if_neg (show ¬ (1 : Int32) = 0 by decide), bnd_ok L1.g7, if_neg h60, if_neg h62]
        exact e2
      · unfold pRS
        rw [bnd_ok f1, if_neg (show ¬ (1 : Int32) = 0 by decide), bnd_ok f2, if_pos rfl, bnd_ok f3, if_pos rfl]
        rfl
theorem plain_both (TB : Byt M n B) (L : LSt s n B c0 k C S d b nu li fa) (H : RSt sm M n B W0 P dp k) (hC : C.length + S.length ≤ tb B n k) (hP : P.length + 3 ≤ tb B n k) : BothP true 27 (mX5_readPlain 59) pRA s sm M W0 n B c0 k C S P d b dp li fa := by
  have hb := L.bd.2.2.2.1
  have hn := L.bd.1
  have ht := tb_le B n k
  by_cases h : ∃ j, j < 4 ∧ thing B n (tb B n k) = Int32.ofNat (300 + j)
  · obtain ⟨j, hj, h⟩ := h
    obtain ⟨hlt, -⟩ := word_next hb h (by omega)
    have hkc := L.more hlt
    have hst := tb_step hlt
    obtain ⟨m1, f1, R1, p1⟩ := (H.tag TB (by omega)).1 j hj h
    have ev : (if Int32.ofNat (300 + j) = 303 then (mret 1009 : MM Int32) else mbnd (gI 5 7 59) fun (v56 : Int32) => mret ((1020 + v56) - 300)) s = some (.inl (Int32.ofNat (encI (if j = 3 then (9, 0) else (8, j)))), s) := by
      by_cases h3 : j = 3
      · subst h3
        rfl
      · rw [if_neg (fun q => by
          have q' : Int32.ofNat (300 + j) = Int32.ofNat 303 := q
          rw [ofN_inj (by omega) (by decide)] at q'
          omega), bnd_ok L.g7, h, if_neg h3]
        show some (Sum.inl (Int32.ofNat 1020 + Int32.ofNat (300 + j) - Int32.ofNat 300), s) = _
        rw [ofN_add, ofN_sub (by omega)]
        exact congrArg (fun z => some (Sum.inl (Int32.ofNat z), s)) (show 1020 + (300 + j) - 300 = 1020 + j by omega)
    obtain ⟨s1, e1, L1, o1⟩ := L.write (v := encI (if j = 3 then (9, 0) else (8, j))) (u := Int32.ofNat (encI (if j = 3 then (9, 0) else (8, j)))) (by omega) rfl
    obtain ⟨s2, e2, L2, o2⟩ := L1.go hkc
    refine Or.inr ⟨k + 1, [if j = 3 then (9, 0) else (8, j)], nu, ⟨s2, ?_, L2, o1.trans o2⟩, ⟨m1, ?_, R1, p1⟩, by omega, ?_, fun i hi => ?_, fun T hT => ?_⟩
    · unfold mX5_readPlain
      rw [L.oC, bnd_ok L.g7, h, if_neg (fun q => by
        have q' : Int32.ofNat (300 + j) < Int32.ofNat 300 := q
        rw [ofN_lt (by omega) (by decide)] at q'
        omega), bnd_ok L.g7, h, if_neg (fun q => by
        have q' : Int32.ofNat 303 < Int32.ofNat (300 + j) := q
        rw [ofN_lt (by decide) (by omega)] at q'
        omega), bnd_ok L.g7, h, bnd_ok ev, bnd_ok e1, bnd_ok e2]
      rfl
    · unfold pRA
      rw [bnd_ok f1, if_neg (show ¬ (1 : Int32) = 0 by decide)]
      rfl
    · show _ + 1 ≤ _
      omega
    · rw [List.mem_singleton.mp hi]
      by_cases h3 : j = 3
      · rw [if_pos h3]
        exact ⟨by decide, fun q => absurd q (by decide), fun q => absurd q (by decide)⟩
      · rw [if_neg h3]
        exact ⟨(by decide : 8 ≤ 16), fun _ => (show j ≤ 2 by omega), fun q => absurd (show (8 : Nat) = 10 from q) (by decide)⟩
    · refine tyP_one ?_ []
      unfold ty1
      by_cases h3 : j = 3
      · rw [if_pos h3, if_neg (by decide), if_pos (by decide), if_pos (show T.length < 30 by omega)]
      · rw [if_neg h3, if_neg (show ¬ ((8 : Nat) ≤ 7 ∨ (8 : Nat) = 10) by decide), if_pos (show (8 : Nat) ≤ 9 by decide), if_pos (show T.length < 30 by omega)]
  · have nh : ∀ j, j < 4 → ¬ thing B n (tb B n k) = Int32.ofNat (300 + j) := fun j hj e => h ⟨j, hj, e⟩
    obtain ⟨m1, f1, R1, p1⟩ := (H.tag TB (by omega)).2 nh
    have ec : mX5_readPlain 59 s = pCS s := by
      unfold mX5_readPlain
      rw [L.oC, bnd_ok L.g7]
      by_cases q : thing B n (tb B n k) < 300
      · rw [if_pos q]
        rfl
      · rw [if_neg q, bnd_ok L.g7, if_pos ?_]
        · rfl
        · rcases thing_lt hb (tb B n k) with e | ⟨v, hv, e⟩
          · rw [e] at q
            exact absurd (show (-1 : Int32) < 300 by decide) q
          · rw [e] at q ⊢
            have q' : ¬ v < 300 := fun z => q ((ofN_lt (m := 300) (by omega) (by decide)).mpr z)
            have q2 : ¬ v ≤ 303 := fun z => nh (v - 300) (by omega) (e.trans (congrArg Int32.ofNat (by omega)))
            exact (ofN_lt (n := 303) (by decide) (by omega)).mpr (by omega)
    have er : pRA sm = pRS m1 := by
      unfold pRA
      rw [bnd_ok f1, if_pos rfl]
    rcases plain_sum TB L R1.here hC hP with ⟨z, ⟨s3, e3, L3, o3⟩, ⟨m3, f3, R3, p3⟩⟩ | ⟨k3, Q3, nu3, ⟨s3, e3, L3, o3⟩, ⟨m3, f3, R3, p3⟩, r⟩
    · exact Or.inl ⟨z, ⟨s3, ec.trans e3, L3, o3⟩, ⟨m3, er.trans f3, R3, p1.trans p3⟩⟩
    · exact Or.inr ⟨k3, Q3, nu3, ⟨s3, ec.trans e3, L3, o3⟩, ⟨m3, er.trans f3, R3, p1.trans p3⟩, r⟩
end PLB
