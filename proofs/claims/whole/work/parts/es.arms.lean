/-! THE LAW'S ARMS: one call on both sides (printed by a program of mine) -/
theorem nb (a : Int32) (s : aS) : (if a = 0 then mret 0 else mret 1 : MM Int32) s = some (.inl (if a = 0 then 0 else 1), s) := by split <;> rfl
theorem nb64 (a : Int32) (s : aS) : (if a = 0 then mret 0 else mret 1 : MM Int64) s = some (.inl (if a = 0 then 0 else 1), s) := by split <;> rfl
theorem lgc (z : Int64) : lg_cmp z z = 0 := by
  unfold lg_cmp
  rw [if_neg (show ¬ z > z from Int64.lt_irrefl), if_pos rfl]
theorem thrown_ok {s : aS} {M : MK} (D : Mdl s 66 M) : mX12_thrown 66 s = some (.inl (M.1 0), s) := by
  unfold mX12_thrown
  rw [onC_ok D.1]
  exact (bnd_ok (gI_ok D.1 rfl)).trans rfl
theorem up_self {s : aS} {a : Nat} {e : AE} : (sup s a e).1 a = e := if_pos rfl
theorem wrap_l {mc : MM Int32} {hs : List (Nat × Int32)} {s s1 : aS} {v : Int32} {z : Int32 → Int64} {w : Int32 → MM Int64} (h : mc s = some (.inl v, s1)) (O : Ot s1) (hw : w v s1 = some (.inl (z v), s1)) : ∃ s1', nox (mcat mc (fun (v1 : Int32) => mbnd (w v1) fun (x : Int64) => mbnd (stL 79 0 x) fun _ => mret 0) (hsel hs)) s = some (.inl (0 : Int32), s1') ∧ St79 s1 s1' ∧ ∀ s2 : aS, s2.1 79 = s1'.1 79 → 79 < s2.2.1 → ldL 79 0 s2 = some (.inl (z v), s2) := by
  obtain ⟨⟨g, e⟩, lt⟩ := O
  have st : stL 79 0 (z v) s1 = some (.inl (), sup s1 79 (.inr (.inr (.inr (1, vp_updL g 0 (z v)))))) := by
    unfold stL
    rw [e]
    show (if 79 < s1.2.1 then (if (0 : Int32) < 0 ∨ 1 ≤ (0 : Int32).toNatClampNeg then none else _) else none) = _
    rw [if_pos lt, if_neg (by decide)]
    rfl
  have up : (sup s1 79 (.inr (.inr (.inr (1, vp_updL g 0 (z v)))))).1 79 = .inr (.inr (.inr (1, vp_updL g 0 (z v)))) := up_self
  refine ⟨sup s1 79 (.inr (.inr (.inr (1, vp_updL g 0 (z v))))), nox_ok ?_, ⟨rfl, fun k hk => if_neg hk, vp_updL g 0 (z v), up⟩, fun s2 h79 h2 => ?_⟩
  · unfold mcat
    rw [h]
    show mbnd (w v) _ s1 = _
    rw [bnd_ok hw, bnd_ok st]
    rfl
  · have h79' : s2.1 79 = .inr (.inr (.inr (1, vp_updL g 0 (z v)))) := h79.trans up
    unfold ldL
    rw [h79']
    show (if 79 < s2.2.1 then (if (0 : Int32) < 0 ∨ 1 ≤ (0 : Int32).toNatClampNeg then none else (some (.inl (vp_updL g 0 (z v) (0 : Int32).toNatClampNeg), s2) : Option ((Int64 ⊕ Nat) × aS))) else none) = _
    rw [if_pos h2, if_neg (by decide)]
    rfl
theorem wrap_r {mc : MM Int32} {k : Int32 → MM Int32} {hs : List (Nat × Int32)} {s s1 : aS} {e : Nat} {t : Int32} (h : mc s = some (.inr e, s1)) (ht : hsel hs e = mret t) : nox (mcat mc k (hsel hs)) s = some (.inl t, s1) := by
  refine nox_ok ?_
  unfold mcat
  rw [h]
  show hsel hs e s1 = _
  rw [ht]
  rfl
section ARMS
variable {s : aS} {c' : Nat} {mc mr : MM Int32} {hs : List (Nat × Int32)}
theorem St79.rf {s : aS} (O : Ot s) : St79 s s := ⟨rfl, fun _ _ => rfl, O.1⟩
theorem Both.plain (g : Both s mc mr [] c') : ∃ v s1, mc s = some (.inl v, s1) ∧ ∃ s2 f K M LW, mr s1 = some (.inl v, s2) ∧ Rm s s2 ∧ World s2 f K M LW c' := by
  rcases g with ⟨v, s1, e1, O1, k⟩ | ⟨e, t, r, s1, e1, ht, -⟩
  · obtain ⟨s2, f, K, M, LW, a, -, -, rm, w⟩ := k s1 (St79.rf O1)
    exact ⟨v, s1, e1, s2, f, K, M, LW, a, rm, w⟩
  · have := congrFun ht s
    cases this
theorem Both.wrapped (g : Both s mc mr hs c') : (∃ v s1 s2 f K M LW, nox (mcat mc (fun (v1 : Int32) => mbnd (stL 79 0 (v1.toInt64)) fun _ => mret 0) (hsel hs)) s = some (.inl (0 : Int32), s1) ∧ mr s1 = some (.inl v, s2) ∧ mX12_thrown 66 s2 = some (.inl 0, s2) ∧ ldL 79 0 s2 = some (.inl v.toInt64, s2) ∧ Rm s s2 ∧ World s2 f K M LW c') ∨ ∃ t r s1 s2 f K M LW, nox (mcat mc (fun (v1 : Int32) => mbnd (stL 79 0 (v1.toInt64)) fun _ => mret 0) (hsel hs)) s = some (.inl t, s1) ∧ ¬ t = 0 ∧ mr s1 = some (.inl r, s2) ∧ mX12_thrown 66 s2 = some (.inl t, s2) ∧ Rm s s2 ∧ World s2 f K M LW c' := by
  rcases g with ⟨v, s1, e1, O1, k⟩ | ⟨e, t, r, s1, e1, ht, hn, s2, f, K, M, LW, a, b, rm, w⟩
  · obtain ⟨s1', q1, q2, q3⟩ := wrap_l (hs := hs) (z := fun v => v.toInt64) (w := fun v => mret v.toInt64) e1 O1 rfl
    obtain ⟨s2, f, K, M, LW, a, b, b0, rm, w⟩ := k s1' q2
    refine Or.inl ⟨v, s1', s2, f, K, M, LW, q1, a, ?_, q3 s2 b w.2.2.2.2.1.2, rm, w⟩
    rw [← b0]
    exact thrown_ok w.1.1.2.1
  · refine Or.inr ⟨t, r, s1, s2, f, K, M, LW, wrap_r e1 ht, hn, a, ?_, rm, w⟩
    rw [← b]
    exact thrown_ok w.1.1.2.1
theorem Both.wrappedb (g : Both s mc mr hs c') : (∃ v s1 s2 f K M LW, nox (mcat mc (fun (v1 : Int32) => mbnd (α := Int64) (if v1 = 0 then (mret 0) else (mret 1)) fun (x3 : Int64) => mbnd (stL 79 0 x3) fun _ => mret 0) (hsel hs)) s = some (.inl (0 : Int32), s1) ∧ mr s1 = some (.inl v, s2) ∧ mX12_thrown 66 s2 = some (.inl 0, s2) ∧ ldL 79 0 s2 = some (.inl (if v = 0 then 0 else 1), s2) ∧ Rm s s2 ∧ World s2 f K M LW c') ∨ ∃ t r s1 s2 f K M LW, nox (mcat mc (fun (v1 : Int32) => mbnd (α := Int64) (if v1 = 0 then (mret 0) else (mret 1)) fun (x3 : Int64) => mbnd (stL 79 0 x3) fun _ => mret 0) (hsel hs)) s = some (.inl t, s1) ∧ ¬ t = 0 ∧ mr s1 = some (.inl r, s2) ∧ mX12_thrown 66 s2 = some (.inl t, s2) ∧ Rm s s2 ∧ World s2 f K M LW c' := by
  rcases g with ⟨v, s1, e1, O1, k⟩ | ⟨e, t, r, s1, e1, ht, hn, s2, f, K, M, LW, a, b, rm, w⟩
  · obtain ⟨s1', q1, q2, q3⟩ := wrap_l (hs := hs) (z := fun v => if v = 0 then 0 else 1) (w := fun v => if v = 0 then mret 0 else mret 1) e1 O1 (nb64 v s1)
    obtain ⟨s2, f, K, M, LW, a, b, b0, rm, w⟩ := k s1' q2
    refine Or.inl ⟨v, s1', s2, f, K, M, LW, q1, a, ?_, q3 s2 b w.2.2.2.2.1.2, rm, w⟩
    rw [← b0]
    exact thrown_ok w.1.1.2.1
  · refine Or.inr ⟨t, r, s1, s2, f, K, M, LW, wrap_r e1 ht, hn, a, ?_, rm, w⟩
    rw [← b]
    exact thrown_ok w.1.1.2.1
/-- an arm goes on to the next call -/
def ArmOk (s : aS) (x : Int32) (c' : Nat) (m : MM (Int32 ⊕ (Unit ⊕ Unit))) : Prop := ∃ s2 f K M LW, m s = some (.inl (.inl (x + 6)), s2) ∧ Rm s s2 ∧ World s2 f K M LW c'
theorem World.held {f : Int32} {K : CK} {M : MK} {LW : Option (List Ln)} {c : Nat} (H : World s f K M LW c) : gI 6 2 23 s = some (.inl (M.1 7), s) := by
  obtain ⟨-, -, -, -, -, li, o, h, A, mc, mr, -⟩ := H
  rw [mr.2.1]
  exact gI_ok mc.2.1 rfl
end ARMS
section ARM
variable {s : aS} {f : Int32} {K : CK} {M : MK} {LW : Option (List Ln)} {c c' : Nat} {n0 : Nat} {xs : Nat → Int32} {x : Int32}
theorem arm_0 {a1 a2 a3 a4 a5 : Int32} (l1 : ∀ s, sld n0 xs (x + 1) s = some (.inl a1, s)) (l2 : ∀ s, sld n0 xs (x + 2) s = some (.inl a2, s)) (l3 : ∀ s, sld n0 xs (x + 3) s = some (.inl a3, s)) (l4 : ∀ s, sld n0 xs (x + 4) s = some (.inl a4, s)) (l5 : ∀ s, sld n0 xs (x + 5) s = some (.inl a5, s)) (H : World s f K M LW c) (h1 : c + 60 ≤ c') (h2 : c' < 100000) : ArmOk s x c' (mL_main_c0 n0 xs 0 66 x) := by
  have g : Both s (mX11_feed 0 a1 a2 a3 a4 a5) (mX12_feed 66 a1 a2 a3 a4 a5) [] c' := go_feed H (by omega) h2
  obtain ⟨v, s1, e1, s2, f2, K2, M2, LW2, e2, rm, w2⟩ := g.plain
  refine ⟨s2, f2, K2, M2, LW2, ?_, rm, w2⟩
  unfold mL_main_c0
  rw [bnd_ok (l1 _), bnd_ok (l2 _), bnd_ok (l3 _), bnd_ok (l4 _), bnd_ok (l5 _), bnd_ok e1, bnd_ok (l1 _), bnd_ok (l2 _), bnd_ok (l3 _), bnd_ok (l4 _), bnd_ok (l5 _), bnd_ok e2, if_pos rfl]
  rfl
theorem arm_1 {a1 : Int32} (l1 : ∀ s, sld n0 xs (x + 1) s = some (.inl a1, s)) (H : World s f K M LW c) (h1 : c + 60 ≤ c') (h2 : c' < 100000) : ArmOk s x c' (mL_main_c1 n0 xs 0 66 x) := by
  have g : Both s (mX11_end 0 a1) (mX12_end 66 a1) [] c' := go_end H (by omega) h2
  obtain ⟨v, s1, e1, s2, f2, K2, M2, LW2, e2, rm, w2⟩ := g.plain
  refine ⟨s2, f2, K2, M2, LW2, ?_, rm, w2⟩
  unfold mL_main_c1
  rw [bnd_ok (l1 _), bnd_ok e1, bnd_ok (l1 _), bnd_ok e2, if_pos rfl]
  rfl
theorem arm_2 (SH : ∀ s f K M LW c c', World s f K M LW c → c ≤ c' → c' < 100000 → Both s (mX11_shop 0) (mX12_shop 66) [(0, 1), (1, 2)] c') (H : World s f K M LW c) (h1 : c + 60 ≤ c') (h2 : c' < 100000) : ArmOk s x c' (mL_main_c2 0 66 79 x) := by
  have g : Both s (mX11_shop 0) (mX12_shop 66) [(0, 1), (1, 2)] c' := SH s f K M LW c c' H (by omega) h2
  rcases g.wrapped with ⟨v, s1, s2, f2, K2, M2, LW2, wr, e2, th, ld, rm, w2⟩ | ⟨t, r, s1, s2, f2, K2, M2, LW2, wr, ht, e2, th, rm, w2⟩
  · refine ⟨s2, f2, K2, M2, LW2, ?_, rm, w2⟩
    unfold mL_main_c2
    rw [bnd_ok (show nox (mL_shop 0 79) s = _ from wr), bnd_ok e2, bnd_ok th, if_pos rfl, if_pos rfl, bnd_ok ld, if_pos (lgc _)]
    rfl
  · refine ⟨s2, f2, K2, M2, LW2, ?_, rm, w2⟩
    unfold mL_main_c2
    rw [bnd_ok (show nox (mL_shop 0 79) s = _ from wr), bnd_ok e2, bnd_ok th, if_pos rfl, if_neg ht]
    rfl
theorem arm_3 (LA : ∀ s f K M LW c c', World s f K M LW c → c ≤ c' → c' < 100000 → Both s (mX11_law 0) (mX12_law 66) [(0, 1)] c') (H : World s f K M LW c) (h1 : c + 60 ≤ c') (h2 : c' < 100000) : ArmOk s x c' (mL_main_c3 0 66 79 x) := by
  have g : Both s (mX11_law 0) (mX12_law 66) [(0, 1)] c' := LA s f K M LW c c' H (by omega) h2
  rcases g.wrapped with ⟨v, s1, s2, f2, K2, M2, LW2, wr, e2, th, ld, rm, w2⟩ | ⟨t, r, s1, s2, f2, K2, M2, LW2, wr, ht, e2, th, rm, w2⟩
  · refine ⟨s2, f2, K2, M2, LW2, ?_, rm, w2⟩
    unfold mL_main_c3
    rw [bnd_ok (show nox (mL_law 0 79) s = _ from wr), bnd_ok e2, bnd_ok th, if_pos rfl, if_pos rfl, bnd_ok ld, if_pos (lgc _)]
    rfl
  · refine ⟨s2, f2, K2, M2, LW2, ?_, rm, w2⟩
    unfold mL_main_c3
    rw [bnd_ok (show nox (mL_law 0 79) s = _ from wr), bnd_ok e2, bnd_ok th, if_pos rfl, if_neg ht]
    rfl
theorem arm_4 (H : World s f K M LW c) (h1 : c + 60 ≤ c') (h2 : c' < 100000) : ArmOk s x c' (mL_main_c4 0 66 x) := by
  have g : Both s (mX11_fault 0) (mX12_fault 66) [] c' := Ag.goes H (by omega) h2 (ag_fault H.1 H.2.1)
  obtain ⟨v, s1, e1, s2, f2, K2, M2, LW2, e2, rm, w2⟩ := g.plain
  refine ⟨s2, f2, K2, M2, LW2, ?_, rm, w2⟩
  unfold mL_main_c4
  rw [bnd_ok e1, bnd_ok e2, if_pos rfl]
  rfl
theorem arm_5 {a1 a2 : Int32} (l1 : ∀ s, sld n0 xs (x + 1) s = some (.inl a1, s)) (l2 : ∀ s, sld n0 xs (x + 2) s = some (.inl a2, s)) (H : World s f K M LW c) (h1 : c + 60 ≤ c') (h2 : c' < 100000) : ArmOk s x c' (mL_main_c5 n0 xs 0 66 79 x) := by
  have g : Both s (mX11_part 0 a1 a2) (mX12_part 66 a1 a2) [(2, 1), (3, 2)] c' := Ag.goes H (by omega) h2 (ag_part H.1.1)
  rcases g.wrapped with ⟨v, s1, s2, f2, K2, M2, LW2, wr, e2, th, ld, rm, w2⟩ | ⟨t, r, s1, s2, f2, K2, M2, LW2, wr, ht, e2, th, rm, w2⟩
  · refine ⟨s2, f2, K2, M2, LW2, ?_, rm, w2⟩
    unfold mL_main_c5
    rw [bnd_ok (l1 _), bnd_ok (l2 _), bnd_ok (show nox (mL_part 0 a1 a2 79) s = _ from wr), bnd_ok (l1 _), bnd_ok (l2 _), bnd_ok e2, bnd_ok th, if_pos rfl, if_pos rfl, bnd_ok ld, if_pos (lgc _)]
    rfl
  · refine ⟨s2, f2, K2, M2, LW2, ?_, rm, w2⟩
    unfold mL_main_c5
    rw [bnd_ok (l1 _), bnd_ok (l2 _), bnd_ok (show nox (mL_part 0 a1 a2 79) s = _ from wr), bnd_ok (l1 _), bnd_ok (l2 _), bnd_ok e2, bnd_ok th, if_pos rfl, if_neg ht]
    rfl
theorem arm_6 {a1 a2 : Int32} (l1 : ∀ s, sld n0 xs (x + 1) s = some (.inl a1, s)) (l2 : ∀ s, sld n0 xs (x + 2) s = some (.inl a2, s)) (H : World s f K M LW c) (h1 : c + 60 ≤ c') (h2 : c' < 100000) : ArmOk s x c' (mL_main_c6 n0 xs 0 66 79 x) := by
  have g : Both s (mX11_tool 0 a1 a2) (mX12_tool 66 a1 a2) [(2, 1), (3, 2)] c' := Ag.goes H (by omega) h2 (ag_tool H.1.1)
  rcases g.wrapped with ⟨v, s1, s2, f2, K2, M2, LW2, wr, e2, th, ld, rm, w2⟩ | ⟨t, r, s1, s2, f2, K2, M2, LW2, wr, ht, e2, th, rm, w2⟩
  · refine ⟨s2, f2, K2, M2, LW2, ?_, rm, w2⟩
    unfold mL_main_c6
    rw [bnd_ok (l1 _), bnd_ok (l2 _), bnd_ok (show nox (mL_tool 0 a1 a2 79) s = _ from wr), bnd_ok (l1 _), bnd_ok (l2 _), bnd_ok e2, bnd_ok th, if_pos rfl, if_pos rfl, bnd_ok ld, if_pos (lgc _)]
    rfl
  · refine ⟨s2, f2, K2, M2, LW2, ?_, rm, w2⟩
    unfold mL_main_c6
    rw [bnd_ok (l1 _), bnd_ok (l2 _), bnd_ok (show nox (mL_tool 0 a1 a2 79) s = _ from wr), bnd_ok (l1 _), bnd_ok (l2 _), bnd_ok e2, bnd_ok th, if_pos rfl, if_neg ht]
    rfl
theorem arm_7 {a1 a2 : Int32} (l1 : ∀ s, sld n0 xs (x + 1) s = some (.inl a1, s)) (l2 : ∀ s, sld n0 xs (x + 2) s = some (.inl a2, s)) (H : World s f K M LW c) (h1 : c + 60 ≤ c') (h2 : c' < 100000) : ArmOk s x c' (mL_main_c7 n0 xs 0 66 79 x) := by
  have g : Both s (mX11_master 0 a1 (if a2 = 0 then 0 else 1)) (mX12_master 66 a1 (if a2 = 0 then 0 else 1)) [(2, 1)] c' := Ag.goes H (by omega) h2 (ag_master H.1.1)
  rcases g.wrapped with ⟨v, s1, s2, f2, K2, M2, LW2, wr, e2, th, ld, rm, w2⟩ | ⟨t, r, s1, s2, f2, K2, M2, LW2, wr, ht, e2, th, rm, w2⟩
  · refine ⟨s2, f2, K2, M2, LW2, ?_, rm, w2⟩
    unfold mL_main_c7
    rw [bnd_ok (l1 _), bnd_ok (l2 _), bnd_ok (nb a2 _), bnd_ok (show nox (mL_master 0 a1 (if a2 = 0 then 0 else 1) 79) s = _ from wr), bnd_ok (l1 _), bnd_ok (l2 _), bnd_ok (nb a2 _), bnd_ok e2, bnd_ok th, if_pos rfl, if_pos rfl, bnd_ok ld, if_pos (lgc _)]
    rfl
  · refine ⟨s2, f2, K2, M2, LW2, ?_, rm, w2⟩
    unfold mL_main_c7
    rw [bnd_ok (l1 _), bnd_ok (l2 _), bnd_ok (nb a2 _), bnd_ok (show nox (mL_master 0 a1 (if a2 = 0 then 0 else 1) 79) s = _ from wr), bnd_ok (l1 _), bnd_ok (l2 _), bnd_ok (nb a2 _), bnd_ok e2, bnd_ok th, if_pos rfl, if_neg ht]
    rfl
theorem arm_8 {a1 a2 : Int32} (l1 : ∀ s, sld n0 xs (x + 1) s = some (.inl a1, s)) (l2 : ∀ s, sld n0 xs (x + 2) s = some (.inl a2, s)) (H : World s f K M LW c) (h1 : c + 60 ≤ c') (h2 : c' < 100000) : ArmOk s x c' (mL_main_c8 n0 xs 0 66 79 x) := by
  have g : Both s (mX11_rule 0 a1 a2) (mX12_rule 66 a1 a2) [(2, 1), (3, 2)] c' := Ag.goes H (by omega) h2 (ag_rule H.1)
  rcases g.wrapped with ⟨v, s1, s2, f2, K2, M2, LW2, wr, e2, th, ld, rm, w2⟩ | ⟨t, r, s1, s2, f2, K2, M2, LW2, wr, ht, e2, th, rm, w2⟩
  · refine ⟨s2, f2, K2, M2, LW2, ?_, rm, w2⟩
    unfold mL_main_c8
    rw [bnd_ok (l1 _), bnd_ok (l2 _), bnd_ok (show nox (mL_rule 0 a1 a2 79) s = _ from wr), bnd_ok (l1 _), bnd_ok (l2 _), bnd_ok e2, bnd_ok th, if_pos rfl, if_pos rfl, bnd_ok ld, if_pos (lgc _)]
    rfl
  · refine ⟨s2, f2, K2, M2, LW2, ?_, rm, w2⟩
    unfold mL_main_c8
    rw [bnd_ok (l1 _), bnd_ok (l2 _), bnd_ok (show nox (mL_rule 0 a1 a2 79) s = _ from wr), bnd_ok (l1 _), bnd_ok (l2 _), bnd_ok e2, bnd_ok th, if_pos rfl, if_neg ht]
    rfl
theorem arm_9 {a1 a2 a3 a4 : Int32} (l1 : ∀ s, sld n0 xs (x + 1) s = some (.inl a1, s)) (l2 : ∀ s, sld n0 xs (x + 2) s = some (.inl a2, s)) (l3 : ∀ s, sld n0 xs (x + 3) s = some (.inl a3, s)) (l4 : ∀ s, sld n0 xs (x + 4) s = some (.inl a4, s)) (H : World s f K M LW c) (h1 : c + 60 ≤ c') (h2 : c' < 100000) : ArmOk s x c' (mL_main_c9 n0 xs 0 66 79 x) := by
  have g : Both s (mX11_deed 0 a1 a2 a3 a4) (mX12_deed 66 a1 a2 a3 a4) [(2, 1), (0, 2), (4, 3), (1, 4)] c' := go_deed H (by omega) h2
  rcases g.wrapped with ⟨v, s1, s2, f2, K2, M2, LW2, wr, e2, th, ld, rm, w2⟩ | ⟨t, r, s1, s2, f2, K2, M2, LW2, wr, ht, e2, th, rm, w2⟩
  · refine ⟨s2, f2, K2, M2, LW2, ?_, rm, w2⟩
    unfold mL_main_c9
    rw [bnd_ok (l1 _), bnd_ok (l2 _), bnd_ok (l3 _), bnd_ok (l4 _), bnd_ok (show nox (mL_deed 0 a1 a2 a3 a4 79) s = _ from wr), bnd_ok (l1 _), bnd_ok (l2 _), bnd_ok (l3 _), bnd_ok (l4 _), bnd_ok e2, bnd_ok th, if_pos rfl, if_pos rfl, bnd_ok ld, if_pos (lgc _)]
    rfl
  · refine ⟨s2, f2, K2, M2, LW2, ?_, rm, w2⟩
    unfold mL_main_c9
    rw [bnd_ok (l1 _), bnd_ok (l2 _), bnd_ok (l3 _), bnd_ok (l4 _), bnd_ok (show nox (mL_deed 0 a1 a2 a3 a4 79) s = _ from wr), bnd_ok (l1 _), bnd_ok (l2 _), bnd_ok (l3 _), bnd_ok (l4 _), bnd_ok e2, bnd_ok th, if_pos rfl, if_neg ht]
    rfl
theorem arm_10 {a1 a2 a3 : Int32} (l1 : ∀ s, sld n0 xs (x + 1) s = some (.inl a1, s)) (l2 : ∀ s, sld n0 xs (x + 2) s = some (.inl a2, s)) (l3 : ∀ s, sld n0 xs (x + 3) s = some (.inl a3, s)) (H : World s f K M LW c) (h1 : c + 60 ≤ c') (h2 : c' < 100000) : ArmOk s x c' (mL_main_c10 n0 xs 0 66 79 x) := by
  have g : Both s (mX11_swap 0 a1 a2 a3) (mX12_swap 66 a1 a2 a3) [(2, 1), (0, 2), (4, 3)] c' := go_swap H (by omega) h2
  rcases g.wrapped with ⟨v, s1, s2, f2, K2, M2, LW2, wr, e2, th, ld, rm, w2⟩ | ⟨t, r, s1, s2, f2, K2, M2, LW2, wr, ht, e2, th, rm, w2⟩
  · refine ⟨s2, f2, K2, M2, LW2, ?_, rm, w2⟩
    unfold mL_main_c10
    rw [bnd_ok (l1 _), bnd_ok (l2 _), bnd_ok (l3 _), bnd_ok (show nox (mL_swap 0 a1 a2 a3 79) s = _ from wr), bnd_ok (l1 _), bnd_ok (l2 _), bnd_ok (l3 _), bnd_ok e2, bnd_ok th, if_pos rfl, if_pos rfl, bnd_ok ld, if_pos (lgc _)]
    rfl
  · refine ⟨s2, f2, K2, M2, LW2, ?_, rm, w2⟩
    unfold mL_main_c10
    rw [bnd_ok (l1 _), bnd_ok (l2 _), bnd_ok (l3 _), bnd_ok (show nox (mL_swap 0 a1 a2 a3 79) s = _ from wr), bnd_ok (l1 _), bnd_ok (l2 _), bnd_ok (l3 _), bnd_ok e2, bnd_ok th, if_pos rfl, if_neg ht]
    rfl
theorem arm_11 {a1 a2 : Int32} (l1 : ∀ s, sld n0 xs (x + 1) s = some (.inl a1, s)) (l2 : ∀ s, sld n0 xs (x + 2) s = some (.inl a2, s)) (H : World s f K M LW c) (h1 : c + 60 ≤ c') (h2 : c' < 100000) : ArmOk s x c' (mL_main_c11 n0 xs 0 66 79 x) := by
  have g : Both s (mX11_serve 0 a1 a2) (mX12_serve 66 a1 a2) [(2, 1), (0, 2)] c' := go_serve H (by omega) h2
  rcases g.wrapped with ⟨v, s1, s2, f2, K2, M2, LW2, wr, e2, th, ld, rm, w2⟩ | ⟨t, r, s1, s2, f2, K2, M2, LW2, wr, ht, e2, th, rm, w2⟩
  · refine ⟨s2, f2, K2, M2, LW2, ?_, rm, w2⟩
    unfold mL_main_c11
    rw [bnd_ok (l1 _), bnd_ok (l2 _), bnd_ok (show nox (mL_serve 0 a1 a2 79) s = _ from wr), bnd_ok (l1 _), bnd_ok (l2 _), bnd_ok e2, bnd_ok th, if_pos rfl, if_pos rfl, bnd_ok ld, if_pos (lgc _)]
    rfl
  · refine ⟨s2, f2, K2, M2, LW2, ?_, rm, w2⟩
    unfold mL_main_c11
    rw [bnd_ok (l1 _), bnd_ok (l2 _), bnd_ok (show nox (mL_serve 0 a1 a2 79) s = _ from wr), bnd_ok (l1 _), bnd_ok (l2 _), bnd_ok e2, bnd_ok th, if_pos rfl, if_neg ht]
    rfl
theorem arm_12 {a1 : Int32} (l1 : ∀ s, sld n0 xs (x + 1) s = some (.inl a1, s)) (H : World s f K M LW c) (h1 : c + 60 ≤ c') (h2 : c' < 100000) : ArmOk s x c' (mL_main_c12 n0 xs 0 66 79 x) := by
  have g : Both s (mX11_grind 0 a1) (mX12_grind 66 a1) [(2, 1), (0, 2), (4, 3)] c' := go_grind H (by omega) h2
  rcases g.wrapped with ⟨v, s1, s2, f2, K2, M2, LW2, wr, e2, th, ld, rm, w2⟩ | ⟨t, r, s1, s2, f2, K2, M2, LW2, wr, ht, e2, th, rm, w2⟩
  · refine ⟨s2, f2, K2, M2, LW2, ?_, rm, w2⟩
    unfold mL_main_c12
    rw [bnd_ok (l1 _), bnd_ok (show nox (mL_grind 0 a1 79) s = _ from wr), bnd_ok (l1 _), bnd_ok e2, bnd_ok th, if_pos rfl, if_pos rfl, bnd_ok ld, if_pos (lgc _)]
    rfl
  · refine ⟨s2, f2, K2, M2, LW2, ?_, rm, w2⟩
    unfold mL_main_c12
    rw [bnd_ok (l1 _), bnd_ok (show nox (mL_grind 0 a1 79) s = _ from wr), bnd_ok (l1 _), bnd_ok e2, bnd_ok th, if_pos rfl, if_neg ht]
    rfl
theorem arm_13 {a1 a2 : Int32} (l1 : ∀ s, sld n0 xs (x + 1) s = some (.inl a1, s)) (l2 : ∀ s, sld n0 xs (x + 2) s = some (.inl a2, s)) (H : World s f K M LW c) (h1 : c + 60 ≤ c') (h2 : c' < 100000) : ArmOk s x c' (mL_main_c13 n0 xs 0 66 79 x) := by
  have g : Both s (mX11_nail 0 a1 (if a2 = 0 then 0 else 1)) (mX12_nail 66 a1 (if a2 = 0 then 0 else 1)) [(2, 1), (4, 2)] c' := go_nail H (by omega) h2
  rcases g.wrappedb with ⟨v, s1, s2, f2, K2, M2, LW2, wr, e2, th, ld, rm, w2⟩ | ⟨t, r, s1, s2, f2, K2, M2, LW2, wr, ht, e2, th, rm, w2⟩
  · refine ⟨s2, f2, K2, M2, LW2, ?_, rm, w2⟩
    unfold mL_main_c13
    rw [bnd_ok (l1 _), bnd_ok (l2 _), bnd_ok (nb a2 _), bnd_ok (show nox (mL_nail 0 a1 (if a2 = 0 then 0 else 1) 79) s = _ from wr), bnd_ok (l1 _), bnd_ok (l2 _), bnd_ok (nb a2 _), bnd_ok e2, bnd_ok th, if_pos rfl, if_pos rfl, bnd_ok ld, bnd_ok (nb64 v _), if_pos (lgc _)]
    rfl
  · refine ⟨s2, f2, K2, M2, LW2, ?_, rm, w2⟩
    unfold mL_main_c13
    rw [bnd_ok (l1 _), bnd_ok (l2 _), bnd_ok (nb a2 _), bnd_ok (show nox (mL_nail 0 a1 (if a2 = 0 then 0 else 1) 79) s = _ from wr), bnd_ok (l1 _), bnd_ok (l2 _), bnd_ok (nb a2 _), bnd_ok e2, bnd_ok th, if_pos rfl, if_neg ht]
    rfl
theorem arm_14 {a1 : Int32} (l1 : ∀ s, sld n0 xs (x + 1) s = some (.inl a1, s)) (H : World s f K M LW c) (h1 : c + 60 ≤ c') (h2 : c' < 100000) : ArmOk s x c' (mL_main_c14 n0 xs 0 66 79 x) := by
  have g : Both s (mX11_days 0 a1) (mX12_days 66 a1) [(0, 1)] c' := go_days H h1 h2
  rcases g.wrapped with ⟨v, s1, s2, f2, K2, M2, LW2, wr, e2, th, ld, rm, w2⟩ | ⟨t, r, s1, s2, f2, K2, M2, LW2, wr, ht, e2, th, rm, w2⟩
  · refine ⟨s2, f2, K2, M2, LW2, ?_, rm, w2⟩
    unfold mL_main_c14
    rw [bnd_ok (l1 _), bnd_ok (show nox (mL_days 0 a1 79) s = _ from wr), bnd_ok (l1 _), bnd_ok e2, bnd_ok th, if_pos rfl, if_pos rfl, bnd_ok ld, if_pos (lgc _)]
    rfl
  · refine ⟨s2, f2, K2, M2, LW2, ?_, rm, w2⟩
    unfold mL_main_c14
    rw [bnd_ok (l1 _), bnd_ok (show nox (mL_days 0 a1 79) s = _ from wr), bnd_ok (l1 _), bnd_ok e2, bnd_ok th, if_pos rfl, if_neg ht]
    rfl
theorem arm_15 (H : World s f K M LW c) (h1 : c + 60 ≤ c') (h2 : c' < 100000) : ArmOk s x c' (mL_main_c15 0 66 x) := by
  have g : Both s (mX11_guilty 0) (mX12_guilty 66) [] c' := Ag.goes H (by omega) h2 (ag_guilty H.1.1)
  obtain ⟨v, s1, e1, s2, f2, K2, M2, LW2, e2, rm, w2⟩ := g.plain
  refine ⟨s2, f2, K2, M2, LW2, ?_, rm, w2⟩
  unfold mL_main_c15
  rw [bnd_ok e1, bnd_ok e2, if_pos rfl]
  rfl
theorem arm_16 {a1 a2 a3 : Int32} (l1 : ∀ s, sld n0 xs (x + 1) s = some (.inl a1, s)) (l2 : ∀ s, sld n0 xs (x + 2) s = some (.inl a2, s)) (l3 : ∀ s, sld n0 xs (x + 3) s = some (.inl a3, s)) (H : World s f K M LW c) (h1 : c + 60 ≤ c') (h2 : c' < 100000) : ArmOk s x c' (mL_main_c16 n0 xs 0 66 79 x) := by
  have g : Both s (mX11_culprits 0 a1 a2 a3) (mX12_culprits 66 a1 a2 a3) [(0, 1)] c' := Ag.goes H (by omega) h2 (ag_culprits H.1.1)
  rcases g.wrapped with ⟨v, s1, s2, f2, K2, M2, LW2, wr, e2, th, ld, rm, w2⟩ | ⟨t, r, s1, s2, f2, K2, M2, LW2, wr, ht, e2, th, rm, w2⟩
  · refine ⟨s2, f2, K2, M2, LW2, ?_, rm, w2⟩
    unfold mL_main_c16
    rw [bnd_ok (l1 _), bnd_ok (l2 _), bnd_ok (l3 _), bnd_ok (show nox (mL_culprits 0 a1 a2 a3 79) s = _ from wr), bnd_ok (l1 _), bnd_ok (l2 _), bnd_ok (l3 _), bnd_ok e2, bnd_ok th, if_pos rfl, if_pos rfl, bnd_ok ld, if_pos (lgc _)]
    rfl
  · refine ⟨s2, f2, K2, M2, LW2, ?_, rm, w2⟩
    unfold mL_main_c16
    rw [bnd_ok (l1 _), bnd_ok (l2 _), bnd_ok (l3 _), bnd_ok (show nox (mL_culprits 0 a1 a2 a3 79) s = _ from wr), bnd_ok (l1 _), bnd_ok (l2 _), bnd_ok (l3 _), bnd_ok e2, bnd_ok th, if_pos rfl, if_neg ht]
    rfl
theorem arm_17 {a1 : Int32} (l1 : ∀ s, sld n0 xs (x + 1) s = some (.inl a1, s)) (H : World s f K M LW c) (h1 : c + 60 ≤ c') (h2 : c' < 100000) : ArmOk s x c' (mL_main_c17 n0 xs 0 66 x) := by
  have g : Both s (mX11_ask 0 (if a1 = 0 then 0 else 1)) (mX12_ask 66 (if a1 = 0 then 0 else 1)) [] c' := Ag.goes H (by omega) h2 (ag_ask H.1.1)
  obtain ⟨v, s1, e1, s2, f2, K2, M2, LW2, e2, rm, w2⟩ := g.plain
  refine ⟨s2, f2, K2, M2, LW2, ?_, rm, w2⟩
  unfold mL_main_c17
  rw [bnd_ok (l1 _), bnd_ok (nb a1 _), bnd_ok e1, bnd_ok (l1 _), bnd_ok (nb a1 _), bnd_ok e2, if_pos rfl]
  rfl
theorem arm_18 {a1 a2 : Int32} (l1 : ∀ s, sld n0 xs (x + 1) s = some (.inl a1, s)) (l2 : ∀ s, sld n0 xs (x + 2) s = some (.inl a2, s)) (H : World s f K M LW c) (h1 : c + 60 ≤ c') (h2 : c' < 100000) : ArmOk s x c' (mL_main_c18 n0 xs 0 66 79 x) := by
  have g : Both s (mX11_laundered 0 a1 (if a2 = 0 then 0 else 1)) (mX12_laundered 66 a1 (if a2 = 0 then 0 else 1)) [(2, 1)] c' := Ag.goes H (by omega) h2 (ag_laundered H.1)
  rcases g.wrapped with ⟨v, s1, s2, f2, K2, M2, LW2, wr, e2, th, ld, rm, w2⟩ | ⟨t, r, s1, s2, f2, K2, M2, LW2, wr, ht, e2, th, rm, w2⟩
  · refine ⟨s2, f2, K2, M2, LW2, ?_, rm, w2⟩
    unfold mL_main_c18
    rw [bnd_ok (l1 _), bnd_ok (l2 _), bnd_ok (nb a2 _), bnd_ok (show nox (mL_laundered 0 a1 (if a2 = 0 then 0 else 1) 79) s = _ from wr), bnd_ok (l1 _), bnd_ok (l2 _), bnd_ok (nb a2 _), bnd_ok e2, bnd_ok th, if_pos rfl, if_pos rfl, bnd_ok ld, if_pos (lgc _)]
    rfl
  · refine ⟨s2, f2, K2, M2, LW2, ?_, rm, w2⟩
    unfold mL_main_c18
    rw [bnd_ok (l1 _), bnd_ok (l2 _), bnd_ok (nb a2 _), bnd_ok (show nox (mL_laundered 0 a1 (if a2 = 0 then 0 else 1) 79) s = _ from wr), bnd_ok (l1 _), bnd_ok (l2 _), bnd_ok (nb a2 _), bnd_ok e2, bnd_ok th, if_pos rfl, if_neg ht]
    rfl
theorem arm_19 {a1 : Int32} (l1 : ∀ s, sld n0 xs (x + 1) s = some (.inl a1, s)) (H : World s f K M LW c) (h1 : c + 60 ≤ c') (h2 : c' < 100000) : ArmOk s x c' (mL_main_c19 n0 xs 0 66 79 x) := by
  have g : Both s (mX11_guard 0 a1) (mX12_guard 66 a1) [(2, 1)] c' := Ag.goes H (by omega) h2 (ag_guard H.1)
  rcases g.wrapped with ⟨v, s1, s2, f2, K2, M2, LW2, wr, e2, th, ld, rm, w2⟩ | ⟨t, r, s1, s2, f2, K2, M2, LW2, wr, ht, e2, th, rm, w2⟩
  · refine ⟨s2, f2, K2, M2, LW2, ?_, rm, w2⟩
    unfold mL_main_c19
    rw [bnd_ok (l1 _), bnd_ok (show nox (mL_guard 0 a1 79) s = _ from wr), bnd_ok (l1 _), bnd_ok e2, bnd_ok th, if_pos rfl, if_pos rfl, bnd_ok ld, if_pos (lgc _)]
    rfl
  · refine ⟨s2, f2, K2, M2, LW2, ?_, rm, w2⟩
    unfold mL_main_c19
    rw [bnd_ok (l1 _), bnd_ok (show nox (mL_guard 0 a1 79) s = _ from wr), bnd_ok (l1 _), bnd_ok e2, bnd_ok th, if_pos rfl, if_neg ht]
    rfl
theorem arm_20 {a1 : Int32} (l1 : ∀ s, sld n0 xs (x + 1) s = some (.inl a1, s)) (H : World s f K M LW c) (h1 : c + 60 ≤ c') (h2 : c' < 100000) : ArmOk s x c' (mL_main_c20 n0 xs 0 66 79 x) := by
  have g : Both s (mX11_word 0 a1) (mX12_word 66 a1) [(2, 1)] c' := Ag.goes H (by omega) h2 (ag_word H.1)
  rcases g.wrapped with ⟨v, s1, s2, f2, K2, M2, LW2, wr, e2, th, ld, rm, w2⟩ | ⟨t, r, s1, s2, f2, K2, M2, LW2, wr, ht, e2, th, rm, w2⟩
  · refine ⟨s2, f2, K2, M2, LW2, ?_, rm, w2⟩
    unfold mL_main_c20
    rw [bnd_ok (l1 _), bnd_ok (show nox (mL_word 0 a1 79) s = _ from wr), bnd_ok (l1 _), bnd_ok e2, bnd_ok th, if_pos rfl, if_pos rfl, bnd_ok ld, if_pos (lgc _)]
    rfl
  · refine ⟨s2, f2, K2, M2, LW2, ?_, rm, w2⟩
    unfold mL_main_c20
    rw [bnd_ok (l1 _), bnd_ok (show nox (mL_word 0 a1 79) s = _ from wr), bnd_ok (l1 _), bnd_ok e2, bnd_ok th, if_pos rfl, if_neg ht]
    rfl
theorem arm_21 (H : World s f K M LW c) (h1 : c + 60 ≤ c') (h2 : c' < 100000) : ArmOk s x c' (mL_main_c21 0 66 x) := by
  have g : Both s (mX11_clean 0) (mX12_clean 66) [] c' := Ag.goes H (by omega) h2 (ag_clean H.1)
  obtain ⟨v, s1, e1, s2, f2, K2, M2, LW2, e2, rm, w2⟩ := g.plain
  refine ⟨s2, f2, K2, M2, LW2, ?_, rm, w2⟩
  unfold mL_main_c21
  rw [bnd_ok e1, bnd_ok e2, if_pos rfl]
  rfl
theorem arm_22 {a1 a2 a3 : Int32} (l1 : ∀ s, sld n0 xs (x + 1) s = some (.inl a1, s)) (l2 : ∀ s, sld n0 xs (x + 2) s = some (.inl a2, s)) (l3 : ∀ s, sld n0 xs (x + 3) s = some (.inl a3, s)) (H : World s f K M LW c) (h1 : c + 60 ≤ c') (h2 : c' < 100000) : ArmOk s x c' (mL_main_c22 n0 xs 0 66 79 x) := by
  have g : Both s (mX11_exchange 0 a1 a2 (if a3 = 0 then 0 else 1)) (mX12_exchange 66 a1 a2 (if a3 = 0 then 0 else 1)) [(2, 1), (0, 2)] c' := Ag.goes H (by omega) h2 (ag_exchange H.1)
  rcases g.wrapped with ⟨v, s1, s2, f2, K2, M2, LW2, wr, e2, th, ld, rm, w2⟩ | ⟨t, r, s1, s2, f2, K2, M2, LW2, wr, ht, e2, th, rm, w2⟩
  · refine ⟨s2, f2, K2, M2, LW2, ?_, rm, w2⟩
    unfold mL_main_c22
    rw [bnd_ok (l1 _), bnd_ok (l2 _), bnd_ok (l3 _), bnd_ok (nb a3 _), bnd_ok (show nox (mL_exchange 0 a1 a2 (if a3 = 0 then 0 else 1) 79) s = _ from wr), bnd_ok (l1 _), bnd_ok (l2 _), bnd_ok (l3 _), bnd_ok (nb a3 _), bnd_ok e2, bnd_ok th, if_pos rfl, if_pos rfl, bnd_ok ld, if_pos (lgc _)]
    rfl
  · refine ⟨s2, f2, K2, M2, LW2, ?_, rm, w2⟩
    unfold mL_main_c22
    rw [bnd_ok (l1 _), bnd_ok (l2 _), bnd_ok (l3 _), bnd_ok (nb a3 _), bnd_ok (show nox (mL_exchange 0 a1 a2 (if a3 = 0 then 0 else 1) 79) s = _ from wr), bnd_ok (l1 _), bnd_ok (l2 _), bnd_ok (l3 _), bnd_ok (nb a3 _), bnd_ok e2, bnd_ok th, if_pos rfl, if_neg ht]
    rfl
theorem arm_23 {a1 : Int32} (l1 : ∀ s, sld n0 xs (x + 1) s = some (.inl a1, s)) (H : World s f K M LW c) (h1 : c + 60 ≤ c') (h2 : c' < 100000) : ArmOk s x c' (mL_main_c23 n0 xs 0 66 79 x) := by
  have g : Both s (mX11_with 0 a1) (mX12_with 66 a1) [(2, 1)] c' := Ag.goes H (by omega) h2 (ag_with H.1.1)
  rcases g.wrapped with ⟨v, s1, s2, f2, K2, M2, LW2, wr, e2, th, ld, rm, w2⟩ | ⟨t, r, s1, s2, f2, K2, M2, LW2, wr, ht, e2, th, rm, w2⟩
  · refine ⟨s2, f2, K2, M2, LW2, ?_, rm, w2⟩
    unfold mL_main_c23
    rw [bnd_ok (l1 _), bnd_ok (show nox (mL_with 0 a1 79) s = _ from wr), bnd_ok (l1 _), bnd_ok e2, bnd_ok th, if_pos rfl, if_pos rfl, bnd_ok ld, if_pos (lgc _)]
    rfl
  · refine ⟨s2, f2, K2, M2, LW2, ?_, rm, w2⟩
    unfold mL_main_c23
    rw [bnd_ok (l1 _), bnd_ok (show nox (mL_with 0 a1 79) s = _ from wr), bnd_ok (l1 _), bnd_ok e2, bnd_ok th, if_pos rfl, if_neg ht]
    rfl
theorem arm_24 {a1 a2 : Int32} (l1 : ∀ s, sld n0 xs (x + 1) s = some (.inl a1, s)) (l2 : ∀ s, sld n0 xs (x + 2) s = some (.inl a2, s)) (H : World s f K M LW c) (h1 : c + 60 ≤ c') (h2 : c' < 100000) : ArmOk s x c' (mL_main_c24 n0 xs 0 66 79 x) := by
  have g : Both s (mX11_strokes 0 a1 (if a2 = 0 then 0 else 1)) (mX12_strokes 66 a1 (if a2 = 0 then 0 else 1)) [(2, 1)] c' := Ag.goes H (by omega) h2 (ag_strokes H.1.1)
  rcases g.wrapped with ⟨v, s1, s2, f2, K2, M2, LW2, wr, e2, th, ld, rm, w2⟩ | ⟨t, r, s1, s2, f2, K2, M2, LW2, wr, ht, e2, th, rm, w2⟩
  · refine ⟨s2, f2, K2, M2, LW2, ?_, rm, w2⟩
    unfold mL_main_c24
    rw [bnd_ok (l1 _), bnd_ok (l2 _), bnd_ok (nb a2 _), bnd_ok (show nox (mL_strokes 0 a1 (if a2 = 0 then 0 else 1) 79) s = _ from wr), bnd_ok (l1 _), bnd_ok (l2 _), bnd_ok (nb a2 _), bnd_ok e2, bnd_ok th, if_pos rfl, if_pos rfl, bnd_ok ld, if_pos (lgc _)]
    rfl
  · refine ⟨s2, f2, K2, M2, LW2, ?_, rm, w2⟩
    unfold mL_main_c24
    rw [bnd_ok (l1 _), bnd_ok (l2 _), bnd_ok (nb a2 _), bnd_ok (show nox (mL_strokes 0 a1 (if a2 = 0 then 0 else 1) 79) s = _ from wr), bnd_ok (l1 _), bnd_ok (l2 _), bnd_ok (nb a2 _), bnd_ok e2, bnd_ok th, if_pos rfl, if_neg ht]
    rfl
theorem arm_25 {a1 a2 : Int32} (l1 : ∀ s, sld n0 xs (x + 1) s = some (.inl a1, s)) (l2 : ∀ s, sld n0 xs (x + 2) s = some (.inl a2, s)) (H : World s f K M LW c) (h1 : c + 60 ≤ c') (h2 : c' < 100000) : ArmOk s x c' (mL_main_c25 n0 xs 0 66 79 x) := by
  have g : Both s (mX11_harmed 0 a1 a2) (mX12_harmed 66 a1 a2) [(0, 1)] c' := Ag.goes H (by omega) h2 (ag_harmed H.1.1)
  rcases g.wrapped with ⟨v, s1, s2, f2, K2, M2, LW2, wr, e2, th, ld, rm, w2⟩ | ⟨t, r, s1, s2, f2, K2, M2, LW2, wr, ht, e2, th, rm, w2⟩
  · refine ⟨s2, f2, K2, M2, LW2, ?_, rm, w2⟩
    unfold mL_main_c25
    rw [bnd_ok (l1 _), bnd_ok (l2 _), bnd_ok (show nox (mL_harmed 0 a1 a2 79) s = _ from wr), bnd_ok (l1 _), bnd_ok (l2 _), bnd_ok e2, bnd_ok th, if_pos rfl, if_pos rfl, bnd_ok ld, if_pos (lgc _)]
    rfl
  · refine ⟨s2, f2, K2, M2, LW2, ?_, rm, w2⟩
    unfold mL_main_c25
    rw [bnd_ok (l1 _), bnd_ok (l2 _), bnd_ok (show nox (mL_harmed 0 a1 a2 79) s = _ from wr), bnd_ok (l1 _), bnd_ok (l2 _), bnd_ok e2, bnd_ok th, if_pos rfl, if_neg ht]
    rfl
theorem arm_26 {a1 : Int32} (l1 : ∀ s, sld n0 xs (x + 1) s = some (.inl a1, s)) (H : World s f K M LW c) (h1 : c + 60 ≤ c') (h2 : c' < 100000) : ArmOk s x c' (mL_main_c26 n0 xs 0 66 x) := by
  have g : Both s (mX11_cell 0 a1) (mX12_cell 66 a1) [] c' := Ag.goes H (by omega) h2 (ag_cell H.1)
  obtain ⟨v, s1, e1, s2, f2, K2, M2, LW2, e2, rm, w2⟩ := g.plain
  refine ⟨s2, f2, K2, M2, LW2, ?_, rm, w2⟩
  unfold mL_main_c26
  rw [bnd_ok (l1 _), bnd_ok e1, bnd_ok (l1 _), bnd_ok e2, if_pos rfl]
  rfl
theorem arm_27 {a1 a2 : Int32} (l1 : ∀ s, sld n0 xs (x + 1) s = some (.inl a1, s)) (l2 : ∀ s, sld n0 xs (x + 2) s = some (.inl a2, s)) (H : World s f K M LW c) (h1 : c + 60 ≤ c') (h2 : c' < 100000) : ArmOk s x c' (mL_main_c27 n0 xs 0 66 79 x) := by
  have g : Both s (mX11_joint 0 a1 a2) (mX12_joint 66 a1 a2) [(2, 1), (0, 2)] c' := Ag.goes H (by omega) h2 (ag_joint H.1.1)
  rcases g.wrapped with ⟨v, s1, s2, f2, K2, M2, LW2, wr, e2, th, ld, rm, w2⟩ | ⟨t, r, s1, s2, f2, K2, M2, LW2, wr, ht, e2, th, rm, w2⟩
  · refine ⟨s2, f2, K2, M2, LW2, ?_, rm, w2⟩
    unfold mL_main_c27
    rw [bnd_ok (l1 _), bnd_ok (l2 _), bnd_ok (show nox (mL_joint 0 a1 a2 79) s = _ from wr), bnd_ok (l1 _), bnd_ok (l2 _), bnd_ok e2, bnd_ok th, if_pos rfl, if_pos rfl, bnd_ok ld, if_pos (lgc _)]
    rfl
  · refine ⟨s2, f2, K2, M2, LW2, ?_, rm, w2⟩
    unfold mL_main_c27
    rw [bnd_ok (l1 _), bnd_ok (l2 _), bnd_ok (show nox (mL_joint 0 a1 a2 79) s = _ from wr), bnd_ok (l1 _), bnd_ok (l2 _), bnd_ok e2, bnd_ok th, if_pos rfl, if_neg ht]
    rfl
theorem arm_28 {a1 a2 a3 : Int32} (l1 : ∀ s, sld n0 xs (x + 1) s = some (.inl a1, s)) (l2 : ∀ s, sld n0 xs (x + 2) s = some (.inl a2, s)) (l3 : ∀ s, sld n0 xs (x + 3) s = some (.inl a3, s)) (H : World s f K M LW c) (h1 : c + 60 ≤ c') (h2 : c' < 100000) : ArmOk s x c' (mL_main_c28 n0 xs 0 66 79 x) := by
  have g : Both s (mX11_clock 0 a1 a2 (if a3 = 0 then 0 else 1)) (mX12_clock 66 a1 a2 (if a3 = 0 then 0 else 1)) [(2, 1), (0, 2)] c' := Ag.goes H (by omega) h2 (ag_clock H.1.1)
  rcases g.wrapped with ⟨v, s1, s2, f2, K2, M2, LW2, wr, e2, th, ld, rm, w2⟩ | ⟨t, r, s1, s2, f2, K2, M2, LW2, wr, ht, e2, th, rm, w2⟩
  · refine ⟨s2, f2, K2, M2, LW2, ?_, rm, w2⟩
    unfold mL_main_c28
    rw [bnd_ok (l1 _), bnd_ok (l2 _), bnd_ok (l3 _), bnd_ok (nb a3 _), bnd_ok (show nox (mL_clock 0 a1 a2 (if a3 = 0 then 0 else 1) 79) s = _ from wr), bnd_ok (l1 _), bnd_ok (l2 _), bnd_ok (l3 _), bnd_ok (nb a3 _), bnd_ok e2, bnd_ok th, if_pos rfl, if_pos rfl, bnd_ok ld, if_pos (lgc _)]
    rfl
  · refine ⟨s2, f2, K2, M2, LW2, ?_, rm, w2⟩
    unfold mL_main_c28
    rw [bnd_ok (l1 _), bnd_ok (l2 _), bnd_ok (l3 _), bnd_ok (nb a3 _), bnd_ok (show nox (mL_clock 0 a1 a2 (if a3 = 0 then 0 else 1) 79) s = _ from wr), bnd_ok (l1 _), bnd_ok (l2 _), bnd_ok (l3 _), bnd_ok (nb a3 _), bnd_ok e2, bnd_ok th, if_pos rfl, if_neg ht]
    rfl
theorem arm_29 {a1 : Int32} (l1 : ∀ s, sld n0 xs (x + 1) s = some (.inl a1, s)) (H : World s f K M LW c) (h1 : c + 60 ≤ c') (h2 : c' < 100000) : ArmOk s x c' (mL_main_c29 n0 xs 0 66 79 x) := by
  have g : Both s (mX11_together 0 (if a1 = 0 then 0 else 1)) (mX12_together 66 (if a1 = 0 then 0 else 1)) [(0, 1)] c' := go_together H (by omega) h2
  rcases g.wrapped with ⟨v, s1, s2, f2, K2, M2, LW2, wr, e2, th, ld, rm, w2⟩ | ⟨t, r, s1, s2, f2, K2, M2, LW2, wr, ht, e2, th, rm, w2⟩
  · refine ⟨s2, f2, K2, M2, LW2, ?_, rm, w2⟩
    unfold mL_main_c29
    rw [bnd_ok (l1 _), bnd_ok (nb a1 _), bnd_ok (show nox (mL_together 0 (if a1 = 0 then 0 else 1) 79) s = _ from wr), bnd_ok (l1 _), bnd_ok (nb a1 _), bnd_ok e2, bnd_ok th, if_pos rfl, if_pos rfl, bnd_ok ld, if_pos (lgc _)]
    rfl
  · refine ⟨s2, f2, K2, M2, LW2, ?_, rm, w2⟩
    unfold mL_main_c29
    rw [bnd_ok (l1 _), bnd_ok (nb a1 _), bnd_ok (show nox (mL_together 0 (if a1 = 0 then 0 else 1) 79) s = _ from wr), bnd_ok (l1 _), bnd_ok (nb a1 _), bnd_ok e2, bnd_ok th, if_pos rfl, if_neg ht]
    rfl
theorem arm_30 (H : World s f K M LW c) (h1 : c + 60 ≤ c') (h2 : c' < 100000) : ArmOk s x c' (mL_main_c30 0 66 x) := by
  have g : Both s (mX11_heir 0) (mX12_heir 66) [] c' := Ag.goes H (by omega) h2 (ag_heir H.1.1)
  obtain ⟨v, s1, e1, s2, f2, K2, M2, LW2, e2, rm, w2⟩ := g.plain
  refine ⟨s2, f2, K2, M2, LW2, ?_, rm, w2⟩
  unfold mL_main_c30
  rw [bnd_ok e1, bnd_ok e2, if_pos rfl]
  rfl
theorem arm_31 {a1 a2 : Int32} (l1 : ∀ s, sld n0 xs (x + 1) s = some (.inl a1, s)) (l2 : ∀ s, sld n0 xs (x + 2) s = some (.inl a2, s)) (H : World s f K M LW c) (h1 : c + 60 ≤ c') (h2 : c' < 100000) : ArmOk s x c' (mL_main_c31 n0 xs 0 66 79 x) := by
  have g : Both s (mX11_jury 0 a1 a2) (mX12_jury 66 a1 a2) [(2, 1)] c' := Ag.goes H (by omega) h2 (ag_jury H.1.1)
  rcases g.wrappedb with ⟨v, s1, s2, f2, K2, M2, LW2, wr, e2, th, ld, rm, w2⟩ | ⟨t, r, s1, s2, f2, K2, M2, LW2, wr, ht, e2, th, rm, w2⟩
  · refine ⟨s2, f2, K2, M2, LW2, ?_, rm, w2⟩
    unfold mL_main_c31
    rw [bnd_ok (l1 _), bnd_ok (l2 _), bnd_ok (show nox (mL_jury 0 a1 a2 79) s = _ from wr), bnd_ok (l1 _), bnd_ok (l2 _), bnd_ok e2, bnd_ok th, if_pos rfl, if_pos rfl, bnd_ok ld, bnd_ok (nb64 v _), if_pos (lgc _)]
    rfl
  · refine ⟨s2, f2, K2, M2, LW2, ?_, rm, w2⟩
    unfold mL_main_c31
    rw [bnd_ok (l1 _), bnd_ok (l2 _), bnd_ok (show nox (mL_jury 0 a1 a2 79) s = _ from wr), bnd_ok (l1 _), bnd_ok (l2 _), bnd_ok e2, bnd_ok th, if_pos rfl, if_neg ht]
    rfl
theorem arm_32 {a1 a2 : Int32} (l1 : ∀ s, sld n0 xs (x + 1) s = some (.inl a1, s)) (l2 : ∀ s, sld n0 xs (x + 2) s = some (.inl a2, s)) (H : World s f K M LW c) (h1 : c + 60 ≤ c') (h2 : c' < 100000) : ArmOk s x c' (mL_main_c32 n0 xs 0 66 79 x) := by
  have g : Both s (mX11_alibi 0 a1 a2) (mX12_alibi 66 a1 a2) [(2, 1), (0, 2)] c' := Ag.goes H (by omega) h2 (ag_alibi H.1.1)
  rcases g.wrappedb with ⟨v, s1, s2, f2, K2, M2, LW2, wr, e2, th, ld, rm, w2⟩ | ⟨t, r, s1, s2, f2, K2, M2, LW2, wr, ht, e2, th, rm, w2⟩
  · refine ⟨s2, f2, K2, M2, LW2, ?_, rm, w2⟩
    unfold mL_main_c32
    rw [bnd_ok (l1 _), bnd_ok (l2 _), bnd_ok (show nox (mL_alibi 0 a1 a2 79) s = _ from wr), bnd_ok (l1 _), bnd_ok (l2 _), bnd_ok e2, bnd_ok th, if_pos rfl, if_pos rfl, bnd_ok ld, bnd_ok (nb64 v _), if_pos (lgc _)]
    rfl
  · refine ⟨s2, f2, K2, M2, LW2, ?_, rm, w2⟩
    unfold mL_main_c32
    rw [bnd_ok (l1 _), bnd_ok (l2 _), bnd_ok (show nox (mL_alibi 0 a1 a2 79) s = _ from wr), bnd_ok (l1 _), bnd_ok (l2 _), bnd_ok e2, bnd_ok th, if_pos rfl, if_neg ht]
    rfl
theorem arm_33 (H : World s f K M LW c) (h1 : c + 60 ≤ c') (h2 : c' < 100000) : ArmOk s x c' (mL_main_c33 0 66 x) := by
  have g : Both s (mX11_worstMaster 0) (mX12_worstMaster 66) [] c' := Ag.goes H (by omega) h2 (ag_worstM H.1.1)
  obtain ⟨v, s1, e1, s2, f2, K2, M2, LW2, e2, rm, w2⟩ := g.plain
  refine ⟨s2, f2, K2, M2, LW2, ?_, rm, w2⟩
  unfold mL_main_c33
  rw [bnd_ok e1, bnd_ok e2, if_pos rfl]
  rfl
theorem arm_34 {a1 a2 : Int32} (l1 : ∀ s, sld n0 xs (x + 1) s = some (.inl a1, s)) (l2 : ∀ s, sld n0 xs (x + 2) s = some (.inl a2, s)) (H : World s f K M LW c) (h1 : c + 60 ≤ c') (h2 : c' < 100000) : ArmOk s x c' (mL_main_c34 n0 xs 0 66 79 x) := by
  have g : Both s (mX11_pairs 0 a1 a2) (mX12_pairs 66 a1 a2) [(2, 1)] c' := Ag.goes H (by omega) h2 (ag_pairs H.1.1)
  rcases g.wrapped with ⟨v, s1, s2, f2, K2, M2, LW2, wr, e2, th, ld, rm, w2⟩ | ⟨t, r, s1, s2, f2, K2, M2, LW2, wr, ht, e2, th, rm, w2⟩
  · refine ⟨s2, f2, K2, M2, LW2, ?_, rm, w2⟩
    unfold mL_main_c34
    rw [bnd_ok (l1 _), bnd_ok (l2 _), bnd_ok (show nox (mL_pairs 0 a1 a2 79) s = _ from wr), bnd_ok (l1 _), bnd_ok (l2 _), bnd_ok e2, bnd_ok th, if_pos rfl, if_pos rfl, bnd_ok ld, if_pos (lgc _)]
    rfl
  · refine ⟨s2, f2, K2, M2, LW2, ?_, rm, w2⟩
    unfold mL_main_c34
    rw [bnd_ok (l1 _), bnd_ok (l2 _), bnd_ok (show nox (mL_pairs 0 a1 a2 79) s = _ from wr), bnd_ok (l1 _), bnd_ok (l2 _), bnd_ok e2, bnd_ok th, if_pos rfl, if_neg ht]
    rfl
theorem arm_35 {a1 : Int32} (l1 : ∀ s, sld n0 xs (x + 1) s = some (.inl a1, s)) (H : World s f K M LW c) (h1 : c + 60 ≤ c') (h2 : c' < 100000) : ArmOk s x c' (mL_main_c35 n0 xs 0 66 79 x) := by
  have g : Both s (mX11_trial 0 a1) (mX12_trial 66 a1) [(0, 1)] c' := Ag.goes H (by omega) h2 (ag_trial H.1.1)
  rcases g.wrapped with ⟨v, s1, s2, f2, K2, M2, LW2, wr, e2, th, ld, rm, w2⟩ | ⟨t, r, s1, s2, f2, K2, M2, LW2, wr, ht, e2, th, rm, w2⟩
  · refine ⟨s2, f2, K2, M2, LW2, ?_, rm, w2⟩
    unfold mL_main_c35
    rw [bnd_ok (l1 _), bnd_ok (show nox (mL_trial 0 a1 79) s = _ from wr), bnd_ok (l1 _), bnd_ok e2, bnd_ok th, if_pos rfl, if_pos rfl, bnd_ok ld, if_pos (lgc _)]
    rfl
  · refine ⟨s2, f2, K2, M2, LW2, ?_, rm, w2⟩
    unfold mL_main_c35
    rw [bnd_ok (l1 _), bnd_ok (show nox (mL_trial 0 a1 79) s = _ from wr), bnd_ok (l1 _), bnd_ok e2, bnd_ok th, if_pos rfl, if_neg ht]
    rfl
theorem arm_36 {a1 a2 : Int32} (l1 : ∀ s, sld n0 xs (x + 1) s = some (.inl a1, s)) (l2 : ∀ s, sld n0 xs (x + 2) s = some (.inl a2, s)) (H : World s f K M LW c) (h1 : c + 60 ≤ c') (h2 : c' < 100000) : ArmOk s x c' (mL_main_c36 n0 xs 0 66 79 x) := by
  have g : Both s (mX11_span 0 a1 (if a2 = 0 then 0 else 1)) (mX12_span 66 a1 (if a2 = 0 then 0 else 1)) [(0, 1)] c' := Ag.goes H (by omega) h2 (ag_span H.1.1)
  rcases g.wrapped with ⟨v, s1, s2, f2, K2, M2, LW2, wr, e2, th, ld, rm, w2⟩ | ⟨t, r, s1, s2, f2, K2, M2, LW2, wr, ht, e2, th, rm, w2⟩
  · refine ⟨s2, f2, K2, M2, LW2, ?_, rm, w2⟩
    unfold mL_main_c36
    rw [bnd_ok (l1 _), bnd_ok (l2 _), bnd_ok (nb a2 _), bnd_ok (show nox (mL_span 0 a1 (if a2 = 0 then 0 else 1) 79) s = _ from wr), bnd_ok (l1 _), bnd_ok (l2 _), bnd_ok (nb a2 _), bnd_ok e2, bnd_ok th, if_pos rfl, if_pos rfl, bnd_ok ld, if_pos (lgc _)]
    rfl
  · refine ⟨s2, f2, K2, M2, LW2, ?_, rm, w2⟩
    unfold mL_main_c36
    rw [bnd_ok (l1 _), bnd_ok (l2 _), bnd_ok (nb a2 _), bnd_ok (show nox (mL_span 0 a1 (if a2 = 0 then 0 else 1) 79) s = _ from wr), bnd_ok (l1 _), bnd_ok (l2 _), bnd_ok (nb a2 _), bnd_ok e2, bnd_ok th, if_pos rfl, if_neg ht]
    rfl
theorem arm_37 {a1 a2 a3 a4 : Int32} (l1 : ∀ s, sld n0 xs (x + 1) s = some (.inl a1, s)) (l2 : ∀ s, sld n0 xs (x + 2) s = some (.inl a2, s)) (l3 : ∀ s, sld n0 xs (x + 3) s = some (.inl a3, s)) (l4 : ∀ s, sld n0 xs (x + 4) s = some (.inl a4, s)) (H : World s f K M LW c) (h1 : c + 60 ≤ c') (h2 : c' < 100000) : ArmOk s x c' (mL_main_c37 n0 xs 0 66 79 x) := by
  have g : Both s (mX11_after 0 a1 a2 a3 a4) (mX12_after_ 66 a1 a2 a3 a4) [(2, 1), (0, 2), (4, 3)] c' := Ag.goes H (by omega) h2 (ag_after H.1)
  rcases g.wrapped with ⟨v, s1, s2, f2, K2, M2, LW2, wr, e2, th, ld, rm, w2⟩ | ⟨t, r, s1, s2, f2, K2, M2, LW2, wr, ht, e2, th, rm, w2⟩
  · refine ⟨s2, f2, K2, M2, LW2, ?_, rm, w2⟩
    unfold mL_main_c37
    rw [bnd_ok (l1 _), bnd_ok (l2 _), bnd_ok (l3 _), bnd_ok (l4 _), bnd_ok (show nox (mL_after 0 a1 a2 a3 a4 79) s = _ from wr), bnd_ok (l1 _), bnd_ok (l2 _), bnd_ok (l3 _), bnd_ok (l4 _), bnd_ok e2, bnd_ok th, if_pos rfl, if_pos rfl, bnd_ok ld, if_pos (lgc _)]
    rfl
  · refine ⟨s2, f2, K2, M2, LW2, ?_, rm, w2⟩
    unfold mL_main_c37
    rw [bnd_ok (l1 _), bnd_ok (l2 _), bnd_ok (l3 _), bnd_ok (l4 _), bnd_ok (show nox (mL_after 0 a1 a2 a3 a4 79) s = _ from wr), bnd_ok (l1 _), bnd_ok (l2 _), bnd_ok (l3 _), bnd_ok (l4 _), bnd_ok e2, bnd_ok th, if_pos rfl, if_neg ht]
    rfl
theorem arm_38 {a1 a2 a3 : Int32} (l1 : ∀ s, sld n0 xs (x + 1) s = some (.inl a1, s)) (l2 : ∀ s, sld n0 xs (x + 2) s = some (.inl a2, s)) (l3 : ∀ s, sld n0 xs (x + 3) s = some (.inl a3, s)) (H : World s f K M LW c) (h1 : c + 60 ≤ c') (h2 : c' < 100000) : ArmOk s x c' (mL_main_c38 n0 xs 0 66 79 x) := by
  have g : Both s (mX11_worst 0 a1 a2 a3) (mX12_worst 66 a1 a2 a3) [(2, 1), (0, 2), (4, 3)] c' := Ag.goes H (by omega) h2 (ag_worst H.1)
  rcases g.wrapped with ⟨v, s1, s2, f2, K2, M2, LW2, wr, e2, th, ld, rm, w2⟩ | ⟨t, r, s1, s2, f2, K2, M2, LW2, wr, ht, e2, th, rm, w2⟩
  · refine ⟨s2, f2, K2, M2, LW2, ?_, rm, w2⟩
    unfold mL_main_c38
    rw [bnd_ok (l1 _), bnd_ok (l2 _), bnd_ok (l3 _), bnd_ok (show nox (mL_worst 0 a1 a2 a3 79) s = _ from wr), bnd_ok (l1 _), bnd_ok (l2 _), bnd_ok (l3 _), bnd_ok e2, bnd_ok th, if_pos rfl, if_pos rfl, bnd_ok ld, if_pos (lgc _)]
    rfl
  · refine ⟨s2, f2, K2, M2, LW2, ?_, rm, w2⟩
    unfold mL_main_c38
    rw [bnd_ok (l1 _), bnd_ok (l2 _), bnd_ok (l3 _), bnd_ok (show nox (mL_worst 0 a1 a2 a3 79) s = _ from wr), bnd_ok (l1 _), bnd_ok (l2 _), bnd_ok (l3 _), bnd_ok e2, bnd_ok th, if_pos rfl, if_neg ht]
    rfl
theorem arm_39 {a1 : Int32} (l1 : ∀ s, sld n0 xs (x + 1) s = some (.inl a1, s)) (H : World s f K M LW c) (h1 : c + 60 ≤ c') (h2 : c' < 100000) : ArmOk s x c' (mL_main_c39 n0 xs 0 66 79 x) := by
  have g : Both s (mX11_sure 0 a1) (mX12_sure 66 a1) [(0, 1)] c' := Ag.goes H (by omega) h2 (ag_sure H.1.1)
  rcases g.wrapped with ⟨v, s1, s2, f2, K2, M2, LW2, wr, e2, th, ld, rm, w2⟩ | ⟨t, r, s1, s2, f2, K2, M2, LW2, wr, ht, e2, th, rm, w2⟩
  · refine ⟨s2, f2, K2, M2, LW2, ?_, rm, w2⟩
    unfold mL_main_c39
    rw [bnd_ok (l1 _), bnd_ok (show nox (mL_sure 0 a1 79) s = _ from wr), bnd_ok (l1 _), bnd_ok e2, bnd_ok th, if_pos rfl, if_pos rfl, bnd_ok ld, if_pos (lgc _)]
    rfl
  · refine ⟨s2, f2, K2, M2, LW2, ?_, rm, w2⟩
    unfold mL_main_c39
    rw [bnd_ok (l1 _), bnd_ok (show nox (mL_sure 0 a1 79) s = _ from wr), bnd_ok (l1 _), bnd_ok e2, bnd_ok th, if_pos rfl, if_neg ht]
    rfl
theorem arm_40 {a1 a2 : Int32} (l1 : ∀ s, sld n0 xs (x + 1) s = some (.inl a1, s)) (l2 : ∀ s, sld n0 xs (x + 2) s = some (.inl a2, s)) (H : World s f K M LW c) (h1 : c + 60 ≤ c') (h2 : c' < 100000) : ArmOk s x c' (mL_main_c40 n0 xs 0 66 79 x) := by
  have g : Both s (mX11_truth 0 a1 a2) (mX12_truth 66 a1 a2) [(2, 1), (3, 2)] c' := Ag.goes H (by omega) h2 (ag_truth H.1.1)
  rcases g.wrapped with ⟨v, s1, s2, f2, K2, M2, LW2, wr, e2, th, ld, rm, w2⟩ | ⟨t, r, s1, s2, f2, K2, M2, LW2, wr, ht, e2, th, rm, w2⟩
  · refine ⟨s2, f2, K2, M2, LW2, ?_, rm, w2⟩
    unfold mL_main_c40
    rw [bnd_ok (l1 _), bnd_ok (l2 _), bnd_ok (show nox (mL_truth 0 a1 a2 79) s = _ from wr), bnd_ok (l1 _), bnd_ok (l2 _), bnd_ok e2, bnd_ok th, if_pos rfl, if_pos rfl, bnd_ok ld, if_pos (lgc _)]
    rfl
  · refine ⟨s2, f2, K2, M2, LW2, ?_, rm, w2⟩
    unfold mL_main_c40
    rw [bnd_ok (l1 _), bnd_ok (l2 _), bnd_ok (show nox (mL_truth 0 a1 a2 79) s = _ from wr), bnd_ok (l1 _), bnd_ok (l2 _), bnd_ok e2, bnd_ok th, if_pos rfl, if_neg ht]
    rfl
theorem arm_41 {a1 a2 : Int32} (l1 : ∀ s, sld n0 xs (x + 1) s = some (.inl a1, s)) (l2 : ∀ s, sld n0 xs (x + 2) s = some (.inl a2, s)) (H : World s f K M LW c) (h1 : c + 60 ≤ c') (h2 : c' < 100000) : ArmOk s x c' (mL_main_c41 n0 xs 0 66 79 x) := by
  have g : Both s (mX11_log 0 a1 a2) (mX12_log 66 a1 a2) [(3, 1)] c' := Ag.goes H (by omega) h2 (ag_log H.1.1)
  rcases g.wrapped with ⟨v, s1, s2, f2, K2, M2, LW2, wr, e2, th, ld, rm, w2⟩ | ⟨t, r, s1, s2, f2, K2, M2, LW2, wr, ht, e2, th, rm, w2⟩
  · refine ⟨s2, f2, K2, M2, LW2, ?_, rm, w2⟩
    unfold mL_main_c41
    rw [bnd_ok (l1 _), bnd_ok (l2 _), bnd_ok (show nox (mL_log 0 a1 a2 79) s = _ from wr), bnd_ok (l1 _), bnd_ok (l2 _), bnd_ok e2, bnd_ok th, if_pos rfl, if_pos rfl, bnd_ok ld, if_pos (lgc _)]
    rfl
  · refine ⟨s2, f2, K2, M2, LW2, ?_, rm, w2⟩
    unfold mL_main_c41
    rw [bnd_ok (l1 _), bnd_ok (l2 _), bnd_ok (show nox (mL_log 0 a1 a2 79) s = _ from wr), bnd_ok (l1 _), bnd_ok (l2 _), bnd_ok e2, bnd_ok th, if_pos rfl, if_neg ht]
    rfl
theorem arm_42 {a1 : Int32} (l1 : ∀ s, sld n0 xs (x + 1) s = some (.inl a1, s)) (H : World s f K M LW c) (h1 : c + 60 ≤ c') (h2 : c' < 100000) : ArmOk s x c' (mL_main_c42 n0 xs 0 66 79 x) := by
  have g : Both s (mX11_led 0 a1) (mX12_led 66 a1) [(2, 1)] c' := Ag.goes H (by omega) h2 (ag_led H.1.1)
  rcases g.wrapped with ⟨v, s1, s2, f2, K2, M2, LW2, wr, e2, th, ld, rm, w2⟩ | ⟨t, r, s1, s2, f2, K2, M2, LW2, wr, ht, e2, th, rm, w2⟩
  · refine ⟨s2, f2, K2, M2, LW2, ?_, rm, w2⟩
    unfold mL_main_c42
    rw [bnd_ok (l1 _), bnd_ok (show nox (mL_led 0 a1 79) s = _ from wr), bnd_ok (l1 _), bnd_ok e2, bnd_ok th, if_pos rfl, if_pos rfl, bnd_ok ld, if_pos (lgc _)]
    rfl
  · refine ⟨s2, f2, K2, M2, LW2, ?_, rm, w2⟩
    unfold mL_main_c42
    rw [bnd_ok (l1 _), bnd_ok (show nox (mL_led 0 a1 79) s = _ from wr), bnd_ok (l1 _), bnd_ok e2, bnd_ok th, if_pos rfl, if_neg ht]
    rfl
theorem arm_43 {a1 : Int32} (l1 : ∀ s, sld n0 xs (x + 1) s = some (.inl a1, s)) (H : World s f K M LW c) (h1 : c + 60 ≤ c') (h2 : c' < 100000) : ArmOk s x c' (mL_main_c43 n0 xs 0 66 x) := by
  have g : Both s (mX11_seed 0 a1) (mX12_seed 66 a1) [] c' := go_seed H (by omega) h2
  obtain ⟨v, s1, e1, s2, f2, K2, M2, LW2, e2, rm, w2⟩ := g.plain
  refine ⟨s2, f2, K2, M2, LW2, ?_, rm, w2⟩
  unfold mL_main_c43
  rw [bnd_ok (l1 _), bnd_ok e1, bnd_ok (l1 _), bnd_ok e2, if_pos rfl]
  rfl
theorem arm_44 (H : World s f K M LW c) (h1 : c + 60 ≤ c') (h2 : c' < 100000) : ArmOk s x c' (mL_main_c44 0 66 x) := by
  have g : Both s (mX11_undo 0) (mX12_undo 66) [] c' := go_undo H (by omega) h2
  obtain ⟨v, s1, e1, s2, f2, K2, M2, LW2, e2, rm, w2⟩ := g.plain
  refine ⟨s2, f2, K2, M2, LW2, ?_, rm, w2⟩
  unfold mL_main_c44
  rw [bnd_ok e1, bnd_ok e2, if_pos rfl]
  rfl
theorem arm_46 (H : World s f K M LW c) (h1 : c + 60 ≤ c') (h2 : c' < 100000) : ArmOk s x c' (mL_main_c46 0 66 x) := by
  have g : Both s (mX11_back 0) (mX12_back 66) [] c' := go_back H (by omega) h2
  obtain ⟨v, s1, e1, s2, f2, K2, M2, LW2, e2, rm, w2⟩ := g.plain
  refine ⟨s2, f2, K2, M2, LW2, ?_, rm, w2⟩
  unfold mL_main_c46
  rw [bnd_ok e1, bnd_ok e2, if_pos rfl]
  rfl
theorem arm_47 {a1 : Int32} (l1 : ∀ s, sld n0 xs (x + 1) s = some (.inl a1, s)) (H : World s f K M LW c) (h1 : c + 60 ≤ c') (h2 : c' < 100000) : ArmOk s x c' (mL_main_c47 n0 xs 0 66 x) := by
  have g : Both s (mX11_count 0 a1) (mX12_count 66 a1) [] c' := Ag.goes H (by omega) h2 (ag_count H.1 (World.held H))
  obtain ⟨v, s1, e1, s2, f2, K2, M2, LW2, e2, rm, w2⟩ := g.plain
  refine ⟨s2, f2, K2, M2, LW2, ?_, rm, w2⟩
  unfold mL_main_c47
  rw [bnd_ok (l1 _), bnd_ok e1, bnd_ok (l1 _), bnd_ok e2, if_pos rfl]
  rfl
theorem arm_45 (H : World s f K M LW c) (h1 : c + 60 ≤ c') (h2 : c' < 100000) : ArmOk s x c' (mL_main_c45 0 66 x) := by
  obtain ⟨s1, e1, s2, f2, K2, M2, LW2, e2, rm, w2⟩ := go_image H (show c ≤ c' by omega) h2
  refine ⟨s2, f2, K2, M2, LW2, ?_, rm, w2⟩
  unfold mL_main_c45
  rw [bnd_ok e1, bnd_ok e2]
  rfl
end ARM
