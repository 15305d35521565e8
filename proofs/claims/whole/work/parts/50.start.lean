/-! THE START: what the Statement gives of the launch makes a world -/
def lwF : List Cond := flatC (Cond.and given_1 narrow_1)
def strV (q : String × Nat × String × Nat) : Term := .field (.string q.1 q.2.1) "java/lang/String" "value" "[B"
def strW (q : String × Nat × String × Nat) : List Cond := [.exactly (.string q.1 q.2.1) "java/lang/String", .eq (.field (.string q.1 q.2.1) "java/lang/String" "coder" "B") (.int 0), .arrayOf (strV q) .byte, .eq (.length (strV q)) (.int (Int32.ofNat (strB.getD q.2.2.2 []).length))] ++
  (List.range (strB.getD q.2.2.2 []).length).map fun j => .eq (.elem (strV q) (.int (Int32.ofNat j))) (.int ((strB.getD q.2.2.2 []).getD j 0))
theorem lwF_str : lwF.drop 91 = strT.flatMap strW := by decide +kernel
theorem strT_ref : ∀ q ∈ strT, Cond.stringRef q.1 q.2.1 q.2.2.1 ∈ lw_tbl := by decide +kernel
theorem strT_idx : ∀ i, i < 52 → ∃ q, strT[i]? = some q ∧ q.2.2.2 = i := by decide +kernel
theorem strT_own : ∀ q ∈ strT, q.2.2.2 < 52 ∧ strT[q.2.2.2]? = some q := by decide +kernel
theorem str_len : ∀ i, i < 52 → (strB.getD i []).length < 2 ^ 31 := by decide +kernel
section ST
variable {args : Array Value} {s : State} {A : Nat → Prop}
theorem str_start (hF : ∀ w ∈ lwF, w.before args s = true) (hA : ∀ a : Nat, a < s.heap.size → ¬ A a) : ∃ K V : Nat → Nat, ∀ i, i < 52 → ∀ q, strT[i]? = some q → (Term.string q.1 q.2.1).eval args s none [] s = some (.ref (K i)) ∧ va_O "java/lang/String" (K i) A s s.heap ∧ va_OF "java/lang/String" "coder" "B" (.int 0) (K i) A s s.heap ∧ va_OF "java/lang/String" "value" "[B" (.ref (V i)) (K i) A s s.heap ∧ va_T .byte (V i) (strB.getD i []).length (fun j => .int ((strB.getD i []).getD j 0)) A s s.heap := by
  have h0 : ∀ i : Nat, ∃ z : Nat × Nat, i < 52 → ∀ q, strT[i]? = some q → (Term.string q.1 q.2.1).eval args s none [] s = some (.ref z.1) ∧ va_O "java/lang/String" z.1 A s s.heap ∧ va_OF "java/lang/String" "coder" "B" (.int 0) z.1 A s s.heap ∧ va_OF "java/lang/String" "value" "[B" (.ref z.2) z.1 A s s.heap ∧ va_T .byte z.2 (strB.getD i []).length (fun j => .int ((strB.getD i []).getD j 0)) A s s.heap := by
    intro i
    by_cases hi : i < 52
    · obtain ⟨q, hq, hqi⟩ := strT_idx i hi
      have hm : ∀ w ∈ strW q, w.before args s = true := fun w hw => hF w (List.mem_of_mem_drop (i := 91) (by rw [lwF_str]; exact List.mem_flatMap.mpr ⟨q, List.mem_of_getElem? hq, hw⟩))
      have w1 := hm (.exactly (.string q.1 q.2.1) "java/lang/String") (by simp [strW])
      have w2 := hm (.eq (.field (.string q.1 q.2.1) "java/lang/String" "coder" "B") (.int 0)) (by simp [strW])
      have w3 := hm (.arrayOf (strV q) .byte) (by simp [strW])
      have w4 := hm (.eq (.length (strV q)) (.int (Int32.ofNat (strB.getD q.2.2.2 []).length))) (by simp [strW])
      have w5 : ∀ j, j < (strB.getD i []).length → (Cond.eq (.elem (strV q) (.int (Int32.ofNat j))) (.int ((strB.getD i []).getD j 0))).before args s = true := fun j hj => hm _ (by
        unfold strW
        rw [hqi]
        exact List.mem_append_right _ (List.mem_map.mpr ⟨j, List.mem_range.mpr hj, rfl⟩))
      rw [hqi] at w4
      obtain ⟨a, c, cA, kA, q1, q2, q3, q4, q5, q6, -⟩ := Cond.exactly_spec (args := args) (first := s) (o := none) (s := s) (idx := []) (t := .string q.1 q.2.1) (cls := "java/lang/String") w1
      obtain ⟨t, ht, hT⟩ := va_Tof (f := fun j => .int ((strB.getD i []).getD j 0)) (A := A) (str_len i hi) w3 (va_eqt w4) (fun j hj => va_eqt (w5 j hj)) hA
      refine ⟨(a, t), fun _ q' hq' => ?_⟩
      cases hq.symm.trans hq'
      exact ⟨q1, ⟨cA, q3, q5, by rw [q6]; exact q2, hA a (Array.getElem?_eq_some_iff.mp q3).1⟩, vk_OFof q1 (va_eqt w2) hA, vk_OFof q1 ht hA, hT⟩
    · exact ⟨(0, 0), fun h => absurd h hi⟩
  obtain ⟨ad, had⟩ := Classical.axiomOfChoice h0
  exact ⟨fun i => (ad i).1, fun i => (ad i).2, had⟩
end ST
theorem vw_inst : ∀ q ∈ vwCl, Cond.instantiable q.1 q.2.2 ∈ lw_tbl := List.forall_mem_cons.mpr ⟨List.mem_of_getElem? (i := 243) (by decide +kernel), List.forall_mem_cons.mpr ⟨List.mem_of_getElem? (i := 308) (by decide +kernel), List.forall_mem_cons.mpr ⟨List.mem_of_getElem? (i := 198) (by decide +kernel), List.forall_mem_cons.mpr ⟨List.mem_of_getElem? (i := 217) (by decide +kernel), List.forall_mem_cons.mpr ⟨List.mem_of_getElem? (i := 291) (by decide +kernel), List.forall_mem_cons.mpr ⟨List.mem_of_getElem? (i := 478) (by decide +kernel), List.forall_mem_cons.mpr ⟨List.mem_of_getElem? (i := 269) (by decide +kernel), List.forall_mem_cons.mpr ⟨List.mem_of_getElem? (i := 408) (by decide +kernel), List.forall_mem_cons.mpr ⟨List.mem_of_getElem? (i := 314) (by decide +kernel), List.forall_mem_cons.mpr ⟨List.mem_of_getElem? (i := 182) (by decide +kernel), List.forall_mem_cons.mpr ⟨List.mem_of_getElem? (i := 174) (by decide +kernel), List.forall_mem_cons.mpr ⟨List.mem_of_getElem? (i := 1660) (by decide +kernel), fun q hq => nomatch hq⟩⟩⟩⟩⟩⟩⟩⟩⟩⟩⟩⟩
theorem vw_start {args : Array Value} {s : State} (hts : ∀ w ∈ lw_tbl, w.before args s = true) : ∃ D : va_G, ∀ (c : Nat) (q : vw_C), vwCl[c]? = some q → u_Kn s q.1 q.2.1 q.2.2 (D.1 c) (D.2 c) := by
  have h0 : ∀ c : Nat, ∃ z : ClassId × (Nat → Nat), ∀ q, vwCl[c]? = some q → u_Kn s q.1 q.2.1 q.2.2 z.1 z.2 := by
    intro c
    cases hq : vwCl[c]? with
    | none => exact ⟨(0, fun _ => 0), fun q h => by cases h⟩
    | some q =>
      have hn := vw_inst q (List.mem_of_getElem? hq)
      obtain ⟨cC, iS, h⟩ := u_known (n := q.2.2) (tblG_hts hts) (inX_all q (List.mem_of_getElem? hq)) (hts _ hn)
      exact ⟨(cC, iS), fun q' h' => by cases h'; exact h⟩
  obtain ⟨ad, had⟩ := Classical.axiomOfChoice h0
  exact ⟨(fun c => (ad c).1, fun c => (ad c).2), had⟩
theorem ar_start {args : Array Value} {s : State} {ty : FieldType} (h : (Cond.arrayClass ty).before args s = true) (ho : ∀ c, va_RA s c ty = (s.vm.findClass ("[" ++ ty.toString) = some c)) : ∃ c, ArrOfT s c ty ∧ va_RA s c ty := by
  obtain ⟨c, k, comp, h1, h2, h3⟩ := Cond.arrayClass_spec h
  exact ⟨c, fun N z => ⟨(fun k h => by cases h), k, h2, comp, h3⟩, by rw [ho]; exact h1⟩
theorem wArs : Cond.arrayClass .int ∈ lw_tbl ∧ Cond.arrayClass .byte ∈ lw_tbl ∧ Cond.arrayClass .long ∈ lw_tbl ∧ Cond.arrayOver (.array .int) ∈ lw_tbl ∧ Cond.arrayOver (.object "ToolCourt$Court") ∈ lw_tbl := by decide +kernel
theorem wZs : (Cond.laysStatic Bundle.tN "UNASSIGNED_STACK" Bundle.steD ∈ lw_tbl ∧ Cond.initialized Bundle.tN ∈ lw_tbl ∧ Cond.laysStatic Bundle.tN "SUPPRESSED_SENTINEL" Bundle.listD ∈ lw_tbl) ∧ (Cond.laysStatic "java/lang/String" "COMPACT_STRINGS" "Z" ∈ lw_tbl ∧ Cond.initialized "java/lang/String" ∈ lw_tbl) ∧ Cond.laysStatic "jdk/internal/util/Preconditions" "SIOOBE_FORMATTER" "Ljava/util/function/BiFunction;" ∈ lw_tbl ∧ Cond.initialized "jdk/internal/util/Preconditions" ∈ lw_tbl := by decide +kernel
theorem fZs : Cond.isRef (.static Bundle.tN "UNASSIGNED_STACK" Bundle.steD) ∈ lwF ∧ Cond.isRef (.static Bundle.tN "SUPPRESSED_SENTINEL" Bundle.listD) ∈ lwF ∧ Cond.eq (.static "java/lang/String" "COMPACT_STRINGS" "Z") (.int 1) ∈ lwF ∧ Cond.isRef (.static "jdk/internal/util/Preconditions" "SIOOBE_FORMATTER" "Ljava/util/function/BiFunction;") ∈ lwF := by decide +kernel
theorem fNc : ∀ i, i < 5 → ∀ j, j < 5 → i ≠ j → Cond.not (.castable (exN i) (exN j)) ∈ lwF := by decide +kernel
theorem WF_start {b L : Nat} {xs : Nat → Int32} {s : State} (hts : ∀ w ∈ lw_tbl, w.before #[Value.ref b] s = true) (hX : va_X b L xs s s.heap) (hbl : b < s.heap.size) (hgv : (Cond.and given_1 narrow_1).before #[Value.ref b] s = true) : ∃ w : WT, WF w s ∧ wb w = b ∧ wL w = L ∧ wX w = xs ∧ wB w = s.heap.size := by
  have hF : ∀ w ∈ lwF, w.before #[Value.ref b] s = true := flat_of_before _ hgv
  have hA : ∀ a : Nat, a < s.heap.size → ¬ (fun q : Nat => s.heap.size ≤ q) a := fun a h => Nat.not_le.mpr h
  obtain ⟨D, hD⟩ := vw_start hts
  obtain ⟨a1, a2, a3, a4, a5⟩ := wArs
  obtain ⟨⟨z1, z2, z3⟩, ⟨z4, z5⟩, z6, z7⟩ := wZs
  obtain ⟨f1, f2, f3, f4⟩ := fZs
  obtain ⟨c0, k0, r0⟩ := ar_start (hts _ a1) (fun _ => rfl)
  obtain ⟨c1, k1, r1⟩ := ar_start (hts _ a2) (fun _ => rfl)
  obtain ⟨c4, k4, r4⟩ := ar_start (hts _ a3) (fun _ => rfl)
  have hAA : vAA .int s := hts _ a4
  obtain ⟨cc2, c2, kk2, g1, g2, g3, g4, g5⟩ := vAA_spec hAA
  obtain ⟨cc3, c3, kk3, g6, g7, g8, g9, g10⟩ := Cond.arrayOver_spec (hts _ a5)
  obtain ⟨K, V, hKV⟩ := str_start (A := fun q : Nat => s.heap.size ≤ q) hF hA
  obtain ⟨fv, hfv, hfr⟩ : ∃ v : Value, (Term.static "jdk/internal/util/Preconditions" "SIOOBE_FORMATTER" "Ljava/util/function/BiFunction;").eval #[Value.ref b] s none [] s = some v ∧ ∃ o : Option Nat, v = va_rf o := by
    have h := hF _ f4
    cases hv : (Term.static "jdk/internal/util/Preconditions" "SIOOBE_FORMATTER" "Ljava/util/function/BiFunction;").eval #[Value.ref b] s none [] s with
    | none => simp [Cond.before, Cond.holds, Cond.value, hv] at h
    | some v =>
      simp only [Cond.before, Cond.holds, Cond.value, hv] at h
      cases v with
      | null => exact ⟨_, rfl, none, rfl⟩
      | ref t => exact ⟨_, rfl, some t, rfl⟩
      | _ => simp at h
  obtain ⟨fo, rfl⟩ := hfr
  refine ⟨(D, fun t => if t = 0 then c0 else if t = 1 then c1 else if t = 2 then c2 else if t = 3 then c3 else c4, s.heap.size, K, V, b, L, xs, fo), ⟨⟨hD, fun k q hk => ?_⟩, fun x hx hn => va_Nw.of (nw_tab hn) (hts x hx), vx_Zqof (hts _ z1) (hts _ z2) (hF _ f1) hA, vx_Zqof (hts _ z3) (hts _ z2) (hF _ f2) hA, hX, hbl, Nat.le_refl _, fun q hq => ?_, fun i hi => ?_, va_Zof (hts _ z4) (hts _ z5) (va_eqt (hF _ f3)) hA, va_Zof (hts _ z6) (hts _ z7) hfv hA, va_AO.of (hts _ a5), hAA, fun i j hi hj hn => va_Nc.of (hF _ (fNc i hi j hj hn))⟩, rfl, rfl, rfl, rfl⟩
  · match k, hk with
    | 0, hk => cases hk; exact ⟨k0, r0⟩
    | 1, hk => cases hk; exact ⟨k1, r1⟩
    | 2, hk => cases hk; exact ⟨fun N z => ⟨(fun k h => by cases h), kk2, g3, cc2, g4⟩, g5⟩
    | 3, hk => cases hk; exact ⟨fun N z => ⟨(fun k h => by cases h), kk3, g8, cc3, g9⟩, kk3, cc3, g8, g9, g6, g10⟩
    | 4, hk => cases hk; exact ⟨k4, r4⟩
    | k + 5, hk => cases hk
  · obtain ⟨q1, q2⟩ := strT_own q hq
    exact vk_R.of (hts _ (strT_ref q hq)) (hKV _ q1 q q2).1
  · obtain ⟨q, hq, -⟩ := strT_idx i hi
    exact (hKV i hi q hq).2
