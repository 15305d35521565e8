/-! HOW THE REAL HEAP HOLDS THE ABSTRACT ONE, and the judgement: a frame carries out a computation -/
/-- an abstract value as it stands on a stack: a number, a cell by its number, or a constant: a text (999: the script; 1000 and on: a text's bytes; 2000: a formatter or null) -/
abbrev VV : Type := Value ⊕ Nat
abbrev vi (x : Int32) : VV := .inl (.int x)
abbrev vl (x : Int64) : VV := .inl (.long x)
abbrev vr (a : Nat) : VV := .inl (.ref a)
abbrev vq (a : Option Nat) : VV := .inl (va_rf a)
abbrev vt (i : Nat) : VV := .inr i
def cv (ρ : Nat → Nat) : Value → Value
  | .ref k => .ref (ρ k)
  | v => v
def cE (ρ : Nat → Nat) (T : Nat → ClassId) : AE → va_E
  | .inl (ci, fs) => .inr (ci, fs.map (cv ρ))
  | .inr (.inl (t, n, f)) => .inl (T t, n, .inl f)
  | .inr (.inr (.inl (t, n, f))) => .inl (T t, n, .inr (.inr (.inr (.inr (fun i => (f i).map ρ)))))
  | .inr (.inr (.inr (n, f))) => .inl (T 4, n, .inr (.inl f))
/-- the world: classes and fields, array classes, where our cells begin, the texts' cells and bytes, the script: where, how long, what -/
abbrev WT : Type := va_G × (Nat → ClassId) × Nat × (Nat → Nat) × (Nat → Nat) × Nat × Nat × (Nat → Int32) × Option Nat
abbrev wD (w : WT) : va_G := w.1
abbrev wT (w : WT) : Nat → ClassId := w.2.1
abbrev wB (w : WT) : Nat := w.2.2.1
abbrev wK (w : WT) : Nat → Nat := w.2.2.2.1
abbrev wV (w : WT) : Nat → Nat := w.2.2.2.2.1
abbrev wb (w : WT) : Nat := w.2.2.2.2.2.1
abbrev wL (w : WT) : Nat := w.2.2.2.2.2.2.1
abbrev wX (w : WT) : Nat → Int32 := w.2.2.2.2.2.2.2.1
abbrev wF (w : WT) : Option Nat := w.2.2.2.2.2.2.2.2
def wA (w : WT) : Nat → Prop := fun q => wB w ≤ q
def wtys (w : WT) : List (ClassId × FieldType) := [(wT w 0, .int), (wT w 1, .byte), (wT w 2, .array .int), (wT w 3, .object "ToolCourt$Court"), (wT w 4, .long)]
def cV (w : WT) (ρ : Nat → Nat) : VV → Value
  | .inl v => cv ρ v
  | .inr i => if i = 2000 then va_rf (wF w) else .ref (if i = 999 then wb w else if i < 999 then wK w i else wV w (i - 1000))
def vOk (n : Nat) : VV → Prop
  | .inl (.ref r) => r < n
  | _ => True
def rOk (n : Nat) : AE → Prop
  | .inl (_, fs) => ∀ v ∈ fs, vOk n (.inl v)
  | .inr (.inr (.inl (_, _, f))) => ∀ i r, f i = some r → r < n
  | _ => True
def wsOf (w : WT) (ρ : Nat → Nat) (s : aS) : va_W := (List.range s.2.1).map fun k => (ρ k, cE ρ (wT w) (s.1 k))
/-- the real heap holds the abstract one -/
def PH (w : WT) (ρ : Nat → Nat) (s : aS) (H : Heap) : Prop := va_P (wD w) vwCl (wsOf w ρ s) H ∧ va_D (wA w) (wsOf w ρ s) ∧ ∀ k, k < s.2.1 → rOk s.2.1 (s.1 k)
theorem vOk_mono {n m : Nat} (h : n ≤ m) {v : VV} (hv : vOk n v) : vOk m v := by
  rcases v with v | i
  · cases v <;> first | exact Nat.lt_of_lt_of_le hv h | exact trivial
  · exact trivial
theorem rOk_mono {n m : Nat} (h : n ≤ m) {e : AE} (he : rOk n e) : rOk m e := by
  rcases e with ⟨c, fs⟩ | ⟨t, k, f⟩ | ⟨t, k, f⟩ | ⟨k, f⟩
  · exact fun v hv => vOk_mono h (he v hv)
  · exact trivial
  · exact fun i r hr => Nat.lt_of_lt_of_le (he i r hr) h
  · exact trivial
theorem cv_congr {ρ ρ' : Nat → Nat} {n : Nat} (h : ∀ k, k < n → ρ' k = ρ k) {v : Value} (hv : vOk n (.inl v)) : cv ρ' v = cv ρ v := by
  cases v <;> first | rfl | (show Value.ref _ = Value.ref _; rw [h _ hv])
theorem cV_congr {w : WT} {ρ ρ' : Nat → Nat} {n : Nat} (h : ∀ k, k < n → ρ' k = ρ k) {v : VV} (hv : vOk n v) : cV w ρ' v = cV w ρ v := by
  rcases v with v | i
  · exact cv_congr h hv
  · rfl
theorem cE_congr {T : Nat → ClassId} {ρ ρ' : Nat → Nat} {n : Nat} (h : ∀ k, k < n → ρ' k = ρ k) {e : AE} (he : rOk n e) : cE ρ' T e = cE ρ T e := by
  rcases e with ⟨c, fs⟩ | ⟨t, k, f⟩ | ⟨t, k, f⟩ | ⟨k, f⟩
  · show (Sum.inr (c, fs.map (cv ρ')) : va_E) = Sum.inr (c, fs.map (cv ρ))
    rw [List.map_congr_left (fun v hv => cv_congr h (he v hv))]
  · rfl
  · show (Sum.inl (T t, k, .inr (.inr (.inr (.inr fun i => (f i).map ρ')))) : va_E) = Sum.inl (T t, k, .inr (.inr (.inr (.inr fun i => (f i).map ρ))))
    rw [show (fun i => (f i).map ρ') = fun i => (f i).map ρ from funext fun i => by
      cases hf : f i with
      | none => rfl
      | some r => show some _ = some _; rw [h r (he i r hf)]]
  · rfl
theorem ws_get {w : WT} {ρ : Nat → Nat} {s : aS} {k : Nat} (h : k < s.2.1) : (wsOf w ρ s)[k]? = some (ρ k, cE ρ (wT w) (s.1 k)) := by
  unfold wsOf
  rw [List.getElem?_map, List.getElem?_range h]
  rfl
theorem ws_set {w : WT} {ρ : Nat → Nat} {h : Nat → AE} {n : Nat} {z : Nat × Nat} {k : Nat} (e : AE) (hk : k < n) : (wsOf w ρ (h, n, z)).set k (ρ k, cE ρ (wT w) e) = wsOf w ρ (hup h k e, n, z) := by
  unfold wsOf
  refine List.ext_getElem? fun j => ?_
  rw [List.getElem?_set, List.length_map, List.length_range]
  show _ = (List.map _ (List.range n))[j]?
  by_cases hj : k = j
  · subst hj
    rw [if_pos rfl, if_pos hk, List.getElem?_map, List.getElem?_range hk]
    show some (ρ k, cE ρ (wT w) e) = some (ρ k, cE ρ (wT w) (hup h k e k))
    rw [show hup h k e k = e from if_pos rfl]
  · rw [if_neg hj, List.getElem?_map, List.getElem?_map]
    cases hr : (List.range n)[j]? with
    | none => rfl
    | some i =>
      have hi : i = j := by
        have := List.getElem?_eq_some_iff.mp hr
        obtain ⟨h1, h2⟩ := this
        rw [List.getElem_range] at h2
        exact h2.symm
      subst hi
      show some (ρ i, cE ρ (wT w) (h i)) = some (ρ i, cE ρ (wT w) (hup h k e i))
      rw [show hup h k e i = h i from if_neg (fun q => hj q.symm)]
theorem ws_push {w : WT} {ρ : Nat → Nat} {h : Nat → AE} {n : Nat} {z z' : Nat × Nat} {q : Nat} {e : AE} (hr : ∀ k, k < n → rOk n (h k)) (he : rOk n e) : wsOf w ρ (h, n, z) ++ [(q, cE ρ (wT w) e)] = wsOf w (va_up ρ n q) (hup h n e, n + 1, z') := by
  unfold wsOf
  show _ = List.map _ (List.range (n + 1))
  rw [List.range_succ, List.map_append]
  have hag : ∀ k, k < n → va_up ρ n q k = ρ k := fun k hk => va_up_ne ρ q (Nat.ne_of_lt hk)
  congr 1
  · apply List.map_congr_left
    intro k hk
    have hk := List.mem_range.mp hk
    show (ρ k, cE ρ (wT w) (h k)) = (va_up ρ n q k, cE (va_up ρ n q) (wT w) (hup h n e k))
    rw [hag k hk, show hup h n e k = h k from if_neg (Nat.ne_of_lt hk), cE_congr hag (hr k hk)]
  · show [(q, cE ρ (wT w) e)] = [(va_up ρ n q n, cE (va_up ρ n q) (wT w) (hup h n e n))]
    rw [va_up_self, show hup h n e n = e from if_pos rfl, cE_congr hag he]
theorem PH_set {w : WT} {ρ : Nat → Nat} {s : aS} {H : Heap} {k : Nat} {e : AE} (hk : k < s.2.1) (hP : va_P (wD w) vwCl ((wsOf w ρ s).set k (ρ k, cE ρ (wT w) e)) H) (hD : va_D (wA w) ((wsOf w ρ s).set k (ρ k, cE ρ (wT w) e))) (hr : ∀ k, k < s.2.1 → rOk s.2.1 (s.1 k)) (he : rOk s.2.1 e) : PH w ρ (hup s.1 k e, s.2) H := by
  obtain ⟨h, n, z⟩ := s
  rw [ws_set e hk] at hP hD
  refine ⟨hP, hD, fun j hj => ?_⟩
  show rOk n (hup h k e j)
  unfold hup
  split
  · exact he
  · exact hr j hj
theorem PH_push {w : WT} {ρ : Nat → Nat} {s : aS} {H : Heap} {q k : Nat} {e : AE} (hP : va_P (wD w) vwCl (wsOf w ρ s ++ [(q, cE ρ (wT w) e)]) H) (hD : va_D (wA w) (wsOf w ρ s ++ [(q, cE ρ (wT w) e)])) (hr : ∀ k, k < s.2.1 → rOk s.2.1 (s.1 k)) (he : rOk s.2.1 e) : PH w (va_up ρ s.2.1 q) (push s e k) H := by
  obtain ⟨h, n, c, z⟩ := s
  rw [ws_push (z' := (c + 1, z + k)) hr he] at hP hD
  refine ⟨hP, hD, fun j hj => ?_⟩
  show rOk (n + 1) (hup h n e j)
  unfold hup
  split
  · exact rOk_mono (Nat.le_succ n) he
  · next hne =>
    have hj : j < n + 1 := hj
    have hj2 : j < n := by omega
    exact rOk_mono (Nat.le_succ n) (hr j hj2)
/-! words of the tables that aren't good ones, by what they stand on alone -/
def isNw : Cond → Bool
  | .fieldLinkNest .. => true
  | .methodLinkNest .. => true
  | .declares .. => true
  | .castable .. => true
  | _ => false
theorem nw_warm {x : Cond} {s U : State} (hx : isNw x = true) (hW : s.WarmedH U.vm) (h : va_Nw x s) : va_Nw x U := by
  cases x <;> first | cases hx | skip
  all_goals first | exact va_Nw.warmF hW h | exact va_Nw.warmM hW h | exact va_Nw.warmD hW h | exact va_Nw.warmC hW h
theorem nw_tab {x : Cond} (hx : isNw x = true) : x.onTables = true := by
  cases x <;> first | rfl | exact absurd hx (by simp [isNw])
/-! the texts: where a class's entry names one, and its bytes -/
def strT : List (String × Nat × String × Nat) := [("ToolCourt$TextReader", 107, "handle head joint nailed edge wear guilt harm hard master day tool answer plead heir blunt if and or not part nail damp need limit ", 0), ("ToolCourt", 103, "the text is wrong", 1), ("ToolCourt", 113, "there are 12 texts", 2), ("ToolCourt", 416, "there is no such PART", 3), ("ToolCourt", 436, "there is no such thing to ask", 4), ("ToolCourt", 418, "there is no such TOOL", 5), ("ToolCourt", 171, "there is no such thing of a TOOL", 6), ("ToolCourt", 420, "there is no such MASTER", 7), ("ToolCourt", 426, "HARM or HARD are none", 8), ("ToolCourt", 428, "there is no head", 9), ("ToolCourt", 198, "there are 60 DEEDS", 10), ("ToolCourt", 216, "there is no such SORT", 11), ("ToolCourt", 219, "the PART is of another SORT", 12), ("ToolCourt", 430, "both are none", 13), ("ToolCourt", 432, "the PART there is NAILED", 14), ("ToolCourt", 434, "the PART that comes is not SPARE", 15), ("ToolCourt", 238, "the days are none", 16), ("ToolCourt", 424, "the PART is no head", 17), ("ToolCourt", 248, "it was GROUND", 18), ("ToolCourt", 262, "the PART is SPARE", 19), ("ToolCourt", 267, "the DAYS are none", 20), ("ToolCourt", 438, "the EDGE is none", 21), ("ToolCourt", 440, "the GRADE is none", 22), ("ToolCourt", 285, "the DAY is none", 23), ("ToolCourt", 422, "both TOOLS are one", 24), ("ToolCourt", 360, "a byte is no PART", 25), ("ToolCourt", 386, "there is no such DEED", 26), ("ToolCourtModel", 160, "part", 27), ("ToolCourtModel", 125, "handle", 28), ("ToolCourtModel", 127, "head", 29), ("ToolCourtModel", 129, "joint", 30), ("ToolCourtModel", 134, "edge", 31), ("ToolCourtModel", 140, "wear", 32), ("ToolCourtModel", 165, "tool", 33), ("ToolCourtModel", 170, "master", 34), ("ToolCourtModel", 175, "nail", 35), ("ToolCourtModel", 180, "need", 36), ("ToolCourtModel", 185, "limit", 37), ("ToolCourtModel", 187, "damp", 38), ("ToolCourtModel", 238, "answer", 39), ("ToolCourtModel", 240, "plead", 40), ("ToolCourtModel", 242, "heir", 41), ("ToolCourtModel", 244, "blunt", 42), ("ToolCourtModel", 246, "if", 43), ("ToolCourtModel", 217, "not", 44), ("ToolCourtModel", 209, "nailed", 45), ("ToolCourtModel", 195, "guilt", 46), ("ToolCourtModel", 197, "harm", 47), ("ToolCourtModel", 199, "hard", 48), ("ToolCourtModel", 201, "day", 49), ("ToolCourtModel", 231, "and", 50), ("ToolCourtModel", 236, "or", 51)]
def strB : List (List Int32) := [[104, 97, 110, 100, 108, 101, 32, 104, 101, 97, 100, 32, 106, 111, 105, 110, 116, 32, 110, 97, 105, 108, 101, 100, 32, 101, 100, 103, 101, 32, 119, 101, 97, 114, 32, 103, 117, 105, 108, 116, 32, 104, 97, 114, 109, 32, 104, 97, 114, 100, 32, 109, 97, 115, 116, 101, 114, 32, 100, 97, 121, 32, 116, 111, 111, 108, 32, 97, 110, 115, 119, 101, 114, 32, 112, 108, 101, 97, 100, 32, 104, 101, 105, 114, 32, 98, 108, 117, 110, 116, 32, 105, 102, 32, 97, 110, 100, 32, 111, 114, 32, 110, 111, 116, 32, 112, 97, 114, 116, 32, 110, 97, 105, 108, 32, 100, 97, 109, 112, 32, 110, 101, 101, 100, 32, 108, 105, 109, 105, 116, 32], [116, 104, 101, 32, 116, 101, 120, 116, 32, 105, 115, 32, 119, 114, 111, 110, 103], [116, 104, 101, 114, 101, 32, 97, 114, 101, 32, 49, 50, 32, 116, 101, 120, 116, 115], [116, 104, 101, 114, 101, 32, 105, 115, 32, 110, 111, 32, 115, 117, 99, 104, 32, 80, 65, 82, 84], [116, 104, 101, 114, 101, 32, 105, 115, 32, 110, 111, 32, 115, 117, 99, 104, 32, 116, 104, 105, 110, 103, 32, 116, 111, 32, 97, 115, 107], [116, 104, 101, 114, 101, 32, 105, 115, 32, 110, 111, 32, 115, 117, 99, 104, 32, 84, 79, 79, 76], [116, 104, 101, 114, 101, 32, 105, 115, 32, 110, 111, 32, 115, 117, 99, 104, 32, 116, 104, 105, 110, 103, 32, 111, 102, 32, 97, 32, 84, 79, 79, 76], [116, 104, 101, 114, 101, 32, 105, 115, 32, 110, 111, 32, 115, 117, 99, 104, 32, 77, 65, 83, 84, 69, 82], [72, 65, 82, 77, 32, 111, 114, 32, 72, 65, 82, 68, 32, 97, 114, 101, 32, 110, 111, 110, 101], [116, 104, 101, 114, 101, 32, 105, 115, 32, 110, 111, 32, 104, 101, 97, 100], [116, 104, 101, 114, 101, 32, 97, 114, 101, 32, 54, 48, 32, 68, 69, 69, 68, 83], [116, 104, 101, 114, 101, 32, 105, 115, 32, 110, 111, 32, 115, 117, 99, 104, 32, 83, 79, 82, 84], [116, 104, 101, 32, 80, 65, 82, 84, 32, 105, 115, 32, 111, 102, 32, 97, 110, 111, 116, 104, 101, 114, 32, 83, 79, 82, 84], [98, 111, 116, 104, 32, 97, 114, 101, 32, 110, 111, 110, 101], [116, 104, 101, 32, 80, 65, 82, 84, 32, 116, 104, 101, 114, 101, 32, 105, 115, 32, 78, 65, 73, 76, 69, 68], [116, 104, 101, 32, 80, 65, 82, 84, 32, 116, 104, 97, 116, 32, 99, 111, 109, 101, 115, 32, 105, 115, 32, 110, 111, 116, 32, 83, 80, 65, 82, 69], [116, 104, 101, 32, 100, 97, 121, 115, 32, 97, 114, 101, 32, 110, 111, 110, 101], [116, 104, 101, 32, 80, 65, 82, 84, 32, 105, 115, 32, 110, 111, 32, 104, 101, 97, 100], [105, 116, 32, 119, 97, 115, 32, 71, 82, 79, 85, 78, 68], [116, 104, 101, 32, 80, 65, 82, 84, 32, 105, 115, 32, 83, 80, 65, 82, 69], [116, 104, 101, 32, 68, 65, 89, 83, 32, 97, 114, 101, 32, 110, 111, 110, 101], [116, 104, 101, 32, 69, 68, 71, 69, 32, 105, 115, 32, 110, 111, 110, 101], [116, 104, 101, 32, 71, 82, 65, 68, 69, 32, 105, 115, 32, 110, 111, 110, 101], [116, 104, 101, 32, 68, 65, 89, 32, 105, 115, 32, 110, 111, 110, 101], [98, 111, 116, 104, 32, 84, 79, 79, 76, 83, 32, 97, 114, 101, 32, 111, 110, 101], [97, 32, 98, 121, 116, 101, 32, 105, 115, 32, 110, 111, 32, 80, 65, 82, 84], [116, 104, 101, 114, 101, 32, 105, 115, 32, 110, 111, 32, 115, 117, 99, 104, 32, 68, 69, 69, 68], [112, 97, 114, 116], [104, 97, 110, 100, 108, 101], [104, 101, 97, 100], [106, 111, 105, 110, 116], [101, 100, 103, 101], [119, 101, 97, 114], [116, 111, 111, 108], [109, 97, 115, 116, 101, 114], [110, 97, 105, 108], [110, 101, 101, 100], [108, 105, 109, 105, 116], [100, 97, 109, 112], [97, 110, 115, 119, 101, 114], [112, 108, 101, 97, 100], [104, 101, 105, 114], [98, 108, 117, 110, 116], [105, 102], [110, 111, 116], [110, 97, 105, 108, 101, 100], [103, 117, 105, 108, 116], [104, 97, 114, 109], [104, 97, 114, 100], [100, 97, 121], [97, 110, 100], [111, 114]]
def strN : Nat := 52
def strF (w : WT) (U : State) : Prop := ∀ i, i < strN → va_O "java/lang/String" (wK w i) (wA w) U U.heap ∧ va_OF "java/lang/String" "coder" "B" (.int 0) (wK w i) (wA w) U U.heap ∧ va_OF "java/lang/String" "value" "[B" (.ref (wV w i)) (wK w i) (wA w) U U.heap ∧ va_T .byte (wV w i) (strB.getD i []).length (fun j => .int ((strB.getD i []).getD j 0)) (wA w) U U.heap
/-- rows of rows: the class of arrays of arrays stands -/
def vAA (t : FieldType) (U : State) : Prop := (Cond.arrayOver (.array t)).before #[] U = true
theorem vAA_spec {t : FieldType} {U : State} (h : vAA t U) : ∃ comp c k, U.vm.findClass (FieldType.array t).toString = some comp ∧ (U.vm.classes.findIdx? fun (x : Class) => match x.kind with | .array component _ => component == comp | _ => false) = some c ∧ U.vm.classes[c]? = some k ∧ k.kind = .array comp (.array t) ∧ U.vm.findClass ("[" ++ (FieldType.array t).toString) = some c := by
  have h0 := h
  unfold vAA Cond.before at h
  simp only [Cond.holds, Cond.value, beq_iff_eq] at h
  cases hc : U.vm.findClass (FieldType.array t).toString with
  | none => simp [hc] at h
  | some comp =>
    simp only [hc, Option.bind_some, Option.bind_eq_some_iff, Option.map_eq_some_iff] at h
    obtain ⟨c, hi, k, hk, hb⟩ := h
    obtain ⟨hlt, hp, -⟩ := Array.findIdx?_eq_some_iff_getElem.mp hi
    have hkk : U.vm.classes[c] = k := (Array.getElem?_eq_some_iff.mp hk).2
    rw [hkk] at hp
    cases hkind : k.kind with
    | array component ty =>
      rw [hkind] at hb hp
      simp at hb hp
      exact ⟨comp, c, k, rfl, hi, hk, by rw [hkind, hp, hb.1], hb.2⟩
    | _ => rw [hkind] at hb; simp at hb
theorem vAA.moved {t : FieldType} {u U : State} (hvm : u.vm.Alike U.vm) (h : vAA t u) : vAA t U := by
  obtain ⟨comp, c, k, h1, h2, h3, h4, h5⟩ := vAA_spec h
  obtain ⟨k', hk', he⟩ := hvm.2.2 _ _ h3
  have hi : (U.vm.classes.findIdx? fun (x : Class) => match x.kind with | .array component _ => component == comp | _ => false) = some c := by
    have e1 := va_idx_bare U.vm comp
    have e2 := va_idx_bare u.vm comp
    have e3 : U.vm.bare = u.vm.bare := by first | exact hvm.bare_eq | exact hvm.bare_eq.symm
    rw [e3] at e1
    exact e1.symm.trans (e2.trans h2)
  have hkind : k'.kind = .array comp (.array t) := by rw [he]; exact h4
  have f1 : U.vm.findClass (FieldType.array t).toString = some comp := by rw [hvm.findClass]; exact h1
  have f2 : U.vm.findClass ("[" ++ (FieldType.array t).toString) = some c := by rw [hvm.findClass]; exact h5
  unfold vAA Cond.before Cond.holds
  simp only [Cond.value]
  rw [f1, Option.bind_some]
  refine (congrArg (fun o : Option Nat => (o.bind (fun c => (U.vm.classes[c]?).map fun (k : Class) => match k.kind with | .array _ ty => decide (ty = FieldType.array t) && decide (U.vm.findClass ("[" ++ (FieldType.array t).toString) = some c) | _ => false) == some true)) hi).trans ?_
  simp [hk', hkind, f2]
def exN : Nat → String
  | 0 => "java/lang/IllegalArgumentException"
  | 1 => "java/lang/UnsupportedOperationException"
  | 2 => "java/lang/IndexOutOfBoundsException"
  | 3 => "java/util/NoSuchElementException"
  | _ => "java/lang/IllegalStateException"
/-- what the world gives, in a state: kept by all that we do -/
def WF (w : WT) (U : State) : Prop :=
  va_K (wD w) vwCl (wtys w) U ∧ (∀ x ∈ lw_tbl, isNw x = true → va_Nw x U) ∧
  vx_Zq Bundle.tN "UNASSIGNED_STACK" Bundle.steD (wA w) U U.heap ∧ vx_Zq Bundle.tN "SUPPRESSED_SENTINEL" Bundle.listD (wA w) U U.heap ∧
  va_X (wb w) (wL w) (wX w) U U.heap ∧ wb w < wB w ∧ wB w ≤ U.heap.size ∧
  (∀ q ∈ strT, vk_R q.1 q.2.1 q.2.2.1 (wK w q.2.2.2) U) ∧ strF w U ∧ va_Z "java/lang/String" "COMPACT_STRINGS" "Z" (.int 1) (wA w) U U.heap ∧ va_Z "jdk/internal/util/Preconditions" "SIOOBE_FORMATTER" "Ljava/util/function/BiFunction;" (va_rf (wF w)) (wA w) U U.heap ∧ va_AO "ToolCourt$Court" U ∧ vAA .int U ∧ ∀ i j : Nat, i < 5 → j < 5 → i ≠ j → va_Nc (exN i) (exN j) U
theorem WF_moved {w : WT} {s U : State} (h : WF w s) (hW : s.WarmedH U.vm) (hz : s.heap.size ≤ U.heap.size) (hk : ∀ q : Nat, q < s.heap.size → ¬ wA w q → U.heap[q]? = s.heap[q]?) : WF w U := by
  obtain ⟨h1, h2, h3, h4, h5, h6, h7, h8, h9, h10, h11, h12, h13, h14⟩ := h
  have hal := hW.alike
  refine ⟨h1.moved hal, fun x hx hn => nw_warm hn hW (h2 x hx hn), (h3.moved hal).kept hk, (h4.moved hal).kept hk, (h5.moved hal).kept (hk _ (Nat.lt_of_lt_of_le h6 h7) (fun z => Nat.not_le.mpr h6 z)), h6, Nat.le_trans h7 hz, fun q hq => (h8 q hq).warm hW, fun i hi => ?_, (h10.moved hal).kept hk, (h11.moved hal).kept hk, h12.moved hal, h13.moved hal, fun i j hi hj hn => (h14 i j hi hj hn).moved hal⟩
  obtain ⟨g1, g2, g3, g4⟩ := h9 i hi
  exact ⟨(va_O.moved hal g1).kept hk, (va_OF.moved hal g2).kept hk, (va_OF.moved hal g3).kept hk, (va_T.moved hal g4).kept hk⟩
theorem WF_same {w : WT} {s U : State} (h : WF w s) (hv : U.vm = s.vm) (hh : U.heap = s.heap) : WF w U := by
  obtain ⟨h1, h2, h3, h4, h5, h6, h7, h8, h9, h10, h11, h12, h13, h14⟩ := h
  have hal : s.vm.Alike U.vm := by rw [hv]; exact Vm.Alike.refl s.vm
  have h9' : ∀ i, i < strN → va_O "java/lang/String" (wK w i) (wA w) U U.heap ∧ va_OF "java/lang/String" "coder" "B" (.int 0) (wK w i) (wA w) U U.heap ∧ va_OF "java/lang/String" "value" "[B" (.ref (wV w i)) (wK w i) (wA w) U U.heap ∧ va_T .byte (wV w i) (strB.getD i []).length (fun j => .int ((strB.getD i []).getD j 0)) (wA w) U U.heap := fun i hi => by
    obtain ⟨g1, g2, g3, g4⟩ := h9 i hi
    rw [← hh] at g1 g2 g3 g4
    exact ⟨va_O.moved hal g1, va_OF.moved hal g2, va_OF.moved hal g3, va_T.moved hal g4⟩
  rw [← hh] at h3 h4 h5 h7 h10 h11
  exact ⟨h1.moved hal, fun x hx hn => va_Nw.same (nw_tab hn) hv.symm (h2 x hx hn), h3.moved hal, h4.moved hal, h5.moved hal, h6, h7, fun q hq => vk_R.same hv (h8 q hq), h9', h10.moved hal, h11.moved hal, h12.moved hal, h13.moved hal, fun i j hi hj hn => (h14 i j hi hj hn).moved hal⟩
/-! methods: class, code, locals, what it answers, name, depth -/
abbrev StA : Type := String × ByteArray × Nat × Option FieldType × MethodName × Nat × List (Nat × Nat × Nat × Nat)
abbrev aOwn (A : StA) : String := A.1
abbrev aC (A : StA) : ByteArray := A.2.1
abbrev aN (A : StA) : Nat := A.2.2.1
abbrev aR (A : StA) : Option FieldType := A.2.2.2.1
abbrev aY (A : StA) : MethodName := A.2.2.2.2.1
abbrev aD (A : StA) : Nat := A.2.2.2.2.2.1
abbrev aH (A : StA) : List (Nat × Nat × Nat × Nat) := A.2.2.2.2.2.2
def aW (A : StA) : List Cond := (match aH A with
  | [] => Cond.code (aY A) (aC A) (aN A) (aR A)
  | hh => Cond.codeWith (aY A) (aC A) (aN A) (aR A) hh) :: tblG
/-- ρ' goes on from ρ -/
def ext (n : Nat) (ρ ρ' : Nat → Nat) : Prop := ∀ k, k < n → ρ' k = ρ k
def Qok {β : Type} (w : WT) (n : Nat) (ρ : Nat → Nat) (res : β → Option Value) (o : β ⊕ Nat) (s' : aS) : Array Value → State → Outcome → State → Prop := fun _ st oc t =>
  (∃ (v : β) (ρ' : Nat → Nat), o = .inl v ∧ ext n ρ ρ' ∧ (∀ z, res v = some z → vOk s'.2.1 (.inl z)) ∧ oc = .returned ((res v).map (cv ρ')) ∧ PH w ρ' s' t.heap) ∧ va_F (wA w) st t
def Qex {β : Type} (w : WT) (n : Nat) (ρ : Nat → Nat) (o : β ⊕ Nat) (s' : aS) : String → State → State → Prop := fun E st t =>
  (∃ (e : Nat) (ρ' : Nat → Nat), o = .inr e ∧ E = exN e ∧ ext n ρ ρ' ∧ PH w ρ' s' t.heap) ∧ va_F (wA w) st t
/-- the room that a computation takes -/
def rmOf (d : Nat) (s s' : aS) : Room := { frames := d, cells := s'.2.2.1 - s.2.2.1, slots := s'.2.2.2 - s.2.2.2, locals := 64 * d }
def Pct (w : WT) (ρ : Nat → Nat) (s : aS) (args : List VV) : Array Value → State → Prop := fun a U => a = (args.map (cV w ρ)).toArray ∧ PH w ρ s U.heap ∧ WF w U
def mono (s s' : aS) : Prop := s.2.1 ≤ s'.2.1 ∧ s.2.2.1 ≤ s'.2.2.1 ∧ s.2.2.2 ≤ s'.2.2.2
/-- THE CONTRACT: the method carries out the computation -/
abbrev DyA : Type := Program × Launch × Env × Room × State × MethodId × Array Value × List Frame × Method × Code × WT × (Nat → Nat) × Nat × Nat × Nat
def Ct {β : Type} (A : StA) (args : List VV) (k : MM β) (res : β → Option Value) : Prop := ∀ (_ : DyA) (s s' : aS) (o : β ⊕ Nat), k s = some (o, s') → mono s s' ∧ ∀ (l : Launch) (w : WT) (ρ : Nat → Nat), l.stackTraces = false → (∀ v ∈ args, vOk s.2.1 v) →
  vx_Met l (aY A) (aW A) (rmOf (aD A) s s') (Pct w ρ s args) (Qok w s.2.1 ρ res o s') (Qex w s.2.1 ρ o s') (s'.2.2.1 - s.2.2.1) (s'.2.2.2 - s.2.2.2) (wA w)
