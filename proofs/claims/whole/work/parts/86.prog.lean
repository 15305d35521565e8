/-! THE LAW AS A PROGRAM: items (step, number), types of its stack, what it comes to -/
abbrev It : Type := Nat × Nat
/-- an item in the class's code -/
def encI (i : It) : Nat := if i.1 ≤ 7 then 1000 + i.1 else if i.1 = 8 then 1020 + i.2 else if i.1 = 9 then 1009 else if i.1 = 10 then i.2 else 1019 + i.1
def itOk (i : It) : Prop := i.1 ≤ 16 ∧ (i.1 = 8 → i.2 ≤ 2) ∧ (i.1 = 10 → i.2 ≤ 999)
/-- the types on the stack behind an item (true: it holds or not); never more than 30 -/
def ty1 (i : It) (T : List Bool) : Option (List Bool) :=
  if i.1 ≤ 7 ∨ i.1 = 10 then (if T.length < 30 then some (false :: T) else none)
  else if i.1 ≤ 9 then (if T.length < 30 then some (true :: T) else none)
  else match T with
    | [] => none
    | t :: R => if i.1 = 14 then (if t = true then some (true :: R) else none) else match R with
      | [] => none
      | u :: Q => if i.1 = 11 then (if t = false ∧ u = false then some (false :: Q) else none) else if i.1 ≤ 13 then (if t = false ∧ u = false then some (true :: Q) else none) else (if t = true ∧ u = true then some (true :: Q) else none)
def tyP : List It → List Bool → Option (List Bool)
  | [], T => some T
  | i :: r, T => match ty1 i T with
    | some T' => tyP r T'
    | none => none
def opL (k : Nat) (a b : Int32) : Int32 := if k = 11 then a + b else if k = 12 then (if a < b then 1 else 0) else if k = 13 then (if b < a then 1 else 0) else if k = 15 then (if a = 0 then 0 else if b = 0 then 0 else 1) else (if a = 0 then (if b = 0 then 0 else 1) else 1)
/-- what a fact is, by the row of ten -/
def fI (F : Nat → Int32) (i : It) : Int32 := if i.1 ≤ 7 then F i.1 else if i.1 = 8 then (if F 8 = Int32.ofNat i.2 then 1 else 0) else if i.1 = 9 then F 9 else Int32.ofNat i.2
def stp (F : Nat → Int32) (i : It) (k : List Int32) : List Int32 :=
  if i.1 ≤ 10 then fI F i :: k else match k with
    | [] => []
    | b :: r => if i.1 = 14 then (if b = 0 then 1 else 0) :: r else match r with
      | [] => []
      | a :: q => opL i.1 a b :: q
def evL (F : Nat → Int32) : List It → List Int32 → List Int32
  | [], k => k
  | i :: r, k => evL F r (stp F i k)
/-- a row of numbers holds that stack -/
def Stk (g : Nat → Int32) : List Int32 → Prop
  | [] => True
  | v :: r => g r.length = v ∧ Stk g r
def TyS : List Bool → List Int32 → Prop
  | [], [] => True
  | t :: T, v :: r => (t = true → v = 0 ∨ v = 1) ∧ TyS T r
  | _, _ => False
theorem stk_upd {g : Nat → Int32} {n : Nat} {x : Int32} : ∀ {k : List Int32}, Stk g k → k.length ≤ n → Stk (upd g n x) k
  | [], _, _ => trivial
  | v :: r, h, hn => by
    have hn' : r.length + 1 ≤ n := hn
    refine ⟨?_, stk_upd h.2 (by omega)⟩
    show (if r.length = n then x else g r.length) = v
    rw [if_neg (by omega)]
    exact h.1
theorem stk_push {g : Nat → Int32} {x : Int32} {k : List Int32} (h : Stk g k) : Stk (upd g k.length x) (x :: k) := ⟨if_pos rfl, stk_upd h (Nat.le_refl _)⟩
theorem tyS_len : ∀ {T : List Bool} {k : List Int32}, TyS T k → k.length = T.length
  | [], [], _ => rfl
  | _ :: _, _ :: _, h => congrArg (· + 1) (tyS_len h.2)
  | [], _ :: _, h => h.elim
  | _ :: _, [], h => h.elim
/-- a step keeps types -/
theorem ty_step {F : Nat → Int32} {i : It} {T T' : List Bool} {k : List Int32} (h : ty1 i T = some T') (ht : TyS T k) (h9 : F 9 = 0 ∨ F 9 = 1) : TyS T' (stp F i k) := by
  unfold ty1 at h
  unfold stp
  by_cases c1 : i.1 ≤ 7 ∨ i.1 = 10
  · rw [if_pos c1] at h
    split at h
    · cases h
      rw [if_pos (by omega)]
      exact ⟨fun q => absurd q (by decide), ht⟩
    · cases h
  rw [if_neg c1] at h
  by_cases c2 : i.1 ≤ 9
  · rw [if_pos c2] at h
    split at h
    · cases h
      rw [if_pos (by omega)]
      refine ⟨fun _ => ?_, ht⟩
      unfold fI
      rw [if_neg (by omega)]
      by_cases c3 : i.1 = 8
      · rw [if_pos c3]
        split
        · exact Or.inr rfl
        · exact Or.inl rfl
      · rw [if_neg c3, if_pos (by omega)]
        exact h9
    · cases h
  rw [if_neg c2] at h
  rw [if_neg (by omega)]
  match T, k, ht, h with
  | [], _, _, h => cases h
  | _ :: _, [], ht, _ => exact ht.elim
  | t :: R, b :: r, ht, h =>
    show TyS T' (if i.1 = 14 then _ else _)
    by_cases c4 : i.1 = 14
    · have h2 : (if t = true then some (true :: R) else none) = some T' := by
        have : (if i.1 = 14 then (if t = true then some (true :: R) else none) else _) = some T' := h
        rwa [if_pos c4] at this
      rw [if_pos c4]
      split at h2
      · cases h2
        refine ⟨fun _ => ?_, ht.2⟩
        split
        · exact Or.inr rfl
        · exact Or.inl rfl
      · cases h2
    · rw [if_neg c4]
      match R, r, ht, h with
      | [], _, _, h =>
        have : (if i.1 = 14 then (if t = true then some (true :: []) else none) else none) = some T' := h
        rw [if_neg c4] at this
        cases this
      | _ :: _, [], ht, _ => exact ht.2.elim
      | u :: Q, a :: q, ht, h =>
        have h2 : (if i.1 = 11 then (if t = false ∧ u = false then some (false :: Q) else none) else if i.1 ≤ 13 then (if t = false ∧ u = false then some (true :: Q) else none) else (if t = true ∧ u = true then some (true :: Q) else none)) = some T' := by
          have : (if i.1 = 14 then (if t = true then some (true :: u :: Q) else none) else (if i.1 = 11 then (if t = false ∧ u = false then some (false :: Q) else none) else if i.1 ≤ 13 then (if t = false ∧ u = false then some (true :: Q) else none) else (if t = true ∧ u = true then some (true :: Q) else none))) = some T' := h
          rwa [if_neg c4] at this
        show TyS T' (opL i.1 a b :: q)
        by_cases c5 : i.1 = 11
        · rw [if_pos c5] at h2
          split at h2
          · cases h2
            exact ⟨fun q => absurd q (by decide), ht.2.2⟩
          · cases h2
        · rw [if_neg c5] at h2
          have hT : T' = true :: Q := by
            split at h2
            · split at h2
              · cases h2; rfl
              · cases h2
            · split at h2
              · cases h2; rfl
              · cases h2
          rw [hT]
          refine ⟨fun _ => ?_, ht.2.2⟩
          unfold opL
          rw [if_neg c5]
          split
          · split
            · exact Or.inr rfl
            · exact Or.inl rfl
          · split
            · split
              · exact Or.inr rfl
              · exact Or.inl rfl
            · split
              · split
                · exact Or.inl rfl
                · split
                  · exact Or.inl rfl
                  · exact Or.inr rfl
              · split
                · split
                  · exact Or.inl rfl
                  · exact Or.inr rfl
                · exact Or.inr rfl
theorem ty_run {F : Nat → Int32} (h9 : F 9 = 0 ∨ F 9 = 1) : ∀ {P : List It} {T T' : List Bool} {k : List Int32}, tyP P T = some T' → TyS T k → TyS T' (evL F P k)
  | [], T, T', k, h, ht => by
    have : some T = some T' := h
    cases this
    exact ht
  | i :: r, T, T', k, h, ht => by
    have h2 : (match ty1 i T with
      | some T2 => tyP r T2
      | none => none) = some T' := h
    cases e : ty1 i T with
    | none => rw [e] at h2; cases h2
    | some T2 =>
      rw [e] at h2
      show TyS T' (evL F r (stp F i k))
      exact ty_run h9 (show tyP r T2 = some T' from h2) (ty_step e ht h9)
theorem tyP_app : ∀ (P Q : List It) (T T' : List Bool), tyP P T = some T' → tyP (P ++ Q) T = tyP Q T'
  | [], Q, T, T', h => by
    have : some T = some T' := h
    cases this
    rfl
  | i :: r, Q, T, T', h => by
    show (match ty1 i T with
      | some T2 => tyP (r ++ Q) T2
      | none => none) = _
    have h2 : (match ty1 i T with
      | some T2 => tyP r T2
      | none => none) = some T' := h
    cases e : ty1 i T with
    | none => rw [e] at h2; cases h2
    | some T2 =>
      rw [e] at h2
      exact tyP_app r Q T2 T' (show tyP r T2 = some T' from h2)
