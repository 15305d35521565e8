/-! GLUE for printed walks: joins, loops with their ends, names for numbers, answers that are booleans -/
def mbool (v : Int32) : MM Int32 := fun s => if v = 0 ∨ v = 1 then some (.inl v, s) else none
section RG
variable {A : StA} {Y : DyA} {pc : Nat} {lv : List (Nat × VV)} {st : List VV} {α β γ σ ε : Type} {K : α → MM β} {res : β → Option Value} {s : aS}
theorem r_letI {x : Int32} {f : Int32 → MM α} (g : ∀ y, Rr A Y pc lv (vi y :: st) (f y) K res s) : Rr A Y pc lv (vi x :: st) (mbnd (mret x) f) K res s := g x
theorem r_join {m : MM γ} {f : γ → MM α} (pcJ : Nat) (mkl : γ → List (Nat × VV)) (mks : γ → List VV) (hJ : ∀ x s, Rr A Y pcJ (mkl x) (mks x) (f x) K res s) (hA : ∀ (K' : γ → MM β), (∀ x s, Rr A Y pcJ (mkl x) (mks x) (mret x) K' res s) → Rr A Y pc lv st m K' res s) : Rr A Y pc lv st (mbnd m f) K res s :=
  r_bnd (hA _ fun x s => r_ret (r_again (hJ x s)))
theorem r_loop2 {b : σ → MM (σ ⊕ ε)} {k : ε → MM α} (pcE : ε → Nat) (mkE : ε → List (Nat × VV)) (mkl : σ → List (Nat × VV)) (hE : ∀ e s, Rr A Y (pcE e) (mkE e) [] (k e) K res s) (h : ∀ (K' : σ ⊕ ε → MM β), (∀ x s, Rr A Y pc (mkl x) [] (mret (.inl x)) K' res s) → (∀ e s, Rr A Y (pcE e) (mkE e) [] (mret (.inr e)) K' res s) → ∀ x s, Rr A Y pc (mkl x) [] (b x) K' res s) (x : σ) (s : aS) : Rr A Y pc (mkl x) [] (mbnd (loopM b x) k) K res s :=
  r_loop (mkl := mkl) (mks := fun _ => []) (fun L hL x s => h _ (fun x s => r_ret (r_again (hL x s))) (fun e s => r_ret (r_again (hE e s))) x s) x s
theorem r_bret {v : Int32} {f : Int32 → MM β} {res : β → Option Value} {y9 : Int32 → β} (hK : ∀ v, f v = mret (y9 v)) (hr : ∀ v, res (y9 v) = some (.int v)) (hR : aR A = some .boolean) (hd : decode (aC A) pc = .ok (.ireturn, 1)) : Rr A Y pc lv [vi v] (mbool v) f res s := by
  intro o s' e
  have e0 : mbnd (mbool v) f s = some (o, s') := e
  by_cases hv : v = 0 ∨ v = 1
  · refine r_iret (hK v) (hr v) .boolean hR (by rcases hv with rfl | rfl <;> rfl) hd o s' ?_
    rw [← e0]
    unfold mbnd mbool
    rw [if_pos hv]
    rfl
  · unfold mbnd mbool at e0
    rw [if_neg hv] at e0
    cases e0
theorem r_cast {st' : List VV} {k : MM α} (h : st' = st) (g : Rr A Y pc lv st k K res s) : Rr A Y pc lv st' k K res s := by rw [h]; exact g
end RG
