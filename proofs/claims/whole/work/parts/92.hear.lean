/-! THE CLASS HEARS: facts laid out, what THE LAW tells of a part -/
theorem fI_congr {F F' : Nat → Int32} (h : ∀ k, k < 10 → F k = F' k) (i : It) : fI F i = fI F' i := by
  unfold fI
  rw [h 8 (by decide), h 9 (by decide)]
  by_cases c : i.1 ≤ 7
  · rw [if_pos c, if_pos c, h i.1 (by omega)]
  · rw [if_neg c, if_neg c]
theorem stp_congr {F F' : Nat → Int32} (h : ∀ k, k < 10 → F k = F' k) (i : It) (k : List Int32) : stp F i k = stp F' i k := by
  unfold stp
  rw [fI_congr h i]
theorem evL_congr {F F' : Nat → Int32} (h : ∀ k, k < 10 → F k = F' k) : ∀ (P : List It) (k : List Int32), evL F P k = evL F' P k
  | [], _ => rfl
  | i :: r, k => by
    show evL F r (stp F i k) = evL F' r (stp F' i k)
    rw [stp_congr h i k, evL_congr h r]
theorem hoP_congr {F F' : Nat → Int32} (h : ∀ k, k < 10 → F k = F' k) (P : List It) : hoP F P = hoP F' P := by
  unfold hoP
  rw [evL_congr h P]
theorem sumT_congr {F F' : Nat → Int32} (h : ∀ k, k < 10 → F k = F' k) (w : Nat) : ∀ (L : List Ln) (x : Int32), sumT F w L x = sumT F' w L x
  | [], _ => rfl
  | y :: r, x => by
    show sumT F w r _ = sumT F' w r _
    rw [hoP_congr h y.2.2, sumT_congr h w r]
theorem lawTot_congr {F F' : Nat → Int32} (h : ∀ k, k < 10 → F k = F' k) (LW : Option (List Ln)) (w : Nat) : lawTot LW F w = lawTot LW F' w := by
  unfold lawTot
  cases LW with
  | none =>
    show (if F 8 = 1 then _ else _) = (if F' 8 = 1 then _ else _)
    rw [h 8 (by decide)]
  | some L =>
    show imin _ _ = imin _ _
    rw [sumT_congr h w L 0]
/-- the ten facts of a part and a deed, by the Court -/
def cRow (K : CK) (x harm hard master : Int32) : Nat → Int32 := fun k => if k = 0 then kget K 0 x 1 else if k = 1 then kget K 0 x 2 else if k = 2 then kguilt K x else if k = 3 then harm else if k = 4 then hard else if k = 5 then master else if k = 6 then K.2.2.1 8 else if k = 7 then imax 0 (kget K 0 x 6) else if k = 8 then kget K 0 x 0 else kget K 0 x 4
def layR (F : Nat → Int32) (K : CK) (x harm hard master : Int32) : Nat → Int32 := upd (upd (upd (upd (upd (upd (upd (upd (upd (upd F 0 (kget K 0 x 1)) 1 (kget K 0 x 2)) 2 (kguilt K x)) 3 harm) 4 hard) 5 master) 6 (K.2.2.1 8)) 7 (imax 0 (kget K 0 x 6))) 8 (kget K 0 x 0)) 9 (kget K 0 x 4)
theorem layR_row (F : Nat → Int32) (K : CK) (x harm hard master : Int32) : ∀ k, k < 10 → layR F K x harm hard master k = cRow K x harm hard master k := by
  intro k hk
  have : k = 0 ∨ k = 1 ∨ k = 2 ∨ k = 3 ∨ k = 4 ∨ k = 5 ∨ k = 6 ∨ k = 7 ∨ k = 8 ∨ k = 9 := by omega
  rcases this with rfl | rfl | rfl | rfl | rfl | rfl | rfl | rfl | rfl | rfl <;> rfl
/-- all that the class's asking calls stand on -/
def CL (s : aS) (f : Int32) (K : CK) (LW : Option (List Ln)) : Prop := CC s f K ∧ ScOk K.2.2.2 s ∧ LawC s K.2.2.2 LW ∧ lOk K.2.2.2 ∧ LWok LW
theorem LawC.scR {l : Nat} {s s1 : aS} {LW : Option (List Ln)} (L : LawC s l LW) (hl : lOk l) (r : ScR l s s1) : LawC s1 l LW := by
  unfold lOk at hl
  have h1 : ¬ scr l l := by unfold scr; omega
  have h2 : ¬ scr l (l + 1) := by unfold scr; omega
  cases LW with
  | none =>
    obtain ⟨code, a, b⟩ := L
    exact ⟨code, hasO_scr a r h1, hasI_scr b r h2⟩
  | some LL =>
    obtain ⟨code, ⟨a, b⟩, c⟩ := L
    exact ⟨code, ⟨hasO_scr a r h1, hasI_scr b r h2⟩, c⟩
theorem CL.scR {s s1 : aS} {f : Int32} {K : CK} {LW : Option (List Ln)} (C : CL s f K LW) (r : ScR K.2.2.2 s s1) : CL s1 f K LW := ⟨C.1.scR C.2.2.2.1 r, r.2.2 C.2.1, C.2.2.1.scR C.2.2.2.1 r, C.2.2.2.1, C.2.2.2.2⟩
/-- m answers v wherever all that holds, and nothing but scratch changes -/
def SR {α : Type} (f : Int32) (K : CK) (LW : Option (List Ln)) (m : MM α) (v : α) : Prop := ∀ s, CL s f K LW → ∃ s1, m s = some (.inl v, s1) ∧ ScR K.2.2.2 s s1
section SRS
variable {α β γ ε σ : Type} {f : Int32} {K : CK} {LW : Option (List Ln)}
theorem SR.bnd {m : MM α} {g : α → MM β} {x : α} {y : β} (h : SR f K LW m x) (k : SR f K LW (g x) y) : SR f K LW (mbnd m g) y := fun s C => by
  obtain ⟨s1, a1, a2⟩ := h s C
  obtain ⟨s2, b1, b2⟩ := k s1 (C.scR a2)
  exact ⟨s2, (bnd_ok a1).trans b1, a2.tr b2⟩
theorem SR.of {m : MM α} {x : α} (h : ∀ s, CC s f K → m s = some (.inl x, s)) : SR f K LW m x := fun s C => ⟨s, h s C.1, ScR.rf⟩
theorem SR.get {m : MM α} {g : α → MM β} {x : α} {y : β} (h : ∀ s, CC s f K → m s = some (.inl x, s)) (k : SR f K LW (g x) y) : SR f K LW (mbnd m g) y := (SR.of h).bnd k
theorem SR.ret {x : α} : SR f K LW (mret x) x := fun s _ => ⟨s, rfl, ScR.rf⟩
theorem SR.oC0 {m : MM α} {x : α} (h : SR f K LW m x) : SR f K LW (onC 10 0 m) x := fun s C => by
  obtain ⟨s1, a1, a2⟩ := h s C
  exact ⟨s1, (onC_ok C.1.1).trans a1, a2⟩
theorem SR.on3 {m : MM α} {x : α} (h : SR f K LW m x) : SR f K LW (onC 2 3 m) x := fun s C => by
  obtain ⟨s1, a1, a2⟩ := h s C
  exact ⟨s1, (onC_ok C.2.1.1).trans a1, a2⟩
theorem SR.loop {b : σ → MM (σ ⊕ ε)} {e : ε} (N : Nat) (X : Nat → σ) (hs : ∀ j, j < N → SR f K LW (b (X j)) (.inl (X (j + 1)))) (he : SR f K LW (b (X N)) (.inr e)) : SR f K LW (loopM b (X 0)) e := by
  have key : ∀ m, m ≤ N → SR f K LW (loopM b (X (N - m))) e := by
    intro m
    induction m with
    | zero =>
      intro _
      rw [loopM_eq, Nat.sub_zero]
      exact he.bnd SR.ret
    | succ m ih =>
      intro hm
      rw [loopM_eq]
      have h := hs (N - (m + 1)) (by omega)
      rw [show N - (m + 1) + 1 = N - m by omega] at h
      exact h.bnd (ih (by omega))
  have h := key N (Nat.le_refl N)
  rwa [Nat.sub_self] at h
end SRS
section HE
variable {s : aS} {f : Int32} {K : CK} {LW : Option (List Ln)} {x harm hard master : Int32}
theorem lay_run (C : CL s f K LW) {F : Nat → Int32} (HF : hasI s 4 0 10 F) : mX2_layOut 3 28 x master harm hard s = some (.inl (), sup s 4 (rwE 10 (layR F K x harm hard master))) := by
  have hl := C.2.2.2.1
  have hs4 : scN K.2.2.2 4 = some 10 := rfl
  have hc : ∀ G, CC (sup s 4 (rwE 10 G)) f K := fun G => C.1.scR hl (ScR.put hl hs4)
  have h3 : ∀ G, hasO (sup s 4 (rwE 10 G)) 3 2 [.ref 4, .ref 5, .ref 6, .ref 7] := fun G => hasO_sup C.2.1.1 (by decide)
  have g0 : ∀ G, gR 2 0 3 (sup s 4 (rwE 10 G)) = some (.inl 4, sup s 4 (rwE 10 G)) := fun G => gR_ok (h3 G) rfl
  have c1 : ∀ G, gR 1 0 28 (sup s 4 (rwE 10 G)) = some (.inl 29, sup s 4 (rwE 10 G)) := fun G => gR_ok (hc G).2.1 rfl
  have c2 : ∀ G i j, mX8_get 29 i j (sup s 4 (rwE 10 G)) = some (.inl (kget K 0 i j), sup s 4 (rwE 10 G)) := fun G i j => get_ok (hc G).2.t0
  have c3 : ∀ G i, mX1_guiltOf 28 i (sup s 4 (rwE 10 G)) = some (.inl (kguilt K i), sup s 4 (rwE 10 G)) := fun G i => guiltOf_run (hc G).2
  have c4 : ∀ G, gI 1 8 28 (sup s 4 (rwE 10 G)) = some (.inl (K.2.2.1 8), sup s 4 (rwE 10 G)) := fun G => gI_ok (hc G).2.1 rfl
  have st : ∀ G (i : Nat) (v : Int32), i < 10 → stI 0 4 (Int32.ofNat i) v (sup s 4 (rwE 10 G)) = some (.inl (), sup s 4 (rwE 10 (upd G i v))) := fun G i v hi => by
    rw [stI_ok (hasI_put HF.2) (ofN_nn (by omega)) (by rw [ofN_cl (by omega)]; exact hi), ofN_cl (by omega), sup_sup]
  have s0 : ∀ G v, stI 0 4 0 v (sup s 4 (rwE 10 G)) = some (.inl (), sup s 4 (rwE 10 (upd G 0 v))) := fun G v => st G 0 v (by decide)
  have s1 : ∀ G v, stI 0 4 1 v (sup s 4 (rwE 10 G)) = some (.inl (), sup s 4 (rwE 10 (upd G 1 v))) := fun G v => st G 1 v (by decide)
  have s2 : ∀ G v, stI 0 4 2 v (sup s 4 (rwE 10 G)) = some (.inl (), sup s 4 (rwE 10 (upd G 2 v))) := fun G v => st G 2 v (by decide)
  have s3 : ∀ G v, stI 0 4 3 v (sup s 4 (rwE 10 G)) = some (.inl (), sup s 4 (rwE 10 (upd G 3 v))) := fun G v => st G 3 v (by decide)
  have s4 : ∀ G v, stI 0 4 4 v (sup s 4 (rwE 10 G)) = some (.inl (), sup s 4 (rwE 10 (upd G 4 v))) := fun G v => st G 4 v (by decide)
  have s5 : ∀ G v, stI 0 4 5 v (sup s 4 (rwE 10 G)) = some (.inl (), sup s 4 (rwE 10 (upd G 5 v))) := fun G v => st G 5 v (by decide)
  have s6 : ∀ G v, stI 0 4 6 v (sup s 4 (rwE 10 G)) = some (.inl (), sup s 4 (rwE 10 (upd G 6 v))) := fun G v => st G 6 v (by decide)
  have s7 : ∀ G v, stI 0 4 7 v (sup s 4 (rwE 10 G)) = some (.inl (), sup s 4 (rwE 10 (upd G 7 v))) := fun G v => st G 7 v (by decide)
  have s8 : ∀ G v, stI 0 4 8 v (sup s 4 (rwE 10 G)) = some (.inl (), sup s 4 (rwE 10 (upd G 8 v))) := fun G v => st G 8 v (by decide)
  have s9 : ∀ G v, stI 0 4 9 v (sup s 4 (rwE 10 G)) = some (.inl (), sup s 4 (rwE 10 (upd G 9 v))) := fun G v => st G 9 v (by decide)
  have e : s = sup s 4 (rwE 10 F) := (sup_same HF).symm
  unfold mX2_layOut layR
  rw [onC_ok C.2.1.1]
  conv => lhs; rw [e]
  simp only [mbnd_app, kx_in, g0, c1, c2, c3, c4, s0, s1, s2, s3, s4, s5, s6, s7, s8, s9, mret_app]
theorem lay_tot (C : CL s f K LW) (h9 : kget K 0 x 4 = 0 ∨ kget K 0 x 4 = 1) : ∃ s1, mX2_layOut 3 28 x master harm hard s = some (.inl (), s1) ∧ ScR K.2.2.2 s s1 ∧ ∀ s2, ScR K.2.2.2 s1 s2 → s2.1 4 = s1.1 4 → ∀ w, w ≤ 3 → ∃ s3, mX4_total K.2.2.2 (Int32.ofNat w) 4 s2 = some (.inl (lawTot LW (cRow K x harm hard master) w), s3) ∧ ScR K.2.2.2 s2 s3 ∧ s3.1 4 = s2.1 4 ∧ s3.1 5 = s2.1 5 ∧ s3.1 6 = s2.1 6 ∧ s3.1 7 = s2.1 7 := by
  have hl := C.2.2.2.1
  obtain ⟨F, HF⟩ := C.2.1.2.2.2.2 4 10 rfl
  refine ⟨_, lay_run C HF, ScR.put hl rfl, fun s2 r h4 w hw => ?_⟩
  have C1 : CL (sup s 4 (rwE 10 (layR F K x harm hard master))) f K LW := C.scR (ScR.put hl rfl)
  have C2 := C1.scR r
  have HF1 : hasI (sup s 4 (rwE 10 (layR F K x harm hard master))) 4 0 10 (layR F K x harm hard master) := hasI_put HF.2
  have HF2 : hasI s2 4 0 10 (layR F K x harm hard master) := ⟨h4.trans HF1.1, by rw [r.1]; exact HF1.2⟩
  obtain ⟨g, HS⟩ := C2.2.1.2.2.2.2 (K.2.2.2 + 2) 40 (by
    unfold scN
    unfold lOk at hl
    rw [if_neg (by omega), if_neg (by omega), if_neg (by omega), if_neg (by omega), if_neg (by omega), if_pos rfl])
  have hne : (4 : Nat) ≠ K.2.2.2 + 2 := by unfold lOk at hl; omega
  obtain ⟨g', hg⟩ := total_run C2.2.2.1 C2.2.2.2.2 HF2 HS hne (by
    rw [layR_row F K x harm hard master 9 (by decide)]
    exact h9) hw
  rw [lawTot_congr (layR_row F K x harm hard master) LW w] at hg
  refine ⟨_, hg, ScR.put hl ?_, if_neg hne, if_neg ?_, if_neg ?_, if_neg ?_⟩
  · unfold scN
    unfold lOk at hl
    rw [if_neg (by omega), if_neg (by omega), if_neg (by omega), if_neg (by omega), if_neg (by omega), if_pos rfl]
  · unfold lOk at hl; omega
  · unfold lOk at hl; omega
  · unfold lOk at hl; omega
theorem told_run {w : Nat} (hw : w ≤ 3) (h9 : kget K 0 x 4 = 0 ∨ kget K 0 x 4 = 1) : SR f K LW (mX2_told 3 28 x (Int32.ofNat w)) (lawTot LW (cRow K x 0 0 0) w) := fun s C => by
  obtain ⟨s1, a1, a2, a3⟩ := lay_tot (x := x) (master := 0) (harm := 0) (hard := 0) C h9
  obtain ⟨s3, b1, b2, -⟩ := a3 s1 ScR.rf rfl w hw
  have C1 := C.scR a2
  refine ⟨s3, ?_, a2.tr b2⟩
  unfold mX2_told
  rw [onC_ok C.2.1.1, bnd_ok a1, bnd_ok (show gR 1 6 28 s1 = some (.inl K.2.2.2, s1) from gR_ok C1.1.2.1 rfl), bnd_ok (show gR 2 0 3 s1 = some (.inl 4, s1) from gR_ok C1.2.1.1 rfl), bnd_ok b1]
  rfl
theorem inherited_run (h9 : kget K 0 x 4 = 0 ∨ kget K 0 x 4 = 1) : SR f K LW (mX2_inherited 3 28 x) (kguilt K x * lawTot LW (cRow K x 0 0 0) 2 / 100) := by
  unfold mX2_inherited
  exact SR.on3 (SR.get (fun s C => guiltOf_run C.2) (SR.bnd (told_run (w := 2) (by decide) h9) SR.ret))
end HE
