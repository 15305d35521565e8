/-! ROWS FOR CELLS -/
def FL (own : String) (idx ci k : Nat) : Prop := ∃ (C : String) (T : u_T) (N : Nat) (ref : String), vwCl[ci]? = some (C, T, N) ∧ k < N ∧ (Cond.fieldLink own idx ref (T k).2.1 (T k).2.2.1 ∈ tblG ∨ ∃ host, Cond.fieldLinkNest own idx ref (T k).2.1 (T k).2.2.1 host ∈ lw_tbl) ∧ ((T k).1 = ref ∨ Cond.sameField ref (T k).1 (T k).2.1 (T k).2.2.1 ∈ tblG)
/-- a field that may be written: of that type; final ones in the constructor of their own class alone -/
def FP (own : String) (idx ci k : Nat) (ty : FieldType) (fin : Bool) : Prop := ∃ (C : String) (T : u_T) (N : Nat) (ref : String) (ty0 : Nat → FieldType), vwCl[ci]? = some (C, T, N) ∧ k < N ∧ (Cond.fieldLink own idx ref (T k).2.1 (T k).2.2.1 ∈ tblG ∨ (fin = false ∧ ∃ host, Cond.fieldLinkNest own idx ref (T k).2.1 (T k).2.2.1 host ∈ lw_tbl)) ∧ ((T k).1 = ref ∨ Cond.sameField ref (T k).1 (T k).2.1 (T k).2.2.1 ∈ tblG) ∧
  (∀ j, j < N → parseFieldDescriptor (T j).2.2.1 = some (ty0 j)) ∧ (∀ a, a < N → ∀ b, b < N → a ≠ b → (T a).2.1 ≠ (T b).2.1) ∧ (T k).2.2.2 = fin ∧ (fin = true → (T k).1 = own) ∧ parseFieldDescriptor (T k).2.2.1 = some ty
theorem cl_in {ci : Nat} {C : String} {T : u_T} {N : Nat} (h : vwCl[ci]? = some (C, T, N)) : ∀ x ∈ u_ws C T N, x ∈ tblG := inX_all _ (List.mem_of_getElem? h)
theorem gF_some {ci k a : Nat} {s s' : aS} {o : Value ⊕ Nat} (h : gF ci k a s = some (o, s')) : ∃ fs v, s.1 a = .inl (ci, fs) ∧ a < s.2.1 ∧ fs[k]? = some v ∧ o = .inl v ∧ s' = s := by
  unfold gF at h
  split at h
  · next c fs hc =>
    split at h
    · next hh =>
      split at h
      · next v hv => cases h; exact ⟨fs, v, by rw [hc, hh.1], hh.2, hv, rfl, rfl⟩
      · cases h
    · cases h
  · cases h
theorem pF_some {ci k a : Nat} {v : Value} {s s' : aS} {o : Unit ⊕ Nat} (h : pF ci k a v s = some (o, s')) : ∃ fs, s.1 a = .inl (ci, fs) ∧ a < s.2.1 ∧ k < fs.length ∧ o = .inl () ∧ s' = (hup s.1 a (.inl (ci, fs.set k v)), s.2) := by
  unfold pF at h
  split at h
  · next c fs hc =>
    split at h
    · next hh => cases h; obtain ⟨h1, h2, h3⟩ := hh; subst h1; exact ⟨fs, hc, h2, h3, rfl, rfl⟩
    · cases h
  · cases h
theorem ldI_some {t a : Nat} {i : Int32} {s s' : aS} {o : Int32 ⊕ Nat} (h : ldI t a i s = some (o, s')) : ∃ n f, s.1 a = .inr (.inl (t, n, f)) ∧ a < s.2.1 ∧ vp_in i n ∧ o = .inl (f i.toNatClampNeg) ∧ s' = s := by
  unfold ldI at h
  split at h
  · next t' n f hc =>
    split at h
    · next hh =>
      split at h
      · cases h
      · next hi => cases h; obtain ⟨h1, h2⟩ := hh; subst h1; exact ⟨n, f, hc, h2, hi, rfl, rfl⟩
    · cases h
  · cases h
theorem stI_some {t a : Nat} {i x : Int32} {s s' : aS} {o : Unit ⊕ Nat} (h : stI t a i x s = some (o, s')) : ∃ n f, s.1 a = .inr (.inl (t, n, f)) ∧ a < s.2.1 ∧ vp_in i n ∧ o = .inl () ∧ s' = (hup s.1 a (.inr (.inl (t, n, upd f i.toNatClampNeg x))), s.2) := by
  unfold stI at h
  split at h
  · next t' n f hc =>
    split at h
    · next hh =>
      split at h
      · cases h
      · next hi => cases h; obtain ⟨h1, h2⟩ := hh; subst h1; exact ⟨n, f, hc, h2, hi, rfl, rfl⟩
    · cases h
  · cases h
theorem ldQ_some {t a : Nat} {i : Int32} {s s' : aS} {o : Option Nat ⊕ Nat} (h : ldQ t a i s = some (o, s')) : ∃ n f, s.1 a = .inr (.inr (.inl (t, n, f))) ∧ a < s.2.1 ∧ vp_in i n ∧ o = .inl (f i.toNatClampNeg) ∧ s' = s := by
  unfold ldQ at h
  split at h
  · next t' n f hc =>
    split at h
    · next hh =>
      split at h
      · cases h
      · next hi => cases h; obtain ⟨h1, h2⟩ := hh; subst h1; exact ⟨n, f, hc, h2, hi, rfl, rfl⟩
    · cases h
  · cases h
theorem stQ_some {t a : Nat} {i : Int32} {r : Nat} {s s' : aS} {o : Unit ⊕ Nat} (h : stQ t a i r s = some (o, s')) : ∃ n f, s.1 a = .inr (.inr (.inl (t, n, f))) ∧ a < s.2.1 ∧ vp_in i n ∧ o = .inl () ∧ s' = (hup s.1 a (.inr (.inr (.inl (t, n, va_up f i.toNatClampNeg (some r))))), s.2) := by
  unfold stQ at h
  split at h
  · next t' n f hc =>
    split at h
    · next hh =>
      split at h
      · cases h
      · next hi => cases h; obtain ⟨h1, h2⟩ := hh; subst h1; exact ⟨n, f, hc, h2, hi, rfl, rfl⟩
    · cases h
  · cases h
theorem ldL_some {a : Nat} {i : Int32} {s s' : aS} {o : Int64 ⊕ Nat} (h : ldL a i s = some (o, s')) : ∃ n f, s.1 a = .inr (.inr (.inr (n, f))) ∧ a < s.2.1 ∧ vp_in i n ∧ o = .inl (f i.toNatClampNeg) ∧ s' = s := by
  unfold ldL at h
  split at h
  · next n f hc =>
    split at h
    · next hh =>
      split at h
      · cases h
      · next hi => cases h; exact ⟨n, f, hc, hh, hi, rfl, rfl⟩
    · cases h
  · cases h
theorem stL_some {a : Nat} {i : Int32} {x : Int64} {s s' : aS} {o : Unit ⊕ Nat} (h : stL a i x s = some (o, s')) : ∃ n f, s.1 a = .inr (.inr (.inr (n, f))) ∧ a < s.2.1 ∧ vp_in i n ∧ o = .inl () ∧ s' = (hup s.1 a (.inr (.inr (.inr (n, vp_updL f i.toNatClampNeg x)))), s.2) := by
  unfold stL at h
  split at h
  · next n f hc =>
    split at h
    · next hh =>
      split at h
      · cases h
      · next hi => cases h; exact ⟨n, f, hc, hh, hi, rfl, rfl⟩
    · cases h
  · cases h
theorem lenI_some {t a : Nat} {s s' : aS} {o : Int32 ⊕ Nat} (h : lenI t a s = some (o, s')) : ∃ n f, s.1 a = .inr (.inl (t, n, f)) ∧ a < s.2.1 ∧ o = .inl (Int32.ofNat n) ∧ s' = s := by
  unfold lenI at h
  split at h
  · next t' n f hc =>
    split at h
    · next hh => cases h; obtain ⟨h1, h2⟩ := hh; subst h1; exact ⟨n, f, hc, h2, rfl, rfl⟩
    · cases h
  · cases h
theorem lenQ_some {t a : Nat} {s s' : aS} {o : Int32 ⊕ Nat} (h : lenQ t a s = some (o, s')) : ∃ n f, s.1 a = .inr (.inr (.inl (t, n, f))) ∧ a < s.2.1 ∧ o = .inl (Int32.ofNat n) ∧ s' = s := by
  unfold lenQ at h
  split at h
  · next t' n f hc =>
    split at h
    · next hh => cases h; obtain ⟨h1, h2⟩ := hh; subst h1; exact ⟨n, f, hc, h2, rfl, rfl⟩
    · cases h
  · cases h
theorem ws_obj {w : WT} {ρ : Nat → Nat} {s : aS} {a ci : Nat} {fs : List Value} (h : s.1 a = .inl (ci, fs)) (ha : a < s.2.1) : (wsOf w ρ s)[a]? = some (ρ a, .inr (ci, fs.map (cv ρ))) := by rw [ws_get ha, h]; rfl
theorem ws_arr {w : WT} {ρ : Nat → Nat} {s : aS} {a t n : Nat} {f : Nat → Int32} (h : s.1 a = .inr (.inl (t, n, f))) (ha : a < s.2.1) : (wsOf w ρ s)[a]? = some (ρ a, .inl (wT w t, n, .inl f)) := by rw [ws_get ha, h]; rfl
theorem ws_arq {w : WT} {ρ : Nat → Nat} {s : aS} {a t n : Nat} {f : Nat → Option Nat} (h : s.1 a = .inr (.inr (.inl (t, n, f)))) (ha : a < s.2.1) : (wsOf w ρ s)[a]? = some (ρ a, .inl (wT w t, n, .inr (.inr (.inr (.inr (fun i => (f i).map ρ)))))) := by rw [ws_get ha, h]; rfl
theorem ws_arl {w : WT} {ρ : Nat → Nat} {s : aS} {a n : Nat} {f : Nat → Int64} (h : s.1 a = .inr (.inr (.inr (n, f)))) (ha : a < s.2.1) : (wsOf w ρ s)[a]? = some (ρ a, .inl (wT w 4, n, .inr (.inl f))) := by rw [ws_get ha, h]; rfl
theorem mono_rf (s : aS) : mono s s := ⟨Nat.le_refl _, Nat.le_refl _, Nat.le_refl _⟩
section RM
variable {A : StA} {Y : DyA} {pc : Nat} {lv : List (Nat × VV)} {st : List VV} {α β : Type} {K : α → MM β} {res : β → Option Value} {s : aS}
theorem r_fail {γ : Type} {f : γ → MM α} : Rr A Y pc lv st (mbnd mfail f) K res s := fun o s' e => by cases e
theorem r_gF {f : Value → MM α} {idx ci k a : Nat} (hF : FL (aOwn A) idx ci k) (hd : decode (aC A) pc = .ok (.getfield idx, 3)) (g : ∀ v, Rr A Y (pc + 3) lv (.inl v :: st) (f v) K res s) : Rr A Y pc lv (vr a :: st) (mbnd (gF ci k a) f) K res s := by
  intro o s' e
  rw [mbnd_assoc] at e
  rcases mbnd_some e with ⟨v, s1, h1, h2⟩ | ⟨_, h1, -⟩
  · obtain ⟨fs, v', hcell, ha, hv, e1, rfl⟩ := gF_some h1
    cases e1
    obtain ⟨g1, g2⟩ := g v o s' h2
    refine ⟨g1, fun ok rm hl hs H locs ls ρ hx hP hS hlv => ?_⟩
    have hvo : vOk s1.2.1 (.inl v) := by
      have := hP.2.2 a ha
      rw [hcell] at this
      exact this v (List.mem_of_getElem? hv)
    have gg := g2 ok rm hl (stO_c hvo (stO_t hs)) H locs ls ρ hx hP hS hlv
    obtain ⟨C, T, N, ref, hc, hk, hlink, hsame⟩ := hF
    obtain ⟨p, l, e, R, s0, m, args, below, meth, c, w, ρ0, n0, c0, z0⟩ := Y
    obtain ⟨hx, hb, hr, hml, hown, hts, hlk, hst, hwf, htb, hd1, hd2, hnm, hnw⟩ := ok
    have hsm : ∀ x, s0.fieldFound? (T k).1 (T k).2.1 (T k).2.2.1 = some x → s0.fieldFound? ref (T k).2.1 (T k).2.2.1 = some x := by
      rcases hsame with q | q
      · rw [q]; exact fun x h => h
      · exact fun x h => u_same (hts _ q) x h
    have hv2 : (fs.map (cv ρ))[k]? = some (cv ρ v) := by rw [List.getElem?_map, hv]; rfl
    rcases hlink with q | ⟨host, q⟩
    · exact va_get hx hb hts (cl_in hc) hown hwf.1 hP.1 a (ws_obj hcell ha) hc k hk (hts _ q) hsm hv2 hd gg
    · exact va_getN hx hb hts (cl_in hc) hown hwf.1 hP.1 a (ws_obj hcell ha) hc k hk (hnw _ q rfl) hsm hv2 hd gg
  · obtain ⟨_, _, -, -, -, e1, -⟩ := gF_some h1
    cases e1
theorem r_gI {f : Int32 → MM α} {idx ci k a : Nat} (hF : FL (aOwn A) idx ci k) (hd : decode (aC A) pc = .ok (.getfield idx, 3)) (g : ∀ v, Rr A Y (pc + 3) lv (vi v :: st) (f v) K res s) : Rr A Y pc lv (vr a :: st) (mbnd (gI ci k a) f) K res s := by
  unfold gI
  rw [mbnd_assoc]
  refine r_gF hF hd fun v => ?_
  cases v <;> first | exact g _ | exact r_fail
theorem r_gR {f : Nat → MM α} {idx ci k a : Nat} (hF : FL (aOwn A) idx ci k) (hd : decode (aC A) pc = .ok (.getfield idx, 3)) (g : ∀ v, Rr A Y (pc + 3) lv (vr v :: st) (f v) K res s) : Rr A Y pc lv (vr a :: st) (mbnd (gR ci k a) f) K res s := by
  unfold gR
  rw [mbnd_assoc]
  refine r_gF hF hd fun v => ?_
  cases v <;> first | exact g _ | exact r_fail
theorem r_gQ {f : Option Nat → MM α} {idx ci k a : Nat} (hF : FL (aOwn A) idx ci k) (hd : decode (aC A) pc = .ok (.getfield idx, 3)) (g : ∀ v, Rr A Y (pc + 3) lv (vq v :: st) (f v) K res s) : Rr A Y pc lv (vr a :: st) (mbnd (gQ ci k a) f) K res s := by
  unfold gQ
  rw [mbnd_assoc]
  refine r_gF hF hd fun v => ?_
  cases v <;> first | exact g (some _) | exact g none | exact r_fail
theorem map_set_cv {ρ : Nat → Nat} {fs : List Value} {k : Nat} {v : Value} : (fs.map (cv ρ)).set k (cv ρ v) = (fs.set k v).map (cv ρ) := by rw [List.map_set]
theorem r_pF {f : Unit → MM α} {idx ci k a : Nat} {v : Value} {ty : FieldType} {fin : Bool} (hF : FP (aOwn A) idx ci k ty fin) (hfi : fin = true → (aY A).name = "<init>") (hn : ∀ ρ, narrow ty (cv ρ v) = cv ρ v) (hfit : ∀ ρ, fits ty (cv ρ v) = true) (hd : decode (aC A) pc = .ok (.putfield idx, 3)) (g : ∀ s1, Rr A Y (pc + 3) lv st (f ()) K res s1) : Rr A Y pc lv (.inl v :: vr a :: st) (mbnd (pF ci k a v) f) K res s := by
  intro o s' e
  rw [mbnd_assoc] at e
  rcases mbnd_some e with ⟨u, s1, h1, h2⟩ | ⟨_, h1, -⟩
  · obtain ⟨fs, hcell, ha, hlen, e1, rfl⟩ := pF_some h1
    obtain ⟨g1, g2⟩ := g _ o s' h2
    refine ⟨g1, fun ok rm hl hs H locs ls ρ hx hP hS hlv => ?_⟩
    have hvo : vOk s.2.1 (.inl v) := stO_h hs
    have hro : rOk s.2.1 (.inl (ci, fs.set k v)) := fun z hz => by
      rcases List.mem_or_eq_of_mem_set hz with q | q
      · have := hP.2.2 a ha
        rw [hcell] at this
        exact this z q
      · rw [q]; exact hvo
    have gg := fun H1 locs1 hP1 hS1 => g2 ok rm hl (stO_t (stO_t hs)) H1 locs1 ls ρ hx hP1 hS1 hlv
    obtain ⟨C, T, N, ref, ty0, hc, hk, hlink, hsame, hty, hnm2, hfin, hdec, hpd⟩ := hF
    obtain ⟨p, l, e, R, s0, m, args, below, meth, c, w, ρ0, n0, c0, z0⟩ := Y
    obtain ⟨hx, hb, hr, hml, hown, hts, hlk, hst, hwf, htb, hd1, hd2, hnm, hnw⟩ := ok
    have hsm : ∀ x, s0.fieldFound? (T k).1 (T k).2.1 (T k).2.2.1 = some x → s0.fieldFound? ref (T k).2.1 (T k).2.2.1 = some x := by
      rcases hsame with q | q
      · rw [q]; exact fun x h => h
      · exact fun x h => u_same (hts _ q) x h
    have hl2 : k < (fs.map (cv ρ)).length := by rw [List.length_map]; exact hlen
    have fin2 : ∀ (H1 : Heap) (locs1 : List Loc), va_P (wD w) vwCl ((wsOf w ρ s).set a (ρ a, .inr (ci, (fs.map (cv ρ)).set k (cv ρ v)))) H1 → va_D (wA w) ((wsOf w ρ s).set a (ρ a, .inr (ci, (fs.map (cv ρ)).set k (cv ρ v)))) → va_S (wA w) s0.heap H1 locs1 → W p l e R s0 m args below meth c H1 locs1 _ _ _ (F0 m (pc + 3) ls (cS w ρ st)) := fun H1 locs1 q1 q2 q3 => by
      rw [map_set_cv] at q1 q2
      exact gg H1 locs1 (PH_set (e := .inl (ci, fs.set k v)) ha q1 q2 hP.2.2 hro) q3
    cases fin with
    | false =>
      rcases hlink with q | ⟨-, host, q⟩
      · exact va_put hx hb hts (cl_in hc) ty0 hty hnm2 hown hwf.1 hP.1 hP.2.1 hS a (ws_obj hcell ha) hc k hk (hts _ q) hsm hfin hpd (hn ρ) (hfit ρ) hl2 hd fin2
      · exact va_putN hx hb hts (cl_in hc) ty0 hty hnm2 hown hwf.1 hP.1 hP.2.1 hS a (ws_obj hcell ha) hc k hk (hnw _ q rfl) hsm hfin hpd (hn ρ) (hfit ρ) hl2 hd fin2
    | true =>
      rcases hlink with q | ⟨q, -⟩
      · exact va_putF hx hb hts (cl_in hc) ty0 hty hnm2 hown hwf.1 hP.1 hP.2.1 hS a (ws_obj hcell ha) hc k hk (hts _ q) hsm hfin (by rw [hnm]; exact hfi rfl) (hdec rfl) hpd (hn ρ) (hfit ρ) hl2 hd fin2
      · cases q
  · obtain ⟨_, -, -, -, e1, -⟩ := pF_some h1
    cases e1
theorem r_ldI0 {f : Int32 → MM α} {a : Nat} {i : Int32} (hd : decode (aC A) pc = .ok (.iaload, 1)) (g : ∀ v, Rr A Y (pc + 1) lv (vi v :: st) (f v) K res s) : Rr A Y pc lv (vi i :: vr a :: st) (mbnd (ldI 0 a i) f) K res s := by
  intro o s' e
  rw [mbnd_assoc] at e
  rcases mbnd_some e with ⟨v, s1, h1, h2⟩ | ⟨_, h1, -⟩
  · obtain ⟨n, fa, hcell, ha, hin, e1, rfl⟩ := ldI_some h1
    cases e1
    obtain ⟨g1, g2⟩ := g _ o s' h2
    refine ⟨g1, fun ok rm hl hs H locs ls ρ hx hP hS hlv => ?_⟩
    have gg := g2 ok rm hl (stO_c trivial (stO_t (stO_t hs))) H locs ls ρ hx hP hS hlv
    obtain ⟨p, l, e, R, s0, m, args, below, meth, c, w, ρ0, n0, c0, z0⟩ := Y
    obtain ⟨hx, hb, hr, hml, hown, hts, hlk, hst, hwf, htb, hd1, hd2, hnm, hnw⟩ := ok
    exact va_iald hx hb hwf.1 hP.1 a 0 (ws_arr hcell ha) rfl hin hd gg
  · obtain ⟨_, _, -, -, -, e1, -⟩ := ldI_some h1
    cases e1
theorem r_ldI1 {f : Int32 → MM α} {a : Nat} {i : Int32} (hd : decode (aC A) pc = .ok (.baload, 1)) (g : ∀ v, Rr A Y (pc + 1) lv (vi v :: st) (f v) K res s) : Rr A Y pc lv (vi i :: vr a :: st) (mbnd (ldI 1 a i) f) K res s := by
  intro o s' e
  rw [mbnd_assoc] at e
  rcases mbnd_some e with ⟨v, s1, h1, h2⟩ | ⟨_, h1, -⟩
  · obtain ⟨n, fa, hcell, ha, hin, e1, rfl⟩ := ldI_some h1
    cases e1
    obtain ⟨g1, g2⟩ := g _ o s' h2
    refine ⟨g1, fun ok rm hl hs H locs ls ρ hx hP hS hlv => ?_⟩
    have gg := g2 ok rm hl (stO_c trivial (stO_t (stO_t hs))) H locs ls ρ hx hP hS hlv
    obtain ⟨p, l, e, R, s0, m, args, below, meth, c, w, ρ0, n0, c0, z0⟩ := Y
    obtain ⟨hx, hb, hr, hml, hown, hts, hlk, hst, hwf, htb, hd1, hd2, hnm, hnw⟩ := ok
    exact va_bald hx hb hwf.1 hP.1 a 1 (ws_arr hcell ha) rfl hin hd gg
  · obtain ⟨_, _, -, -, -, e1, -⟩ := ldI_some h1
    cases e1
theorem r_stI0 {f : Unit → MM α} {a : Nat} {i x : Int32} (hd : decode (aC A) pc = .ok (.iastore, 1)) (g : ∀ s1, Rr A Y (pc + 1) lv st (f ()) K res s1) : Rr A Y pc lv (vi x :: vi i :: vr a :: st) (mbnd (stI 0 a i x) f) K res s := by
  intro o s' e
  rw [mbnd_assoc] at e
  rcases mbnd_some e with ⟨v, s1, h1, h2⟩ | ⟨_, h1, -⟩
  · obtain ⟨n, fa, hcell, ha, hin, e1, rfl⟩ := stI_some h1
    obtain ⟨g1, g2⟩ := g _ o s' h2
    refine ⟨g1, fun ok rm hl hs H locs ls ρ hx hP hS hlv => ?_⟩
    have gg := fun H1 locs1 hP1 hS1 => g2 ok rm hl (stO_t (stO_t (stO_t hs))) H1 locs1 ls ρ hx hP1 hS1 hlv
    obtain ⟨p, l, e, R, s0, m, args, below, meth, c, w, ρ0, n0, c0, z0⟩ := Y
    obtain ⟨hx, hb, hr, hml, hown, hts, hlk, hst, hwf, htb, hd1, hd2, hnm, hnw⟩ := ok
    exact va_iast hx hb hwf.1 hP.1 hP.2.1 hS a 0 (ws_arr hcell ha) rfl hin hd fun H1 locs1 q1 q2 q3 => gg H1 locs1 (PH_set (e := .inr (.inl (0, n, upd fa i.toNatClampNeg x))) ha q1 q2 hP.2.2 trivial) q3
  · obtain ⟨_, _, -, -, -, e1, -⟩ := stI_some h1
    cases e1
theorem r_stI1 {f : Unit → MM α} {a : Nat} {i x : Int32} (hd : decode (aC A) pc = .ok (.bastore, 1)) (g : ∀ s1, Rr A Y (pc + 1) lv st (f ()) K res s1) : Rr A Y pc lv (vi x :: vi i :: vr a :: st) (mbnd (stI 1 a i (vp_nar .byte x)) f) K res s := by
  intro o s' e
  rw [mbnd_assoc] at e
  rcases mbnd_some e with ⟨v, s1, h1, h2⟩ | ⟨_, h1, -⟩
  · obtain ⟨n, fa, hcell, ha, hin, e1, rfl⟩ := stI_some h1
    obtain ⟨g1, g2⟩ := g _ o s' h2
    refine ⟨g1, fun ok rm hl hs H locs ls ρ hx hP hS hlv => ?_⟩
    have gg := fun H1 locs1 hP1 hS1 => g2 ok rm hl (stO_t (stO_t (stO_t hs))) H1 locs1 ls ρ hx hP1 hS1 hlv
    obtain ⟨p, l, e, R, s0, m, args, below, meth, c, w, ρ0, n0, c0, z0⟩ := Y
    obtain ⟨hx, hb, hr, hml, hown, hts, hlk, hst, hwf, htb, hd1, hd2, hnm, hnw⟩ := ok
    exact va_bast hx hb hwf.1 hP.1 hP.2.1 hS a 1 (ws_arr hcell ha) rfl hin hd fun H1 locs1 q1 q2 q3 => gg H1 locs1 (PH_set (e := .inr (.inl (1, n, upd fa i.toNatClampNeg (vp_nar .byte x)))) ha q1 q2 hP.2.2 trivial) q3
  · obtain ⟨_, _, -, -, -, e1, -⟩ := stI_some h1
    cases e1
theorem r_ldL {f : Int64 → MM α} {a : Nat} {i : Int32} (hd : decode (aC A) pc = .ok (.laload, 1)) (g : ∀ v, Rr A Y (pc + 1) lv (vl v :: st) (f v) K res s) : Rr A Y pc lv (vi i :: vr a :: st) (mbnd (ldL a i) f) K res s := by
  intro o s' e
  rw [mbnd_assoc] at e
  rcases mbnd_some e with ⟨v, s1, h1, h2⟩ | ⟨_, h1, -⟩
  · obtain ⟨n, fa, hcell, ha, hin, e1, rfl⟩ := ldL_some h1
    cases e1
    obtain ⟨g1, g2⟩ := g _ o s' h2
    refine ⟨g1, fun ok rm hl hs H locs ls ρ hx hP hS hlv => ?_⟩
    have gg := g2 ok rm hl (stO_c trivial (stO_t (stO_t hs))) H locs ls ρ hx hP hS hlv
    obtain ⟨p, l, e, R, s0, m, args, below, meth, c, w, ρ0, n0, c0, z0⟩ := Y
    obtain ⟨hx, hb, hr, hml, hown, hts, hlk, hst, hwf, htb, hd1, hd2, hnm, hnw⟩ := ok
    exact va_lald hx hb hwf.1 hP.1 a 4 (ws_arl hcell ha) rfl hin hd gg
  · obtain ⟨_, _, -, -, -, e1, -⟩ := ldL_some h1
    cases e1
theorem r_stL {f : Unit → MM α} {a : Nat} {i : Int32} {x : Int64} (hd : decode (aC A) pc = .ok (.lastore, 1)) (g : ∀ s1, Rr A Y (pc + 1) lv st (f ()) K res s1) : Rr A Y pc lv (vl x :: vi i :: vr a :: st) (mbnd (stL a i x) f) K res s := by
  intro o s' e
  rw [mbnd_assoc] at e
  rcases mbnd_some e with ⟨v, s1, h1, h2⟩ | ⟨_, h1, -⟩
  · obtain ⟨n, fa, hcell, ha, hin, e1, rfl⟩ := stL_some h1
    obtain ⟨g1, g2⟩ := g _ o s' h2
    refine ⟨g1, fun ok rm hl hs H locs ls ρ hx hP hS hlv => ?_⟩
    have gg := fun H1 locs1 hP1 hS1 => g2 ok rm hl (stO_t (stO_t (stO_t hs))) H1 locs1 ls ρ hx hP1 hS1 hlv
    obtain ⟨p, l, e, R, s0, m, args, below, meth, c, w, ρ0, n0, c0, z0⟩ := Y
    obtain ⟨hx, hb, hr, hml, hown, hts, hlk, hst, hwf, htb, hd1, hd2, hnm, hnw⟩ := ok
    exact va_last hx hb hwf.1 hP.1 hP.2.1 hS a 4 (ws_arl hcell ha) rfl hin hd fun H1 locs1 q1 q2 q3 => gg H1 locs1 (PH_set (e := .inr (.inr (.inr (n, vp_updL fa i.toNatClampNeg x)))) ha q1 q2 hP.2.2 trivial) q3
  · obtain ⟨_, _, -, -, -, e1, -⟩ := stL_some h1
    cases e1
theorem r_lenI {f : Int32 → MM α} {a t : Nat} (ht : t < 2) (hd : decode (aC A) pc = .ok (.arraylength, 1)) (g : ∀ v, Rr A Y (pc + 1) lv (vi v :: st) (f v) K res s) : Rr A Y pc lv (vr a :: st) (mbnd (lenI t a) f) K res s := by
  intro o s' e
  rw [mbnd_assoc] at e
  rcases mbnd_some e with ⟨v, s1, h1, h2⟩ | ⟨_, h1, -⟩
  · obtain ⟨n, fa, hcell, ha, e1, rfl⟩ := lenI_some h1
    cases e1
    obtain ⟨g1, g2⟩ := g _ o s' h2
    refine ⟨g1, fun ok rm hl hs H locs ls ρ hx hP hS hlv => ?_⟩
    have gg := g2 ok rm hl (stO_c trivial (stO_t hs)) H locs ls ρ hx hP hS hlv
    obtain ⟨p, l, e, R, s0, m, args, below, meth, c, w, ρ0, n0, c0, z0⟩ := Y
    obtain ⟨hx, hb, hr, hml, hown, hts, hlk, hst, hwf, htb, hd1, hd2, hnm, hnw⟩ := ok
    have hty : ∃ ty, (wtys w)[t]? = some (wT w t, ty) := by
      match t, ht with
      | 0, _ => exact ⟨_, rfl⟩
      | 1, _ => exact ⟨_, rfl⟩
    obtain ⟨ty, hty⟩ := hty
    exact va_alen hx hb hwf.1 hP.1 a t (ws_arr hcell ha) hty rfl hd gg
  · obtain ⟨_, _, -, -, e1, -⟩ := lenI_some h1
    cases e1
theorem r_lenQ {f : Int32 → MM α} {a t : Nat} (ht : t = 2 ∨ t = 3) (hd : decode (aC A) pc = .ok (.arraylength, 1)) (g : ∀ v, Rr A Y (pc + 1) lv (vi v :: st) (f v) K res s) : Rr A Y pc lv (vr a :: st) (mbnd (lenQ t a) f) K res s := by
  intro o s' e
  rw [mbnd_assoc] at e
  rcases mbnd_some e with ⟨v, s1, h1, h2⟩ | ⟨_, h1, -⟩
  · obtain ⟨n, fa, hcell, ha, e1, rfl⟩ := lenQ_some h1
    cases e1
    obtain ⟨g1, g2⟩ := g _ o s' h2
    refine ⟨g1, fun ok rm hl hs H locs ls ρ hx hP hS hlv => ?_⟩
    have gg := g2 ok rm hl (stO_c trivial (stO_t hs)) H locs ls ρ hx hP hS hlv
    obtain ⟨p, l, e, R, s0, m, args, below, meth, c, w, ρ0, n0, c0, z0⟩ := Y
    obtain ⟨hx, hb, hr, hml, hown, hts, hlk, hst, hwf, htb, hd1, hd2, hnm, hnw⟩ := ok
    have hty : ∃ ty, (wtys w)[t]? = some (wT w t, ty) := by
      rcases ht with rfl | rfl
      · exact ⟨_, rfl⟩
      · exact ⟨_, rfl⟩
    obtain ⟨ty, hty⟩ := hty
    exact va_alen hx hb hwf.1 hP.1 a t (ws_arq hcell ha) hty rfl hd gg
  · obtain ⟨_, _, -, -, e1, -⟩ := lenQ_some h1
    cases e1
theorem r_ldQ {f : Option Nat → MM α} {a t : Nat} {i : Int32} (ht : t = 2 ∨ t = 3) (hd : decode (aC A) pc = .ok (.aaload, 1)) (g : ∀ v, Rr A Y (pc + 1) lv (vq v :: st) (f v) K res s) : Rr A Y pc lv (vi i :: vr a :: st) (mbnd (ldQ t a i) f) K res s := by
  intro o s' e
  rw [mbnd_assoc] at e
  rcases mbnd_some e with ⟨v, s1, h1, h2⟩ | ⟨_, h1, -⟩
  · obtain ⟨n, fa, hcell, ha, hin, e1, rfl⟩ := ldQ_some h1
    cases e1
    obtain ⟨g1, g2⟩ := g _ o s' h2
    refine ⟨g1, fun ok rm hl hs H locs ls ρ hx hP hS hlv => ?_⟩
    have hvo : vOk s1.2.1 (vq (fa i.toNatClampNeg)) := by
      have h0 := hP.2.2 a ha
      rw [hcell] at h0
      cases hq : fa i.toNatClampNeg with
      | none => exact trivial
      | some r => exact h0 _ _ hq
    have gg := g2 ok rm hl (stO_c hvo (stO_t (stO_t hs))) H locs ls ρ hx hP hS hlv
    obtain ⟨p, l, e, R, s0, m, args, below, meth, c, w, ρ0, n0, c0, z0⟩ := Y
    obtain ⟨hx, hb, hr, hml, hown, hts, hlk, hst, hwf, htb, hd1, hd2, hnm, hnw⟩ := ok
    have hlt : i.toNatClampNeg < n := Nat.not_le.mp fun q => hin (Or.inr q)
    have hty : ∃ ty, (wtys w)[t]? = some (wT w t, ty) ∧ ty.isReference = true := by
      rcases ht with rfl | rfl
      · exact ⟨_, rfl, rfl⟩
      · exact ⟨_, rfl, rfl⟩
    obtain ⟨ty, hty, href⟩ := hty
    have hcl : H[ρ a]? = some (arrV (wT w t) n (fun j => va_rf ((fa j).map ρ))) := hP.1 a _ (ws_arq hcell ha)
    have hcv : cV w ρ (vq (fa i.toNatClampNeg)) = va_rf ((fa i.toNatClampNeg).map ρ) := by cases fa i.toNatClampNeg <;> rfl
    have gg2 : W p l e R s0 m args below meth c H locs _ _ _ (F0 m (pc + 1) ls (cV w ρ (vq (fa i.toNatClampNeg)) :: cS w ρ st)) := gg
    rw [hcv] at gg2
    exact W.aald (v := va_rf ((fa i.toNatClampNeg).map ρ)) hx hb hcl ((hwf.1.2 t _ hty).1 n (fun j => va_rf ((fa j).map ρ))) href (fun q => by cases q) (by rw [arrV_size]; exact hin) (by rw [arrV_read _ _ hlt]) rfl rfl hd gg2
  · obtain ⟨_, _, -, -, -, e1, -⟩ := ldQ_some h1
    cases e1
theorem r_ldR {f : Nat → MM α} {a t : Nat} {i : Int32} (ht : t = 2 ∨ t = 3) (hd : decode (aC A) pc = .ok (.aaload, 1)) (g : ∀ v, Rr A Y (pc + 1) lv (vr v :: st) (f v) K res s) : Rr A Y pc lv (vi i :: vr a :: st) (mbnd (ldR t a i) f) K res s := by
  unfold ldR
  rw [mbnd_assoc]
  refine r_ldQ ht hd fun v => ?_
  cases v <;> first | exact g _ | exact r_fail
theorem r_sld {f : Int32 → MM α} {i : Int32} (hd : decode (aC A) pc = .ok (.iaload, 1)) (hi : vp_in i (wL (yW Y))) (g : Rr A Y (pc + 1) lv (vi (wX (yW Y) i.toNatClampNeg) :: st) (f (wX (yW Y) i.toNatClampNeg)) K res s) : Rr A Y pc lv (vi i :: vt 999 :: st) (mbnd (mret (wX (yW Y) i.toNatClampNeg)) f) K res s := by
  intro o s' e
  obtain ⟨g1, g2⟩ := g o s' e
  refine ⟨g1, fun ok rm hl hs H locs ls ρ hx hP hS hlv => ?_⟩
  have gg := g2 ok rm hl (stO_c trivial (stO_t (stO_t hs))) H locs ls ρ hx hP hS hlv
  obtain ⟨p, l, e, R, s0, m, args, below, meth, c, w, ρ0, n0, c0, z0⟩ := Y
  obtain ⟨hx, hb, hr, hml, hown, hts, hlk, hst, hwf, htb, hd1, hd2, hnm, hnw⟩ := ok
  obtain ⟨-, -, -, -, hX, hbB, hBs, -⟩ := hwf
  exact va_sld hx hb hX (Nat.lt_of_lt_of_le hbB hBs) (Nat.not_le.mpr hbB) hS hi hd gg
theorem p_slen {k9 : MM α} (hd : decode (aC A) pc = .ok (.arraylength, 1)) (g : Rr A Y (pc + 1) lv (vi (Int32.ofNat (wL (yW Y))) :: st) k9 K res s) : Rr A Y pc lv (vt 999 :: st) k9 K res s := by
  intro o s' e
  obtain ⟨g1, g2⟩ := g o s' e
  refine ⟨g1, fun ok rm hl hs H locs ls ρ hx hP hS hlv => ?_⟩
  have gg := g2 ok rm hl (stO_c trivial (stO_t hs)) H locs ls ρ hx hP hS hlv
  obtain ⟨p, l, e, R, s0, m, args, below, meth, c, w, ρ0, n0, c0, z0⟩ := Y
  obtain ⟨hx, hb, hr, hml, hown, hts, hlk, hst, hwf, htb, hd1, hd2, hnm, hnw⟩ := ok
  obtain ⟨-, -, -, -, hX, hbB, hBs, -⟩ := hwf
  exact va_slen hx hb hX (Nat.lt_of_lt_of_le hbB hBs) (Nat.not_le.mpr hbB) hS hd gg
end RM
