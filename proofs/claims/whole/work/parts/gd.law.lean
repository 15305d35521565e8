/-! THE CALL law on both sides: what is read -/
theorem psize_app : ∀ A B : List Ln, psize (A ++ B) = psize A + psize B
  | [], B => (Nat.zero_add _).symm
  | x :: r, B => by
    show x.2.2.length + psize (r ++ B) = x.2.2.length + psize r + psize B
    rw [psize_app r B, Nat.add_assoc]
theorem itemsL_app : ∀ A B : List Ln, itemsL (A ++ B) = itemsL A ++ itemsL B
  | [], _ => rfl
  | x :: r, B => by
    show x.2.2 ++ itemsL (r ++ B) = x.2.2 ++ itemsL r ++ itemsL B
    rw [itemsL_app r B, List.append_assoc]
theorem codeAt_of {code : Nat → Int32} : ∀ (P : List It) (a : Nat), (∀ j v, (P.map encI)[j]? = some v → code (a + j) = Int32.ofNat v) → codeAt code a P
  | [], _, _ => trivial
  | i :: r, a, h => ⟨h 0 _ rfl, codeAt_of r (a + 1) fun j v hj => by
      have := h (j + 1) v hj
      rwa [show a + (j + 1) = a + 1 + j by omega] at this⟩
theorem codeLs_of {code : Nat → Int32} : ∀ (L : List Ln) (a : Nat), (∀ j v, (codeL L)[j]? = some v → code (a + j) = Int32.ofNat v) → codeLs code a L
  | [], _, _ => trivial
  | x :: r, a, h => by
    have h3 : ∀ j v, (x.2.2.map encI ++ codeL r)[j]? = some v → code (a + 3 + j) = Int32.ofNat v := fun j v hj => by
      have := h (j + 3) v hj
      rwa [show a + (j + 3) = a + 3 + j by omega] at this
    refine ⟨h 0 _ rfl, h 1 _ rfl, h 2 _ rfl, codeAt_of x.2.2 (a + 3) fun j v hj => h3 j v ?_, codeLs_of r (a + 3 + x.2.2.length) fun j v hj => ?_⟩
    · rw [List.getElem?_append_left (List.getElem?_eq_some_iff.mp hj).1]
      exact hj
    · rw [Nat.add_assoc (a + 3)]
      refine h3 (x.2.2.length + j) v ?_
      rw [List.getElem?_append_right (by rw [List.length_map]; omega), List.length_map, Nat.add_sub_cancel_left]
      exact hj
theorem stepsAt_of {W W' : Nat → Int32} (e : ∀ k, k < 849 → W' (1071 + k) = W (1920 + k)) : ∀ (P : List It) (a : Nat), a + P.length ≤ 400 → (∀ j it, P[j]? = some it → W (1969 + 2 * (a + j)) = Int32.ofNat it.1 ∧ (it.1 = 8 ∨ it.1 = 10 → W (1969 + 2 * (a + j) + 1) = Int32.ofNat it.2)) → stepsAt W' a P
  | [], _, _, _ => trivial
  | i :: r, a, hl, h => by
    have hl' : a + (r.length + 1) ≤ 400 := hl
    obtain ⟨h1, h2⟩ := h 0 i rfl
    have e0 : W' (1120 + 2 * a) = W (1969 + 2 * (a + 0)) := by
      have := e (49 + 2 * a) (by omega)
      rwa [show 1071 + (49 + 2 * a) = 1120 + 2 * a by omega, show 1920 + (49 + 2 * a) = 1969 + 2 * (a + 0) by omega] at this
    have e1 : W' (1120 + 2 * a + 1) = W (1969 + 2 * (a + 0) + 1) := by
      have := e (49 + 2 * a + 1) (by omega)
      rwa [show 1071 + (49 + 2 * a + 1) = 1120 + 2 * a + 1 by omega, show 1920 + (49 + 2 * a + 1) = 1969 + 2 * (a + 0) + 1 by omega] at this
    exact ⟨e0.trans h1, fun q => e1.trans (h2 (Or.inl q)), fun q => e1.trans (h2 (Or.inr q)), stepsAt_of e r (a + 1) (by omega) fun j it hj => by
      have := h (j + 1) it hj
      rwa [show a + (j + 1) = a + 1 + j by omega] at this⟩
theorem lnsAt_of {W W' : Nat → Int32} (e : ∀ k, k < 849 → W' (1071 + k) = W (1920 + k)) : ∀ (r pre : List Ln), (pre ++ r).length ≤ 12 → psize (pre ++ r) ≤ 400 → Hd W (pre ++ r) → Its W (itemsL (pre ++ r)) → lnsAt W' pre.length (psize pre) r
  | [], _, _, _, _, _ => trivial
  | x :: r, pre, hl, hp, hH, hI => by
    have hl' : pre.length + (r.length + 1) ≤ 12 := by
      rw [List.length_append] at hl
      exact hl
    have hp' : psize pre + (x.2.2.length + psize r) ≤ 400 := by
      rw [psize_app] at hp
      exact hp
    have hx : (pre ++ x :: r)[pre.length]? = some x := by
      rw [List.getElem?_append_right (Nat.le_refl _), Nat.sub_self]
      rfl
    obtain ⟨h0, h1, h2, h3⟩ := hH pre.length x hx
    rw [List.take_left] at h2 h3
    have ee : ∀ k, k < 48 → W' (1072 + k) = W (1921 + k) := fun k hk => by
      have := e (1 + k) (by omega)
      rwa [show 1071 + (1 + k) = 1072 + k by omega, show 1920 + (1 + k) = 1921 + k by omega] at this
    have ea : pre ++ x :: r = (pre ++ [x]) ++ r := by rw [List.append_assoc]; rfl
    refine ⟨(ee (4 * pre.length) (by omega)).trans h0, (ee (4 * pre.length + 1) (by omega)).trans h1, (ee (4 * pre.length + 2) (by omega)).trans h2, (ee (4 * pre.length + 3) (by omega)).trans h3, stepsAt_of e x.2.2 (psize pre) (by omega) fun j it hj => ?_, ?_⟩
    · refine hI (psize pre + j) it ?_
      rw [itemsL_app, List.getElem?_append_right (by rw [itemsL_len]; omega), itemsL_len, Nat.add_sub_cancel_left]
      show (x.2.2 ++ itemsL r)[j]? = _
      rw [List.getElem?_append_left (List.getElem?_eq_some_iff.mp hj).1]
      exact hj
    · rw [ea] at hl hp hH hI
      have := lnsAt_of e r (pre ++ [x]) hl hp hH hI
      rw [List.length_append, psize_app] at this
      exact this
section LK
variable {s sm : aS} {f : Int32} {K : CK} {M : MK} {LW : Option (List Ln)} {c c' : Nat}
theorem mnm_self (X : MK) : mnm X (X.1 16) (X.1 13) = X := Prod.ext (funext fun j => by
  show (if j = 16 then X.1 16 else if j = 13 then X.1 13 else X.1 j) = X.1 j
  by_cases h : j = 16
  · rw [if_pos h, h]
  · rw [if_neg h]
    by_cases h2 : j = 13
    · rw [if_pos h2, h2]
    · rw [if_neg h2]) rfl
theorem law_key (H : World s f K M LW c) {n : Nat} (h9 : M.1 9 = Int32.ofNat n) (hn4 : n ≤ 400) (D : Mdl sm 66 M) : ∃ B c0, LwR (mX10_readLinesl 59 12) (mX12_readAll 66 0) s sm (mrd M M.2 n) n B c0 (M.2 1) := by
  obtain ⟨-, ef, ⟨n', g, hn, O1, I2, e9, hb⟩, ⟨-, -, x, F, R⟩, O, -⟩ := id H
  have hnn : n' = n := (ofN_inj (by omega) (by omega)).mp (e9.symm.trans h9)
  subst hnn
  obtain ⟨B, hB⟩ : ∃ B : Nat → Nat, ∀ k, k < n' → B k < 256 ∧ g k = Int32.ofNat (B k) ∧ M.2 6 k = sb (B k) := ⟨fun k => if h : k < n' then (hb k h).choose else 0, fun k hk => by
    dsimp only
    rw [dif_pos hk]
    exact (hb k hk).choose_spec⟩
  have T : Tc s n' B := ⟨g, ⟨O1, I2⟩, hn, fun k hk => ⟨(hB k hk).1, (hB k hk).2.1⟩⟩
  have TB : Byt (mrd M M.2 n') n' B := ⟨rfl, hn, fun k hk => ⟨(hB k hk).1, (hB k hk).2.2⟩⟩
  obtain ⟨s1, e1, R1, o1⟩ := put4 R (k := 14) (by decide) (by decide) 0
  have st : mX5_start 59 s = some (.inl (), s1) := by
    unfold mX5_start
    rw [R.o, bnd_ok e1]
    rfl
  have T1 : Tc s1 n' B := T.off o1 (by decide)
  obtain ⟨c0, F', x', ⟨s2, e2, R2, o2⟩, A2, hx9, -⟩ := splitl T1 R1
  obtain ⟨s3, e3, R3, o3⟩ := putl R2 (k := 10) (by decide) (by decide) 0
  obtain ⟨s4, e4, R4, o4⟩ := putl R3 (k := 11) (by decide) (by decide) (-1)
  have A4 : Atl (xsetl (xsetl x' 10 0) 11 (-1)) F' n' B c0 0 := A2.keep fun j h1 h2 => (if_neg (by omega)).trans (if_neg (by omega))
  have oo : Off s s4 59 65 := o1.trans (o2.trans (o3.trans o4))
  have nilC : Cod (F' 4) (codeL []) := fun j v h => by
    change ([] : List Nat)[j]? = some v at h
    rw [List.getElem?_nil] at h
    cases h
  have L4 : LS0 s4 n' B c0 0 (codeL []) (x' 9) (Int32.ofNat ([] : List Ln).length) (-1) := ⟨T.off oo (by decide), Nat.zero_le _, _, F', R4, A4, nilC, (hx9 14 (by decide)).trans (if_pos rfl), rfl, rfl, rfl, Nat.zero_le _⟩
  have run : ∀ {o : (Int32 ⊕ Nat) × aS}, (if thing B n' (tb B n' 0) = -1 then mret 1 else mbnd (loopM (mX10_readLinesl_L30 59 12) 0) lKl) s4 = some o → mX10_readLinesl 59 12 s = some o := fun h => by
    unfold mX10_readLinesl
    rw [R.o, bnd_ok (nox_ok st), bnd_ok e2, bnd_ok e3, bnd_ok e4, bnd_ok L4.g7]
    exact h
  obtain ⟨m2, f2, D2, p2⟩ := m_uses D h9
  obtain ⟨b0, hb0⟩ := mrd_at M M.2 n'
  have hself : mnm (mrd M M.2 n') (Int32.ofNat 0) ((mrd M M.2 n').1 13) = mrd M M.2 n' := mnm_self (mrd M M.2 n')
  rw [hb0, ← hself] at D2
  obtain ⟨m3, f3, D3, p3⟩ := m_blanks (byt_mn TB) D2 (Nat.zero_le n')
  have D3 : Mdl m3 66 (mcur (mw (mnm (mrd M M.2 n') (Int32.ofNat (psize [])) ((mrd M M.2 n').1 13)) (M.2 1)) (tb B n' 0) (tb B n' 0)) := D3
  have g10 : gI 11 10 66 m3 = some (.inl (Int32.ofNat (tb B n' 0)), m3) := gI_ok D3.1 rfl
  have g11 : gI 11 11 66 m3 = some (.inl (Int32.ofNat n'), m3) := gI_ok D3.1 rfl
  have pp : Off sm m3 66 (66 + 12) := p2.trans p3
  have runm : ∀ {o : (Int32 ⊕ Nat) × aS}, (if Int32.ofNat (tb B n' 0) = Int32.ofNat n' then mret 0 else mbnd (loopM (mX12_readAll_L28 66 0) 0) lR) m3 = some o → mX12_readAll 66 0 sm = some o := fun h => by
    unfold mX12_readAll
    rw [onC_ok D.1]
    refine (f2 _ _).trans ?_
    rw [bnd_ok f3, bnd_ok g10, bnd_ok g11]
    exact h
  have hp := tb_le B n' 0
  have nilI : Its (M.2 1) (itemsL []) := fun j it h => by
    change ([] : List It)[j]? = some it at h
    rw [List.getElem?_nil] at h
    cases h
  have nilH : Hd (M.2 1) [] := fun j it h => by
    rw [List.getElem?_nil] at h
    cases h
  have H3 : RLn m3 (mrd M M.2 n') n' B (M.2 1) [] 0 := ⟨M.2 1, _, _, _, hp, tb_nxt B n' 0, D3, nilI, nilH, fun _ _ => rfl⟩
  refine ⟨B, c0, ?_⟩
  by_cases he : tb B n' 0 < n'
  · have hbb : ∀ q, q < n' → B q < 256 := fun q hq => (hB q hq).1
    rw [if_neg (thing_not_end hbb he)] at run
    rw [if_neg (fun q => by rw [ofN_inj (by omega) (by omega)] at q; omega)] at runm
    rcases lw_loop (c0 := c0) TB 12 0 [] (x' 9) s4 m3 rfl L4 H3 (Nat.zero_le _) (fun x hx => (List.not_mem_nil hx).elim) with ⟨z, ⟨s2, a1, a2, a3⟩, ⟨m2, b1, b2, b3⟩⟩ | ⟨Ls, k, nu, ⟨s2, a1, a2, a3⟩, ⟨m2, b1, b2, b3⟩, r⟩
    · exact Or.inl ⟨z, ⟨s2, run a1, a2, oo.trans a3⟩, ⟨m2, runm b1, b2, pp.trans b3⟩⟩
    · exact Or.inr ⟨Ls, k, nu, ⟨s2, run a1, a2, oo.trans a3⟩, ⟨m2, runm b1, b2, pp.trans b3⟩, r⟩
  · have hen : tb B n' 0 = n' := by omega
    rw [if_pos (by rw [hen]; exact thing_end)] at run
    rw [if_pos (by rw [hen])] at runm
    exact Or.inr ⟨[], 0, _, ⟨s4, run rfl, L4, oo⟩, ⟨m3, runm rfl, H3, pp⟩, by decide, fun x hx => (List.not_mem_nil hx).elim⟩
theorem RdL.uniq {x x2 : Nat → Int32} {F F2 : Nat → Nat → Int32} (R : RdL s x F) (R2 : RdL s x2 F2) : x 10 = x2 10 ∧ x 11 = x2 11 ∧ x 14 = x2 14 ∧ F 4 = F2 4 := by
  have inj : ∀ {a b : Int32} {m : MM Int32}, m s = some (.inl a, s) → m s = some (.inl b, s) → a = b := fun h1 h2 => Sum.inl.inj (congrArg Prod.fst (Option.some.inj (h1.symm.trans h2)))
  refine ⟨inj (rgil R (k := 10) (by decide) (by decide)) (rgil R2 (by decide) (by decide)), inj (rgil R (k := 11) (by decide) (by decide)) (rgil R2 (by decide) (by decide)), inj (get4 R (k := 14) (by decide) (by decide)) (get4 R2 (by decide) (by decide)), ?_⟩
  have q : (Sum.inr (Sum.inl (0, 400, F 4)) : AE) = Sum.inr (Sum.inl (0, 400, F2 4)) := (R.2.1 4 (by decide)).1.symm.trans (R2.2.1 4 (by decide)).1
  exact congrArg (fun z : Nat × Nat × (Nat → Int32) => z.2.2) (Sum.inl.inj (Sum.inr.inj q))
theorem law_read (H : World s f K M LW c) {n : Nat} (h9 : M.1 9 = Int32.ofNat n) (hn4 : n ≤ 400) : ∃ s3 x F, Off s s3 59 65 ∧ RdL s3 x F ∧
    ((mX10_readLinesl 59 12 s = some (.inl 0, s3) ∧ ∀ sm, Mdl sm 66 M → ∃ z, x 11 = Int32.ofNat z ∧ NRun (mX12_readAll 66 0) sm (-1) fun s' => RBd s' (mrd M M.2 n) (M.2 1) z) ∨
    (mX10_readLinesl 59 12 s = some (.inl 1, s3) ∧ x 11 = -1 ∧ ∀ sm, Mdl sm 66 M → ∃ Ls B k, x 10 = Int32.ofNat Ls.length ∧ x 14 = Int32.ofNat (codeL Ls).length ∧ (codeL Ls).length ≤ 400 ∧ Cod (F 4) (codeL Ls) ∧ Ls.length ≤ 12 ∧ (∀ x, x ∈ Ls → lnOk x) ∧ NRun (mX12_readAll 66 0) sm (Int32.ofNat Ls.length) fun s' => RLn s' (mrd M M.2 n) n B (M.2 1) Ls k)) := by
  have D := H.1.1.2.1
  obtain ⟨B, c0, key⟩ := law_key H h9 hn4 D
  rcases key with ⟨z, ⟨s3, a1, ⟨x, F, R, hz⟩, a3⟩, -⟩ | ⟨Ls, k, nu, ⟨s3, a1, ⟨-, -, x, F, R, A, c1, c3, c7, c8, c9, c10⟩, a3⟩, -, -, -⟩
  · refine ⟨s3, x, F, a3, R, Or.inl ⟨a1, fun sm Dm => ?_⟩⟩
    obtain ⟨B2, c2, key2⟩ := law_key H h9 hn4 Dm
    rcases key2 with ⟨z2, ⟨s4, b1, ⟨x2, F2, R2, hz2⟩, b3⟩, r⟩ | ⟨Ls, k, nu, ⟨s4, b1, -⟩, -⟩
    · have es : s3 = s4 := congrArg Prod.snd (Option.some.inj (a1.symm.trans b1))
      subst es
      exact ⟨z2, (R.uniq R2).2.1.trans hz2, r⟩
    · have e := congrArg Prod.fst (Option.some.inj (a1.symm.trans b1))
      exact absurd (Sum.inl.inj e) (by decide)
  · refine ⟨s3, x, F, a3, R, Or.inr ⟨a1, c9, fun sm Dm => ?_⟩⟩
    obtain ⟨B2, c2, key2⟩ := law_key H h9 hn4 Dm
    rcases key2 with ⟨z2, ⟨s4, b1, -⟩, -⟩ | ⟨Ls2, k2, nu2, ⟨s4, b1, ⟨-, -, x2, F2, R2, A2, d1, d3, d7, d8, d9, d10⟩, b3⟩, r, hl, hok⟩
    · have e := congrArg Prod.fst (Option.some.inj (a1.symm.trans b1))
      exact absurd (Sum.inl.inj e) (by decide)
    · have es : s3 = s4 := congrArg Prod.snd (Option.some.inj (a1.symm.trans b1))
      subst es
      obtain ⟨u1, u2, u3, u4⟩ := R.uniq R2
      exact ⟨Ls2, B2, k2, u1.trans d8, u3.trans d3, d10, by rw [u4]; exact d1, hl, hok, r⟩
end LK
