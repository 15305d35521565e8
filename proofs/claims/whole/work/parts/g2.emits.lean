/-! THE REFERENCE AS IT READS A LAW: its steps, and what it emits -/
theorem tx_answer : isText 39 [97, 110, 115, 119, 101, 114] := ⟨by decide, by decide, by decide, by decide, by decide⟩
theorem tx_plead : isText 40 [112, 108, 101, 97, 100] := ⟨by decide, by decide, by decide, by decide, by decide⟩
theorem tx_heir : isText 41 [104, 101, 105, 114] := ⟨by decide, by decide, by decide, by decide, by decide⟩
theorem tx_blunt : isText 42 [98, 108, 117, 110, 116] := ⟨by decide, by decide, by decide, by decide, by decide⟩
theorem tx_if : isText 43 [105, 102] := ⟨by decide, by decide, by decide, by decide, by decide⟩
theorem tx_not : isText 44 [110, 111, 116] := ⟨by decide, by decide, by decide, by decide, by decide⟩
theorem tx_nailed : isText 45 [110, 97, 105, 108, 101, 100] := ⟨by decide, by decide, by decide, by decide, by decide⟩
theorem tx_guilt : isText 46 [103, 117, 105, 108, 116] := ⟨by decide, by decide, by decide, by decide, by decide⟩
theorem tx_harm : isText 47 [104, 97, 114, 109] := ⟨by decide, by decide, by decide, by decide, by decide⟩
theorem tx_hard : isText 48 [104, 97, 114, 100] := ⟨by decide, by decide, by decide, by decide, by decide⟩
theorem tx_day : isText 49 [100, 97, 121] := ⟨by decide, by decide, by decide, by decide, by decide⟩
theorem tx_and : isText 50 [97, 110, 100] := ⟨by decide, by decide, by decide, by decide, by decide⟩
theorem tx_or : isText 51 [111, 114] := ⟨by decide, by decide, by decide, by decide, by decide⟩
def mnm (M : MK) (st dp : Int32) : MK := ((fun j => if j = 16 then st else if j = 13 then dp else M.1 j), M.2)
def Its (W : Nat → Int32) (P : List It) : Prop := ∀ j it, P[j]? = some it → W (1969 + 2 * j) = Int32.ofNat it.1 ∧ (it.1 = 8 ∨ it.1 = 10 → W (1969 + 2 * j + 1) = Int32.ofNat it.2)
theorem Its.push {W : Nat → Int32} {P : List It} (h : Its W P) (it : It) {v : Int32} (hv : it.1 = 8 ∨ it.1 = 10 → v = Int32.ofNat it.2) : Its (upd (upd W (1969 + 2 * P.length) (Int32.ofNat it.1)) (1969 + 2 * P.length + 1) v) (P ++ [it]) := by
  intro j u hj
  rcases Nat.lt_trichotomy j P.length with q | q | q
  · rw [List.getElem?_append_left q] at hj
    have g := h j u hj
    refine ⟨(if_neg (by omega)).trans ((if_neg (by omega)).trans g.1), fun z => (if_neg (by omega)).trans ((if_neg (by omega)).trans (g.2 z))⟩
  · rw [q, List.getElem?_append_right (Nat.le_refl _), Nat.sub_self] at hj
    have e : it = u := Option.some.inj hj
    rw [q, ← e]
    exact ⟨(if_neg (by omega)).trans (if_pos rfl), fun z => (if_pos rfl).trans (hv z)⟩
  · rw [List.getElem?_eq_none (by rw [List.length_append]; exact q)] at hj
    cases hj
def wlo (W W' : Nat → Int32) : Prop := ∀ j, j < 1969 → W' j = W j
def NRun {α : Type} (m : MM α) (s : aS) (v : α) (Q : aS → Prop) : Prop := ∃ s', m s = some (.inl v, s') ∧ Q s' ∧ Off s s' 66 (66 + 12)
/-- the reference's state: point i, begin b -/
def RRw (sm : aS) (M : MK) (W0 : Nat → Int32) (P : List It) (dp i b : Nat) : Prop := ∃ W, Mdl sm 66 (mcur (mw (mnm M (Int32.ofNat P.length) (Int32.ofNat dp)) W) i b) ∧ Its W P ∧ wlo W0 W
/-- it stands ahead of the token k -/
def RSt (sm : aS) (M : MK) (n : Nat) (B : Nat → Nat) (W0 : Nat → Int32) (P : List It) (dp k : Nat) : Prop := ∃ i b, i ≤ n ∧ nxt B n i = tb B n k ∧ RRw sm M W0 P dp i b
/-- it found the text wrong there -/
def RBad (sm : aS) (M : MK) (W0 : Nat → Int32) (z : Nat) : Prop := ∃ W st dp i, Mdl sm 66 (mcur (mw (mnm M st dp) W) i z) ∧ wlo W0 W
section NB
variable {α β : Type} {s s' sm : aS} {M : MK} {W0 W : Nat → Int32} {P : List It} {dp k i b n : Nat} {B : Nat → Nat} {Q Q' : aS → Prop}
theorem NRun.bnd {m : MM α} {f : α → MM β} {v : α} {w : β} (h : NRun m s v Q) (g : ∀ s', Q s' → NRun (f v) s' w Q') : NRun (mbnd m f) s w Q' := by
  obtain ⟨s1, h1, h2, h3⟩ := h
  obtain ⟨s2, g1, g2, g3⟩ := g s1 h2
  exact ⟨s2, (bnd_ok h1).trans g1, g2, h3.trans g3⟩
theorem NRun.get {m : MM α} {f : α → MM β} {v : α} {w : β} (h : m s = some (.inl v, s)) (g : NRun (f v) s w Q') : NRun (mbnd m f) s w Q' := by
  obtain ⟨s2, g1, g2, g3⟩ := g
  exact ⟨s2, (bnd_ok h).trans g1, g2, g3⟩
theorem NRun.ret {v : α} (h : Q s) : NRun (mret v) s v Q := ⟨s, rfl, h, Off.rf⟩
theorem NRun.imp {m : MM α} {v : α} (h : NRun m s v Q) (g : ∀ s', Q s' → Q' s') : NRun m s v Q' := by
  obtain ⟨s1, h1, h2, h3⟩ := h
  exact ⟨s1, h1, g s1 h2, h3⟩
theorem MRun.toN {m : MM α} {v : α} {M' : MK} (h : MRun m s 66 v M') (g : ∀ s', Mdl s' 66 M' → Q s') : NRun m s v Q := by
  obtain ⟨s1, h1, h2, h3⟩ := h
  exact ⟨s1, h1, g s1 h2, h3⟩
theorem NRun.o (H : RRw s M W0 P dp i b) {m : MM α} {v : α} (h : NRun m s v Q) : NRun (onC 11 66 m) s v Q := by
  obtain ⟨W, D, -⟩ := H
  obtain ⟨s1, h1, h2⟩ := h
  exact ⟨s1, (onC_ok D.1).trans h1, h2⟩
theorem byt_mn {st dq : Int32} (T : Byt M n B) : Byt (mw (mnm M st dq) W) n B := Byt.mw (M := mnm M st dq) ⟨T.1, T.2⟩
theorem RRw.bad (H : RRw s M W0 P dp i b) : RBad s M W0 b := by
  obtain ⟨W, D, -, h⟩ := H
  exact ⟨W, _, _, i, D, h⟩
theorem RRw.at (hk : nxt B n i = tb B n k) (hi : i ≤ n) (H : RRw s M W0 P dp i b) : RSt s M n B W0 P dp k := ⟨i, b, hi, hk, H⟩
theorem mnm_st (M : MK) (st dq st' : Int32) (W : Nat → Int32) (i b : Nat) : mint (mcur (mw (mnm M st dq) W) i b) 16 st' = mcur (mw (mnm M st' dq) W) i b := by
  refine Prod.ext (funext fun j => ?_) rfl
  show (if j = 16 then st' else if j = 10 then Int32.ofNat i else if j = 12 then Int32.ofNat b else if j = 16 then st else if j = 13 then dq else M.1 j) = (if j = 10 then Int32.ofNat i else if j = 12 then Int32.ofNat b else if j = 16 then st' else if j = 13 then dq else M.1 j)
  by_cases h : j = 16
  · rw [if_pos h, if_neg (by omega), if_neg (by omega), if_pos h]
  · rw [if_neg h, if_neg h, if_neg h]
theorem mnm_dp (M : MK) (st dq dq' : Int32) (W : Nat → Int32) (i b : Nat) : mint (mcur (mw (mnm M st dq) W) i b) 13 dq' = mcur (mw (mnm M st dq') W) i b := by
  refine Prod.ext (funext fun j => ?_) rfl
  show (if j = 13 then dq' else if j = 10 then Int32.ofNat i else if j = 12 then Int32.ofNat b else if j = 16 then st else if j = 13 then dq else M.1 j) = (if j = 10 then Int32.ofNat i else if j = 12 then Int32.ofNat b else if j = 16 then st else if j = 13 then dq' else M.1 j)
  by_cases h : j = 13
  · rw [if_pos h, if_neg (by omega), if_neg (by omega), if_neg (by omega), if_pos h]
  · rw [if_neg h, if_neg h, if_neg h]
theorem m_emits {st : Nat} {dq : Int32} (D : Mdl s 66 (mcur (mw (mnm M (Int32.ofNat st) dq) W) i b)) (hst : st < 400) (a v : Int32) : MRun (mX12_emits 66 a v) s 66 () (mcur (mw (mnm M (Int32.ofNat (st + 1)) dq) (upd (upd W (1969 + 2 * st) a) (1969 + 2 * st + 1) v)) i b) := by
  unfold mX12_emits
  have g : ∀ {s' : aS} {W' : Nat → Int32}, Mdl s' 66 (mcur (mw (mnm M (Int32.ofNat st) dq) W') i b) → gI 11 16 66 s' = some (.inl (Int32.ofNat st), s') := fun D' => gI_ok D'.1 rfl
  have e1 : (1969 : Int32) + 2 * Int32.ofNat st = Int32.ofNat (1969 + 2 * st) := by
    rw [show (2 : Int32) = Int32.ofNat 2 from rfl, ofN_mul, show (1969 : Int32) = Int32.ofNat 1969 from rfl, ofN_add]
  refine MRun.onC D (MRun.get (w_ref D) (MRun.get (g D) ?_))
  rw [e1]
  refine MRun.bnd (w_put D (by omega) a) fun s1 D1 => MRun.get (w_ref D1) (MRun.get (g D1) ?_)
  rw [e1, ofN_succ]
  refine MRun.bnd (w_put D1 (by omega) v) fun s2 D2 => MRun.get (g D2) ?_
  rw [ofN_succ]
  refine MRun.bnd (mint_run D2 rfl) fun s3 D3 => ?_
  rw [mnm_st] at D3
  exact MRun.ret D3
theorem RRw.emits (H : RRw s M W0 P dp i b) (hP : P.length < 400) (it : It) {a v : Int32} (ha : a = Int32.ofNat it.1) (hv : it.1 = 8 ∨ it.1 = 10 → v = Int32.ofNat it.2) : NRun (mX12_emits 66 a v) s () fun s' => RRw s' M W0 (P ++ [it]) dp i b := by
  subst ha
  obtain ⟨W, D, h1, h2⟩ := H
  refine (m_emits D hP _ v).toN fun s' D' => ⟨_, ?_, h1.push it hv, fun j hj => (if_neg (by omega)).trans ((if_neg (by omega)).trans (h2 j hj))⟩
  rw [List.length_append]
  exact D'
theorem RRw.emitX (H : RRw s M W0 P dp i b) (hP : P.length < 400) (a v : Int32) : NRun (mX12_emits 66 a v) s () fun s' => RBad s' M W0 b := by
  obtain ⟨W, D, h1, h2⟩ := H
  exact (m_emits D hP a v).toN fun s' D' => ⟨_, _, _, i, D', fun j hj => (if_neg (by omega)).trans ((if_neg (by omega)).trans (h2 j hj))⟩
theorem RSt.emits (H : RSt s M n B W0 P dp k) (hP : P.length < 400) (it : It) {a v : Int32} (ha : a = Int32.ofNat it.1) (hv : it.1 = 8 ∨ it.1 = 10 → v = Int32.ofNat it.2) : NRun (mX12_emits 66 a v) s () fun s' => RSt s' M n B W0 (P ++ [it]) dp k := by
  obtain ⟨i, b, h1, h2, h3⟩ := H
  exact (h3.emits hP it ha hv).imp fun s' h => ⟨i, b, h1, h2, h⟩
theorem RSt.o (H : RSt s M n B W0 P dp k) {m : MM α} {v : α} (h : NRun m s v Q) : NRun (onC 11 66 m) s v Q := by
  obtain ⟨i, b, h1, h2, h3⟩ := H
  exact NRun.o h3 h
theorem RSt.deep (H : RSt s M n B W0 P dp k) : gI 11 13 66 s = some (.inl (Int32.ofNat dp), s) := by
  obtain ⟨i, b, h1, h2, W, D, -⟩ := H
  exact gI_ok D.1 rfl
theorem RSt.setd (H : RSt s M n B W0 P dp k) (dp' : Nat) : NRun (pI 11 13 66 (Int32.ofNat dp')) s () fun s' => RSt s' M n B W0 P dp' k := by
  obtain ⟨i, b, h1, h2, W, D, h3, h4⟩ := H
  refine (mint_run (k := 13) D rfl).toN fun s' D' => ⟨i, b, h1, h2, W, ?_, h3, h4⟩
  rw [mnm_dp] at D'
  exact D'
/-- a sign, or not -/
theorem RSt.sign (TB : Byt M n B) (H : RSt s M n B W0 P dp k) {c : Nat} (hc : c < 48 ∨ (57 < c ∧ c < 97)) {u : Int32} (hu : u = Int32.ofNat c) : (thing B n (tb B n k) = Int32.ofNat c → NRun (mX12_sign 66 u) s 1 fun s' => ∃ i, i ≤ n ∧ nxt B n i = tb B n (k + 1) ∧ RRw s' M W0 P dp i (tb B n k)) ∧ (¬ thing B n (tb B n k) = Int32.ofNat c → NRun (mX12_sign 66 u) s 0 fun s' => RRw s' M W0 P dp (tb B n k) (tb B n k)) := by
  subst hu
  have hb : ∀ q, q < n → B q < 256 := fun q hq => (TB.2.2 q hq).1
  obtain ⟨i, b, h1, h2, W, D, h3, h4⟩ := H
  have sg := m_sign (byt_mn TB) D h1 (c := c) (by omega)
  rw [h2] at sg
  have st : thing B n (tb B n k) = Int32.ofNat c ↔ tb B n k < n ∧ B (tb B n k) = c := hc.elim (fun q => sign_thing hb q) (fun q => sign_thing2 hb q.1 q.2)
  refine ⟨fun q => ?_, fun q => ?_⟩
  · have q' := st.mp q
    rw [if_pos q', if_pos q'] at sg
    exact sg.toN fun s' D' => ⟨_, q'.1, sign_next q'.1 q'.2 hc, W, D', h3, h4⟩
  · have q' : ¬ (tb B n k < n ∧ B (tb B n k) = c) := fun z => q (st.mpr z)
    rw [if_neg q', if_neg q'] at sg
    exact sg.toN fun s' D' => ⟨W, D', h3, h4⟩
/-- a word, or not -/
theorem RSt.passes (TB : Byt M n B) (H : RSt s M n B W0 P dp k) {a j : Nat} {w : List Nat} (hw : isText a w) (hj : wl[j]? = some w) : (thing B n (tb B n k) = Int32.ofNat (300 + j) → NRun (mX12_passes 66 a) s 1 fun s' => ∃ i, i ≤ n ∧ nxt B n i = tb B n (k + 1) ∧ RRw s' M W0 P dp i (tb B n k)) ∧ (¬ thing B n (tb B n k) = Int32.ofNat (300 + j) → NRun (mX12_passes 66 a) s 0 fun s' => RRw s' M W0 P dp (tb B n k) (tb B n k)) := by
  have hb : ∀ q, q < n → B q < 256 := fun q hq => (TB.2.2 q hq).1
  obtain ⟨i, b, h1, h2, W, D, h3, h4⟩ := H
  have sg := m_passes (byt_mn TB) D h1 hw
  rw [h2] at sg
  have st := word_thing (tb_le B n k) hb hj
  refine ⟨fun q => ?_, fun q => ?_⟩
  · have q' := st.mp q
    rw [if_pos q', if_pos q'] at sg
    obtain ⟨g1, g2, g3, -⟩ := word_next hb q (List.getElem?_eq_some_iff.mp hj).1
    exact sg.toN fun s' D' => ⟨_, g3, g2, W, D', h3, h4⟩
  · have q' : ¬ _ := fun z => q (st.mpr z)
    rw [if_neg q', if_neg q'] at sg
    exact sg.toN fun s' D' => ⟨W, D', h3, h4⟩
/-- letters passed -/
theorem RSt.letters (TB : Byt M n B) (H : RSt s M n B W0 P dp k) : NRun (mX12_letters 66) s () fun s' => RRw s' M W0 P dp (wend B n (tb B n k)) (tb B n k) := by
  obtain ⟨i, b, h1, h2, W, D, h3, h4⟩ := H
  have ml := m_letters (byt_mn TB) D h1
  rw [h2] at ml
  exact ml.toN fun s' D' => ⟨W, D', h3, h4⟩
/-- behind the letters: which word -/
theorem RRw.word (TB : Byt M n B) (H : RRw s M W0 P dp (wend B n (tb B n k)) (tb B n k)) {a j : Nat} {w : List Nat} (hw : isText a w) (hj : wl[j]? = some w) : (thing B n (tb B n k) = Int32.ofNat (300 + j) → mX12_isWord 66 a s = some (.inl 1, s)) ∧ (¬ thing B n (tb B n k) = Int32.ofNat (300 + j) → mX12_isWord 66 a s = some (.inl 0, s)) := by
  have hb : ∀ q, q < n → B q < 256 := fun q hq => (TB.2.2 q hq).1
  obtain ⟨W, D, -⟩ := H
  have hr := run_spec (pL B) (tb_le B n k)
  have iw := m_isWord (byt_mn TB) D hr.2.1 hr.1 hw
  have st := word_thing (tb_le B n k) hb hj
  refine ⟨fun q => ?_, fun q => ?_⟩
  · rw [if_pos (st.mp q)] at iw
    exact iw
  · rw [if_neg (fun z => q (st.mpr z))] at iw
    exact iw
theorem RRw.nx (TB : Byt M n B) (H : RRw s M W0 P dp (wend B n (tb B n k)) (tb B n k)) {j : Nat} (hj : j < 25) (h : thing B n (tb B n k) = Int32.ofNat (300 + j)) : RSt s M n B W0 P dp (k + 1) := by
  have hb : ∀ q, q < n → B q < 256 := fun q hq => (TB.2.2 q hq).1
  obtain ⟨g1, g2, g3, -⟩ := word_next hb h hj
  exact ⟨_, _, g3, g2, H⟩
/-- a sort or nailed: a tag -/
theorem RSt.tag (TB : Byt M n B) (H : RSt s M n B W0 P dp k) (hP : P.length < 400) : (∀ j, j < 4 → thing B n (tb B n k) = Int32.ofNat (300 + j) → NRun (mX12_readTag 66) s 1 fun s' => RSt s' M n B W0 (P ++ [if j = 3 then (9, 0) else (8, j)]) dp (k + 1)) ∧ ((∀ j, j < 4 → ¬ thing B n (tb B n k) = Int32.ofNat (300 + j)) → NRun (mX12_readTag 66) s 0 fun s' => RRw s' M W0 P dp (tb B n k) (tb B n k)) := by
  have hb : ∀ q, q < n → B q < 256 := fun q hq => (TB.2.2 q hq).1
  have so : ∀ {s1 : aS}, RRw s1 M W0 P dp (wend B n (tb B n k)) (tb B n k) → (∃ j, j < 3 ∧ thing B n (tb B n k) = Int32.ofNat (300 + j) ∧ mX12_sortTold 66 s1 = some (.inl (Int32.ofNat j), s1)) ∨ ((∀ j, j < 3 → ¬ thing B n (tb B n k) = Int32.ofNat (300 + j)) ∧ mX12_sortTold 66 s1 = some (.inl (-1), s1)) := fun ⟨W, D, _⟩ => by
    rcases sort_cases (tb_le B n k) hb with ⟨j, hj, h1, h2⟩ | ⟨h1, -, h2⟩
    · exact Or.inl ⟨j, hj, h1, h2 _ _ (byt_mn TB) D⟩
    · exact Or.inr ⟨h1, h2 _ _ (byt_mn TB) D⟩
  have i300 : ∀ {a c : Nat}, a < 25 → c < 25 → thing B n (tb B n k) = Int32.ofNat (300 + a) → thing B n (tb B n k) = Int32.ofNat (300 + c) → a = c := fun ha hc e1 e2 => by
    have := e1.symm.trans e2
    rw [ofN_inj (by omega) (by omega)] at this
    omega
  refine ⟨fun j hj h => ?_, fun h => ?_⟩
  · unfold mX12_readTag
    refine RSt.o H (NRun.bnd (H.letters TB) fun s1 R1 => ?_)
    by_cases h3 : j = 3
    · subst h3
      rcases so R1 with ⟨q, hq, e1, -⟩ | ⟨-, e2⟩
      · exact absurd (i300 (by omega) (by decide) e1 h) (by omega)
      · refine NRun.get e2 ?_
        rw [if_pos (show (-1 : Int32) < 0 by decide)]
        refine NRun.get (v := 9) ((bnd_ok ((R1.word TB tx_nailed (j := 3) rfl).1 h)).trans rfl) ?_
        rw [if_neg (show ¬ (9 : Int32) < 0 by decide), if_neg (show ¬ (9 : Int32) < 0 by decide), if_pos rfl]
        exact NRun.bnd (NRun.bnd (R1.emits hP (9, 0) (a := 9) (v := -1) rfl (fun q => by rcases q with q | q <;> cases q)) fun s2 R2 => NRun.ret R2) fun s2 R2 => NRun.ret (R2.nx TB (by decide) h)
    · rcases so R1 with ⟨q, hq, e1, e2⟩ | ⟨e1, -⟩
      · have := i300 (by omega) (by omega) e1 h
        subst this
        refine NRun.get e2 ?_
        rw [if_neg (ofN_nn (by omega))]
        refine NRun.get (v := 8) rfl ?_
        rw [if_neg (show ¬ (8 : Int32) < 0 by decide), if_neg (show ¬ (8 : Int32) < 0 by decide), if_neg h3]
        exact NRun.bnd (NRun.bnd (R1.emits hP (8, q) (a := 8) (v := Int32.ofNat q) rfl (fun _ => rfl)) fun s2 R2 => NRun.ret R2) fun s2 R2 => NRun.ret (R2.nx TB (by omega) h)
      · exact absurd h (e1 j (by omega))
  · unfold mX12_readTag
    refine RSt.o H (NRun.bnd (H.letters TB) fun s1 R1 => ?_)
    rcases so R1 with ⟨q, hq, e1, -⟩ | ⟨-, e2⟩
    · exact absurd e1 (h q (by omega))
    · refine NRun.get e2 ?_
      rw [if_pos (show (-1 : Int32) < 0 by decide)]
      refine NRun.get (v := -1) ((bnd_ok ((R1.word TB tx_nailed (j := 3) rfl).2 (h 3 (by decide)))).trans rfl) ?_
      rw [if_pos (show (-1 : Int32) < 0 by decide), if_pos (show (-1 : Int32) < 0 by decide)]
      obtain ⟨W, D, h3, h4⟩ := R1
      refine NRun.bnd (v := ()) (Q := fun s' => RRw s' M W0 P dp (tb B n k) (tb B n k)) ?_ fun s2 R2 => NRun.ret R2
      refine NRun.get (gI_ok D.1 rfl) (NRun.bnd ((mint_run (k := 10) D rfl).toN fun s' D' => ?_) fun s2 R2 => NRun.ret R2)
      refine ⟨W, ?_, h3, h4⟩
      have D2 : Mdl s' 66 (mint (mcur (mw (mnm M (Int32.ofNat P.length) (Int32.ofNat dp)) W) (wend B n (tb B n k)) (tb B n k)) 10 (Int32.ofNat (tb B n k))) := D'
      rw [mcur_p] at D2
      exact D2
end NB
