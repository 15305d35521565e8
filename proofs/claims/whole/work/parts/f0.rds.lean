/-! A READER OF THE CLASS (RdS; printed twice by a program of mine) -/
def RRs {α : Type} (m : MM α) (s : aS) (v : α) (x' : Nat → Int32) (F' : Nat → Nat → Int32) : Prop := ∃ s', m s = some (.inl v, s') ∧ RdS s' x' F' ∧ Off s s' 54 58
section RS
variable {α β : Type} {s s' : aS} {x x' : Nat → Int32} {F F' : Nat → Nat → Int32} {n : Nat} {B : Nat → Nat}
theorem RdS.obj (R : RdS s x F) : ∃ fs, hasO s 54 7 fs ∧ fs[0]? = some (.ref 1) ∧ fs[1]? = some (.ref 55) ∧ fs[2]? = some (.ref 56) ∧ fs[3]? = some (.ref 57) ∧ fs[4]? = some (.ref 58) ∧ ∀ k, 5 ≤ k → k ≤ 11 → fs[k]? = some (.int (x k)) := by
  refine ⟨_, R.1, rfl, rfl, rfl, rfl, rfl, fun k h1 h2 => ?_⟩
  have h : k = 5 ∨ k = 6 ∨ k = 7 ∨ k = 8 ∨ k = 9 ∨ k = 10 ∨ k = 11 := by omega
  rcases h with rfl | rfl | rfl | rfl | rfl | rfl | rfl <;> rfl
theorem RRs.bnd {m : MM α} {f : α → MM β} {v : α} {w : β} (h : RRs m s v x F) (g : ∀ s', RdS s' x F → Off s s' 54 58 → RRs (f v) s' w x' F') : RRs (mbnd m f) s w x' F' := by
  obtain ⟨s1, h1, h2, h3⟩ := h
  obtain ⟨s2, g1, g2, g3⟩ := g s1 h2 h3
  exact ⟨s2, (bnd_ok h1).trans g1, g2, h3.trans g3⟩
theorem RRs.get {m : MM α} {f : α → MM β} {v : α} {w : β} (h : m s = some (.inl v, s)) (g : RRs (f v) s w x' F') : RRs (mbnd m f) s w x' F' := by
  obtain ⟨s2, g1, g2, g3⟩ := g
  exact ⟨s2, (bnd_ok h).trans g1, g2, g3⟩
theorem RRs.ret {v : α} (R : RdS s x F) : RRs (mret v) s v x F := ⟨s, rfl, R, Off.rf⟩
theorem RRs.bool {v : Int32} (R : RdS s x F) (h : v = 0 ∨ v = 1) : RRs (mbool v) s v x F := ⟨s, if_pos h, R, Off.rf⟩
theorem RRs.nox {m : MM α} {v : α} (h : RRs m s v x' F') : RRs (nox m) s v x' F' := by
  obtain ⟨s2, g1, g2, g3⟩ := h
  exact ⟨s2, nox_ok g1, g2, g3⟩
theorem RRs.o {m : MM α} {v : α} (R : RdS s x F) (h : RRs m s v x' F') : RRs (onC 7 54 m) s v x' F' := by
  obtain ⟨s2, g1, g2, g3⟩ := h
  exact ⟨s2, (onC_ok R.1).trans g1, g2, g3⟩
theorem RRs.eq {m : MM α} {v : α} (h : RRs m s v x F) (e : x = x') : RRs m s v x' F := e ▸ h
def xsets (x : Nat → Int32) (k : Nat) (v : Int32) : Nat → Int32 := fun j => if j = k then v else x j
theorem puts (R : RdS s x F) {k : Nat} (h1 : 5 ≤ k) (h2 : k ≤ 11) (v : Int32) : RRs (pI 7 k 54 v) s () (xsets x k v) F := by
  have h : k = 5 ∨ k = 6 ∨ k = 7 ∨ k = 8 ∨ k = 9 ∨ k = 10 ∨ k = 11 := by omega
  obtain ⟨R1, R2⟩ := R
  refine ⟨_, pF_ok R1 (show k < List.length _ by rcases h with rfl | rfl | rfl | rfl | rfl | rfl | rfl <;> exact Nat.le_of_ble_eq_true rfl), ⟨?_, ?_⟩, Off.sup (by decide) (by decide)⟩
  · rcases h with rfl | rfl | rfl | rfl | rfl | rfl | rfl <;> exact hasO_put R1.2
  · first
      | exact fun q hq => hasI_sup (R2 q hq) (by omega)
      | exact ⟨fun q hq => hasI_sup (R2.1 q hq) (by omega), hasI_sup R2.2 (by decide)⟩
theorem rows (R : RdS s x F) {q : Nat} (hq : q < 4) : hasI s (55 + q) 0 400 (F q) := by
  first
    | exact R.2 q hq
    | exact R.2.1 q (by omega)
theorem stores (R : RdS s x F) {q i : Nat} (hq : q < 4) (hi : i < 400) (v : Int32) : RRs (stI 0 (55 + q) (Int32.ofNat i) v) s () x (mrow F q (upd (F q) i v)) := by
  have e := stI_ok (x := v) (rows R hq) (ofN_nn (show i < 2 ^ 31 by omega)) (by rw [ofN_cl (by omega)]; exact hi)
  rw [ofN_cl (by omega)] at e
  refine ⟨_, e, ⟨hasO_sup R.1 (by omega), ?_⟩, Off.sup (by omega) (by omega)⟩
  have key : ∀ k, k < 5 → ∀ m g, hasI s (55 + k) 0 m g → g = F k → (k = q → m = 400) → hasI (sup s (55 + q) (.inr (.inl (0, 400, upd (F q) i v)))) (55 + k) 0 m (mrow F q (upd (F q) i v) k) := by
    intro k hk m g hg hgF hm
    unfold mrow
    by_cases h : k = q
    · subst h
      rw [if_pos rfl, hm rfl]
      exact ⟨up_self, hg.2⟩
    · rw [if_neg h, ← hgF]
      exact hasI_sup hg (by omega)
  first
    | exact fun k hk => key k (by omega) 400 (F k) (R.2 k hk) rfl fun _ => rfl
    | exact ⟨fun k hk => key k hk 400 (F k) (R.2.1 k hk) rfl fun _ => rfl, by
        have h5 : mrow F q (upd (F q) i v) 5 = F 5 := if_neg (by omega)
        rw [h5]
        exact hasI_sup R.2.2 (by omega)⟩
theorem rgis (R : RdS s x F) {k : Nat} (h1 : 5 ≤ k) (h2 : k ≤ 11) : gI 7 k 54 s = some (.inl (x k), s) := by
  obtain ⟨fs, ho, -, -, -, -, -, hx⟩ := R.obj
  exact gI_ok ho (hx k h1 h2)
theorem rrs (R : RdS s x F) {q : Nat} (hq : q < 4) : gR 7 (1 + q) 54 s = some (.inl (55 + q), s) := by
  have h : q = 0 ∨ q = 1 ∨ q = 2 ∨ q = 3 := by omega
  rcases h with rfl | rfl | rfl | rfl <;> exact gR_ok R.1 rfl
theorem rts (R : RdS s x F) : gR 7 0 54 s = some (.inl 1, s) := gR_ok R.1 rfl
theorem lds (R : RdS s x F) {q i : Nat} (hq : q < 4) (hi : i < 400) : ldI 0 (55 + q) (Int32.ofNat i) s = some (.inl (F q i), s) := by
  have e := ldI_ok (rows R hq) (ofN_nn (show i < 2 ^ 31 by omega)) (by rw [ofN_cl (by omega)]; exact hi)
  rwa [ofN_cl (by omega)] at e
/-- the tokens stand in the arrays -/
def Toks (F : Nat → Nat → Int32) (n : Nat) (B : Nat → Nat) (c : Nat) : Prop := ∀ j, j < c → tb B n j < n ∧ F 0 j = thg B n (tb B n j) ∧ F 1 j = Int32.ofNat (tb B n j) ∧ F 2 j = tdig B n (tb B n j) ∧ F 3 j = tnum B n (tb B n j)
def fnotes (F : Nat → Nat → Int32) (c : Nat) (a b d e : Int32) : Nat → Nat → Int32 := mrow (mrow (mrow (mrow F 0 (upd (F 0) c a)) 1 (upd (F 1) c b)) 2 (upd (F 2) c d)) 3 (upd (F 3) c e)
theorem notes (R : RdS s x F) {c : Nat} (hc : c < 400) (h5 : x 5 = Int32.ofNat c) (a b d e : Int32) : RRs (mX10_notes 54 a b d e) s () (xsets x 5 (Int32.ofNat (c + 1))) (fnotes F c a b d e) := by
  have g5 : ∀ {s' : aS} {F' : Nat → Nat → Int32}, RdS s' x F' → gI 7 5 54 s' = some (.inl (Int32.ofNat c), s') := fun R' => by
    rw [← h5]
    exact rgis R' (by decide) (by decide)
  unfold mX10_notes
  refine RRs.o R (RRs.get (g5 R) ?_)
  rw [if_neg (ofN_nn (by omega))]
  refine RRs.get (g5 R) ?_
  rw [if_neg (show ¬ (400 : Int32) ≤ Int32.ofNat c from nle (n := 400) hc (by decide))]
  refine RRs.get (rrs R (q := 0) (by decide)) (RRs.get (g5 R) (RRs.bnd (stores R (q := 0) (by decide) hc a) fun s1 R1 _ => ?_))
  refine RRs.get (rrs R1 (q := 1) (by decide)) (RRs.get (g5 R1) (RRs.bnd (stores R1 (q := 1) (by decide) hc b) fun s2 R2 _ => ?_))
  refine RRs.get (rrs R2 (q := 2) (by decide)) (RRs.get (g5 R2) (RRs.bnd (stores R2 (q := 2) (by decide) hc d) fun s3 R3 _ => ?_))
  refine RRs.get (rrs R3 (q := 3) (by decide)) (RRs.get (g5 R3) (RRs.bnd (stores R3 (q := 3) (by decide) hc e) fun s4 R4 _ => ?_))
  refine RRs.get (g5 R4) ?_
  rw [ofN_succ]
  exact RRs.bnd (puts R4 (by decide) (by decide) _) fun s5 R5 _ => RRs.ret R5
theorem fnotes_tok {c : Nat} (T : Toks F n B c) (h : tb B n c < n) : Toks (fnotes F c (thg B n (tb B n c)) (Int32.ofNat (tb B n c)) (tdig B n (tb B n c)) (tnum B n (tb B n c))) n B (c + 1) := by
  intro j hj
  rcases Nat.lt_or_ge j c with hj' | hj'
  · obtain ⟨t1, t2, t3, t4, t5⟩ := T j hj'
    exact ⟨t1, (if_neg (Nat.ne_of_lt hj')).trans t2, (if_neg (Nat.ne_of_lt hj')).trans t3, (if_neg (Nat.ne_of_lt hj')).trans t4, (if_neg (Nat.ne_of_lt hj')).trans t5⟩
  · have e : j = c := by omega
    subst e
    exact ⟨h, if_pos rfl, if_pos rfl, if_pos rfl, if_pos rfl⟩
/-- one run over the bytes -/
theorem wordEnds (T : Tc s n B) (R : RdS s x F) {i : Nat} (hi : i ≤ n) : mX10_wordEnds 54 (Int32.ofNat i) s = some (.inl (Int32.ofNat (wend B n i)), s) := by
  obtain ⟨r1, r2, r3, r4⟩ := run_spec (pL B) hi
  change i ≤ wend B n i at r1
  change wend B n i ≤ n at r2
  change ∀ k, i ≤ k → k < wend B n i → pL B k = true at r3
  change wend B n i < n → pL B (wend B n i) = false at r4
  generalize wend B n i = e at r1 r2 r3 r4 ⊢
  have hn : n ≤ 400 := T.choose_spec.2.1
  have hb : ∀ k, k < n → B k < 256 := fun k hk => (T.choose_spec.2.2 k hk).1
  unfold mX10_wordEnds
  rw [onC_ok R.1]
  have lp : loopM (mX10_wordEnds_L2 54) (Int32.ofNat i) s = some (.inl (Int32.ofNat e), s) := by
    refine loop_steps (e - i) (fun j => Int32.ofNat (i + j)) (fun _ => s) (fun j hj => ?_) ?_
    · have c := r3 (i + j) (by omega) (by omega)
      unfold mX10_wordEnds_L2
      rw [bnd_ok (rts R), bnd_ok T.len, if_neg (nle (by omega) (by omega)), bnd_ok (rts R), bnd_ok (T.byte (by omega)), bnd_ok (c_isLetter (hb _ (by omega))), if_pos c, if_neg (by decide), ofN_succ]
      rfl
    · show mX10_wordEnds_L2 54 (Int32.ofNat (i + (e - i))) s = _
      rw [show i + (e - i) = e by omega]
      unfold mX10_wordEnds_L2
      rw [bnd_ok (rts R), bnd_ok T.len]
      by_cases h : e < n
      · rw [if_neg (nle h (by omega)), bnd_ok (rts R), bnd_ok (T.byte h), bnd_ok (c_isLetter (hb _ h)), r4 h, if_pos (show (if false = true then (1 : Int32) else 0) = 0 from rfl)]
        rfl
      · rw [if_pos ((ofN_le (by omega) (by omega)).mpr (by omega))]
        rfl
  rw [bnd_ok lp]
  rfl
theorem numberEnds (T : Tc s n B) (R : RdS s x F) {i : Nat} (hi : i ≤ n) : mX10_numberEnds 54 (Int32.ofNat i) s = some (.inl (Int32.ofNat (dend B n i)), s) := by
  obtain ⟨r1, r2, r3, r4⟩ := run_spec (pD B) hi
  change i ≤ dend B n i at r1
  change dend B n i ≤ n at r2
  change ∀ k, i ≤ k → k < dend B n i → pD B k = true at r3
  change dend B n i < n → pD B (dend B n i) = false at r4
  generalize dend B n i = e at r1 r2 r3 r4 ⊢
  have hn : n ≤ 400 := T.choose_spec.2.1
  have hb : ∀ k, k < n → B k < 256 := fun k hk => (T.choose_spec.2.2 k hk).1
  unfold mX10_numberEnds
  rw [onC_ok R.1]
  have lp : loopM (mX10_numberEnds_L2 54) (Int32.ofNat i) s = some (.inl (Int32.ofNat e), s) := by
    refine loop_steps (e - i) (fun j => Int32.ofNat (i + j)) (fun _ => s) (fun j hj => ?_) ?_
    · have c := r3 (i + j) (by omega) (by omega)
      unfold mX10_numberEnds_L2
      rw [bnd_ok (rts R), bnd_ok T.len, if_neg (nle (by omega) (by omega)), bnd_ok (rts R), bnd_ok (T.byte (by omega)), bnd_ok (c_isDigit (hb _ (by omega))), if_pos c, if_neg (by decide), ofN_succ]
      rfl
    · show mX10_numberEnds_L2 54 (Int32.ofNat (i + (e - i))) s = _
      rw [show i + (e - i) = e by omega]
      unfold mX10_numberEnds_L2
      rw [bnd_ok (rts R), bnd_ok T.len]
      by_cases h : e < n
      · rw [if_neg (nle h (by omega)), bnd_ok (rts R), bnd_ok (T.byte h), bnd_ok (c_isDigit (hb _ h)), r4 h, if_pos (show (if false = true then (1 : Int32) else 0) = 0 from rfl)]
        rfl
      · rw [if_pos ((ofN_le (by omega) (by omega)).mpr (by omega))]
        rfl
  rw [bnd_ok lp]
  rfl
theorem numberOfs (T : Tc s n B) (R : RdS s x F) {p : Nat} (hp : p ≤ n) : mX10_numberOfs 54 (Int32.ofNat p) (Int32.ofNat (dend B n p)) s = some (.inl (Int32.ofNat (nv B p (min (dend B n p - p) 5))), s) := by
  obtain ⟨r1, r2, r3, r4⟩ := run_spec (pD B) hp
  change p ≤ dend B n p at r1
  change dend B n p ≤ n at r2
  change ∀ k, p ≤ k → k < dend B n p → pD B k = true at r3
  generalize dend B n p = e at r1 r2 r3 ⊢
  have hn : n ≤ 400 := T.choose_spec.2.1
  unfold mX10_numberOfs
  rw [onC_ok R.1]
  have lp : loopM (mX10_numberOfs_L5 54 (Int32.ofNat p) (Int32.ofNat e)) (0, Int32.ofNat p) s = some (.inl (Int32.ofNat (nv B p (min (e - p) 5))), s) := by
    refine loop_steps (min (e - p) 5) (fun j => (Int32.ofNat (nv B p j), Int32.ofNat (p + j))) (fun _ => s) (fun j hj => ?_) ?_
    · have c := of_decide_eq_true (r3 (p + j) (by omega) (by omega))
      unfold mX10_numberOfs_L5
      rw [if_neg (show ¬ Int32.ofNat e ≤ Int32.ofNat (p + j) from nle (by omega) (by omega)), if_neg (show ¬ Int32.ofNat p + 5 ≤ Int32.ofNat (p + j) from show ¬ Int32.ofNat p + Int32.ofNat 5 ≤ Int32.ofNat (p + j) by rw [ofN_add]; exact nle (by omega) (by omega)), bnd_ok (rts R), bnd_ok (T.byte (by omega))]
      show some (Sum.inl (Sum.inl (Int32.ofNat (nv B p j) * 10 + Int32.ofNat (B (p + j)) - 48, Int32.ofNat (p + j) + 1)), s) = _
      rw [Int32.mul_comm, nv_step B rfl c.1, ofN_succ]
      rfl
    · unfold mX10_numberOfs_L5
      by_cases h : e - p ≤ 5
      · rw [if_pos (show Int32.ofNat e ≤ Int32.ofNat (p + min (e - p) 5) from (ofN_le (by omega) (by omega)).mpr (by omega))]
        rfl
      · rw [if_neg (show ¬ Int32.ofNat e ≤ Int32.ofNat (p + min (e - p) 5) from nle (by omega) (by omega)), if_pos (show Int32.ofNat p + 5 ≤ Int32.ofNat (p + min (e - p) 5) from show Int32.ofNat p + Int32.ofNat 5 ≤ Int32.ofNat (p + min (e - p) 5) by rw [ofN_add]; exact (ofN_le (by omega) (by omega)).mpr (by omega))]
        rfl
  rw [bnd_ok lp]
  rfl
theorem wordMisss (p e : Nat) (wv : Int32) : ∀ (r : List Nat) (rest : List Nat) y i, txt i (r ++ 32 :: rest) → (∀ c ∈ r, c ≠ 32 ∧ c < 256) → loopM (mX10_wordOfs_L13 54 (Int32.ofNat p) (Int32.ofNat e)) (wv, y, 0, Int32.ofNat i) s = loopM (mX10_wordOfs_L13 54 (Int32.ofNat p) (Int32.ofNat e)) (wv + 1, Int32.ofNat p, 1, Int32.ofNat (i + r.length + 1)) s := by
  intro r
  induction r with
  | nil =>
    intro rest y i h _
    obtain ⟨-, h1, h2, -⟩ := txt_next (s := s) h
    rw [loopM_eq]
    have e1 : mX10_wordOfs_L13 54 (Int32.ofNat p) (Int32.ofNat e) (wv, y, 0, Int32.ofNat i) s = some (.inl (.inl (wv + 1, Int32.ofNat p, 1, Int32.ofNat (i + 1))), s) := by
      unfold mX10_wordOfs_L13
      rw [if_neg h1, bnd_ok h2, if_pos (show Int32.ofNat 32 = (32 : Int32) from rfl), if_pos rfl]
      show some (Sum.inl (Sum.inl (wv + 1, Int32.ofNat p, (1 : Int32), Int32.ofNat i + 1)), s) = _
      rw [ofN_succ]
    rw [bnd_ok e1]
    rfl
  | cons c r ih =>
    intro rest y i h hc
    obtain ⟨-, h1, h2, h3⟩ := txt_next (s := s) h
    obtain ⟨hc1, hc2⟩ := hc c List.mem_cons_self
    rw [loopM_eq]
    have e1 : mX10_wordOfs_L13 54 (Int32.ofNat p) (Int32.ofNat e) (wv, y, 0, Int32.ofNat i) s = some (.inl (.inl (wv, y + 1, 0, Int32.ofNat (i + 1))), s) := by
      unfold mX10_wordOfs_L13
      rw [if_neg h1, bnd_ok h2, if_neg (show ¬ Int32.ofNat c = (32 : Int32) from show ¬ Int32.ofNat c = Int32.ofNat 32 by rw [ofN_inj (by omega) (by decide)]; exact hc1), if_pos rfl]
      show some (Sum.inl (Sum.inl (wv, y + 1, (0 : Int32), Int32.ofNat i + 1)), s) = _
      rw [ofN_succ]
    rw [bnd_ok e1]
    show loopM _ (wv, y + 1, 0, Int32.ofNat (i + 1)) s = _
    rw [ih rest (y + 1) (i + 1) h3 (fun d hd => hc d (List.mem_cons_of_mem _ hd)), List.length_cons, show i + 1 + r.length + 1 = i + (r.length + 1) + 1 by omega]
theorem wordHits (T : Tc s n B) (R : RdS s x F) {p e : Nat} (he : e ≤ n) (wv : Int32) : ∀ (r : List Nat) (rest : List Nat) q i, q ≤ e → txt i (r ++ 32 :: rest) → (∀ c ∈ r, c ≠ 32 ∧ c < 256) → loopM (mX10_wordOfs_L13 54 (Int32.ofNat p) (Int32.ofNat e)) (wv, Int32.ofNat q, 1, Int32.ofNat i) s = if wd B q e = r then some (.inl (.inl wv), s) else loopM (mX10_wordOfs_L13 54 (Int32.ofNat p) (Int32.ofNat e)) (wv + 1, Int32.ofNat p, 1, Int32.ofNat (i + r.length + 1)) s := by
  have hn : n ≤ 400 := T.choose_spec.2.1
  have hb : ∀ k, k < n → B k < 256 := fun k hk => (T.choose_spec.2.2 k hk).1
  intro r
  induction r with
  | nil =>
    intro rest q i hq h _
    obtain ⟨-, h1, h2, -⟩ := txt_next (s := s) h
    rw [loopM_eq]
    by_cases hqe : q = e
    · subst hqe
      have e1 : mX10_wordOfs_L13 54 (Int32.ofNat p) (Int32.ofNat q) (wv, Int32.ofNat q, 1, Int32.ofNat i) s = some (.inl (.inr (.inl wv)), s) := by
        unfold mX10_wordOfs_L13
        rw [if_neg h1, bnd_ok h2, if_pos (show Int32.ofNat 32 = (32 : Int32) from rfl), if_neg (show ¬ (1 : Int32) = 0 by decide), if_pos rfl]
        rfl
      rw [bnd_ok e1, if_pos (wd_nil B (Nat.le_refl q))]
      rfl
    · have e1 : mX10_wordOfs_L13 54 (Int32.ofNat p) (Int32.ofNat e) (wv, Int32.ofNat q, 1, Int32.ofNat i) s = some (.inl (.inl (wv + 1, Int32.ofNat p, 1, Int32.ofNat (i + 1))), s) := by
        unfold mX10_wordOfs_L13
        rw [if_neg h1, bnd_ok h2, if_pos (show Int32.ofNat 32 = (32 : Int32) from rfl), if_neg (show ¬ (1 : Int32) = 0 by decide), if_neg (show ¬ Int32.ofNat q = Int32.ofNat e by rw [ofN_inj (by omega) (by omega)]; exact hqe)]
        show some (Sum.inl (Sum.inl (wv + 1, Int32.ofNat p, (1 : Int32), Int32.ofNat i + 1)), s) = _
        rw [ofN_succ]
      rw [bnd_ok e1, if_neg (show ¬ wd B q e = [] by rw [wd_cons B (by omega)]; exact fun h => nomatch h)]
      rfl
  | cons c r ih =>
    intro rest q i hq h hc
    obtain ⟨-, h1, h2, h3⟩ := txt_next (s := s) h
    obtain ⟨hc1, hc2⟩ := hc c List.mem_cons_self
    have hc' : ∀ d ∈ r, d ≠ 32 ∧ d < 256 := fun d hd => hc d (List.mem_cons_of_mem _ hd)
    rw [loopM_eq]
    by_cases hqe : q < e
    · have e1 : mX10_wordOfs_L13 54 (Int32.ofNat p) (Int32.ofNat e) (wv, Int32.ofNat q, 1, Int32.ofNat i) s = some (.inl (.inl (wv, Int32.ofNat (q + 1), (if B q = c then (1 : Int32) else 0), Int32.ofNat (i + 1))), s) := by
        unfold mX10_wordOfs_L13
        rw [if_neg h1, bnd_ok h2, if_neg (show ¬ Int32.ofNat c = (32 : Int32) from show ¬ Int32.ofNat c = Int32.ofNat 32 by rw [ofN_inj (by omega) (by decide)]; exact hc1), if_neg (show ¬ (1 : Int32) = 0 by decide), if_neg (show ¬ Int32.ofNat e ≤ Int32.ofNat q from nle hqe (by omega)), ofN_succ, ofN_succ]
        by_cases hB : B q = c
        · rw [if_pos hB, bnd_ok (v := (1 : Int32)) (s' := s) ?_]
          · rfl
          · rw [bnd_ok (rts R), bnd_ok (T.byte (by omega)), if_pos (by rw [hB])]
            rfl
        · rw [if_neg hB, bnd_ok (v := (0 : Int32)) (s' := s) ?_]
          · rfl
          · rw [bnd_ok (rts R), bnd_ok (T.byte (by omega)), if_neg (by rw [ofN_inj (by have := hb q (by omega); omega) (by omega)]; exact hB)]
            rfl
      rw [bnd_ok e1, wd_cons B hqe]
      show loopM _ (wv, Int32.ofNat (q + 1), (if B q = c then (1 : Int32) else 0), Int32.ofNat (i + 1)) s = _
      by_cases hB : B q = c
      · rw [if_pos hB, ih rest (q + 1) (i + 1) hqe h3 hc', List.length_cons, show i + 1 + r.length + 1 = i + (r.length + 1) + 1 by omega]
        by_cases hw : wd B (q + 1) e = r
        · rw [if_pos hw, if_pos (by rw [hw, hB])]
        · rw [if_neg hw, if_neg (show ¬ B q :: wd B (q + 1) e = c :: r from fun z => hw (List.cons.inj z).2)]
      · rw [if_neg hB, wordMisss p e wv r rest _ (i + 1) h3 hc', if_neg (show ¬ B q :: wd B (q + 1) e = c :: r from fun z => hB (List.cons.inj z).1), List.length_cons, show i + 1 + r.length + 1 = i + (r.length + 1) + 1 by omega]
    · have e1 : mX10_wordOfs_L13 54 (Int32.ofNat p) (Int32.ofNat e) (wv, Int32.ofNat q, 1, Int32.ofNat i) s = some (.inl (.inl (wv, Int32.ofNat (q + 1), 0, Int32.ofNat (i + 1))), s) := by
        unfold mX10_wordOfs_L13
        rw [if_neg h1, bnd_ok h2, if_neg (show ¬ Int32.ofNat c = (32 : Int32) from show ¬ Int32.ofNat c = Int32.ofNat 32 by rw [ofN_inj (by omega) (by decide)]; exact hc1), if_neg (show ¬ (1 : Int32) = 0 by decide), if_pos (show Int32.ofNat e ≤ Int32.ofNat q from (ofN_le (by omega) (by omega)).mpr (by omega)), ofN_succ, ofN_succ]
        rfl
      rw [bnd_ok e1]
      show loopM _ (wv, Int32.ofNat (q + 1), 0, Int32.ofNat (i + 1)) s = _
      rw [wordMisss p e wv r rest _ (i + 1) h3 hc', if_neg (show ¬ wd B q e = c :: r by rw [wd_nil B (by omega)]; exact fun h => nomatch h), List.length_cons, show i + 1 + r.length + 1 = i + (r.length + 1) + 1 by omega]
theorem wordss (T : Tc s n B) (R : RdS s x F) {p e : Nat} (hp : p ≤ e) (he : e ≤ n) : ∀ (ws : List (List Nat)) i k, txt i (ws.flatMap fun w => w ++ [32]) → (∀ w ∈ ws, ∀ c ∈ w, c ≠ 32 ∧ c < 256) → (mbnd (loopM (mX10_wordOfs_L13 54 (Int32.ofNat p) (Int32.ofNat e)) (Int32.ofNat k, Int32.ofNat p, 1, Int32.ofNat i)) fun (e18 : Int32 ⊕ Unit) => match e18 with
    | .inl e18 => (mret e18 : MM Int32)
    | .inr _ => mret 257) s = some (.inl (Int32.ofNat (wix (wd B p e) ws k)), s) := by
  intro ws
  induction ws with
  | nil =>
    intro i k h _
    have e1 : loopM (mX10_wordOfs_L13 54 (Int32.ofNat p) (Int32.ofNat e)) (Int32.ofNat k, Int32.ofNat p, 1, Int32.ofNat i) s = some (.inl (.inr ()), s) := by
      rw [loopM_eq]
      have e2 : mX10_wordOfs_L13 54 (Int32.ofNat p) (Int32.ofNat e) (Int32.ofNat k, Int32.ofNat p, 1, Int32.ofNat i) s = some (.inl (.inr (.inr ())), s) := by
        unfold mX10_wordOfs_L13
        rw [if_pos (txt_end h)]
        rfl
      rw [bnd_ok e2]
      rfl
    rw [bnd_ok e1]
    rfl
  | cons w ws ih =>
    intro i k h hc
    have h' : txt i (w ++ 32 :: ws.flatMap fun w => w ++ [32]) := by
      rw [List.flatMap_cons, List.append_assoc] at h
      exact h
    have hw := wordHits T R (p := p) he (Int32.ofNat k) w _ p i hp h' (hc w List.mem_cons_self)
    unfold wix
    by_cases hh : wd B p e = w
    · rw [if_pos hh] at hw
      rw [bnd_ok hw, if_pos hh]
      rfl
    · rw [if_neg hh, ofN_succ] at hw
      rw [if_neg hh, ← ih (i + w.length + 1) (k + 1) ?_ fun v hv => hc v (List.mem_cons_of_mem _ hv)]
      · unfold mbnd
        rw [hw]
      · have key : ∀ (r : List Nat) rest i, txt i (r ++ 32 :: rest) → txt (i + r.length + 1) rest := by
          intro r
          induction r with
          | nil => exact fun rest i h => (txt_next (s := s) h).2.2.2
          | cons c r ih =>
            intro rest i h
            have := ih rest (i + 1) (txt_next (s := s) h).2.2.2
            rwa [show i + 1 + r.length + 1 = i + (r.length + 1) + 1 by omega] at this
        exact key w _ i h'
theorem wordOfs (T : Tc s n B) (R : RdS s x F) {p e : Nat} (hp : p ≤ e) (he : e ≤ n) : mX10_wordOfs 54 (Int32.ofNat p) (Int32.ofNat e) s = some (.inl (Int32.ofNat (wcode (wd B p e))), s) := by
  unfold mX10_wordOfs
  rw [onC_ok R.1]
  exact wordss T R hp he wl 0 300 txt_all wl_chars
end RS
