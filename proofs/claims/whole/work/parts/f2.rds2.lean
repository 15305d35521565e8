/-! A READER OF THE CLASS goes on from token to token (RdS; printed twice by a program of mine) -/
section RS
variable {s s' : aS} {x x' : Nat → Int32} {F F' : Nat → Nat → Int32} {n c k : Nat} {B : Nat → Nat}
theorem xsets_self (x : Nat → Int32) (k : Nat) : xsets x k (x k) = x := funext fun j => by
  show (if j = k then x k else x j) = x j
  by_cases h : j = k
  · rw [if_pos h, h]
  · rw [if_neg h]
theorem xsets_two (x : Nat → Int32) (k : Nat) (a b : Int32) : xsets (xsets x k a) k b = xsets x k b := funext fun j => by
  show (if j = k then b else if j = k then a else x j) = (if j = k then b else x j)
  by_cases h : j = k
  · rw [if_pos h, if_pos h]
  · rw [if_neg h, if_neg h, if_neg h]
theorem fnotes_old (F : Nat → Nat → Int32) (c : Nat) (a b d e : Int32) {q : Nat} (hq : 4 ≤ q) : fnotes F c a b d e q = F q := by
  unfold fnotes mrow
  rw [if_neg (by omega), if_neg (by omega), if_neg (by omega), if_neg (by omega)]
theorem splitOnes (T : Tc s n B) (R : RdS s x F) {i : Nat} (hi : i < n) (hc : c < 400) (h5 : x 5 = Int32.ofNat c) (hb : ¬ B i = 32) : RRs (mX10_splits_L7 54 (Int32.ofNat i)) s (.inl (Int32.ofNat (tend B n i))) (xsets x 5 (Int32.ofNat (c + 1))) (fnotes F c (thg B n i) (Int32.ofNat i) (tdig B n i) (tnum B n i)) := by
  have hn : n ≤ 400 := T.choose_spec.2.1
  have h256 : B i < 256 := (T.choose_spec.2.2 i hi).1
  obtain ⟨t1, t2⟩ := tend_spec B hi
  unfold mX10_splits_L7
  refine RRs.get (rts R) (RRs.get T.len ?_)
  rw [if_neg (nle hi (by omega))]
  refine RRs.get rfl (RRs.get (rts R) (RRs.get (T.byte hi) (RRs.get (c_isLetter h256) ?_)))
  have last : ∀ s', RdS s' (xsets x 5 (Int32.ofNat (c + 1))) (fnotes F c (thg B n i) (Int32.ofNat i) (tdig B n i) (tnum B n i)) → RRs (mbnd (mret (imax (Int32.ofNat (tend B n i)) (Int32.ofNat i + 1))) fun (v23 : Int32) => (mret (.inl v23) : MM (Int32 ⊕ Unit))) s' (.inl (Int32.ofNat (tend B n i))) (xsets x 5 (Int32.ofNat (c + 1))) (fnotes F c (thg B n i) (Int32.ofNat i) (tdig B n i) (tnum B n i)) := fun s' R' => by
    rw [ofN_succ, imax_of (by omega) (by omega), Nat.max_eq_left t1]
    exact RRs.get rfl (RRs.ret R')
  refine RRs.bnd (v := Int32.ofNat (tend B n i)) (x := xsets x 5 (Int32.ofNat (c + 1))) (F := fnotes F c (thg B n i) (Int32.ofNat i) (tdig B n i) (tnum B n i)) ?_ fun s1 R1 _ => last s1 R1
  unfold tend thg tdig tnum
  by_cases hl : pL B i = true
  · rw [if_pos hl, if_pos hl, if_pos hl, if_pos hl, if_pos hl, if_neg (show ¬ (1 : Int32) = 0 by decide)]
    have r := run_spec (pL B) (Nat.le_of_lt hi)
    exact RRs.get (nox_ok (wordEnds T R (Nat.le_of_lt hi))) (RRs.get (nox_ok (wordOfs T R r.1 r.2.1)) (RRs.bnd (RRs.nox (notes R hc h5 _ _ _ _)) fun s1 R1 _ => RRs.ret R1))
  · rw [if_neg hl, if_neg hl, if_neg hl, if_neg hl, if_neg hl, if_pos (show (0 : Int32) = 0 from rfl)]
    refine RRs.get (c_isDigit h256) ?_
    by_cases hd : pD B i = true
    · rw [if_pos hd, if_pos hd, if_pos hd, if_pos hd, if_pos hd, if_neg (show ¬ (1 : Int32) = 0 by decide)]
      have r := run_spec (pD B) (Nat.le_of_lt hi)
      refine RRs.get (nox_ok (numberEnds T R (Nat.le_of_lt hi))) (RRs.get (nox_ok (numberOfs T R (Nat.le_of_lt hi))) ?_)
      have e : Int32.ofNat (dend B n i) - Int32.ofNat i = Int32.ofNat (dend B n i - i) := ofN_sub r.1
      rw [e]
      exact RRs.bnd (RRs.nox (notes R hc h5 _ _ _ _)) fun s1 R1 _ => RRs.ret R1
    · rw [if_neg hd, if_neg hd, if_neg hd, if_neg hd, if_neg hd, if_pos (show (0 : Int32) = 0 from rfl), if_neg (show ¬ Int32.ofNat (B i) = (32 : Int32) from show ¬ Int32.ofNat (B i) = Int32.ofNat 32 by rw [ofN_inj (by omega) (by decide)]; exact hb)]
      rw [ofN_succ]
      exact RRs.bnd (RRs.nox (notes R hc h5 _ _ _ _)) fun s1 R1 _ => RRs.ret R1
theorem splitBlanks (T : Tc s n B) (R : RdS s x F) {i : Nat} (hi : i < n) (hb : B i = 32) : mX10_splits_L7 54 (Int32.ofNat i) s = some (.inl (.inl (Int32.ofNat (i + 1))), s) := by
  have hn : n ≤ 400 := T.choose_spec.2.1
  have h256 : B i < 256 := (T.choose_spec.2.2 i hi).1
  have hl : ¬ pL B i = true := fun q => by have := of_decide_eq_true q; omega
  have hd : ¬ pD B i = true := fun q => by have := of_decide_eq_true q; omega
  have il := c_isLetter (s := s) h256
  have id := c_isDigit (s := s) h256
  rw [if_neg hl] at il
  rw [if_neg hd] at id
  have tb := T.byte hi
  rw [hb] at il id tb
  unfold mX10_splits_L7
  rw [bnd_ok (rts R), bnd_ok T.len, if_neg (nle hi (by omega))]
  show mbnd (gR 7 0 54) _ s = _
  rw [bnd_ok (rts R), bnd_ok tb, bnd_ok il, if_pos rfl]
  have inner : (mbnd (mX10_isDigit (Int32.ofNat 32)) fun (v16 : Int32) =>
        if v16 = 0 then (
          if Int32.ofNat 32 = 32 then (
            mret (Int32.ofNat i + 1)
          ) else (
            mbnd (nox (mX10_notes 54 (Int32.ofNat 32) (Int32.ofNat i) 0 0)) fun _ =>
            mret (Int32.ofNat i + 1)
          )
        ) else (
          mbnd (nox (mX10_numberEnds 54 (Int32.ofNat i))) fun (v19 : Int32) =>
          mbnd (nox (mX10_numberOfs 54 (Int32.ofNat i) v19)) fun (v20 : Int32) =>
          mbnd (nox (mX10_notes 54 256 (Int32.ofNat i) (v19 - Int32.ofNat i) v20)) fun _ =>
          mret v19
        )) s = some (.inl (Int32.ofNat (i + 1)), s) := by
    rw [bnd_ok id, if_pos rfl, if_pos (show Int32.ofNat 32 = (32 : Int32) from rfl), ofN_succ]
    rfl
  rw [bnd_ok inner]
  show some (Sum.inl (Sum.inl (imax (Int32.ofNat (i + 1)) (Int32.ofNat i + 1))), s) = _
  rw [ofN_succ, imax_of (by omega) (by omega), Nat.max_self]
theorem splitLoops : ∀ m i c s x F, n - i ≤ m → i ≤ n → Tc s n B → RdS s x F → c ≤ i → nxt B n i = tb B n c → x 5 = Int32.ofNat c → Toks F n B c → ∃ c' F', RRs (loopM (mX10_splits_L7 54) (Int32.ofNat i)) s () (xsets x 5 (Int32.ofNat c')) F' ∧ Toks F' n B c' ∧ tb B n c' = n ∧ c' ≤ n ∧ ∀ q, 4 ≤ q → F' q = F q := by
  intro m
  induction m with
  | zero =>
    intro i c s x F hm hi T R hc hn5 h5 ht
    have e : i = n := by omega
    subst e
    have hn : i ≤ 400 := T.choose_spec.2.1
    refine ⟨c, F, ⟨s, ?_, ?_, Off.rf⟩, ht, ?_, hc, fun q _ => rfl⟩
    · rw [loopM_eq]
      have e1 : mX10_splits_L7 54 (Int32.ofNat i) s = some (.inl (.inr ()), s) := by
        unfold mX10_splits_L7
        rw [bnd_ok (rts R), bnd_ok T.len, if_pos ((ofN_le (by omega) (by omega)).mpr (Nat.le_refl i))]
        rfl
      rw [bnd_ok e1]
      rfl
    · rw [← h5, xsets_self]
      exact R
    · rw [← hn5]
      exact run_stop (Nat.le_refl i) fun h => absurd h (by omega)
  | succ m ih =>
    intro i c s x F hm hi T R hc hn5 h5 ht
    have hn : n ≤ 400 := T.choose_spec.2.1
    by_cases hin : i < n
    · by_cases hb : B i = 32
      · have e1 := splitBlanks T R hin hb
        have hx : nxt B n i = nxt B n (i + 1) := (run_next hin (decide_eq_true hb)).1
        obtain ⟨c', F', ⟨s2, g1, g2, g3⟩, h⟩ := ih (i + 1) c s x F (by omega) (by omega) T R (by omega) (by rw [← hx]; exact hn5) h5 ht
        refine ⟨c', F', ⟨s2, ?_, g2, g3⟩, h⟩
        rw [loopM_eq, bnd_ok e1]
        exact g1
      · have hs : nxt B n i = i := run_stop hi fun _ => decide_eq_false hb
        have htb : tb B n c = i := by rw [← hn5, hs]
        obtain ⟨s1, e1, R1, o1⟩ := splitOnes T R hin (by omega) h5 hb
        obtain ⟨t1, t2⟩ := tend_spec B hin
        have ht1 : Toks (fnotes F c (thg B n i) (Int32.ofNat i) (tdig B n i) (tnum B n i)) n B (c + 1) := by
          have := fnotes_tok ht (by omega)
          rwa [htb] at this
        have hnx : nxt B n (tend B n i) = tb B n (c + 1) := by
          show _ = (if tb B n c < n then nxt B n (tend B n (tb B n c)) else n)
          rw [htb, if_pos hin]
        obtain ⟨c', F', ⟨s2, g1, g2, g3⟩, h1, h2, h3, h4⟩ := ih (tend B n i) (c + 1) s1 _ _ (by omega) t2 (T.off o1 (by decide)) R1 (by omega) hnx (if_pos rfl) ht1
        rw [xsets_two] at g2
        refine ⟨c', F', ⟨s2, ?_, g2, o1.trans g3⟩, h1, h2, h3, fun q hq => (h4 q hq).trans (fnotes_old F c _ _ _ _ hq)⟩
        rw [loopM_eq, bnd_ok e1]
        exact g1
    · have e : i = n := by omega
      exact ih i c s x F (by omega) hi T R hc hn5 h5 ht
def xgos (x : Nat → Int32) (B : Nat → Nat) (n k : Nat) : Nat → Int32 := xsets (xsets (xsets x 6 (Int32.ofNat k)) 7 (thing B n (tb B n k))) 8 (Int32.ofNat (tb B n k))
theorem goOns (T : Tc s n B) (R : RdS s x F) (h5 : x 5 = Int32.ofNat c) (hc : c ≤ n) (ht : Toks F n B c) (he : tb B n c = n) (h6 : x 6 + 1 = Int32.ofNat k) (hk : k < 1000) : RRs (mX10_goOns 54) s () (xgos x B n k) F := by
  have hn : n ≤ 400 := T.choose_spec.2.1
  unfold mX10_goOns
  refine RRs.o R (RRs.get (rgis R (by decide) (by decide)) ?_)
  rw [h6]
  refine RRs.bnd (puts R (by decide) (by decide) _) fun s1 R1 o1 => ?_
  have g6 : gI 7 6 54 s1 = some (.inl (Int32.ofNat k), s1) := rgis R1 (by decide) (by decide)
  have g5 : gI 7 5 54 s1 = some (.inl (Int32.ofNat c), s1) := by
    rw [← h5]
    exact rgis R1 (by decide) (by decide)
  refine RRs.get g6 ?_
  by_cases h : k < c
  · obtain ⟨t1, t2, t3, -, -⟩ := ht k h
    refine RRs.get (v := (1 : Int32)) ?_ ?_
    · rw [if_neg (ofN_nn (by omega)), bnd_ok g6, bnd_ok g5, if_neg (nle h (by omega)), bnd_ok g6, if_neg (show ¬ (400 : Int32) ≤ Int32.ofNat k from nle (n := 400) (by omega) (by decide))]
      rfl
    · refine RRs.get (v := thing B n (tb B n k)) ?_ ?_
      · rw [if_neg (by decide), bnd_ok (rrs R1 (q := 0) (by decide)), bnd_ok g6, bnd_ok (lds R1 (q := 0) (by decide) (show k < 400 by omega)), t2]
        show some (Sum.inl (thg B n (tb B n k)), s1) = _
        unfold thing
        rw [if_pos t1]
      · refine RRs.bnd (puts R1 (by decide) (by decide) _) fun s2 R2 o2 => ?_
        rw [if_neg (by decide)]
        refine RRs.get (rrs R2 (q := 1) (by decide)) (RRs.get (rgis R2 (by decide) (by decide)) (RRs.get (lds R2 (q := 1) (by decide) (show k < 400 by omega)) ?_))
        rw [t3]
        exact RRs.bnd (puts R2 (by decide) (by decide) _) fun s3 R3 _ => RRs.ret R3
  · have hkn : tb B n k = n := tb_end he k (by omega)
    refine RRs.get (v := (0 : Int32)) ?_ ?_
    · rw [if_neg (ofN_nn (by omega)), bnd_ok g6, bnd_ok g5, if_pos ((ofN_le (by omega) (by omega)).mpr (by omega))]
      rfl
    · refine RRs.get (v := thing B n (tb B n k)) ?_ ?_
      · rw [if_pos rfl, hkn]
        unfold thing
        rw [if_neg (Nat.lt_irrefl n)]
        rfl
      · refine RRs.bnd (puts R1 (by decide) (by decide) _) fun s2 R2 o2 => ?_
        rw [if_pos rfl]
        refine RRs.get (rts R2) (RRs.get (v := Int32.ofNat n) ((T.off o1 (by decide)).off o2 (by decide)).len ?_)
        unfold xgos
        rw [hkn] at R2 ⊢
        exact RRs.bnd (puts R2 (by decide) (by decide) _) fun s3 R3 _ => RRs.ret R3
theorem wrongs (R : RdS s x F) (v : Int32) : RRs (nox (mX10_wrongs 54 v)) s 0 (xsets x 11 v) F := by
  unfold mX10_wrongs
  exact RRs.nox (RRs.o R (RRs.bnd (puts R (by decide) (by decide) _) fun s1 R1 _ => RRs.ret R1))
theorem wrongBs (R : RdS s x F) (v : Int32) : RRs (mbnd (nox (mX10_wrongs 54 v)) fun v6 => mbool v6) s 0 (xsets x 11 v) F := RRs.bnd (wrongs R v) fun s1 R1 _ => RRs.bool R1 (Or.inl rfl)
theorem wrongAts (R : RdS s x F) : RRs (mbnd (gI 7 8 54) fun v5 => mbnd (nox (mX10_wrongs 54 v5)) fun v6 => mbool v6) s 0 (xsets x 11 (x 8)) F := RRs.get (rgis R (by decide) (by decide)) (wrongBs R _)
/-- the reader stands at the token k -/
def Ats (x : Nat → Int32) (F : Nat → Nat → Int32) (n : Nat) (B : Nat → Nat) (c k : Nat) : Prop := (x 5 = Int32.ofNat c ∧ c ≤ n ∧ Toks F n B c ∧ tb B n c = n) ∧ k ≤ c + 1 ∧ x 6 = Int32.ofNat k ∧ x 7 = thing B n (tb B n k) ∧ x 8 = Int32.ofNat (tb B n k)
theorem Ats.next (A : Ats x F n B c k) (h : k ≤ c) (e : ∀ j, 5 ≤ j → j ≤ 8 → x' j = x j) : Ats (xgos x' B n (k + 1)) F n B c (k + 1) := ⟨⟨(show xgos x' B n (k + 1) 5 = x' 5 from rfl).trans ((e 5 (by decide) (by decide)).trans A.1.1), A.1.2⟩, by omega, rfl, rfl, rfl⟩
theorem Ats.keep (A : Ats x F n B c k) (e : ∀ j, 5 ≤ j → j ≤ 8 → x' j = x j) : Ats x' F n B c k := ⟨⟨(e 5 (by decide) (by decide)).trans A.1.1, A.1.2⟩, A.2.1, (e 6 (by decide) (by decide)).trans A.2.2.1, (e 7 (by decide) (by decide)).trans A.2.2.2.1, (e 8 (by decide) (by decide)).trans A.2.2.2.2⟩
theorem Ats.more (A : Ats x F n B c k) (h : tb B n k < n) : k < c := by
  by_cases q : k < c
  · exact q
  · have := tb_end A.1.2.2.2 k (by omega)
    omega
theorem gos (T : Tc s n B) (R : RdS s x F) (A : Ats x F n B c k) : RRs (nox (mX10_goOns 54)) s () (xgos x B n (k + 1)) F := by
  have hn : n ≤ 400 := T.choose_spec.2.1
  have := A.1.2.1
  have := A.2.1
  exact RRs.nox (goOns T R A.1.1 A.1.2.1 A.1.2.2.1 A.1.2.2.2 (by rw [A.2.2.1, ofN_succ]) (by omega))
theorem takeYess (T : Tc s n B) (R : RdS s x F) (A : Ats x F n B c k) {v : Int32} (h : thing B n (tb B n k) = v) : RRs (nox (mX10_takeThings 54 v)) s 1 (xgos x B n (k + 1)) F := by
  unfold mX10_takeThings
  refine RRs.nox (RRs.o R (RRs.get (rgis R (by decide) (by decide)) ?_))
  rw [if_pos (A.2.2.2.1.trans h)]
  exact RRs.bnd (gos T R A) fun s1 R1 _ => RRs.ret R1
theorem takeNos (R : RdS s x F) (A : Ats x F n B c k) {v : Int32} (h : ¬ thing B n (tb B n k) = v) : RRs (nox (mX10_takeThings 54 v)) s 0 (xsets x 11 (x 8)) F := by
  unfold mX10_takeThings
  refine RRs.nox (RRs.o R (RRs.get (rgis R (by decide) (by decide)) ?_))
  rw [if_neg (fun q => h (A.2.2.2.1.symm.trans q))]
  exact wrongAts R
theorem takeNumbers (T : Tc s n B) (R : RdS s x F) (A : Ats x F n B c k) {m : Nat} (hm : m ≤ 5) (h : Int32) : (figv B n (tb B n k) m h = -1 ∧ RRs (nox (mX10_takeNumbers 54 (Int32.ofNat m) h)) s 0 (xsets x 11 (x 8)) F) ∨ ∃ u, u < 100000 ∧ figv B n (tb B n k) m h = Int32.ofNat u ∧ Int32.ofNat u ≤ h ∧ tb B n k < n ∧ RRs (nox (mX10_takeNumbers 54 (Int32.ofNat m) h)) s 1 (xgos (xsets x 9 (Int32.ofNat u)) B n (k + 1)) F := by
  have hn : n ≤ 400 := T.choose_spec.2.1
  have hc1 := A.1.2.1
  have hk1 := A.2.1
  unfold mX10_takeNumbers
  have g7 : gI 7 7 54 s = some (.inl (thing B n (tb B n k)), s) := by
    rw [← A.2.2.2.1]
    exact rgis R (by decide) (by decide)
  have g6 : gI 7 6 54 s = some (.inl (Int32.ofNat k), s) := by
    rw [← A.2.2.1]
    exact rgis R (by decide) (by decide)
  rcases thing_num B n (tb B n k) (tb_le B n k) (fun p hp => (T.choose_spec.2.2 p hp).1) with ⟨hne, hd⟩ | ⟨he, hlt, hd, hL⟩
  · refine Or.inl ⟨if_pos hd, RRs.nox (RRs.o R (RRs.get g7 ?_))⟩
    rw [if_neg hne]
    exact wrongAts R
  · have hkc := A.more hlt
    obtain ⟨-, -, -, t4, t5⟩ := A.1.2.2.1 k hkc
    obtain ⟨r1, r2⟩ := run_next hlt hd
    obtain ⟨q1, q2, q3, q4⟩ := run_spec (pD B) (Nat.le_of_lt hlt)
    change tb B n k < dend B n (tb B n k) at r2
    change dend B n (tb B n k) ≤ n at q2
    change ∀ j, tb B n k ≤ j → j < dend B n (tb B n k) → pD B j = true at q3
    have e4 : F 2 k = Int32.ofNat (dend B n (tb B n k) - tb B n k) := by
      rw [t4]
      unfold tdig
      rw [if_neg hL, if_pos hd]
    have e5 : F 3 k = Int32.ofNat (nv B (tb B n k) (min (dend B n (tb B n k) - tb B n k) 5)) := by
      rw [t5]
      unfold tnum
      rw [if_neg hL, if_pos hd]
    have ld2 := lds R (q := 2) (by decide) (show k < 400 by omega)
    have ld3 := lds R (q := 3) (by decide) (show k < 400 by omega)
    rw [e4] at ld2
    rw [e5] at ld3
    unfold figv
    rw [if_neg (show ¬ dend B n (tb B n k) = tb B n k by omega)]
    by_cases hlen : m < dend B n (tb B n k) - tb B n k
    · refine Or.inl ⟨if_pos hlen, RRs.nox (RRs.o R (RRs.get g7 ?_))⟩
      rw [if_pos he]
      refine RRs.get g6 ?_
      rw [if_neg (ofN_nn (by omega))]
      refine RRs.get g6 ?_
      rw [if_pos (show Int32.ofNat k < (400 : Int32) from (ofN_lt (m := 400) (by omega) (by decide)).mpr (by omega))]
      refine RRs.get (rrs R (q := 2) (by decide)) (RRs.get g6 (RRs.get ld2 ?_))
      rw [if_pos ((ofN_lt (by omega) (by omega)).mpr hlen)]
      exact wrongAts R
    · rw [if_neg hlen]
      rw [Nat.min_eq_left (show dend B n (tb B n k) - tb B n k ≤ 5 by omega)] at ld3
      have lt : nv B (tb B n k) (dend B n (tb B n k) - tb B n k) < 10 ^ (dend B n (tb B n k) - tb B n k) := nv_lt B _ fun j hj => (of_decide_eq_true (q3 (tb B n k + j) (by omega) (by omega))).2
      have l5 : 10 ^ (dend B n (tb B n k) - tb B n k) ≤ 10 ^ 5 := Nat.pow_le_pow_right (by decide) (by omega)
      by_cases hh : Int32.ofNat (nv B (tb B n k) (dend B n (tb B n k) - tb B n k)) ≤ h
      · refine Or.inr ⟨nv B (tb B n k) (dend B n (tb B n k) - tb B n k), by omega, if_pos hh, hh, hlt, RRs.nox (RRs.o R (RRs.get g7 ?_))⟩
        rw [if_pos he]
        refine RRs.get g6 ?_
        rw [if_neg (ofN_nn (by omega))]
        refine RRs.get g6 ?_
        rw [if_pos (show Int32.ofNat k < (400 : Int32) from (ofN_lt (m := 400) (by omega) (by decide)).mpr (by omega))]
        refine RRs.get (rrs R (q := 2) (by decide)) (RRs.get g6 (RRs.get ld2 ?_))
        rw [if_neg (fun q => hlen ((ofN_lt (by omega) (by omega)).mp q))]
        refine RRs.get (rrs R (q := 3) (by decide)) (RRs.get g6 (RRs.get ld3 ?_))
        rw [if_pos hh]
        refine RRs.get (rrs R (q := 3) (by decide)) (RRs.get g6 (RRs.get ld3 (RRs.bnd (puts R (by decide) (by decide) _) fun s1 R1 o1 => ?_)))
        exact RRs.bnd (gos (T.off o1 (by decide)) R1 (A.keep fun j h1 h2 => if_neg (by omega))) fun s2 R2 _ => RRs.ret R2
      · refine Or.inl ⟨if_neg hh, RRs.nox (RRs.o R (RRs.get g7 ?_))⟩
        rw [if_pos he]
        refine RRs.get g6 ?_
        rw [if_neg (ofN_nn (by omega))]
        refine RRs.get g6 ?_
        rw [if_pos (show Int32.ofNat k < (400 : Int32) from (ofN_lt (m := 400) (by omega) (by decide)).mpr (by omega))]
        refine RRs.get (rrs R (q := 2) (by decide)) (RRs.get g6 (RRs.get ld2 ?_))
        rw [if_neg (fun q => hlen ((ofN_lt (by omega) (by omega)).mp q))]
        refine RRs.get (rrs R (q := 3) (by decide)) (RRs.get g6 (RRs.get ld3 ?_))
        rw [if_neg hh]
        exact wrongAts R
theorem splits (T : Tc s n B) (R : RdS s x F) : ∃ c F' x', RRs (nox (mX10_splits 54)) s () x' F' ∧ Ats x' F' n B c 0 ∧ (∀ j, 9 ≤ j → x' j = x j) ∧ ∀ q, 4 ≤ q → F' q = F q := by
  have hn : n ≤ 400 := T.choose_spec.2.1
  obtain ⟨s1, e1, R1, o1⟩ := puts R (k := 5) (by decide) (by decide) 0
  obtain ⟨c, F', ⟨s2, e2, R2, o2⟩, ht, he, hc, hF⟩ := splitLoops (B := B) (n - 0) 0 0 s1 _ F (Nat.le_refl _) (Nat.zero_le n) (T.off o1 (by decide)) R1 (Nat.le_refl 0) rfl rfl (fun j hj => absurd hj (Nat.not_lt_zero j))
  rw [xsets_two] at R2
  obtain ⟨s3, e3, R3, o3⟩ := puts R2 (k := 6) (by decide) (by decide) (-1)
  have T3 : Tc s3 n B := ((T.off o1 (by decide)).off o2 (by decide)).off o3 (by decide)
  obtain ⟨s4, e4, R4, o4⟩ := RRs.nox (goOns (k := 0) T3 R3 (c := c) rfl hc ht he (show (-1 : Int32) + 1 = Int32.ofNat 0 by decide) (by decide))
  refine ⟨c, F', _, RRs.nox ⟨s4, ?_, R4, o1.trans (o2.trans (o3.trans o4))⟩, ⟨⟨rfl, hc, ht, he⟩, by omega, rfl, rfl, rfl⟩, fun j hj => ?_, hF⟩
  · unfold mX10_splits
    rw [onC_ok R.1, bnd_ok e1, bnd_ok (show loopM (mX10_splits_L7 54) 0 s1 = _ from e2), bnd_ok e3, bnd_ok e4]
    rfl
  · unfold xgos xsets
    rw [if_neg (by omega), if_neg (by omega), if_neg (by omega), if_neg (by omega), if_neg (by omega)]
end RS
