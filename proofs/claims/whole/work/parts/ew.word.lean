/-! WORDS, SIGNS AND NUMBERS as the reference reads them -/
def wd (B : Nat → Nat) (b e : Nat) : List Nat := (List.range' b (e - b)).map B
theorem wd_cons (B : Nat → Nat) {b e : Nat} (h : b < e) : wd B b e = B b :: wd B (b + 1) e := by
  unfold wd
  rw [show e - b = (e - (b + 1)) + 1 by omega, List.range'_succ]
  rfl
theorem wd_nil (B : Nat → Nat) {b e : Nat} (h : e ≤ b) : wd B b e = [] := by
  unfold wd
  rw [show e - b = 0 by omega]
  rfl
theorem wd_len (B : Nat → Nat) (b e : Nat) : (wd B b e).length = e - b := by
  unfold wd
  rw [List.length_map, List.length_range']
/-- the letters' numbers of a text of the program -/
def isText (a : Nat) (w : List Nat) : Prop := a < 52 ∧ strB.getD a [] = w.map Int32.ofNat ∧ w.length ≤ 10 ∧ 0 < w.length ∧ ∀ c ∈ w, c < 128
theorem isText.len {a : Nat} {w : List Nat} (h : isText a w) : slen a = Int32.ofNat w.length := by
  unfold slen
  rw [h.2.1, List.length_map]
theorem isText.char {a : Nat} {w : List Nat} (h : isText a w) {k c : Nat} (hc : w[k]? = some c) (s : aS) : schar a (Int32.ofNat k) s = some (.inl (Int32.ofNat c), s) := by
  have hk : k < w.length := (List.getElem?_eq_some_iff.mp hc).1
  have hl := h.2.2.1
  unfold schar
  rw [h.2.1, ofN_cl (by omega), List.length_map, if_neg (fun q => q.elim (ofN_nn (by omega)) (fun q => by omega))]
  rw [List.getD_eq_getElem?_getD, List.getElem?_map, hc]
  rfl
def nv (B : Nat → Nat) (b : Nat) : Nat → Nat
  | 0 => 0
  | k + 1 => 10 * nv B b k + B (b + k) - 48
def figv (B : Nat → Nat) (n j m : Nat) (h : Int32) : Int32 := if dend B n j = j then -1 else if m < dend B n j - j then -1 else if Int32.ofNat (nv B j (dend B n j - j)) ≤ h then Int32.ofNat (nv B j (dend B n j - j)) else -1
section WORD
variable {s : aS} {M : MK} {n i b : Nat} {B : Nat → Nat}
theorem Byt.at (T : Byt M n B) (D : Mdl s 66 (mcur M i b)) {k : Nat} (h : k < n) : ldI 1 72 (Int32.ofNat k) s = some (.inl (sb (B k)), s) := by
  obtain ⟨t1, t2, t3⟩ := T
  have hh := ldI_ok (i := Int32.ofNat k) (D.2 6 (by decide) (by decide)) (ofN_nn (by omega)) (by rw [ofN_cl (by omega)]; show k < 400; omega)
  rw [ofN_cl (by omega)] at hh
  exact hh.trans (by rw [← (t3 k h).2]; rfl)
theorem m_word_loop (T : Byt M n B) (D : Mdl s 66 (mcur M i b)) (hi : i ≤ n) {a : Nat} {w : List Nat} (hw : isText a w) (hl : i - b = w.length) (hb : b ≤ i) : ∀ (r : List Nat) k, w.drop k = r → k + r.length = w.length → loopM (mX12_isWord_L24 66 a) (1, Int32.ofNat k) s = some (.inl (if wd B (b + k) i = r then (1 : Int32) else 0), s) := by
  have hl10 := hw.2.2.1
  have hn := T.2.1
  intro r
  induction r with
  | nil =>
    intro k hk hs
    rw [loopM_eq]
    have e : mX12_isWord_L24 66 a (1, Int32.ofNat k) s = some (.inl (.inr 1), s) := by
      unfold mX12_isWord_L24
      rw [if_neg (show ¬ (1 : Int32) = 0 by decide), hw.len, if_pos ((ofN_le (by omega) (by omega)).mpr (by simp only [List.length_nil] at hs; omega))]
      rfl
    rw [bnd_ok e, wd_nil B (by simp only [List.length_nil] at hs; omega), if_pos rfl]
    rfl
  | cons c r ih =>
    intro k hk hs
    simp only [List.length_cons] at hs
    have hkl : k < w.length := by omega
    have hc : w[k]? = some c := by
      rw [← List.head?_drop, hk]
      rfl
    have hr : w.drop (k + 1) = r := by
      rw [← List.drop_drop, hk]
      rfl
    have hc128 : c < 128 := hw.2.2.2.2 c (List.mem_of_getElem? hc)
    have hB := (T.2.2 (b + k) (by omega)).1
    rw [loopM_eq]
    have e : mX12_isWord_L24 66 a (1, Int32.ofNat k) s = some (.inl (.inl ((if B (b + k) = c then (1 : Int32) else 0), Int32.ofNat (k + 1))), s) := by
      unfold mX12_isWord_L24
      have ld := T.at D (k := b + k) (by omega)
      rw [← ofN_add] at ld
      rw [if_neg (show ¬ (1 : Int32) = 0 by decide), hw.len, if_neg (show ¬ Int32.ofNat w.length ≤ Int32.ofNat k from nle hkl (by omega)), bnd_ok (gR_ok D.1 (show _ = some (Value.ref 72) from rfl)), bnd_ok (gI_ok D.1 (show _ = some (Value.int (Int32.ofNat b)) from rfl)), bnd_ok ld, bnd_ok (hw.char hc s)]
      by_cases h : B (b + k) = c
      · rw [if_pos ((sb_eq hB hc128).mpr h), if_pos h]
        show some (Sum.inl (Sum.inl ((1 : Int32), Int32.ofNat k + 1)), s) = _
        rw [ofN_succ]
      · rw [if_neg (fun q => h ((sb_eq hB hc128).mp q)), if_neg h]
        show some (Sum.inl (Sum.inl ((0 : Int32), Int32.ofNat k + 1)), s) = _
        rw [ofN_succ]
    rw [bnd_ok e, wd_cons B (show b + k < i by omega)]
    by_cases h : B (b + k) = c
    · show loopM (mX12_isWord_L24 66 a) ((if B (b + k) = c then (1 : Int32) else 0), Int32.ofNat (k + 1)) s = _
      rw [if_pos h, ih (k + 1) hr (by omega)]
      by_cases h2 : wd B (b + (k + 1)) i = r
      · rw [if_pos h2, if_pos (by rw [h, ← h2]; rfl)]
      · rw [if_neg h2, if_neg (show ¬ B (b + k) :: wd B (b + k + 1) i = c :: r from fun q => h2 (List.cons.inj q).2)]
    · show loopM (mX12_isWord_L24 66 a) ((if B (b + k) = c then (1 : Int32) else 0), Int32.ofNat (k + 1)) s = _
      rw [if_neg h, if_neg (fun q => h (List.cons.inj q).1), loopM_eq]
      have e0 : mX12_isWord_L24 66 a (0, Int32.ofNat (k + 1)) s = some (.inl (.inr 0), s) := by
        unfold mX12_isWord_L24
        rw [if_pos rfl]
        rfl
      rw [bnd_ok e0]
      rfl
theorem m_isWord (T : Byt M n B) (D : Mdl s 66 (mcur M i b)) (hi : i ≤ n) (hb : b ≤ i) {a : Nat} {w : List Nat} (hw : isText a w) : mX12_isWord 66 a s = some (.inl (if wd B b i = w then (1 : Int32) else 0), s) := by
  have hl10 := hw.2.2.1
  have hn := T.2.1
  unfold mX12_isWord
  rw [onC_ok D.1]
  show (if a < 52 then mbnd (gI 11 10 66) _ s else none) = _
  rw [if_pos hw.1, bnd_ok (gI_ok D.1 (show _ = some (Value.int (Int32.ofNat i)) from rfl)), bnd_ok (gI_ok D.1 (show _ = some (Value.int (Int32.ofNat b)) from rfl)), ofN_sub hb, hw.len]
  by_cases hl : i - b = w.length
  · rw [if_pos (by rw [hl])]
    show mbnd (loopM (mX12_isWord_L24 66 a) (1, Int32.ofNat 0)) _ s = _
    rw [bnd_ok (m_word_loop T D hi hw hl hb w 0 rfl (Nat.zero_add _))]
    show mbool (if wd B b i = w then (1 : Int32) else 0) s = _
    split <;> rfl
  · have hl' : ¬ wd B b i = w := fun q => hl (by rw [← q, wd_len])
    rw [if_neg (fun q => hl (by rwa [ofN_inj (by omega) (by omega)] at q)), if_neg hl']
    have e0 : loopM (mX12_isWord_L24 66 a) (0, 0) s = some (.inl 0, s) := by
      rw [loopM_eq]
      have e0 : mX12_isWord_L24 66 a (0, 0) s = some (.inl (.inr 0), s) := by
        unfold mX12_isWord_L24
        rw [if_pos rfl]
        rfl
      rw [bnd_ok e0]
      rfl
    show mbnd (loopM (mX12_isWord_L24 66 a) (0, 0)) _ s = _
    rw [bnd_ok e0]
    rfl
theorem m_sign (T : Byt M n B) (D : Mdl s 66 (mcur M i b)) (hi : i ≤ n) {c : Nat} (hc : c < 128) : MRun (mX12_sign 66 (Int32.ofNat c)) s 66 (if nxt B n i < n ∧ B (nxt B n i) = c then (1 : Int32) else 0) (mcur M (if nxt B n i < n ∧ B (nxt B n i) = c then nxt B n i + 1 else nxt B n i) (nxt B n i)) := by
  unfold mX12_sign
  have h2 := (run_spec (pB B) hi).2.1
  refine MRun.onC D (MRun.bnd (m_blanks T D hi) fun s1 D1 => ?_)
  have is := m_isAt T D1 h2 hc hc
  by_cases h : nxt B n i < n ∧ B (nxt B n i) = c
  · rw [if_pos ⟨h.1, by omega, by omega⟩] at is
    rw [if_pos h, if_pos h]
    refine MRun.get is ?_
    rw [if_neg (by decide)]
    refine MRun.get (gI_ok D1.1 rfl) ?_
    show MRun (mbnd (pI 11 10 66 (Int32.ofNat (nxt B n i) + 1)) fun _ => mret 1) s1 66 1 _
    rw [ofN_succ]
    refine MRun.bnd (mint_run D1 rfl) fun s2 D2 => ?_
    rw [mcur_p] at D2
    exact MRun.ret D2
  · rw [if_neg (fun q => h ⟨q.1, by omega⟩)] at is
    rw [if_neg h, if_neg h]
    refine MRun.get is ?_
    rw [if_pos rfl]
    exact MRun.ret D1
theorem m_isFigure (T : Byt M n B) (D : Mdl s 66 (mcur M i b)) (hi : i ≤ n) : MRun (mX12_isFigure 66) s 66 (if nxt B n i < n ∧ pD B (nxt B n i) = true then (1 : Int32) else 0) (mcur M (nxt B n i) (nxt B n i)) := by
  unfold mX12_isFigure
  have h2 := (run_spec (pB B) hi).2.1
  refine MRun.onC D (MRun.bnd (m_blanks T D hi) fun s1 D1 => ?_)
  have is := m_isAt T D1 h2 (lo := 48) (hi' := 57) (by decide) (by decide)
  by_cases h : nxt B n i < n ∧ pD B (nxt B n i) = true
  · have h' := of_decide_eq_true h.2
    rw [if_pos ⟨h.1, h'.1, h'.2⟩] at is
    rw [if_pos h]
    exact MRun.get is (MRun.ret D1)
  · rw [if_neg (fun q => h ⟨q.1, decide_eq_true q.2⟩)] at is
    rw [if_neg h]
    exact MRun.get is (MRun.ret D1)
theorem m_passes (T : Byt M n B) (D : Mdl s 66 (mcur M i b)) (hi : i ≤ n) {a : Nat} {w : List Nat} (hw : isText a w) : MRun (mX12_passes 66 a) s 66 (if wd B (nxt B n i) (wend B n (nxt B n i)) = w then (1 : Int32) else 0) (mcur M (if wd B (nxt B n i) (wend B n (nxt B n i)) = w then wend B n (nxt B n i) else nxt B n i) (nxt B n i)) := by
  have h2 := (run_spec (pB B) hi).2.1
  have h3 := run_spec (pL B) h2
  unfold mX12_passes
  refine MRun.onC D ?_
  obtain ⟨s1, e1, D1, o1⟩ := m_letters T D hi
  have iw := m_isWord T D1 h3.2.1 h3.1 hw
  by_cases h : wd B (nxt B n i) (wend B n (nxt B n i)) = w
  · rw [if_pos h] at iw
    rw [if_pos h, if_pos h]
    refine ⟨s1, ?_, D1, o1⟩
    show (if a < 52 then mbnd (mX12_letters 66) _ s else none) = _
    rw [if_pos hw.1, bnd_ok e1, bnd_ok iw, if_neg (by decide)]
    rfl
  · rw [if_neg h] at iw
    rw [if_neg h, if_neg h]
    have R : MRun (mbnd (gI 11 12 66) fun (v3 : Int32) => mbnd (pI 11 10 66 v3) fun _ => mret (0 : Int32)) s1 66 0 (mcur M (nxt B n i) (nxt B n i)) := by
      refine MRun.get (gI_ok D1.1 rfl) (MRun.bnd (mint_run D1 rfl) fun s2 D2 => ?_)
      have D2' : Mdl s2 66 (mint (mcur M (wend B n (nxt B n i)) (nxt B n i)) 10 (Int32.ofNat (nxt B n i))) := D2
      rw [mcur_p] at D2'
      exact MRun.ret D2'
    obtain ⟨s2, e2, D2, o2⟩ := R
    refine ⟨s2, ?_, D2, o1.trans o2⟩
    show (if a < 52 then mbnd (mX12_letters 66) _ s else none) = _
    rw [if_pos hw.1, bnd_ok e1, bnd_ok iw, if_pos rfl]
    exact e2
theorem nv_step (B : Nat → Nat) {b k x : Nat} (hx : B (b + k) = x) (h : 48 ≤ x) : ((10 : Int32) * Int32.ofNat (nv B b k) + Int32.ofNat x) - 48 = Int32.ofNat (nv B b (k + 1)) := by
  subst hx
  show Int32.ofNat 10 * Int32.ofNat (nv B b k) + Int32.ofNat (B (b + k)) - Int32.ofNat 48 = _
  rw [← Int32.ofNat_mul, ofN_add, ofN_sub (by omega)]
  rfl
theorem nv_lt (B : Nat → Nat) {b : Nat} : ∀ k, (∀ j, j < k → B (b + j) ≤ 57) → nv B b k < 10 ^ k := by
  intro k
  induction k with
  | zero => exact fun _ => Nat.zero_lt_one
  | succ k ih =>
    intro h
    have h1 := ih fun j hj => h j (by omega)
    have h2 := h k (by omega)
    show 10 * nv B b k + B (b + k) - 48 < 10 ^ (k + 1)
    rw [Nat.pow_succ]
    omega
theorem m_figures (T : Byt M n B) (D : Mdl s 66 (mcur M i b)) (hi : i ≤ n) {m : Nat} (hm : m ≤ 5) (h : Int32) : MRun (mX12_figures 66 0 h (Int32.ofNat m)) s 66 (figv B n (nxt B n i) m h) (mcur M (dend B n (nxt B n i)) (nxt B n i)) := by
  have h2 := (run_spec (pB B) hi).2.1
  obtain ⟨r1, r2, r3, r4⟩ := run_spec (pD B) h2
  have hn := T.2.1
  unfold mX12_figures figv
  refine MRun.onC D (MRun.bnd (m_blanks T D hi) fun s1 D1 => ?_)
  have hj : nxt B n i ≤ n := h2
  change nxt B n i ≤ dend B n (nxt B n i) at r1
  change dend B n (nxt B n i) ≤ n at r2
  change ∀ k, nxt B n i ≤ k → k < dend B n (nxt B n i) → pD B k = true at r3
  change dend B n (nxt B n i) < n → pD B (dend B n (nxt B n i)) = false at r4
  generalize dend B n (nxt B n i) = e at r1 r2 r3 r4 ⊢
  generalize nxt B n i = j at r1 r2 r3 r4 D1 hj ⊢
  have lp : MRun (loopM (mX12_figures_L7 66 (Int32.ofNat m)) 0) s1 66 (Int32.ofNat (nv B j (min (e - j) m))) (mcur M e j) := by
    have D0 : Mdl s1 66 ((fun k => mcur M (j + k) j) 0) := D1
    have key := MRun.loop (f := mX12_figures_L7 66 (Int32.ofNat m)) (e := Int32.ofNat (nv B j (min (e - j) m))) (M' := mcur M e j) (e - j) (fun k => Int32.ofNat (nv B j (min k m))) (fun k => mcur M (j + k) j) (fun k s' hk D' => ?_) (fun s' D' => ?_) D0
    · rw [Nat.zero_min] at key
      exact key
    · have c := of_decide_eq_true (r3 (j + k) (by omega) (by omega))
      have D' : Mdl s' 66 (mcur M (j + k) j) := D'
      have is := m_isAt T D' (by omega) (lo := 48) (hi' := 57) (by decide) (by decide)
      rw [if_pos ⟨by omega, c.1, c.2⟩] at is
      unfold mX12_figures_L7
      refine MRun.get is ?_
      rw [if_neg (by decide)]
      refine MRun.get (gI_ok D'.1 (show _ = some (Value.int (Int32.ofNat (j + k))) from rfl)) (MRun.get (gI_ok D'.1 (show _ = some (Value.int (Int32.ofNat j)) from rfl)) ?_)
      rw [ofN_sub (show j ≤ j + k by omega), Nat.add_sub_cancel_left]
      refine MRun.get (x := Int32.ofNat (nv B j (min (k + 1) m))) ?_ (MRun.get (gI_ok D'.1 (show _ = some (Value.int (Int32.ofNat (j + k))) from rfl)) ?_)
      · by_cases hk2 : m ≤ k
        · rw [if_pos ((ofN_le (by omega) (by omega)).mpr hk2), Nat.min_eq_right hk2, Nat.min_eq_right (by omega)]
          rfl
        · rw [if_neg (fun q => hk2 ((ofN_le (by omega) (by omega)).mp q)), Nat.min_eq_left (by omega), Nat.min_eq_left (by omega), bnd_ok (gR_ok D'.1 (show _ = some (Value.ref 72) from rfl)), bnd_ok (gI_ok D'.1 (show _ = some (Value.int (Int32.ofNat (j + k))) from rfl)), bnd_ok (T.at D' (by omega))]
          show some (Sum.inl (((10 : Int32) * Int32.ofNat (nv B j k) + sb (B (j + k))) - 48), s') = _
          rw [(sb_eq (T.2.2 (j + k) (by omega)).1 (show B (j + k) < 128 by omega)).mpr rfl, nv_step B rfl c.1]
      · rw [ofN_succ]
        refine MRun.bnd (mint_run D' rfl) fun s2 D2 => ?_
        rw [mcur_p] at D2
        exact MRun.ret D2
    · rw [show j + (e - j) = e by omega] at D'
      have D' : Mdl s' 66 (mcur M e j) := D'
      have is := m_isAt T D' r2 (lo := 48) (hi' := 57) (by decide) (by decide)
      rw [if_neg (fun q => of_decide_eq_false (r4 q.1) q.2)] at is
      unfold mX12_figures_L7
      refine MRun.get is ?_
      rw [if_pos rfl]
      exact MRun.ret D'
  refine MRun.bnd lp fun s2 D2 => ?_
  have g10 : gI 11 10 66 s2 = some (.inl (Int32.ofNat e), s2) := gI_ok D2.1 rfl
  have g12 : gI 11 12 66 s2 = some (.inl (Int32.ofNat j), s2) := gI_ok D2.1 rfl
  refine MRun.get g10 (MRun.get g12 ?_)
  by_cases he : e = j
  · rw [if_pos (by rw [he]), if_pos he]
    exact MRun.ret D2
  · rw [if_neg (fun q => he (by rwa [ofN_inj (by omega) (by omega)] at q)), if_neg he]
    refine MRun.get g10 (MRun.get g12 ?_)
    rw [ofN_sub r1]
    by_cases hm2 : m < e - j
    · rw [if_pos ((ofN_lt (by omega) (by omega)).mpr hm2), if_pos hm2]
      exact MRun.ret D2
    · rw [if_neg (fun q => hm2 ((ofN_lt (by omega) (by omega)).mp q)), if_neg hm2, Nat.min_eq_left (by omega)]
      have lt : nv B j (e - j) < 10 ^ (e - j) := nv_lt B _ fun k hk => (of_decide_eq_true (r3 (j + k) (by omega) (by omega))).2
      have l5 : 10 ^ (e - j) ≤ 10 ^ 5 := Nat.pow_le_pow_right (by decide) (by omega)
      rw [if_neg (show ¬ Int32.ofNat (nv B j (e - j)) < 0 from ofN_nn (by omega))]
      split
      · exact MRun.ret D2
      · exact MRun.ret D2
theorem m_number (T : Byt M n B) (D : Mdl s 66 (mcur M i b)) (hi : i ≤ n) (h : Int32) : MRun (mX12_number 66 0 h) s 66 (figv B n (nxt B n i) 4 h) (mcur M (dend B n (nxt B n i)) (nxt B n i)) := by
  unfold mX12_number
  exact MRun.onC D (MRun.bnd (m_figures T D hi (m := 4) (by decide) h) fun s1 D1 => MRun.ret D1)
end WORD
