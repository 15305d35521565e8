/-! THE LINE part of the shop's text -/
section PLW
variable {s : aS} {M : MK} {n i b k p : Nat} {B : Nat → Nat}
theorem wl_ne : ∀ w ∈ wl, w ≠ [] := by decide +kernel
theorem word_thing (hp : p ≤ n) (hb : ∀ q, q < n → B q < 256) {j : Nat} {w : List Nat} (h : wl[j]? = some w) : thing B n p = Int32.ofNat (300 + j) ↔ wd B p (wend B n p) = w := by
  have hj : j < 25 := (List.getElem?_eq_some_iff.mp h).1
  have hne : w ≠ [] := wl_ne w (List.mem_of_getElem? h)
  unfold thing
  by_cases hpn : p < n
  · rw [if_pos hpn]
    unfold thg
    by_cases hl : pL B p = true
    · rw [if_pos hl, ofN_inj (by have := wcode_lt (wd B p (wend B n p)); omega) (by omega)]
      exact wcode_at _ h
    · have e : wend B n p = p := run_stop hp fun _ => by
        cases q : pL B p with
        | true => exact absurd q hl
        | false => rfl
      rw [if_neg hl, e, wd_nil B (Nat.le_refl p)]
      refine ⟨fun q => ?_, fun q => absurd q.symm hne⟩
      by_cases hd : pD B p = true
      · rw [if_pos hd] at q
        have q' : Int32.ofNat 256 = Int32.ofNat (300 + j) := q
        rw [ofN_inj (by decide) (by omega)] at q'
        omega
      · rw [if_neg hd, ofN_inj (by have := hb p hpn; omega) (by omega)] at q
        have := hb p hpn
        omega
  · have e : wend B n p = p := run_stop hp fun q => absurd q hpn
    rw [if_neg hpn, e, wd_nil B (Nat.le_refl p)]
    refine ⟨fun q => ?_, fun q => absurd q.symm hne⟩
    have := congrArg Int32.toInt q
    rw [ofN_toInt (by omega)] at this
    have e : (-1 : Int32).toInt = -1 := rfl
    omega
theorem word_next (hb : ∀ q, q < n → B q < 256) {j : Nat} (h : thing B n (tb B n k) = Int32.ofNat (300 + j)) (hj : j < 25) : tb B n k < n ∧ nxt B n (wend B n (tb B n k)) = tb B n (k + 1) ∧ wend B n (tb B n k) ≤ n ∧ thing B n (tb B n k) = Int32.ofNat (300 + j) := by
  have hp := tb_le B n k
  have hlt : tb B n k < n := by
    by_cases q : tb B n k < n
    · exact q
    · unfold thing at h
      rw [if_neg q] at h
      have := congrArg Int32.toInt h
      rw [ofN_toInt (by omega)] at this
      have e : (-1 : Int32).toInt = -1 := rfl
      omega
  have hl : pL B (tb B n k) = true := by
    by_cases q : pL B (tb B n k) = true
    · exact q
    · unfold thing thg at h
      rw [if_pos hlt, if_neg q] at h
      by_cases hd : pD B (tb B n k) = true
      · rw [if_pos hd] at h
        have q' : Int32.ofNat 256 = Int32.ofNat (300 + j) := h
        rw [ofN_inj (by decide) (by omega)] at q'
        omega
      · rw [if_neg hd, ofN_inj (by have := hb _ hlt; omega) (by omega)] at h
        have := hb _ hlt
        omega
  refine ⟨hlt, ?_, (run_spec (pL B) hp).2.1, h⟩
  show _ = (if tb B n k < n then nxt B n (tend B n (tb B n k)) else n)
  rw [if_pos hlt]
  unfold tend
  rw [if_pos hl]
theorem tx_handle : isText 28 [104, 97, 110, 100, 108, 101] := ⟨by decide, by decide, by decide, by decide, by decide⟩
theorem tx_head : isText 29 [104, 101, 97, 100] := ⟨by decide, by decide, by decide, by decide, by decide⟩
theorem tx_joint : isText 30 [106, 111, 105, 110, 116] := ⟨by decide, by decide, by decide, by decide, by decide⟩
theorem tx_edge : isText 31 [101, 100, 103, 101] := ⟨by decide, by decide, by decide, by decide, by decide⟩
theorem tx_wear : isText 32 [119, 101, 97, 114] := ⟨by decide, by decide, by decide, by decide, by decide⟩
theorem thing_lt (hb : ∀ q, q < n → B q < 256) (p : Nat) : thing B n p = -1 ∨ ∃ v, v < 325 ∧ thing B n p = Int32.ofNat v := by
  unfold thing
  by_cases h : p < n
  · rw [if_pos h]
    unfold thg
    by_cases hl : pL B p = true
    · rw [if_pos hl]
      exact Or.inr ⟨_, by have := wcode_lt (wd B p (wend B n p)); omega, rfl⟩
    · rw [if_neg hl]
      by_cases hd : pD B p = true
      · rw [if_pos hd]
        exact Or.inr ⟨256, by decide, rfl⟩
      · rw [if_neg hd]
        exact Or.inr ⟨B p, by have := hb p h; omega, rfl⟩
  · rw [if_neg h]
    exact Or.inl rfl
theorem sort_cases (hp : p ≤ n) (hb : ∀ q, q < n → B q < 256) : (∃ j, j < 3 ∧ thing B n p = Int32.ofNat (300 + j) ∧ ∀ s M, Byt M n B → Mdl s 66 (mcur M (wend B n p) p) → mX12_sortTold 66 s = some (.inl (Int32.ofNat j), s)) ∨ ((∀ j, j < 3 → ¬ thing B n p = Int32.ofNat (300 + j)) ∧ (thing B n p - 300 < 0 ∨ ¬ thing B n p - 300 < 3) ∧ ∀ s M, Byt M n B → Mdl s 66 (mcur M (wend B n p) p) → mX12_sortTold 66 s = some (.inl (-1), s)) := by
  have w0 := word_thing (j := 0) hp hb rfl
  have w1 := word_thing (j := 1) hp hb rfl
  have w2 := word_thing (j := 2) hp hb rfl
  have r := run_spec (pL B) hp
  by_cases h0 : thing B n p = Int32.ofNat (300 + 0)
  · refine Or.inl ⟨0, by decide, h0, fun s M TB D => ?_⟩
    have e := m_isWord TB D r.2.1 r.1 tx_handle
    rw [if_pos (w0.mp h0)] at e
    unfold mX12_sortTold
    rw [onC_ok D.1, bnd_ok e, if_neg (by decide)]
    rfl
  · have e0 : ∀ {s M}, Byt M n B → Mdl s 66 (mcur M (wend B n p) p) → mX12_isWord 66 28 s = some (.inl 0, s) := fun TB D => by
      have e := m_isWord TB D r.2.1 r.1 tx_handle
      rwa [if_neg (fun q => h0 (w0.mpr q))] at e
    by_cases h1 : thing B n p = Int32.ofNat (300 + 1)
    · refine Or.inl ⟨1, by decide, h1, fun s M TB D => ?_⟩
      have e := m_isWord TB D r.2.1 r.1 tx_head
      rw [if_pos (w1.mp h1)] at e
      unfold mX12_sortTold
      rw [onC_ok D.1, bnd_ok (e0 TB D), if_pos rfl, bnd_ok e, if_neg (by decide)]
      rfl
    · have e1 : ∀ {s M}, Byt M n B → Mdl s 66 (mcur M (wend B n p) p) → mX12_isWord 66 29 s = some (.inl 0, s) := fun TB D => by
        have e := m_isWord TB D r.2.1 r.1 tx_head
        rwa [if_neg (fun q => h1 (w1.mpr q))] at e
      by_cases h2 : thing B n p = Int32.ofNat (300 + 2)
      · refine Or.inl ⟨2, by decide, h2, fun s M TB D => ?_⟩
        have e := m_isWord TB D r.2.1 r.1 tx_joint
        rw [if_pos (w2.mp h2)] at e
        unfold mX12_sortTold
        rw [onC_ok D.1, bnd_ok (e0 TB D), if_pos rfl, bnd_ok (e1 TB D), if_pos rfl, bnd_ok e, if_neg (by decide)]
        rfl
      · refine Or.inr ⟨fun j hj => ?_, ?_, fun s M TB D => ?_⟩
        · have hj' : j = 0 ∨ j = 1 ∨ j = 2 := by omega
          rcases hj' with rfl | rfl | rfl
          · exact h0
          · exact h1
          · exact h2
        · rcases thing_lt hb p with hm | ⟨v, hv, hm⟩
          · rw [hm]
            exact Or.inl (by decide)
          · rw [hm] at h0 h1 h2 ⊢
            rw [ofN_inj (by omega) (by decide)] at h0 h1 h2
            by_cases hlt : v < 300
            · refine Or.inl ?_
              have key : ∀ v : Fin 300, Int32.ofNat v.1 - 300 < 0 := by decide +kernel
              exact key ⟨v, hlt⟩
            · refine Or.inr ?_
              rw [show Int32.ofNat v - 300 = Int32.ofNat (v - 300) from ofN_sub (m := 300) (by omega)]
              intro q
              have := (ofN_lt (m := 3) (by omega) (by decide)).mp q
              omega
        · have e := m_isWord TB D r.2.1 r.1 tx_joint
          rw [if_neg (fun q => h2 (w2.mpr q))] at e
          unfold mX12_sortTold
          rw [onC_ok D.1, bnd_ok (e0 TB D), if_pos rfl, bnd_ok (e1 TB D), if_pos rfl, bnd_ok e, if_pos rfl]
          rfl
theorem m_after_no (TB : Byt M n B) (D : Mdl s 66 (mcur M i b)) (hi : i ≤ n) (hk : nxt B n i = tb B n k) {a : Nat} {w : List Nat} (hw : isText a w) (h : Int32) (hne : ¬ wd B (tb B n k) (wend B n (tb B n k)) = w) : MRun (mX12_after 66 a 0 h) s 66 (-1) (mcur M (wend B n (tb B n k)) (tb B n k)) := by
  have r := run_spec (pL B) (tb_le B n k)
  obtain ⟨s1, e1, D1, o1⟩ := m_letters TB D hi
  rw [hk] at D1
  have e := m_isWord TB D1 r.2.1 r.1 hw
  rw [if_neg hne] at e
  refine ⟨s1, ?_, D1, o1⟩
  unfold mX12_after
  rw [onC_ok D.1]
  show (if a < 52 then mbnd (mX12_letters 66) _ s else none) = _
  rw [if_pos hw.1, bnd_ok e1, bnd_ok e, if_pos rfl]
  rfl
theorem m_after_yes (TB : Byt M n B) (D : Mdl s 66 (mcur M i b)) (hi : i ≤ n) (hk : nxt B n i = tb B n k) {a : Nat} {w : List Nat} (hw : isText a w) {h v : Int32} {M' : MK} (he : wd B (tb B n k) (wend B n (tb B n k)) = w) (g : ∀ s1, Mdl s1 66 (mcur M (wend B n (tb B n k)) (tb B n k)) → MRun (mX12_number 66 0 h) s1 66 v M') : MRun (mX12_after 66 a 0 h) s 66 v M' := by
  have r := run_spec (pL B) (tb_le B n k)
  obtain ⟨s1, e1, D1, o1⟩ := m_letters TB D hi
  rw [hk] at D1
  have e := m_isWord TB D1 r.2.1 r.1 hw
  rw [if_pos he] at e
  obtain ⟨s2, e2, D2, o2⟩ := g s1 D1
  refine ⟨s2, ?_, D2, o1.trans o2⟩
  unfold mX12_after
  rw [onC_ok D.1]
  show (if a < 52 then mbnd (mX12_letters 66) _ s else none) = _
  rw [if_pos hw.1, bnd_ok e1, bnd_ok e, if_neg (by decide), bnd_ok e2]
  rfl
end PLW
section PLN
variable {sc sm : aS} {x : Nat → Int32} {F : Nat → Nat → Int32} {K : CK} {M : MK} {W : Nat → Int32} {n k c0 c i b : Nat} {B : Nat → Nat}
/-- eight noughts from a place on -/
def zr (W : Nat → Int32) (a j : Nat) : Nat → Int32 := fun q => if a ≤ q ∧ q < a + j then 0 else W q
theorem zr_step (W : Nat → Int32) (a j : Nat) : upd (zr W a j) (a + j) 0 = zr W a (j + 1) := funext fun q => by
  show (if q = a + j then 0 else if a ≤ q ∧ q < a + j then 0 else W q) = (if a ≤ q ∧ q < a + (j + 1) then 0 else W q)
  by_cases h : q = a + j
  · rw [if_pos h, if_pos (by omega)]
  · rw [if_neg h]
    by_cases h2 : a ≤ q ∧ q < a + j
    · rw [if_pos h2, if_pos (by omega)]
    · rw [if_neg h2, if_neg (by omega)]
theorem zr_none (W : Nat → Int32) (a : Nat) : zr W a 0 = W := funext fun q => if_neg (by omega)
theorem m_zero (D : Mdl sm 66 (mcur (mw M W) i b)) {r : Nat} (hr : r < 16) : MRun (loopM (mX12_readPart_L69 66 (Int32.ofNat r)) 0) sm 66 () (mcur (mw M (zr W (13 + 8 * r) 8)) i b) := by
  have D0 : Mdl sm 66 ((fun j => mcur (mw M (zr W (13 + 8 * r) j)) i b) 0) := by
    show Mdl sm 66 (mcur (mw M (zr W (13 + 8 * r) 0)) i b)
    rw [zr_none]
    exact D
  refine MRun.loop 8 (fun j => Int32.ofNat j) (fun j => mcur (mw M (zr W (13 + 8 * r) j)) i b) (fun j s' hj D' => ?_) (fun s' D' => ?_) D0
  · have D' : Mdl s' 66 (mcur (mw M (zr W (13 + 8 * r) j)) i b) := D'
    unfold mX12_readPart_L69
    rw [if_neg (show ¬ (8 : Int32) ≤ Int32.ofNat j from nle (n := 8) hj (by decide))]
    refine MRun.get (w_ref D') (MRun.get (m_partAt r j s') (MRun.bnd (w_put D' (by omega) 0) fun s2 D2 => ?_))
    rw [zr_step] at D2
    rw [ofN_succ]
    exact MRun.ret D2
  · unfold mX12_readPart_L69
    rw [if_pos (show (8 : Int32) ≤ Int32.ofNat 8 by decide)]
    exact MRun.ret D'
theorem updn (W : Nat → Int32) {i j : Nat} (v : Int32) (h : j ≠ i) : upd W i v j = W j := if_neg h
theorem updp (W : Nat → Int32) (i : Nat) (v : Int32) : upd W i v i = v := if_pos rfl
def wpart (W : Nat → Int32) (r : Nat) (a e w : Int32) : Nat → Int32 := upd (upd (upd (upd (upd (zr W (13 + 8 * r) 8) (13 + 8 * r + 0) a) (13 + 8 * r + 1) e) (13 + 8 * r + 2) w) (13 + 8 * r + 6) (-1)) 0 (Int32.ofNat (r + 1))
def kpart (K : CK) (a e w : Int32) : CK := kput (kput (kput (kput (krows K 0 (K.1 0 + 1) (fillR 8 (K.1 0) (K.2.1 0) 0 8)) 0 (Int32.ofNat (K.1 0)) (Int32.ofNat 0) a) 0 (Int32.ofNat (K.1 0)) (Int32.ofNat 1) e) 0 (Int32.ofNat (K.1 0)) (Int32.ofNat 2) w) 0 (Int32.ofNat (K.1 0)) (Int32.ofNat 6) (-1)
theorem Hld.part (H : Hld K W c) (h16 : K.1 0 < 16) {a e w : Int32} (ha : isN a 2) (he : isN e 9) (hw : isN w 99) : Hld (kpart K a e w) (wpart W (K.1 0) a e w) c := by
  obtain ⟨S, hk, hW⟩ := H
  have hk1 : kOk (krows K 0 (K.1 0 + 1) (fillR 8 (K.1 0) (K.2.1 0) 0 8)) := fun t ht => by
    show (if t = 0 then K.1 0 + 1 else K.1 t) ≤ tM t
    by_cases q : t = 0
    · rw [if_pos q, q]
      exact h16
    · rw [if_neg q]
      exact hk t ht
  have S1 : Sm (krows K 0 (K.1 0 + 1) (fillR 8 (K.1 0) (K.2.1 0) 0 8)) (upd (zr W (13 + 8 * K.1 0) 8) 0 (Int32.ofNat (K.1 0 + 1))) := S.newpart hk h16 0 (fun j h1 h2 => (if_neg h1).trans (if_neg (by omega))) (fun j hj => (if_neg (by omega)).trans (if_pos (by omega))) (if_pos rfl)
  have lt : K.1 0 < (krows K 0 (K.1 0 + 1) (fillR 8 (K.1 0) (K.2.1 0) 0 8)).1 0 := Nat.lt_succ_self _
  have S2 := (((S1.pput hk1 lt (k := 0) (by decide) a).pput hk1 lt (k := 1) (by decide) e).pput hk1 lt (k := 2) (by decide) w).pput hk1 lt (k := 6) (by decide) (-1)
  have ew : wpart W (K.1 0) a e w = upd (upd (upd (upd (upd (zr W (13 + 8 * K.1 0) 8) 0 (Int32.ofNat (K.1 0 + 1))) (13 + 8 * K.1 0 + 0) a) (13 + 8 * K.1 0 + 1) e) (13 + 8 * K.1 0 + 2) w) (13 + 8 * K.1 0 + 6) (-1) := by
    unfold wpart
    rw [upd_comm _ (show 13 + 8 * K.1 0 + 6 ≠ 0 by omega), upd_comm _ (show 13 + 8 * K.1 0 + 2 ≠ 0 by omega), upd_comm _ (show 13 + 8 * K.1 0 + 1 ≠ 0 by omega), upd_comm _ (show 13 + 8 * K.1 0 + 0 ≠ 0 by omega)]
  have o : ∀ j, j ≠ 0 → j < 13 + 8 * K.1 0 ∨ 13 + 8 * K.1 0 + 8 ≤ j → wpart W (K.1 0) a e w j = W j := fun j h1 h2 => (if_neg h1).trans ((if_neg (by omega)).trans ((if_neg (by omega)).trans ((if_neg (by omega)).trans ((if_neg (by omega)).trans (if_neg (by omega))))))
  have z : ∀ q, q = 3 ∨ q = 4 ∨ q = 5 → wpart W (K.1 0) a e w (13 + 8 * K.1 0 + q) = 0 := fun q hq => (if_neg (by omega)).trans ((if_neg (by omega)).trans ((if_neg (by omega)).trans ((if_neg (by omega)).trans ((if_neg (by omega)).trans (if_pos (by omega))))))
  have e0 : wpart W (K.1 0) a e w (13 + 8 * K.1 0) = a := (if_neg (by omega)).trans ((if_neg (by omega)).trans ((if_neg (by omega)).trans ((if_neg (by omega)).trans (if_pos rfl))))
  have e1 : wpart W (K.1 0) a e w (13 + 8 * K.1 0 + 1) = e := (updn _ _ (by omega)).trans ((updn _ _ (by omega)).trans ((updn _ _ (by omega)).trans (updp _ _ _)))
  have e2 : wpart W (K.1 0) a e w (13 + 8 * K.1 0 + 2) = w := (updn _ _ (by omega)).trans ((updn _ _ (by omega)).trans (updp _ _ _))
  have e6 : wpart W (K.1 0) a e w (13 + 8 * K.1 0 + 6) = -1 := (updn _ _ (by omega)).trans (updp _ _ _)
  refine ⟨?_, hk1, ?_⟩
  · rw [ew]
    exact S2
  · refine wOk.newpart hW hk h16 rfl (fun t _ h => if_neg h) (fun j _ h1 h2 => o j h1 h2) ?_ ?_ ?_ (z 3 (by decide)) (z 4 (by decide)) (z 5 (by decide)) e6
    · rw [e0]; exact ha
    · rw [e1]; exact he
    · rw [e2]; exact hw
theorem wpart_kp (W : Nat → Int32) {r : Nat} (hr : r < 16) (a e w : Int32) : wkp W (wpart W r a e w) := by
  have z : wkp W (zr W (13 + 8 * r) 8) := ⟨if_neg (by omega), if_neg (by omega), fun j hj => if_neg (by omega)⟩
  exact ((((z.upd _ (by omega) (by omega) (by omega)).upd _ (by omega) (by omega) (by omega)).upd _ (by omega) (by omega) (by omega)).upd _ (by omega) (by omega) (by omega)).upd _ (by decide) (by decide) (by decide)
theorem c_part (R : RdS sc x F) (C : Crt sc 41 K) (h16 : K.1 0 < 16) {a e w : Int32} (h9 : x 9 = w) : SC (mbnd (gR 7 13 54) fun (v16 : Nat) =>
              mbnd (gR 1 0 v16) fun (v17 : Nat) =>
              mbnd (mX8_open v17 0) fun (v18 : Int32) =>
              mbnd (gR 7 13 54) fun (v19 : Nat) =>
              mbnd (gR 1 0 v19) fun (v20 : Nat) =>
              mbnd (mX8_put v20 v18 0 a) fun _ =>
              mbnd (gR 7 13 54) fun (v21 : Nat) =>
              mbnd (gR 1 0 v21) fun (v22 : Nat) =>
              mbnd (mX8_put v22 v18 1 e) fun _ =>
              mbnd (gR 7 13 54) fun (v23 : Nat) =>
              mbnd (gR 1 0 v23) fun (v24 : Nat) =>
              mbnd (gI 7 9 54) fun (v25 : Int32) =>
              mbnd (mX8_put v24 v18 2 v25) fun _ =>
              mbnd (gR 7 13 54) fun (v26 : Nat) =>
              mbnd (gR 1 0 v26) fun (v27 : Nat) =>
              mbnd (mX8_put v27 v18 6 (-1)) fun _ =>
              mret (1 : Int32)) sc 1 x F (kpart K a e w) := by
  refine SC.get (dr R) (SC.get (gR_ok C.1 rfl) (SC.bnd (SC.crt R (copen C (t := 0) (by decide) h16 0)) fun s1 R1 C1 _ => ?_))
  refine SC.get (dr R1) (SC.get (gR_ok C1.1 rfl) (SC.bnd (SC.crt R1 (cput0 C1)) fun s2 R2 C2 _ => ?_))
  refine SC.get (dr R2) (SC.get (gR_ok C2.1 rfl) (SC.bnd (SC.crt R2 (cput0 C2)) fun s3 R3 C3 _ => ?_))
  refine SC.get (dr R3) (SC.get (gR_ok C3.1 rfl) (SC.get (v := w) (by rw [← h9]; exact rgis R3 (by decide) (by decide)) (SC.bnd (SC.crt R3 (cput0 C3)) fun s4 R4 C4 _ => ?_)))
  exact SC.get (dr R4) (SC.get (gR_ok C4.1 rfl) (SC.bnd (SC.crt R4 (cput0 C4)) fun s5 R5 C5 _ => SC.ret R5 C5))
theorem m_part (D : Mdl sm 66 (mcur (mw M W) i b)) {r : Nat} (hr : r < 16) (h0 : W 0 = Int32.ofNat r) (a e w : Int32) : MRun (mbnd (loopM (mX12_readPart_L69 66 (Int32.ofNat r)) 0) fun (_ : Unit) =>
      mbnd (gR 11 1 66) fun (v23 : Nat) =>
      mbnd (mX12_partAt (Int32.ofNat r) 0) fun (v24 : Int32) =>
      mbnd (stI 0 v23 v24 a) fun _ =>
      mbnd (gR 11 1 66) fun (v25 : Nat) =>
      mbnd (mX12_partAt (Int32.ofNat r) 1) fun (v26 : Int32) =>
      mbnd (stI 0 v25 v26 e) fun _ =>
      mbnd (gR 11 1 66) fun (v27 : Nat) =>
      mbnd (mX12_partAt (Int32.ofNat r) 2) fun (v28 : Int32) =>
      mbnd (stI 0 v27 v28 w) fun _ =>
      mbnd (gR 11 1 66) fun (v29 : Nat) =>
      mbnd (mX12_partAt (Int32.ofNat r) 6) fun (v30 : Int32) =>
      mbnd (stI 0 v29 v30 (-1)) fun _ =>
      mbnd (gR 11 1 66) fun (v31 : Nat) =>
      mbnd (ldI 0 v31 0) fun (v32 : Int32) =>
      mbnd (stI 0 v31 0 (v32 + 1)) fun _ =>
      mret (1 : Int32)) sm 66 1 (mcur (mw M (wpart W r a e w)) i b) := by
  refine MRun.bnd (m_zero D hr) fun s1 D1 => ?_
  refine MRun.get (w_ref D1) (MRun.get (m_partAt r 0 s1) (MRun.bnd (w_put D1 (by omega) a) fun s2 D2 => ?_))
  refine MRun.get (w_ref D2) (MRun.get (m_partAt r 1 s2) (MRun.bnd (w_put D2 (by omega) e) fun s3 D3 => ?_))
  refine MRun.get (w_ref D3) (MRun.get (m_partAt r 2 s3) (MRun.bnd (w_put D3 (by omega) w) fun s4 D4 => ?_))
  refine MRun.get (w_ref D4) (MRun.get (m_partAt r 6 s4) (MRun.bnd (w_put D4 (by omega) (-1)) fun s5 D5 => ?_))
  have ld := w_ld D5 (j := 0) (by decide)
  rw [show upd (upd (upd (upd (zr W (13 + 8 * r) 8) (13 + 8 * r + 0) a) (13 + 8 * r + 1) e) (13 + 8 * r + 2) w) (13 + 8 * r + 6) (-1) 0 = Int32.ofNat r from (if_neg (by omega)).trans ((if_neg (by omega)).trans ((if_neg (by omega)).trans ((if_neg (by omega)).trans ((if_neg (by omega)).trans h0))))] at ld
  refine MRun.get (w_ref D5) (MRun.get ld ?_)
  rw [ofN_succ]
  exact MRun.bnd (w_put D5 (j := 0) (by decide) _) fun s6 D6 => MRun.ret D6
end PLN
