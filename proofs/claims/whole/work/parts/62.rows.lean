/-! TABLES: a row more, a copy, a new one -/
abbrev tO (c m w r : Nat) : AE := .inl (8, [.ref c, .int (Int32.ofNat m), .int (Int32.ofNat w), .int (Int32.ofNat r)])
def fillR (w r : Nat) (f : Nat → Int32) (v : Int32) (n : Nat) : Nat → Int32 := fun k => if r * w ≤ k ∧ k < r * w + n then v else f k
theorem ofN_succ (n : Nat) : Int32.ofNat n + 1 = Int32.ofNat (n + 1) := ofN_add n 1
theorem ofN_pred (n : Nat) : Int32.ofNat (n + 1) - 1 = Int32.ofNat n := by
  rw [← ofN_succ]
  exact Int32.add_sub_cancel _ _
theorem fillR_zero (w r : Nat) (f : Nat → Int32) (v : Int32) : fillR w r f v 0 = f := funext fun k => if_neg (by omega)
theorem fillR_succ (w r : Nat) (f : Nat → Int32) (v : Int32) (n : Nat) : upd (fillR w r f v n) (r * w + n) v = fillR w r f v (n + 1) := by
  funext k
  unfold upd fillR
  by_cases h : k = r * w + n
  · rw [if_pos h, if_pos (by omega)]
  · rw [if_neg h]
    by_cases h2 : r * w ≤ k ∧ k < r * w + n
    · rw [if_pos h2, if_pos (by omega)]
    · rw [if_neg h2, if_neg (by omega)]
section TB3
variable {s : aS} {a c m w r : Nat} {f g : Nat → Int32} {v : Int32}
theorem Tb.rows (T : Tb s a c m w r f) {r' : Nat} (h : r' ≤ m) : Tb (sup s a (tO c m w r')) a c m w r' f := by
  obtain ⟨hO, hI, hr, hb⟩ := T
  exact ⟨hasO_put hO.2, hasI_sup hI (fun e => OI_ne hO hI e.symm), h, hb⟩
theorem tput_in {r' i j : Nat} (hi : i < r') (hj : j < w) (hr : r' ≤ 1000) (hw : w ≤ 1000) : tput w r' f (Int32.ofNat i) (Int32.ofNat j) v = upd f (i * w + j) v := by
  unfold tput
  rw [if_neg, ofN_cl (by omega), ofN_cl (by omega)]
  rintro (h | h | h | h)
  · exact ofN_nn (by omega) h
  · exact absurd ((ofN_le (by omega) (by omega)).mp h) (by omega)
  · exact ofN_nn (by omega) h
  · exact absurd ((ofN_le (by omega) (by omega)).mp h) (by omega)
theorem tget_in {r' i j : Nat} (hi : i < r') (hj : j < w) (hr : r' ≤ 1000) (hw : w ≤ 1000) : tget w r' f (Int32.ofNat i) (Int32.ofNat j) = f (i * w + j) := by
  unfold tget
  rw [if_neg, ofN_cl (by omega), ofN_cl (by omega)]
  rintro (h | h | h | h)
  · exact ofN_nn (by omega) h
  · exact absurd ((ofN_le (by omega) (by omega)).mp h) (by omega)
  · exact ofN_nn (by omega) h
  · exact absurd ((ofN_le (by omega) (by omega)).mp h) (by omega)
theorem open_run (T : Tb s a c m w r f) : mX8_open a v s = some (.inl (if r < m then Int32.ofNat r else -1), if r < m then sup (sup s a (tO c m w (r + 1))) c (tE m w (fillR w r f v w)) else s) := by
  obtain ⟨hO, hI, hr, hb, hm, hw⟩ := id T
  unfold mX8_open
  rw [onC_ok hO, bnd_ok (gI_ok hO rfl), bnd_ok (gI_ok hO rfl)]
  by_cases h : r < m
  · rw [if_pos ((ofN_lt (by omega) (by omega)).mpr h), if_pos h, if_pos h, bnd_ok (gI_ok hO rfl), ofN_succ]
    have T1 := T.rows (r' := r + 1) (by omega)
    have hp : pI 8 3 a (Int32.ofNat (r + 1)) s = some (.inl (), sup s a (tO c m w (r + 1))) := pF_ok hO (Nat.le_refl 4)
    rw [bnd_ok hp]
    have hl : loopM (mX8_open_L25 a v) (Int32.ofNat 0) (sup (sup s a (tO c m w (r + 1))) c (tE m w (fillR w r f v 0))) = some (.inl (), sup (sup s a (tO c m w (r + 1))) c (tE m w (fillR w r f v w))) := by
      refine loop_steps w (fun j => Int32.ofNat j) (fun j => sup (sup s a (tO c m w (r + 1))) c (tE m w (fillR w r f v j))) (fun j hj => ?_) ?_
      · have T2 := T1.with (g := fillR w r f v j)
        show mX8_open_L25 a v (Int32.ofNat j) _ = _
        unfold mX8_open_L25
        rw [bnd_ok (gI_ok T2.1 rfl), if_neg (fun q => absurd ((ofN_le (by omega) (by omega)).mp q) (by omega)), bnd_ok (gI_ok T2.1 rfl), ofN_pred, bnd_ok (put_run T2), tput_in (by omega) hj (by omega) hw, fillR_succ, sup_sup, ofN_succ]
        rfl
      · have T2 := T1.with (g := fillR w r f v w)
        show mX8_open_L25 a v (Int32.ofNat w) _ = _
        unfold mX8_open_L25
        rw [bnd_ok (gI_ok T2.1 rfl), if_pos (Int32.le_refl _)]
        rfl
    rw [fillR_zero, sup_same T1.2.1] at hl
    rw [bnd_ok (show loopM (mX8_open_L25 a v) 0 _ = _ from hl), bnd_ok (gI_ok (T1.with (g := fillR w r f v w)).1 rfl), ofN_pred]
    rfl
  · rw [if_neg (fun q => h ((ofN_lt (by omega) (by omega)).mp q)), if_neg h, if_neg h]
    rfl
end TB3
