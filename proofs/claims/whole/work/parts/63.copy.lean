/-! TABLES: copies, a row behind the others or in the first one's room, a new Table -/
theorem imin_of {n k : Nat} (hn : n < 2 ^ 31) (hk : k < 2 ^ 31) : imin (Int32.ofNat n) (Int32.ofNat k) = Int32.ofNat (min n k) := by
  unfold imin
  by_cases h : n ≤ k
  · rw [if_neg (fun q => absurd ((ofN_lt hk hn).mp q) (by omega)), Nat.min_eq_left h]
  · rw [if_pos ((ofN_lt hk hn).mpr (by omega)), Nat.min_eq_right (by omega)]
theorem imax_of {n k : Nat} (hn : n < 2 ^ 31) (hk : k < 2 ^ 31) : imax (Int32.ofNat n) (Int32.ofNat k) = Int32.ofNat (max n k) := by
  unfold imax
  by_cases h : n < k
  · rw [if_pos ((ofN_lt hn hk).mpr h), Nat.max_eq_right (by omega)]
  · rw [if_neg (fun q => h ((ofN_lt hn hk).mp q)), Nat.max_eq_left (by omega)]
theorem imax_z {n : Nat} (h : n < 2 ^ 31) : imax 0 (Int32.ofNat n) = Int32.ofNat n := by
  have e := imax_of (n := 0) (k := n) (by omega) h
  rwa [Nat.zero_max] at e
theorem cpI_ok {s : aS} {a0 a t n0 n1 : Nat} {f g : Nat → Int32} {sp dp n : Nat} (h0 : hasI s a0 t n0 f) (h1 : hasI s a t n1 g) (hs : sp + n ≤ n0) (hd : dp + n ≤ n1) (hb0 : n0 < 2 ^ 31) (hb1 : n1 < 2 ^ 31) : cpI t a0 (Int32.ofNat sp) a (Int32.ofNat dp) (Int32.ofNat n) s = some (.inl (), sup s a (.inr (.inl (t, n1, va_cpy f g sp dp n)))) := by
  unfold cpI
  rw [h0.1, h1.1]
  show (if t = t ∧ t = t ∧ a0 < s.2.1 ∧ a < s.2.1 then (if _ then none else _) else none) = _
  rw [if_pos ⟨rfl, rfl, h0.2, h1.2⟩, ofN_cl (by omega), ofN_cl (by omega), ofN_cl (by omega), if_neg]
  · rfl
  · rintro (h | h | h | h | h)
    · exact ofN_nn (by omega) h
    · exact ofN_nn (by omega) h
    · exact ofN_nn (by omega) h
    · omega
    · omega
theorem sup_comm {s : aS} {a b : Nat} {e e' : AE} (h : a ≠ b) : sup (sup s a e) b e' = sup (sup s b e') a e := by
  obtain ⟨hh, z⟩ := s
  unfold sup
  congr 1
  funext k
  show (if k = b then e' else (if k = a then e else hh k)) = if k = a then e else (if k = b then e' else hh k)
  by_cases h1 : k = b
  · rw [if_pos h1, if_neg (fun q => h (q.symm.trans h1)), if_pos h1]
  · rw [if_neg h1, if_neg h1]
theorem rows_le {m w r : Nat} (h : r ≤ m) : r * w ≤ m * w := Nat.mul_le_mul_right w h
section TB4
variable {s : aS} {a c m w r b d r2 : Nat} {f g : Nat → Int32} {v : Int32}
theorem copyFrom_run (T : Tb s a c m w r f) (U : Tb s b d m w r2 g) (h1 : a ≠ d) (h2 : c ≠ b) (h3 : c ≠ a) (h4 : b ≠ a) : mX8_copyFrom a b s = some (.inl (), sup (sup s c (tE m w (va_cpy g f 0 0 (r2 * w)))) a (tO c m w r2)) := by
  obtain ⟨hO, hI, hr, hb, hm, hw⟩ := id T
  obtain ⟨hO2, hI2, hr2, -⟩ := id U
  have hle := rows_le (w := w) hr2
  unfold mX8_copyFrom
  rw [onC_ok hO, bnd_ok (gI_ok hO2 rfl), bnd_ok (gI_ok hO2 rfl), bnd_ok (gR_ok hO2 rfl), bnd_ok (lenI_ok hI2), bnd_ok (gR_ok hO rfl), bnd_ok (lenI_ok hI), mret_mbnd, ofN_mul, imin_of (by omega) (by omega), imin_of (by omega) (by omega), Nat.min_self, Nat.min_eq_left hle, imax_z (by omega), bnd_ok (gR_ok hO2 rfl), bnd_ok (gR_ok hO rfl)]
  rw [bnd_ok (show cpI 0 d 0 c 0 _ s = _ from cpI_ok (sp := 0) (dp := 0) hI2 hI (by omega) (by omega) (by omega) (by omega))]
  have O2 := hasO_sup (e := tE m w (va_cpy g f 0 0 (r2 * w))) hO2 h2.symm
  have O1 := hasO_sup (e := tE m w (va_cpy g f 0 0 (r2 * w))) hO h3.symm
  rw [bnd_ok (gI_ok O2 rfl), bnd_ok (show pI 8 3 a (Int32.ofNat r2) _ = _ from pF_ok O1 (Nat.le_refl 4))]
  rfl
theorem openLatest_run (T : Tb s a c m w r f) (hm0 : 0 < m) : mX8_openLatest a v s = some (.inl (if r < m then Int32.ofNat r else Int32.ofNat (r - 1)), if r < m then sup (sup s a (tO c m w (r + 1))) c (tE m w (fillR w r f v w)) else sup (sup s a (tO c m w r)) c (tE m w (fillR w (r - 1) (va_cpy f f w 0 ((r - 1) * w)) v w))) := by
  obtain ⟨hO, hI, hr, hb, hm, hw⟩ := id T
  unfold mX8_openLatest
  rw [onC_ok hO, bnd_ok (gI_ok hO rfl), bnd_ok (gI_ok hO rfl)]
  by_cases h : r < m
  · rw [if_pos ((ofN_lt (by omega) (by omega)).mpr h), if_pos h, if_pos h, mret_mbnd, bnd_ok (open_run T), if_pos h, if_pos h]
    rfl
  · have hrm : r = m := by omega
    have hr1 : r - 1 + 1 = r := by omega
    rw [if_neg (fun q => h ((ofN_lt (by omega) (by omega)).mp q)), if_neg h, if_neg h]
    have key : (mbnd (gI 8 3 a) fun (v7 : Int32) => if v7 ≤ 0 then (mret () : MM Unit) else (mbnd (gI 8 3 a) fun (v9 : Int32) => mbnd (gI 8 2 a) fun (v10 : Int32) => mbnd (mret ((v9 - 1) * v10)) fun (v11 : Int32) => mbnd (α := Unit) (if v11 < 0 then (mret ()) else (mbnd (gI 8 2 a) fun (v16 : Int32) => mbnd (gR 8 0 a) fun (v17 : Nat) => mbnd (lenI 0 v17) fun (v18 : Int32) => if v18 < (v16 + v11) then (mret ()) else (mbnd (gR 8 0 a) fun (v20 : Nat) => mbnd (gI 8 2 a) fun (v21 : Int32) => mbnd (gR 8 0 a) fun (v22 : Nat) => mbnd (cpI 0 v20 v21 v22 0 v11) fun _ => mret ()))) fun (x13 : Unit) => mbnd (gI 8 3 a) fun (v23 : Int32) => mbnd (pI 8 3 a (v23 - 1)) fun _ => mret ())) s = some (.inl (), sup (sup s c (tE m w (va_cpy f f w 0 ((r - 1) * w)))) a (tO c m w (r - 1))) := by
      have hmul : (r - 1) * w + w = m * w := by
        rw [← hrm, ← Nat.succ_mul]
        congr 1
      have hz : ¬ Int32.ofNat r ≤ 0 := fun q => absurd ((ofN_le (n := r) (m := 0) (by omega) (by omega)).mp q) (by omega)
      rw [bnd_ok (gI_ok hO rfl), if_neg hz, bnd_ok (gI_ok hO rfl), bnd_ok (gI_ok hO rfl), mret_mbnd]
      rw [show Int32.ofNat r - 1 = Int32.ofNat (r - 1) by have := ofN_pred (r - 1); rwa [hr1] at this, ofN_mul]
      have kept : (if Int32.ofNat ((r - 1) * w) < 0 then (mret () : MM Unit) else (mbnd (gI 8 2 a) fun (v16 : Int32) => mbnd (gR 8 0 a) fun (v17 : Nat) => mbnd (lenI 0 v17) fun (v18 : Int32) => if v18 < (v16 + Int32.ofNat ((r - 1) * w)) then (mret ()) else (mbnd (gR 8 0 a) fun (v20 : Nat) => mbnd (gI 8 2 a) fun (v21 : Int32) => mbnd (gR 8 0 a) fun (v22 : Nat) => mbnd (cpI 0 v20 v21 v22 0 (Int32.ofNat ((r - 1) * w))) fun _ => mret ()))) s = some (.inl (), sup s c (tE m w (va_cpy f f w 0 ((r - 1) * w)))) := by
        rw [if_neg (ofN_nn (by omega)), bnd_ok (gI_ok hO rfl), bnd_ok (gR_ok hO rfl), bnd_ok (lenI_ok hI), ofN_add, if_neg (fun q => absurd ((ofN_lt (by omega) (by omega)).mp q) (by omega)), bnd_ok (gR_ok hO rfl), bnd_ok (gI_ok hO rfl), bnd_ok (gR_ok hO rfl)]
        rw [bnd_ok (show cpI 0 c (Int32.ofNat w) c 0 _ s = _ from cpI_ok (dp := 0) hI hI (by omega) (by omega) (by omega) (by omega))]
        rfl
      rw [bnd_ok kept]
      have O1 := hasO_sup (e := tE m w (va_cpy f f w 0 ((r - 1) * w))) hO (OI_ne hO hI)
      rw [bnd_ok (gI_ok O1 rfl), show Int32.ofNat r - 1 = Int32.ofNat (r - 1) by have := ofN_pred (r - 1); rwa [hr1] at this, bnd_ok (show pI 8 3 a _ _ = _ from pF_ok O1 (Nat.le_refl 4))]
      rfl
    rw [bnd_ok key]
    have T2 := (T.with (g := va_cpy f f w 0 ((r - 1) * w))).rows (r' := r - 1) (by omega)
    rw [bnd_ok (open_run (v := v) T2), if_pos (by omega), if_pos (by omega), hr1]
    have hne := OI_ne hO hI
    rw [sup_sup, sup_comm (s := s) (Ne.symm hne), sup_sup]
    rfl
end TB4
