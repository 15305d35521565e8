/-! EXCHANGE: what both tools answer -/
theorem ring1 (a p x w g d : Int32) (h : a + p = x + w) : a + (p + g) = x + g + w := by
  rw [← Int32.add_assoc, h, Int32.add_assoc, Int32.add_comm w g, ← Int32.add_assoc]
theorem ring2 (a p x w gp gq op oq : Int32) (h : a + p = x + w) : a + (gq - oq - (gp - op)) + (p + gp) = x + (gq - oq + op) + w := by
  grind
theorem ring3 (a x w : Int32) (h : a + w = x + w) : a = x := by
  grind
section EX
variable {s : aS} {f : Int32} {K : CK} {M : MK} {W : Nat → Int32} {LW : Option (List Ln)} {c t u m : Nat} {x y z : Int32}
/-- sort k of both tools may change places -/
def xcB (W : Nat → Int32) (t u m k : Nat) : Bool := !bt (Int32.ofNat m) k || (decide (0 ≤ W (141 + 4 * t + k)) && decide (0 ≤ W (141 + 4 * u + k)) && !decide (W (13 + 8 * (W (141 + 4 * t + k)).toNatClampNeg + 4) = 1) && !decide (W (13 + 8 * (W (141 + 4 * u + k)).toNatClampNeg + 4) = 1))
def xOwn (W : Nat → Int32) (t k : Nat) : Int32 := if 0 ≤ W (141 + 4 * t + k) then W (13 + 8 * (W (141 + 4 * t + k)).toNatClampNeg + 3) else 0
def xG (W : Nat → Int32) (LW : Option (List Ln)) (t u m k : Nat) : Int32 := if bt (Int32.ofNat m) k = true then W (13 + 8 * (W (141 + 4 * u + k)).toNatClampNeg + 3) - wOver W LW (W (141 + 4 * u + k)).toNatClampNeg + wOver W LW (W (141 + 4 * t + k)).toNatClampNeg else xOwn W t k
def xS (W : Nat → Int32) (LW : Option (List Ln)) (t u m : Nat) : Nat → Int32
  | 0 => 0
  | k + 1 => xS W LW t u m k + xG W LW t u m k
def clA (W : Nat → Int32) (LW : Option (List Ln)) (t u m : Nat) : Nat → Int32
  | 0 => wans W t
  | k + 1 => if bt (Int32.ofNat m) k = true then clA W LW t u m k + ((W (13 + 8 * (W (141 + 4 * u + k)).toNatClampNeg + 3) - wOver W LW (W (141 + 4 * u + k)).toNatClampNeg) - (W (13 + 8 * (W (141 + 4 * t + k)).toNatClampNeg + 3) - wOver W LW (W (141 + 4 * t + k)).toNatClampNeg)) else clA W LW t u m k
def xAll (W : Nat → Int32) (t u m : Nat) : Bool := xcB W t u m 0 && xcB W t u m 1 && xcB W t u m 2
theorem xcB_swap (W : Nat → Int32) (t u m k : Nat) : xcB W t u m k = xcB W u t m k := by
  unfold xcB
  cases bt (Int32.ofNat m) k <;> cases decide (0 ≤ W (141 + 4 * t + k)) <;> cases decide (0 ≤ W (141 + 4 * u + k)) <;> cases decide (W (13 + 8 * (W (141 + 4 * t + k)).toNatClampNeg + 4) = 1) <;> cases decide (W (13 + 8 * (W (141 + 4 * u + k)).toNatClampNeg + 4) = 1) <;> rfl
theorem xAll_swap (W : Nat → Int32) (t u m : Nat) : xAll W t u m = xAll W u t m := by
  unfold xAll
  rw [xcB_swap W t u m 0, xcB_swap W t u m 1, xcB_swap W t u m 2]
theorem cl_step {k : Nat} (h : xcB W t u m k = true) {p : Int32} (e : clA W LW t u m k + p = xS W LW t u m k + wans W t) : clA W LW t u m (k + 1) + (p + xOwn W t k) = xS W LW t u m (k + 1) + wans W t := by
  show (if bt (Int32.ofNat m) k = true then _ else _) + _ = xS W LW t u m k + xG W LW t u m k + wans W t
  unfold xG
  by_cases hb : bt (Int32.ofNat m) k = true
  · have h0 : 0 ≤ W (141 + 4 * t + k) := by
      unfold xcB at h
      rw [hb] at h
      by_cases q : 0 ≤ W (141 + 4 * t + k)
      · exact q
      · simp [q] at h
    rw [if_pos hb, if_pos hb]
    unfold xOwn
    rw [if_pos h0]
    exact ring2 _ _ _ _ _ _ _ _ e
  · rw [if_neg hb, if_neg hb]
    exact ring1 (d := 0) _ _ _ _ _ e
theorem cl_eq (h : xAll W t u m = true) : clA W LW t u m 3 = xS W LW t u m 3 := by
  unfold xAll at h
  rw [Bool.and_eq_true, Bool.and_eq_true] at h
  have e0 : clA W LW t u m 0 + 0 = xS W LW t u m 0 + wans W t := by
    show wans W t + 0 = 0 + wans W t
    rw [Int32.add_zero, Int32.zero_add]
  exact ring3 _ _ _ (cl_step h.2 (cl_step h.1.2 (cl_step h.1.1 e0)))
/-- does the exchange of the set m help -/
def xHelp (W : Nat → Int32) (LW : Option (List Ln)) (t u m : Nat) : Bool := xAll W t u m && !decide (W 7 < xS W LW t u m 3) && !decide (W 7 < xS W LW u t m 3)
theorem c_xstep (S : Sm K W) (hk : kOk K) (hw : wOk K W c) (ht : t < K.1 1) (hu : u < K.1 1) {k : Nat} (h3 : k < 3) : SR f K LW (mX11_exchangeHelps_L23 0 (Int32.ofNat t) (Int32.ofNat u) (Int32.ofNat m) (clA W LW t u m k, clA W LW u t m k, Int32.ofNat k)) (if xcB W t u m k = true then .inl (clA W LW t u m (k + 1), clA W LW u t m (k + 1), Int32.ofNat (k + 1)) else .inr (.inl ())) := by
  have n3 : ¬ (3 : Int32) ≤ Int32.ofNat k := nle (n := 3) h3 (by decide)
  have cs := Sm.cols S hk
  unfold mX11_exchangeHelps_L23
  dsimp only
  rw [if_neg n3]
  refine SR.get (fun s C => inSet_app _ _ s) ?_
  by_cases hb : bt (Int32.ofNat m) k = true
  · rw [if_neg (show ¬ inSet (Int32.ofNat m) (Int32.ofNat k) = 0 from fun q => by rw [inSet_0 _ (by omega)] at q; exact q hb)]
    have g1 : ∀ v, v < K.1 1 → ∀ s, CC s f K → mX8_get 31 (Int32.ofNat v) (Int32.ofNat k) s = some (.inl (W (141 + 4 * v + k)), s) := fun v hv s C => by
      rw [← cs.2.2.2.2.2.2.2.2.2.2.2.2.2.1 v k hv (by omega)]
      exact (CC.tabs C).2.2.2.2.2.2.2.1 _ _
    have r7 : ∀ s, CC s f K → gR 10 7 0 s = some (.inl 28, s) := fun s C => gR_ok C.1 rfl
    have r3 : ∀ s, CC s f K → gR 10 3 0 s = some (.inl 3, s) := fun s C => gR_ok C.1 rfl
    have r1 : ∀ s, CC s f K → gR 1 1 28 s = some (.inl 31, s) := fun s C => gR_ok C.2.1 rfl
    refine SR.get r7 (SR.get r1 (SR.get (g1 t ht) (SR.get r7 (SR.get r1 (SR.get (g1 u hu) ?_)))))
    rcases slot_or hk hw ht h3 with h | ⟨p, hp, hp16, h, -⟩
    · have h0 : ¬ (0 : Int32) ≤ W (141 + 4 * t + k) := by rw [h]; decide
      have e : ¬ xcB W t u m k = true := by unfold xcB; simp [hb, h0]
      rw [if_neg e, if_pos h]
      exact SR.ret
    rcases slot_or hk hw hu h3 with g | ⟨q, hq, hq16, g, -⟩
    · have h0 : ¬ (0 : Int32) ≤ W (141 + 4 * u + k) := by rw [g]; decide
      have e : ¬ xcB W t u m k = true := by unfold xcB; simp [hb, h0]
      rw [if_neg e, h, if_neg (ofN_ne1 (by omega)), if_pos g]
      exact SR.ret
    have hp0 : (0 : Int32) ≤ Int32.ofNat p := le0_ofN (by omega)
    have hq0 : (0 : Int32) ≤ Int32.ofNat q := le0_ofN (by omega)
    have nl : ∀ v, v < K.1 0 → ∀ s, CC s f K → mX1_isNailed 28 (Int32.ofNat v) s = some (.inl (if W (13 + 8 * v + 4) = 1 then 1 else 0), s) := fun v hv s C => by
      rw [← cs.2.2.2.2.1 v hv]
      exact isNailed_run C.2
    have gu : ∀ v, v < K.1 0 → ∀ s, CC s f K → mX1_guiltOf 28 (Int32.ofNat v) s = some (.inl (W (13 + 8 * v + 3)), s) := fun v hv s C => by
      rw [← kguilt_in S hk hv]
      exact guiltOf_run C.2
    have eB : xcB W t u m k = (!decide (W (13 + 8 * p + 4) = 1) && !decide (W (13 + 8 * q + 4) = 1)) := by
      unfold xcB
      rw [hb, h, g, ofN_cl (by omega), ofN_cl (by omega), decide_eq_true hp0, decide_eq_true hq0]
      rfl
    rw [eB, h, g, if_neg (ofN_ne1 (by omega)), if_neg (ofN_ne1 (by omega))]
    refine SR.get r7 (SR.get (nl p hp) ?_)
    by_cases hn : W (13 + 8 * p + 4) = 1
    · rw [if_pos hn, if_neg one_ne0, decide_eq_true hn]
      exact SR.ret
    rw [if_neg hn, if_pos rfl, decide_eq_false hn]
    refine SR.get r7 (SR.get (nl q hq) ?_)
    by_cases hn2 : W (13 + 8 * q + 4) = 1
    · rw [if_pos hn2, if_neg one_ne0, decide_eq_true hn2]
      exact SR.ret
    rw [if_neg hn2, if_pos rfl, decide_eq_false hn2, if_pos (show (!false && !false) = true from rfl)]
    refine SR.get r7 (SR.get (gu p hp) (SR.get r3 (SR.get r7 ((c_over S hk hw hp).bnd (SR.get (x := _) (fun _ _ => rfl) (SR.get r7 (SR.get (gu q hq) (SR.get r3 (SR.get r7 ((c_over S hk hw hq).bnd (SR.get (x := _) (fun _ _ => rfl) (SR.get (x := _) (fun _ _ => rfl) (SR.get (x := _) (fun _ _ => rfl) ?_)))))))))))))
    have ea : clA W LW t u m (k + 1) = clA W LW t u m k + ((W (13 + 8 * q + 3) - wOver W LW q) - (W (13 + 8 * p + 3) - wOver W LW p)) := by
      show (if bt (Int32.ofNat m) k = true then _ else _) = _
      rw [if_pos hb, h, g, ofN_cl (by omega), ofN_cl (by omega)]
    have eb : clA W LW u t m (k + 1) = clA W LW u t m k + ((W (13 + 8 * p + 3) - wOver W LW p) - (W (13 + 8 * q + 3) - wOver W LW q)) := by
      show (if bt (Int32.ofNat m) k = true then _ else _) = _
      rw [if_pos hb, h, g, ofN_cl (by omega), ofN_cl (by omega)]
    rw [ea, eb, ← ofN_succ]
    exact SR.ret
  · rw [if_pos (show inSet (Int32.ofNat m) (Int32.ofNat k) = 0 by rw [inSet_0 _ (by omega)]; exact hb)]
    have e : xcB W t u m k = true := by unfold xcB; simp [hb]
    rw [if_pos e]
    have ea : clA W LW t u m (k + 1) = clA W LW t u m k := by
      show (if bt (Int32.ofNat m) k = true then _ else _) = _
      rw [if_neg hb]
    have eb : clA W LW u t m (k + 1) = clA W LW u t m k := by
      show (if bt (Int32.ofNat m) k = true then _ else _) = _
      rw [if_neg hb]
    rw [ea, eb, ← ofN_succ]
    exact SR.ret
def xT (W : Nat → Int32) (LW : Option (List Ln)) (t u m : Nat) : Nat → Nat → Unit ⊕ (Int32 × Int32)
  | 0, j => .inr (clA W LW t u m j, clA W LW u t m j)
  | d + 1, j => if xcB W t u m j = true then xT W LW t u m d (j + 1) else .inl ()
theorem c_xloop (S : Sm K W) (hk : kOk K) (hw : wOk K W c) (ht : t < K.1 1) (hu : u < K.1 1) : ∀ d j, d + j = 3 → SR f K LW (loopM (mX11_exchangeHelps_L23 0 (Int32.ofNat t) (Int32.ofNat u) (Int32.ofNat m)) (clA W LW t u m j, clA W LW u t m j, Int32.ofNat j)) (xT W LW t u m d j)
  | 0, j, e => by
    have e3 : j = 3 := by omega
    subst e3
    rw [loopM_eq]
    refine SR.bnd (x := .inr (.inr (clA W LW t u m 3, clA W LW u t m 3))) ?_ SR.ret
    unfold mX11_exchangeHelps_L23
    dsimp only
    rw [if_pos (show (3 : Int32) ≤ Int32.ofNat 3 from Int32.le_refl _)]
    exact SR.ret
  | d + 1, j, e => by
    rw [loopM_eq]
    refine (c_xstep S hk hw ht hu (by omega)).bnd ?_
    show SR f K LW _ (if xcB W t u m j = true then xT W LW t u m d (j + 1) else .inl ())
    by_cases h : xcB W t u m j = true
    · rw [if_pos h, if_pos h]
      exact c_xloop S hk hw ht hu d (j + 1) (by omega)
    · rw [if_neg h, if_neg h]
      exact SR.ret
theorem xT_3 (W : Nat → Int32) (LW : Option (List Ln)) (t u m : Nat) : xT W LW t u m 3 0 = if xAll W t u m = true then .inr (clA W LW t u m 3, clA W LW u t m 3) else .inl () := by
  show (if xcB W t u m 0 = true then (if xcB W t u m 1 = true then (if xcB W t u m 2 = true then _ else _) else _) else _) = _
  unfold xAll
  cases xcB W t u m 0 <;> cases xcB W t u m 1 <;> cases xcB W t u m 2 <;> rfl
theorem c_helps (S : Sm K W) (hk : kOk K) (hw : wOk K W c) (ht : t < K.1 1) (hu : u < K.1 1) : SR f K LW (mX11_exchangeHelps 0 (Int32.ofNat t) (Int32.ofNat u) (Int32.ofNat m)) (if xHelp W LW t u m = true then 1 else 0) := by
  have r7 : ∀ s, CC s f K → gR 10 7 0 s = some (.inl 28, s) := fun s C => gR_ok C.1 rfl
  have hA : ∀ v, v < K.1 1 → ∀ s, CC s f K → mX1_answered 28 (Int32.ofNat v) s = some (.inl (wans W v), s) := fun v hv s C => by
    rw [← ans_same S hk hv (hw.2.1 v hv).toolIn]
    exact answered_run C.2
  have h10 : ∀ s, CC s f K → gI 1 10 28 s = some (.inl (W 7), s) := fun s C => by
    rw [← (Sm.ints S).2.2.2.1]
    exact gI_ok C.2.1 rfl
  unfold mX11_exchangeHelps
  refine SR.oC0 (SR.get r7 (SR.get (hA t ht) (SR.get r7 (SR.get (hA u hu) (SR.bnd (c_xloop S hk hw ht hu 3 0 rfl) ?_)))))
  rw [xT_3]
  unfold xHelp
  by_cases h : xAll W t u m = true
  · rw [if_pos h, cl_eq h, cl_eq (t := u) (u := t) (by rw [← xAll_swap]; exact h), h]
    refine SR.get r7 (SR.get h10 ?_)
    dsimp only
    by_cases h1 : W 7 < xS W LW t u m 3
    · rw [if_pos h1, decide_eq_true h1]
      exact SR.ret
    rw [if_neg h1, decide_eq_false h1]
    refine SR.get r7 (SR.get h10 ?_)
    by_cases h2 : W 7 < xS W LW u t m 3
    · rw [if_pos h2, decide_eq_true h2]
      exact SR.ret
    rw [if_neg h2, decide_eq_false h2]
    exact SR.ret
  · rw [if_neg h, Bool.eq_false_iff.mpr h]
    exact SR.ret
def xI : Option Nat → Int32
  | none => -1
  | some b => Int32.ofNat b
def xB (W : Nat → Int32) (LW : Option (List Ln)) (t u : Nat) : Nat → Option Nat
  | 0 => none
  | m + 1 => if xHelp W LW t u m = true then (match xB W LW t u m with | none => some m | some b => if bc b ≤ bc m then some b else some m) else xB W LW t u m
theorem xB_lt (W : Nat → Int32) (LW : Option (List Ln)) (t u : Nat) : ∀ m b, xB W LW t u m = some b → b < m
  | 0, _, h => nomatch h
  | m + 1, b, h => by
    have ih := xB_lt W LW t u m
    have e : xB W LW t u (m + 1) = if xHelp W LW t u m = true then (match xB W LW t u m with | none => some m | some b => if bc b ≤ bc m then some b else some m) else xB W LW t u m := rfl
    rw [e] at h
    split at h
    · cases hb : xB W LW t u m with
      | none =>
        rw [hb] at h
        have : m = b := Option.some.inj h
        omega
      | some a =>
        have := ih a hb
        rw [hb] at h
        dsimp only at h
        split at h
        · have : a = b := Option.some.inj h
          omega
        · have : m = b := Option.some.inj h
          omega
    · have := ih b h
      omega
theorem bc_31 : ∀ j, j < 8 → bc j < 4 := by decide
theorem c_exch (S : Sm K W) (hk : kOk K) (hw : wOk K W c) (ht : t < K.1 1) (hu : u < K.1 1) : SR f K LW (loopM (mX11_exchange_L12 0 (Int32.ofNat t) (Int32.ofNat u)) (-1, 0)) (xI (xB W LW t u 8)) := by
  refine SR.loop 8 (fun j => (xI (xB W LW t u j), Int32.ofNat j)) (fun j hj => ?_) ?_
  · show SR f K LW (mX11_exchange_L12 0 (Int32.ofNat t) (Int32.ofNat u) (xI (xB W LW t u j), Int32.ofNat j)) (.inl (xI (xB W LW t u (j + 1)), Int32.ofNat (j + 1)))
    unfold mX11_exchange_L12
    dsimp only
    rw [if_neg (show ¬ (8 : Int32) ≤ Int32.ofNat j from nle (n := 8) hj (by decide)), ← ofN_succ]
    have e : xB W LW t u (j + 1) = if xHelp W LW t u j = true then (match xB W LW t u j with | none => some j | some b => if bc b ≤ bc j then some b else some j) else xB W LW t u j := rfl
    rw [e]
    cases hb : xB W LW t u j with
    | none =>
      show SR f K LW (mbnd (α := Int32) (if xI none = -1 then _ else _) _) _
      rw [if_pos (show xI none = -1 from rfl)]
      refine SR.get (x := (1 : Int32)) (fun _ _ => rfl) ?_
      rw [if_neg one_ne0]
      refine SR.bnd (SR.bnd (c_helps S hk hw ht hu) (y := if xHelp W LW t u j = true then Int32.ofNat j else xI none) ?_) ?_
      · by_cases q : xHelp W LW t u j = true
        · rw [if_pos q, if_pos q, if_neg one_ne0]
          exact SR.ret
        · rw [if_neg q, if_neg q, if_pos rfl]
          exact SR.ret
      · by_cases q : xHelp W LW t u j = true
        · rw [if_pos q, if_pos q]
          exact SR.ret
        · rw [if_neg q, if_neg q]
          exact SR.ret
    | some b =>
      have hb8 : b < 8 := by have := xB_lt W LW t u j b hb; omega
      have b1 := bc_31 b hb8
      have b2 := bc_31 j hj
      show SR f K LW (mbnd (α := Int32) (if xI (some b) = -1 then _ else _) _) _
      rw [if_neg (show ¬ xI (some b) = -1 from ofN_ne1 (by omega))]
      refine SR.bnd (x := if bc b ≤ bc j then 0 else 1) (SR.get (fun s _ => bc_app j hj s) (SR.get (fun s _ => bc_app b hb8 s) ?_)) ?_
      · by_cases q : bc b ≤ bc j
        · rw [if_pos q, if_pos ((ofN_le (by omega) (by omega)).mpr q)]
          exact SR.ret
        · rw [if_neg q, if_neg (fun z => q ((ofN_le (by omega) (by omega)).mp z))]
          exact SR.ret
      · by_cases q : bc b ≤ bc j
        · rw [if_pos q, if_pos rfl]
          refine SR.bnd (x := xI (some b)) SR.ret ?_
          dsimp only
          rw [if_pos q, ite_self]
          exact SR.ret
        · rw [if_neg q, if_neg one_ne0]
          refine SR.bnd (SR.bnd (c_helps S hk hw ht hu) (y := if xHelp W LW t u j = true then Int32.ofNat j else xI (some b)) ?_) ?_
          · by_cases q : xHelp W LW t u j = true
            · rw [if_pos q, if_pos q, if_neg one_ne0]
              exact SR.ret
            · rw [if_neg q, if_neg q, if_pos rfl]
              exact SR.ret
          · dsimp only
            rw [if_neg q]
            by_cases q : xHelp W LW t u j = true
            · rw [if_pos q, if_pos q]
              exact SR.ret
            · rw [if_neg q, if_neg q]
              exact SR.ret
  · show SR f K LW (mX11_exchange_L12 0 (Int32.ofNat t) (Int32.ofNat u) (xI (xB W LW t u 8), Int32.ofNat 8)) _
    unfold mX11_exchange_L12
    dsimp only
    rw [if_pos (show (8 : Int32) ≤ Int32.ofNat 8 from Int32.le_refl _)]
    exact SR.ret
def xR (W : Nat → Int32) (LW : Option (List Ln)) (t u m : Nat) : Nat → Nat → Unit ⊕ Int32
  | 0, j => .inr (xS W LW t u m j)
  | d + 1, j => if xcB W t u m j = true then xR W LW t u m d (j + 1) else .inl ()
theorem xR_3 (W : Nat → Int32) (LW : Option (List Ln)) (t u m : Nat) : xR W LW t u m 3 0 = if xAll W t u m = true then .inr (xS W LW t u m 3) else .inl () := by
  show (if xcB W t u m 0 = true then (if xcB W t u m 1 = true then (if xcB W t u m 2 = true then _ else _) else _) else _) = _
  unfold xAll
  cases xcB W t u m 0 <;> cases xcB W t u m 1 <;> cases xcB W t u m 2 <;> rfl
theorem m_xstep (C : Mdl s 66 M) (hW : M.2 1 = W) (L : LawR W LW) (ok : LWok LW) (hk : kOk K) (hw : wOk K W c) (ht : t < K.1 1) (hu : u < K.1 1) {k : Nat} (h3 : k < 3) : QX I3 (mX12_exchanged_L6 66 (Int32.ofNat t) (Int32.ofNat u) (Int32.ofNat m) (xS W LW t u m k, Int32.ofNat k)) s M (if xcB W t u m k = true then .inl (xS W LW t u m (k + 1), Int32.ofNat (k + 1)) else .inr (.inl ())) := by
  subst hW
  have n3 : ¬ (3 : Int32) ≤ Int32.ofNat k := nle (n := 3) h3 (by decide)
  have hb1 : K.1 1 ≤ 6 := hk 1 (by decide)
  have sl : ∀ v, v < K.1 1 → mX12_inTool 66 (Int32.ofNat v) (Int32.ofNat k) s = some (.inl (M.2 1 (141 + 4 * v + k)), s) := fun v hv => (MD.cols C).2.2.2.2.2.2.2.2.2.2.2.2.2.1 v k (by omega) (by omega)
  have es : xS (M.2 1) LW t u m (k + 1) = xS (M.2 1) LW t u m k + xG (M.2 1) LW t u m k := rfl
  unfold mX12_exchanged_L6
  dsimp only
  rw [if_neg n3, es]
  refine QX.get (sl t ht) (QX.get (sl u hu) (QX.get (has_app _ _ s) ?_))
  simp only [has_bt (Int32.ofNat m) (show k < 32 by omega)]
  by_cases hb : bt (Int32.ofNat m) k = true
  · rw [if_pos hb, if_neg one_ne0]
    unfold xG
    rw [if_pos hb]
    rcases slot_or hk hw ht h3 with h | ⟨p, hp, hp16, h, h9, -⟩
    · have h0 : ¬ (0 : Int32) ≤ M.2 1 (141 + 4 * t + k) := by rw [h]; decide
      have e : ¬ xcB (M.2 1) t u m k = true := by unfold xcB; simp [hb, h0]
      rw [if_neg e, if_pos (Int32.not_le.mp h0)]
      exact QX.ret C
    have hp0 : (0 : Int32) ≤ Int32.ofNat p := le0_ofN (by omega)
    rcases slot_or hk hw hu h3 with g | ⟨q, hq, hq16, g, g9, -⟩
    · have h0 : ¬ (0 : Int32) ≤ M.2 1 (141 + 4 * u + k) := by rw [g]; decide
      have e : ¬ xcB (M.2 1) t u m k = true := by unfold xcB; simp [hb, h0]
      rw [if_neg e, h, if_neg (Int32.not_lt.mpr hp0), if_pos (Int32.not_le.mp h0)]
      exact QX.ret C
    have hq0 : (0 : Int32) ≤ Int32.ofNat q := le0_ofN (by omega)
    have eB : xcB (M.2 1) t u m k = (!decide (M.2 1 (13 + 8 * p + 4) = 1) && !decide (M.2 1 (13 + 8 * q + 4) = 1)) := by
      unfold xcB
      rw [hb, h, g, ofN_cl (by omega), ofN_cl (by omega), decide_eq_true hp0, decide_eq_true hq0]
      rfl
    rw [eB, h, g, if_neg (Int32.not_lt.mpr hp0), if_neg (Int32.not_lt.mpr hq0), ofN_cl (by omega), ofN_cl (by omega)]
    refine QX.get ((MD.is C).2.1 p (by omega)) ?_
    by_cases hn : M.2 1 (13 + 8 * p + 4) = 1
    · rw [if_pos hn, if_neg one_ne0, decide_eq_true hn]
      exact QX.ret C
    rw [if_neg hn, if_pos rfl, decide_eq_false hn]
    refine QX.get ((MD.is C).2.1 q (by omega)) ?_
    by_cases hn2 : M.2 1 (13 + 8 * q + 4) = 1
    · rw [if_pos hn2, if_neg one_ne0, decide_eq_true hn2]
      exact QX.ret C
    rw [if_neg hn2, if_pos rfl, decide_eq_false hn2, if_pos (show (!false && !false) = true from rfl)]
    refine QX.get ((MD.cols C).2.2.2.1 q (by omega)) (QX.bnd (m_over C L ok (by omega) (hw.1 q hq).2.2.2.1 g9) fun s1 M1 C1 k1 i1 => ?_)
    have W1 : M1.2 1 = M.2 1 := k1.1
    have ov := m_over (LW := LW) C1 (by rw [W1]; exact L) ok (p := p) (by omega) (by rw [W1]; exact (hw.1 p hp).2.2.2.1) (by rw [W1]; exact h9)
    rw [W1] at ov
    refine QX.bnd ov fun s2 M2 C2 k2 i2 => QX.get (x := _) rfl ?_
    rw [← ofN_succ]
    exact QX.ret C2
  · rw [if_neg hb, if_pos rfl]
    unfold xG xOwn
    have e : xcB (M.2 1) t u m k = true := by unfold xcB; simp [hb]
    rw [if_neg hb, if_pos e, ← ofN_succ]
    rcases slot_or hk hw ht h3 with h | ⟨p, hp, hp16, h, -⟩
    · have h0 : ¬ (0 : Int32) ≤ M.2 1 (141 + 4 * t + k) := by rw [h]; decide
      rw [if_neg h0, if_neg h0]
      exact QX.get (x := 0) rfl (QX.get (x := _) rfl (QX.ret C))
    · have hp0 : (0 : Int32) ≤ M.2 1 (141 + 4 * t + k) := by rw [h]; exact le0_ofN (by omega)
      rw [if_pos hp0, if_pos hp0, h, ofN_cl (by omega)]
      exact QX.bnd (QX.get ((MD.cols C).2.2.2.1 p (by omega)) (QX.ret C)) fun s1 M1 C1 _ _ => QX.get (x := _) rfl (QX.ret C1)
theorem m_xloop (L : LawR W LW) (ok : LWok LW) (hk : kOk K) (hw : wOk K W c) (ht : t < K.1 1) (hu : u < K.1 1) : ∀ d j, d + j = 3 → ∀ s M, Mdl s 66 M → M.2 1 = W → QX I3 (loopM (mX12_exchanged_L6 66 (Int32.ofNat t) (Int32.ofNat u) (Int32.ofNat m)) (xS W LW t u m j, Int32.ofNat j)) s M (xR W LW t u m d j)
  | 0, j, e, s, M, C, hW => by
    have e3 : j = 3 := by omega
    subst e3
    rw [loopM_eq]
    refine QX.bnd (x := .inr (.inr (xS W LW t u m 3))) ?_ fun s1 M1 C1 _ _ => QX.ret C1
    unfold mX12_exchanged_L6
    dsimp only
    rw [if_pos (show (3 : Int32) ≤ Int32.ofNat 3 from Int32.le_refl _)]
    exact QX.ret C
  | d + 1, j, e, s, M, C, hW => by
    rw [loopM_eq]
    refine (m_xstep C hW L ok hk hw ht hu (by omega)).bnd fun s1 M1 C1 k1 _ => ?_
    show QX I3 _ s1 M1 (if xcB W t u m j = true then xR W LW t u m d (j + 1) else .inl ())
    by_cases h : xcB W t u m j = true
    · rw [if_pos h, if_pos h]
      exact m_xloop L ok hk hw ht hu d (j + 1) (by omega) s1 M1 C1 (k1.1.trans hW)
    · rw [if_neg h, if_neg h]
      exact QX.ret C1
theorem m_exchd (L : LawR W LW) (ok : LWok LW) (hk : kOk K) (hw : wOk K W c) (ht : t < K.1 1) (hu : u < K.1 1) (C : Mdl s 66 M) (hW : M.2 1 = W) : QX I3 (mX12_exchanged 66 (Int32.ofNat t) (Int32.ofNat u) (Int32.ofNat m)) s M (if xAll W t u m = true then xS W LW t u m 3 else 1000000) := by
  unfold mX12_exchanged
  refine QX.o11 C (QX.bnd (m_xloop L ok hk hw ht hu 3 0 rfl s M C hW) fun s1 M1 C1 _ _ => ?_)
  rw [xR_3]
  by_cases h : xAll W t u m = true
  · rw [if_pos h, if_pos h]
    exact QX.ret C1
  · rw [if_neg h, if_neg h]
    exact QX.ret C1
theorem xHelp_iff (hw : wOk K W c) : (xHelp W LW t u m = true) = (¬ W 7 < (if xAll W t u m = true then xS W LW t u m 3 else 1000000) ∧ (if xAll W t u m = true then xS W LW u t m 3 else 1000000) ≤ W 7) := by
  unfold xHelp
  by_cases h : xAll W t u m = true
  · rw [h, if_pos rfl, if_pos rfl, ← Int32.not_lt]
    simp
  · have h9 : W 7 < 1000000 := by
      obtain ⟨n, hn, e⟩ := hw.2.2.2.2.2.2.2.2.2.1
      rw [e]
      exact (ofN_lt (m := 1000000) (by omega) (by decide)).mpr (by omega)
    rw [if_neg h, Bool.eq_false_iff.mpr h]
    simp [h9]
theorem m_exch (L : LawR W LW) (ok : LWok LW) (hk : kOk K) (hw : wOk K W c) (ht : t < K.1 1) (hu : u < K.1 1) (C : Mdl s 66 M) (hW : M.2 1 = W) : QX I3 (loopM (mX12_exchange_L60 66 (Int32.ofNat t) (Int32.ofNat u)) (-1, 0)) s M (xI (xB W LW t u 8)) := by
  refine QX.loop 8 (fun j => (xI (xB W LW t u j), Int32.ofNat j)) (fun j hj s' M' C' k' i' => ?_) (fun s' M' C' k' i' => ?_) C
  · have W' : M'.2 1 = W := k'.1.trans hW
    show QX I3 (mX12_exchange_L60 66 (Int32.ofNat t) (Int32.ofNat u) (xI (xB W LW t u j), Int32.ofNat j)) s' M' (.inl (xI (xB W LW t u (j + 1)), Int32.ofNat (j + 1)))
    unfold mX12_exchange_L60
    dsimp only
    rw [if_neg (show ¬ (8 : Int32) ≤ Int32.ofNat j from nle (n := 8) hj (by decide)), ← ofN_succ]
    refine QX.bnd (m_exchd (m := j) L ok hk hw ht hu C' W') fun s1 M1 C1 k1 _ => ?_
    have W1 : M1.2 1 = W := k1.1.trans W'
    refine QX.get ((MD.refs C1).2.1) (QX.get (x := W 7) (by rw [← W1]; exact (MD.wl C1).2.2.2.2.2.2.2.2.1) ?_)
    have e : xB W LW t u (j + 1) = if xHelp W LW t u j = true then (match xB W LW t u j with | none => some j | some b => if bc b ≤ bc j then some b else some j) else xB W LW t u j := rfl
    rw [e]
    have hi := xHelp_iff (LW := LW) (t := t) (u := u) (m := j) hw
    by_cases q1 : W 7 < (if xAll W t u j = true then xS W LW t u j 3 else 1000000)
    · have hn : ¬ xHelp W LW t u j = true := by rw [hi]; exact fun z => z.1 q1
      rw [if_pos q1, if_neg hn]
      exact QX.bnd (QX.ret C1) fun s2 M2 C2 _ _ => QX.ret C2
    rw [if_neg q1]
    have ex := m_exchd (m := j) L ok hk hw hu ht C1 W1
    rw [← xAll_swap W t u j] at ex
    refine QX.bnd (QX.bnd ex (y := xI (if xHelp W LW t u j = true then (match xB W LW t u j with | none => some j | some b => if bc b ≤ bc j then some b else some j) else xB W LW t u j)) fun s2 M2 C2 k2 _ => ?_) fun s2 M2 C2 _ _ => QX.ret C2
    have W2 : M2.2 1 = W := k2.1.trans W1
    refine QX.get ((MD.refs C2).2.1) (QX.get (x := W 7) (by rw [← W2]; exact (MD.wl C2).2.2.2.2.2.2.2.2.1) ?_)
    by_cases q2 : (if xAll W t u j = true then xS W LW u t j 3 else 1000000) ≤ W 7
    · have hy : xHelp W LW t u j = true := by rw [hi]; exact ⟨q1, q2⟩
      rw [if_pos q2, if_pos hy]
      refine QX.bnd (x := xI (match xB W LW t u j with | none => some j | some b => if bc b ≤ bc j then some b else some j)) ?_ fun s3 M3 C3 _ _ => QX.ret C3
      cases hb : xB W LW t u j with
      | none =>
        rw [if_pos (show xI none < 0 from by decide)]
        exact QX.ret C2
      | some b =>
        have hb8 : b < 8 := by have := xB_lt W LW t u j b hb; omega
        have b1 := bc_31 b hb8
        have b2 := bc_31 j hj
        rw [if_neg (show ¬ xI (some b) < 0 from Int32.not_lt.mpr (le0_ofN (by omega)))]
        refine QX.get (bc_app j hj s2) (QX.get (bc_app b hb8 s2) ?_)
        dsimp only
        by_cases q : bc b ≤ bc j
        · rw [if_pos q, if_pos ((ofN_le (by omega) (by omega)).mpr q)]
          exact QX.ret C2
        · rw [if_neg q, if_neg (fun z => q ((ofN_le (by omega) (by omega)).mp z))]
          exact QX.ret C2
    · have hn : ¬ xHelp W LW t u j = true := by rw [hi]; exact fun z => q2 z.2
      rw [if_neg q2, if_neg hn]
      exact QX.ret C2
  · show QX I3 (mX12_exchange_L60 66 (Int32.ofNat t) (Int32.ofNat u) (xI (xB W LW t u 8), Int32.ofNat 8)) s' M' _
    unfold mX12_exchange_L60
    dsimp only
    rw [if_pos (show (8 : Int32) ≤ Int32.ofNat 8 from Int32.le_refl _)]
    exact QX.ret C'
def xAns (z : Int32) : Option Nat → Int32
  | none => -1
  | some b => if z = 0 then Int32.ofNat (bc b) else Int32.ofNat b
theorem ag_exchange (E : EnvL s f K M LW c) : Ag K.2.2.2 (mX11_exchange 0 x y z) (mX12_exchange 66 x y z) s M [(2, 1), (0, 2)] := by
  obtain ⟨⟨C, -, S, hk, hw, hc⟩, CLs, LR⟩ := E
  have hpre : ∀ s', mX12_exchange 66 x y z s' = onC 11 66 (mbnd (pI 11 0 66 0) fun _ => pre2 x y (mbnd (loopM (mX12_exchange_L60 66 x y) ((-1), 0)) fun (e39 : Int32) => if z = 0 then (if 0 ≤ e39 then (mbnd (mJ6_bitCount_0f7a4 e39) fun (v42 : Int32) => mret v42) else (mret e39)) else (mret e39))) s' := fun s' => rfl
  rcases need_two C hk x y with ⟨hA, e⟩ | ⟨t, u, ht, hu, rfl, rfl, ⟨rfl, e⟩ | ⟨hne, e⟩⟩
  · refine Or.inr ⟨2, 1, 0, ?_, rfl, one_ne0, fun s' D' => RQ.eq (hpre s') (RQ.start D' fun s1 D1 => pre2_A D1 S hk hA)⟩
    unfold mX11_exchange
    rw [onC_ok C.1, bnd_ex e]
  · refine Or.inr ⟨0, 2, 0, ?_, rfl, by decide, fun s' D' => RQ.eq (hpre s') (RQ.start D' fun s1 D1 => pre2_B D1 S hk ht)⟩
    unfold mX11_exchange
    rw [onC_ok C.1, bnd_ex e]
  · obtain ⟨s1, a1, a2⟩ := c_exch (f := f) (LW := LW) S hk hw ht hu s CLs
    have fin : ∀ s', (if z = 0 then (if 0 ≤ xI (xB (M.2 1) LW t u 8) then (mbnd (mJ6_bitCount_0f7a4 (xI (xB (M.2 1) LW t u 8))) fun (v42 : Int32) => mret v42) else (mret (xI (xB (M.2 1) LW t u 8)))) else (mret (xI (xB (M.2 1) LW t u 8))) : MM Int32) s' = some (.inl (xAns z (xB (M.2 1) LW t u 8)), s') ∧ (if z = 0 then (if xI (xB (M.2 1) LW t u 8) = -1 then (mret (xI (xB (M.2 1) LW t u 8))) else (mbnd (mJ6_bitCount_0f7a4 (xI (xB (M.2 1) LW t u 8))) fun (v42 : Int32) => mret v42)) else (mret (xI (xB (M.2 1) LW t u 8))) : MM Int32) s' = some (.inl (xAns z (xB (M.2 1) LW t u 8)), s') := fun s' => by
      cases hb : xB (M.2 1) LW t u 8 with
      | none =>
        by_cases hz : z = 0
        · rw [if_pos hz, if_pos hz]
          exact ⟨rfl, rfl⟩
        · rw [if_neg hz, if_neg hz]
          exact ⟨rfl, rfl⟩
      | some b =>
        have hb8 := xB_lt _ _ _ _ _ _ hb
        unfold xAns
        by_cases hz : z = 0
        · rw [if_pos hz, if_pos hz, if_pos (show 0 ≤ xI (some b) from le0_ofN (by omega)), if_neg (show ¬ xI (some b) = -1 from ofN_ne1 (by omega)), bnd_ok (show mJ6_bitCount_0f7a4 (xI (some b)) s' = _ from bc_app b hb8 s')]
          dsimp only
          rw [if_pos hz]
          exact ⟨rfl, rfl⟩
        · rw [if_neg hz, if_neg hz]
          dsimp only
          rw [if_neg hz]
          exact ⟨rfl, rfl⟩
    refine Or.inl ⟨xAns z (xB (M.2 1) LW t u 8), s1, ?_, a2, fun s' D' => RQ.eq (hpre s') (RQ.start D' fun s1 D1 => pre2_C D1 S hk ht hu hne ?_)⟩
    · unfold mX11_exchange
      rw [onC_ok C.1, bnd_ok e, bnd_ok a1]
      exact (fin s1).2
    · exact (QX.bnd (m_exch (c := c) LR CLs.2.2.2.2 hk hw ht hu D1 rfl) fun s2 M2 C2 _ _ => QX.val C2 (fin s2).1).rq (Or.inl rfl) rfl
end EX
