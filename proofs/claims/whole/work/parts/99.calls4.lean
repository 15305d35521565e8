/-! MORE CALLS THAT ASK: ask, culprits, alibi -/
/-- the head's mark is none, or a number -/
def wq (g : Bool) (m : Int32) : Int32 := if g = true then m - m / 10 * 10 else m / 10
def walike (W : Nat → Int32) (g : Bool) (v : Int32) (n : Nat) : Int32 := sumI (fun t => if wmark W t < 0 then 0 else if wq g (wmark W t) = v then 1 else 0) n
def wmostA (W : Nat → Int32) (g : Bool) (n : Nat) : Nat → Int32
  | 0 => 0
  | v + 1 => imax (wmostA W g n v) (walike W g (Int32.ofNat v) n)
def wculp (W : Nat → Int32) (v : Int32) (g n : Nat) : Int32 := orI (fun t => if W (591 + 6 * g + t) = v then 1 <<< (Int32.ofNat t &&& (31 : Int32)) else 0) n
def walib (W : Nat → Int32) (m : Nat) (day : Int32) : Nat → Int32
  | 0 => 1
  | d + 1 => if walib W m day d = 0 then 0 else if W (171 + 7 * d) = day then (if iabs (W (165 + (W (171 + 7 * d + 2)).toNatClampNeg) - W (165 + m)) ≤ 1 then 0 else 1) else 1
section C4
variable {s : aS} {f : Int32} {K : CK} {M : MK} {W : Nat → Int32} {LW : Option (List Ln)} {c : Nat} {x y z w : Int32}
theorem wmark_or (hk : kOk K) (hw : wOk K W c) {t : Nat} (ht : t < K.1 1) : wmark W t = -1 ∨ isN (wmark W t) 99 := by
  unfold wmark
  rcases slot_or hk hw ht (k := 1) (by decide) with h | ⟨p, hp, hp16, h, -⟩
  · rw [h]
    exact Or.inl rfl
  · rw [h, if_pos (le0_ofN (by omega)), ofN_cl (by omega)]
    obtain ⟨e, he, h1⟩ := (hw.1 p hp).2.1
    obtain ⟨a, ha, h2⟩ := (hw.1 p hp).2.2.1
    rw [h1, h2]
    refine Or.inr ⟨10 * e + a / 10, by omega, ?_⟩
    rw [show (10 : Int32) = Int32.ofNat 10 from rfl, ofN_div (by omega) (by decide), ofN_mul, ofN_add]
theorem wmark_neg (hk : kOk K) (hw : wOk K W c) {t : Nat} (ht : t < K.1 1) : (wmark W t = -1) = (wmark W t < 0) := by
  rcases wmark_or hk hw ht with h | h
  · rw [h]
    exact propext ⟨fun _ => neg1_lt, fun _ => rfl⟩
  · have := h.nn (by decide)
    exact propext ⟨fun q => absurd (by rw [q]; exact neg1_lt) this, fun q => absurd q this⟩
theorem c_alike (C : CC s f K) (S : Sm K W) (hk : kOk K) (hw : wOk K W c) (g : Bool) {v y0 : Int32} : loopM (mX11_mostAlike_L16 0 (if g = true then 0 else 1) (y0, v)) (0, 0) s = some (.inl (walike W g v (K.1 1)), s) := by
  have hb : K.1 1 ≤ 6 := hk 1 (by decide)
  have hl : loopM (mX11_mostAlike_L16 0 (if g = true then 0 else 1) (y0, v)) (walike W g v 0, 0) s = some (.inl (walike W g v (K.1 1)), s) := by
    refine for_ok (K.1 1) (fun j => walike W g v j) (fun j hj => ?_) ?_
    · unfold mX11_mostAlike_L16
      have hm := mark_same S hk hj (hw.2.1 j hj).toolIn
      have hneg := wmark_neg hk hw hj
      cases g with
      | true =>
        simp only [mbnd_app, kx_in, mite_app, mret_app, ite_some, CC.all C, nle hj (by omega), if_false, if_true, hm, hneg]
        rfl
      | false =>
        simp only [mbnd_app, kx_in, mite_app, mret_app, ite_some, CC.all C, nle hj (by omega), if_false, Bool.false_eq_true, one_ne0, hm, hneg]
        rfl
    · unfold mX11_mostAlike_L16
      simp only [mbnd_app, kx_in, CC.all C, Int32.le_refl, if_true, mret_app]
  exact hl
theorem m_alike (C : Mdl s 66 M) (g : Bool) {v y0 : Int32} {n : Nat} (hn : M.2 1 1 = Int32.ofNat n) (hb : n ≤ 6) (hto : ∀ j, j < n → toolOk (M.2 1) j) : loopM (mX12_alike_L16 66 (if g = true then 1 else 0) (y0, v)) (0, 0) s = some (.inl (walike (M.2 1) g v n), s) := by
  have hl : loopM (mX12_alike_L16 66 (if g = true then 1 else 0) (y0, v)) (walike (M.2 1) g v 0, 0) s = some (.inl (walike (M.2 1) g v n), s) := by
    refine for_ok n (fun j => walike (M.2 1) g v j) (fun j hj => ?_) ?_
    · unfold mX12_alike_L16
      have hm := m_markNow_run C (t := j) (by omega) (hto j hj)
      cases g with
      | true =>
        simp only [mbnd_app, kx_in, mite_app, mret_app, ite_some, MD.all C, hn, nle hj (by omega), if_false, if_true, hm, one_ne0]
        rfl
      | false =>
        simp only [mbnd_app, kx_in, mite_app, mret_app, ite_some, MD.all C, hn, nle hj (by omega), if_false, if_true, Bool.false_eq_true, hm]
        rfl
    · unfold mX12_alike_L16
      simp only [mbnd_app, kx_in, MD.all C, hn, Int32.le_refl, if_true, mret_app]
  exact hl
theorem c_mostA (C : CC s f K) (S : Sm K W) (hk : kOk K) (hw : wOk K W c) (g : Bool) : mX11_mostAlike 0 (if g = true then 0 else 1) s = some (.inl (wmostA W g (K.1 1) 10), s) := by
  have hl : loopM (mX11_mostAlike_L4 0 (if g = true then 0 else 1)) (wmostA W g (K.1 1) 0, 0) s = some (.inl (wmostA W g (K.1 1) 10), s) := by
    refine for_ok 10 (fun j => wmostA W g (K.1 1) j) (fun j hj => ?_) ?_
    · unfold mX11_mostAlike_L4
      have h9 : ¬ (9 : Int32) < Int32.ofNat j := fun q => absurd ((ofN_lt (n := 9) (by decide) (by omega)).mp q) (by omega)
      simp only [if_neg h9, mbnd_app, kx_in, c_alike C S hk hw, mret_app]
      rfl
    · unfold mX11_mostAlike_L4
      exact if_pos (show (9 : Int32) < Int32.ofNat 10 by decide) ▸ rfl
  unfold mX11_mostAlike
  rw [onC_ok C.1]
  exact bnd_ok hl
theorem m_mostA (C : Mdl s 66 M) (g : Bool) {n : Nat} (hn : M.2 1 1 = Int32.ofNat n) (hb : n ≤ 6) (hto : ∀ j, j < n → toolOk (M.2 1) j) : mX12_alike 66 (if g = true then 1 else 0) s = some (.inl (wmostA (M.2 1) g n 10), s) := by
  have hl : loopM (mX12_alike_L4 66 (if g = true then 1 else 0)) (wmostA (M.2 1) g n 0, 0) s = some (.inl (wmostA (M.2 1) g n 10), s) := by
    refine for_ok 10 (fun j => wmostA (M.2 1) g n j) (fun j hj => ?_) ?_
    · unfold mX12_alike_L4
      have h9 : ¬ (10 : Int32) ≤ Int32.ofNat j := nle (n := 10) hj (by decide)
      simp only [if_neg h9, mbnd_app, kx_in, m_alike C g hn hb hto, mret_app]
      rfl
    · unfold mX12_alike_L4
      exact if_pos (show (10 : Int32) ≤ Int32.ofNat 10 by decide) ▸ rfl
  unfold mX12_alike
  rw [onC_ok C.1]
  exact bnd_ok hl
theorem ag_ask (E : Env s f K M c) : Ag K.2.2.2 (mX11_ask 0 x) (mX12_ask 66 x) s M [] := by
  obtain ⟨C, -, S, hk, hw, hc⟩ := E
  have hb1 : K.1 1 ≤ 6 := hk 1 (by decide)
  refine Or.inl ⟨if x = 0 then (if wmostA (M.2 1) false (K.1 1) 10 ≤ wmostA (M.2 1) true (K.1 1) 10 then 0 else 1) else imin (wmostA (M.2 1) false (K.1 1) 10) (wmostA (M.2 1) true (K.1 1) 10), s, ?_, ScR.rf, fun s' D' => ?_⟩
  · unfold mX11_ask
    rw [onC_ok C.1, bnd_ok (show mX11_mostAlike 0 1 s = _ from c_mostA C S hk hw false), bnd_ok (show mX11_mostAlike 0 0 s = _ from c_mostA C S hk hw true)]
    split
    · split <;> rfl
    · rfl
  · unfold mX12_ask
    refine RQ.start D' fun s1 D1 => RQ.get (show mX12_alike 66 0 s1 = _ from m_mostA D1 false (n := K.1 1) S.1.2.1 hb1 (fun j hj => (hw.2.1 j hj).ok hk)) (RQ.get (show mX12_alike 66 1 s1 = _ from m_mostA D1 true (n := K.1 1) S.1.2.1 hb1 (fun j hj => (hw.2.1 j hj).ok hk)) (RQ.val D1 ?_ rfl))
    show (if x = 0 then (if wmostA (M.2 1) false (K.1 1) 10 ≤ wmostA (M.2 1) true (K.1 1) 10 then mret 0 else mret 1) else mret (imin (wmostA (M.2 1) false (K.1 1) 10) (wmostA (M.2 1) true (K.1 1) 10)) : MM Int32) s1 = _
    split
    · split <;> rfl
    · rfl
theorem walib_01 (W : Nat → Int32) (m : Nat) (day : Int32) : ∀ n, walib W m day n = 0 ∨ walib W m day n = 1
  | 0 => Or.inr rfl
  | n + 1 => by
    show (if _ then _ else _) = _ ∨ (if _ then _ else _) = _
    split
    · exact Or.inl rfl
    · split
      · split
        · exact Or.inl rfl
        · exact Or.inr rfl
      · exact Or.inr rfl
def badA (W : Nat → Int32) (m : Nat) (day : Int32) (d : Nat) : Prop := W (171 + 7 * d) = day ∧ iabs (W (165 + (W (171 + 7 * d + 2)).toNatClampNeg) - W (165 + m)) ≤ 1
theorem walib_ex (W : Nat → Int32) (m : Nat) (day : Int32) : ∀ n, (walib W m day n = 0 ↔ ∃ d, d < n ∧ badA W m day d)
  | 0 => ⟨fun h => absurd (show (1 : Int32) = 0 from h) (by decide), fun ⟨d, h, _⟩ => absurd h (Nat.not_lt_zero d)⟩
  | n + 1 => by
    have ih := walib_ex W m day n
    have e : walib W m day (n + 1) = (if walib W m day n = 0 then 0 else if W (171 + 7 * n) = day then (if iabs (W (165 + (W (171 + 7 * n + 2)).toNatClampNeg) - W (165 + m)) ≤ 1 then 0 else 1) else 1) := rfl
    rw [e]
    by_cases h : walib W m day n = 0
    · rw [if_pos h]
      obtain ⟨d, h1, h2⟩ := ih.mp h
      exact ⟨fun _ => ⟨d, Nat.lt_succ_of_lt h1, h2⟩, fun _ => rfl⟩
    · rw [if_neg h]
      have up : (∃ d, d < n + 1 ∧ badA W m day d) ↔ badA W m day n := by
        constructor
        · rintro ⟨d, h1, h2⟩
          rcases Nat.lt_or_ge d n with q | q
          · exact absurd (ih.mpr ⟨d, q, h2⟩) h
          · rwa [show d = n by omega] at h2
        · exact fun q => ⟨n, Nat.lt_succ_self n, q⟩
      rw [up]
      unfold badA
      by_cases h1 : W (171 + 7 * n) = day
      · rw [if_pos h1]
        by_cases h2 : iabs (W (165 + (W (171 + 7 * n + 2)).toNatClampNeg) - W (165 + m)) ≤ 1
        · rw [if_pos h2]
          exact ⟨fun _ => ⟨h1, h2⟩, fun _ => rfl⟩
        · rw [if_neg h2]
          exact ⟨fun q => absurd q (by decide), fun q => absurd q.2 h2⟩
      · rw [if_neg h1]
        exact ⟨fun q => absurd q (by decide), fun q => absurd q.1 h1⟩
theorem two_le (v : Int32) : (2 ≤ v) = ¬ v ≤ 1 := by
  apply propext
  rw [i32_le, i32_le]
  have e2 : (2 : Int32).toInt = 2 := rfl
  have e1 : (1 : Int32).toInt = 1 := rfl
  omega
theorem ag_alibi (E : Env s f K M c) : Ag K.2.2.2 (mX11_alibi 0 x y) (mX12_alibi 66 x y) s M [(2, 1), (0, 2)] := by
  obtain ⟨C, -, S, hk, hw, hc⟩ := E
  have hb2 : K.1 2 ≤ 6 := hk 2 (by decide)
  have hb3 : K.1 3 ≤ 60 := hk 3 (by decide)
  have cs := Sm.cols S hk
  rcases rg_or (K.1 2) (by omega) x with h | ⟨m, hm, rfl⟩
  · refine Or.inr ⟨2, 1, 0, ?_, rfl, one_ne0, fun s' D' => ?_⟩
    · unfold mX11_alibi
      rw [onC_ok C.1, bnd_ex (need_master_no C h)]
    · unfold mX12_alibi
      exact RQ.start D' fun s1 D1 => RQ.get (noMaster_no D1 S.1.2.2.1 (by omega) h) (RQ.thr D1 1 fun _ => rfl)
  by_cases hy : 0 ≤ y
  · have g1 : gR 10 7 0 s = some (.inl 28, s) := gR_ok C.1 rfl
    have g2 : gR 1 2 28 s = some (.inl 33, s) := gR_ok C.2.1 rfl
    have g3 : gR 1 3 28 s = some (.inl 35, s) := gR_ok C.2.1 rfl
    have gm : ∀ q, q < K.1 2 → mX8_get 33 (Int32.ofNat q) 0 s = some (.inl (M.2 1 (165 + q)), s) := fun q hq => by
      rw [← S.master hk hq]
      exact get_ok C.2.t2
    have hloop := for_exit (s := s) (b := mX11_alibi_L36 0 y (M.2 1 (165 + m))) (e1 := .inl ()) (e2 := .inr ()) (K.1 3) (badA (M.2 1) m y) (fun j hj hb => by
      obtain ⟨u, hu, hu2⟩ := (hw.2.2.2.1 j hj).2.2.1
      have q2 := gm u hu
      unfold mX11_alibi_L36
      by_cases h1 : M.2 1 (171 + 7 * j) = y
      · have h2 : ¬ iabs (M.2 1 (165 + u) - M.2 1 (165 + m)) ≤ 1 := fun q => hb ⟨h1, by rw [hu2, ofN_cl (by omega)]; exact q⟩
        simp only [mbnd_app, kx_in, mite_app, mret_app, CC.refs C, (CC.tabs C).2.2.2.1, (CC.tabs C).2.2.2.2.2.2.2.2.2.1, nle hj (by omega), if_false, cs, hj, hu2, q2, h1, if_true, two_le, h2, not_false_eq_true]
      · simp only [mbnd_app, kx_in, mite_app, mret_app, CC.refs C, (CC.tabs C).2.2.2.1, (CC.tabs C).2.2.2.2.2.2.2.2.2.1, nle hj (by omega), if_false, cs, hj, hu2, q2, h1]) (fun j hj hb => by
      obtain ⟨u, hu, hu2⟩ := (hw.2.2.2.1 j hj).2.2.1
      have q2 := gm u hu
      have h1 : M.2 1 (171 + 7 * j) = y := hb.1
      have h2 : iabs (M.2 1 (165 + u) - M.2 1 (165 + m)) ≤ 1 := by
        have := hb.2
        rwa [hu2, ofN_cl (by omega)] at this
      unfold mX11_alibi_L36
      simp only [mbnd_app, kx_in, mite_app, mret_app, CC.refs C, (CC.tabs C).2.2.2.1, (CC.tabs C).2.2.2.2.2.2.2.2.2.1, nle hj (by omega), if_false, cs, hj, hu2, q2, h1, if_true, two_le, h2, not_true]) (by
      unfold mX11_alibi_L36
      simp only [mbnd_app, kx_in, CC.all C, Int32.le_refl, if_true, mret_app])
    refine Or.inl ⟨walib (M.2 1) m y (K.1 3), s, ?_, ScR.rf, fun s' D' => ?_⟩
    · unfold mX11_alibi
      rw [onC_ok C.1, bnd_ok (need_master_ok C hk hm), if_pos hy, bnd_ok g1, bnd_ok g2, bnd_ok (gm m hm)]
      rcases walib_01 (M.2 1) m y (K.1 3) with h | h
      · rw [bnd_ok (hloop.1 ((walib_ex _ m y _).mp h)), h]
        rfl
      · rw [bnd_ok (hloop.2 (fun q => by rw [(walib_ex _ m y _).mpr q] at h; exact absurd h (by decide))), h]
        rfl
    · unfold mX12_alibi
      refine RQ.start D' fun s1 D1 => RQ.get (noMaster_in D1 S.1.2.2.1 (by omega) hm) (RQ.get (thr_no D1 1) ?_)
      rw [if_pos rfl, if_pos hy]
      refine RQ.get (w := 0) rfl (RQ.get (thr_no D1 2) ?_)
      rw [if_pos rfl]
      have hl : loopM (mX12_alibi_L42 66 (Int32.ofNat m) y) (walib (M.2 1) m y 0, 0) s1 = some (.inl (walib (M.2 1) m y (K.1 3)), s1) := by
        refine for_ok (K.1 3) (fun j => walib (M.2 1) m y j) (fun j hj => ?_) ?_
        · obtain ⟨u, hu, hu2⟩ := (hw.2.2.2.1 j hj).2.2.1
          have hj4 : j < 300 := by omega
          have e1 : (165 : Int32) + Int32.ofNat u = Int32.ofNat (165 + u) := ofN_add 165 u
          have e2 : (165 : Int32) + Int32.ofNat m = Int32.ofNat (165 + m) := ofN_add 165 m
          have l1 : 165 + u < 2769 := by omega
          have l2 : 165 + m < 2769 := by omega
          have hcl : (Int32.ofNat u).toNatClampNeg = u := ofN_cl (by omega)
          unfold mX12_alibi_L42
          simp only [mbnd_app, kx_in, mite_app, mret_app, ite_some, MD.refs D1, MD.cols D1, MD.cnt D1, mint_2, S.1.2.2.2.1, nle hj (by omega), if_false, hj4, hu2, e1, e2, (MD.wl D1).1 _ l1, (MD.wl D1).1 _ l2, walib, hcl]
        · unfold mX12_alibi_L42
          simp only [mbnd_app, kx_in, MD.cnt D1, mint_2, S.1.2.2.2.1, Int32.le_refl, if_true, mret_app]
      refine RQ.get hl (RQ.val D1 ?_ rfl)
      rcases walib_01 (M.2 1) m y (K.1 3) with h | h <;> rw [h] <;> rfl
  · refine Or.inr ⟨0, 2, 0, ?_, rfl, by decide, fun s' D' => ?_⟩
    · unfold mX11_alibi
      rw [onC_ok C.1, bnd_ok (need_master_ok C hk hm), if_neg hy]
      rfl
    · unfold mX12_alibi
      refine RQ.start D' fun s1 D1 => RQ.get (noMaster_in D1 S.1.2.2.1 (by omega) hm) (RQ.get (thr_no D1 1) ?_)
      rw [if_pos rfl, if_neg hy]
      exact RQ.get (w := 1) rfl (RQ.thr D1 2 fun _ => rfl)
end C4
