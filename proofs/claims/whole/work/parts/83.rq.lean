/-! CALLS: what the class's checks and the reference's do; an answer of the reference that leaves its world as it was -/
def rg (n : Nat) (x : Int32) : Prop := x < 0 ∨ Int32.ofNat n ≤ x
theorem rg_or (n : Nat) (hn : n < 2 ^ 31) (x : Int32) : rg n x ∨ ∃ p, p < n ∧ x = Int32.ofNat p := by
  by_cases h1 : x < 0
  · exact Or.inl (Or.inl h1)
  by_cases h2 : Int32.ofNat n ≤ x
  · exact Or.inl (Or.inr h2)
  have e := i32_of h1
  have hb : x.toNatClampNeg < 2 ^ 31 := by
    have := Int32.toInt_lt x
    have := i32_nn h1
    omega
  refine Or.inr ⟨x.toNatClampNeg, ?_, e⟩
  rw [e] at h2
  exact Nat.lt_of_not_le fun q => h2 ((ofN_le hn hb).mpr q)
theorem rg_in {n p : Nat} (hp : p < n) (hn : n < 2 ^ 31) : ¬ (Int32.ofNat p < 0 ∨ Int32.ofNat n ≤ Int32.ofNat p) := fun q => q.elim (ofN_nn (by omega)) (nle hp hn)
theorem sub1_lt {n : Nat} (hn : n < 2 ^ 31) (x : Int32) : (Int32.ofNat n - 1 < x) = (Int32.ofNat n ≤ x) := by
  have h1 : (Int32.ofNat n - 1).toInt = (n : Int) - 1 := by
    have e1 : (1 : Int32).toInt = 1 := rfl
    rw [i_sub (by rw [ofN_toInt hn, e1]; omega) (by rw [ofN_toInt hn, e1]; omega), ofN_toInt hn, e1]
  apply propext
  rw [i32_lt, i32_le, h1, ofN_toInt hn]
  omega
section NE
variable {s : aS} {f : Int32} {K : CK} {x : Int32} {p : Nat}
theorem need_part_no (C : CC s f K) (h : rg (K.1 0) x) : mX11_needPart 0 x s = some (.inr 2, thS s) := by
  unfold mX11_needPart
  simp only [mbnd_app, kx_in, CC.all C, if_pos (show x < 0 ∨ Int32.ofNat (K.1 0) ≤ x from h), if_true, mthr_app]
theorem need_part_ok (C : CC s f K) (hk : kOk K) (h : p < K.1 0) : mX11_needPart 0 (Int32.ofNat p) s = some (.inl (), s) := by
  have hb : K.1 0 ≤ 16 := hk 0 (by decide)
  unfold mX11_needPart
  simp only [mbnd_app, kx_in, CC.all C, if_neg (rg_in h (by omega)), one_ne0, if_false, mret_app]
theorem need_tool_no (C : CC s f K) (h : rg (K.1 1) x) : mX11_needTool 0 x s = some (.inr 2, thS s) := by
  unfold mX11_needTool
  simp only [mbnd_app, kx_in, CC.all C, if_pos (show x < 0 ∨ Int32.ofNat (K.1 1) ≤ x from h), if_true, mthr_app]
theorem need_tool_ok (C : CC s f K) (hk : kOk K) (h : p < K.1 1) : mX11_needTool 0 (Int32.ofNat p) s = some (.inl (), s) := by
  have hb : K.1 1 ≤ 6 := hk 1 (by decide)
  unfold mX11_needTool
  simp only [mbnd_app, kx_in, CC.all C, if_neg (rg_in h (by omega)), one_ne0, if_false, mret_app]
theorem need_master_no (C : CC s f K) (h : rg (K.1 2) x) : mX11_needMaster 0 x s = some (.inr 2, thS s) := by
  unfold mX11_needMaster
  simp only [mbnd_app, kx_in, CC.all C, if_pos (show x < 0 ∨ Int32.ofNat (K.1 2) ≤ x from h), if_true, mthr_app]
theorem need_master_ok (C : CC s f K) (hk : kOk K) (h : p < K.1 2) : mX11_needMaster 0 (Int32.ofNat p) s = some (.inl (), s) := by
  have hb : K.1 2 ≤ 6 := hk 2 (by decide)
  unfold mX11_needMaster
  simp only [mbnd_app, kx_in, CC.all C, if_neg (rg_in h (by omega)), one_ne0, if_false, mret_app]
theorem need_what (s : aS) (x : Int32) (n : Nat) : (rg n x → mX11_needWhat x (Int32.ofNat n) s = some (.inr 3, thS s)) ∧ (¬ rg n x → mX11_needWhat x (Int32.ofNat n) s = some (.inl (), s)) := by
  unfold mX11_needWhat rg
  refine ⟨fun h => ?_, fun h => ?_⟩
  · by_cases h1 : x < 0
    · rw [if_pos h1]; rfl
    · rw [if_neg h1, if_neg (fun q => h.elim h1 (fun q2 => absurd q (Int32.not_lt.mpr q2)))]; rfl
  · rw [if_neg (fun q => h (Or.inl q)), if_pos (Int32.not_le.mp fun q => h (Or.inr q))]; rfl
theorem bnd_ex {α β : Type} {m : MM α} {g : α → MM β} {s s' : aS} {e : Nat} (h : m s = some (.inr e, s')) : mbnd m g s = some (.inr e, s') := by rw [mbnd_app, h, kx_ex]
end NE
/-- what the reference keeps from call to call stays -/
def Keep (M M' : MK) : Prop := M'.2 1 = M.2 1 ∧ M'.2 2 = M.2 2 ∧ M'.2 5 = M.2 5 ∧ M'.2 6 = M.2 6 ∧ M'.1 6 = M.1 6 ∧ M'.1 7 = M.1 7 ∧ M'.1 9 = M.1 9 ∧ M'.1 14 = M.1 14
theorem Keep.rf {M : MK} : Keep M M := ⟨rfl, rfl, rfl, rfl, rfl, rfl, rfl, rfl⟩
theorem Keep.tr {M M' M'' : MK} (h : Keep M M') (g : Keep M' M'') : Keep M M'' := ⟨g.1.trans h.1, g.2.1.trans h.2.1, g.2.2.1.trans h.2.2.1, g.2.2.2.1.trans h.2.2.2.1, g.2.2.2.2.1.trans h.2.2.2.2.1, g.2.2.2.2.2.1.trans h.2.2.2.2.2.1, g.2.2.2.2.2.2.1.trans h.2.2.2.2.2.2.1, g.2.2.2.2.2.2.2.trans h.2.2.2.2.2.2.2⟩
/-- an answer, what is thrown, the object then -/
def RQ {α : Type} (m : MM α) (s : aS) (M : MK) (v : α) (t : Int32) : Prop := ∃ s' M', m s = some (.inl v, s') ∧ Mdl s' 66 M' ∧ Off s s' 66 78 ∧ M'.1 0 = t ∧ Keep M M'
section RQS
variable {α β : Type} {s : aS} {M : MK} {v : α} {t x y : Int32}
theorem RQ.start (C : Mdl s 66 M) {k : MM α} (h : ∀ s1, Mdl s1 66 (mint M 0 0) → RQ k s1 (mint M 0 0) v t) : RQ (onC 11 66 (mbnd (pI 11 0 66 0) fun _ => k)) s M v t := by
  obtain ⟨s1, h1, C1, o1⟩ := mint_run (k := 0) (v := 0) C rfl
  obtain ⟨s2, M', a, b, c, d, e⟩ := h s1 C1
  exact ⟨s2, M', (onC_ok C.1).trans ((bnd_ok h1).trans a), b, o1.trans c, d, e⟩
theorem RQ.val {m : MM α} (C : Mdl s 66 M) (h : m s = some (.inl v, s)) (h0 : M.1 0 = t) : RQ m s M v t := ⟨s, M, h, C, Off.rf, h0, Keep.rf⟩
theorem RQ.get {m : MM α} {w : α} {g : α → MM β} {v : β} (h : m s = some (.inl w, s)) (k : RQ (g w) s M v t) : RQ (mbnd m g) s M v t := by
  obtain ⟨s2, M', a, b⟩ := k
  exact ⟨s2, M', (bnd_ok h).trans a, b⟩
theorem RQ.eq {m m' : MM α} (h : m s = m' s) (k : RQ m' s M v t) : RQ m s M v t := by
  obtain ⟨s2, M', a, b⟩ := k
  exact ⟨s2, M', h.trans a, b⟩
theorem RQ.step {m : MM α} {w : α} {g : α → MM β} {v : β} {s1 : aS} {M1 : MK} (h : m s = some (.inl w, s1)) (o : Off s s1 66 78) (kp : Keep M M1) (k : RQ (g w) s1 M1 v t) : RQ (mbnd m g) s M v t := by
  obtain ⟨s2, M', a, b, c, d, e⟩ := k
  exact ⟨s2, M', (bnd_ok h).trans a, b, o.trans c, d, kp.tr e⟩
theorem thr_no (C : Mdl s 66 M) (c : Int32) : mX12_throwsIf 66 0 c s = some (.inl 0, s) := by
  unfold mX12_throwsIf
  rw [onC_ok C.1, if_pos rfl]
  rfl
theorem RQ.thr (C : Mdl s 66 M) {g : Int32 → MM α} (c : Int32) (hg : ∀ s1, g 1 s1 = some (.inl v, s1)) : RQ (mbnd (mX12_throwsIf 66 1 c) g) s M v c := by
  obtain ⟨s1, h1, C1, o1⟩ := mint_run (k := 0) (v := c) C rfl
  refine ⟨s1, mint M 0 c, ?_, C1, o1, rfl, ⟨rfl, rfl, rfl, rfl, rfl, rfl, rfl, rfl⟩⟩
  refine (bnd_ok (v := 1) (s' := s1) ?_).trans (hg s1)
  unfold mX12_throwsIf
  rw [onC_ok C.1, if_neg one_ne0]
  exact (bnd_ok h1).trans rfl
theorem noPart_no (C : Mdl s 66 M) {n : Nat} (hn : M.2 1 0 = Int32.ofNat n) (hb : n < 2 ^ 31) (h : rg n x) : mX12_noPart 66 x s = some (.inl 1, s) := by
  simp only [(MD.no C).1, hn, sub1_lt hb, if_pos (show x < 0 ∨ Int32.ofNat n ≤ x from h)]
theorem noPart_in (C : Mdl s 66 M) {n p : Nat} (hn : M.2 1 0 = Int32.ofNat n) (hb : n < 2 ^ 31) (h : p < n) : mX12_noPart 66 (Int32.ofNat p) s = some (.inl 0, s) := by
  simp only [(MD.no C).1, hn, sub1_lt hb, if_neg (rg_in h hb)]
theorem noTool_no (C : Mdl s 66 M) {n : Nat} (hn : M.2 1 1 = Int32.ofNat n) (hb : n < 2 ^ 31) (h : rg n x) : mX12_noTool 66 x s = some (.inl 1, s) := by
  simp only [(MD.no C).2.1, hn, sub1_lt hb, if_pos (show x < 0 ∨ Int32.ofNat n ≤ x from h)]
theorem noTool_in (C : Mdl s 66 M) {n p : Nat} (hn : M.2 1 1 = Int32.ofNat n) (hb : n < 2 ^ 31) (h : p < n) : mX12_noTool 66 (Int32.ofNat p) s = some (.inl 0, s) := by
  simp only [(MD.no C).2.1, hn, sub1_lt hb, if_neg (rg_in h hb)]
theorem noMaster_no (C : Mdl s 66 M) {n : Nat} (hn : M.2 1 2 = Int32.ofNat n) (hb : n < 2 ^ 31) (h : rg n x) : mX12_noMaster 66 x s = some (.inl 1, s) := by
  simp only [(MD.no C).2.2, hn, sub1_lt hb, if_pos (show x < 0 ∨ Int32.ofNat n ≤ x from h)]
theorem noMaster_in (C : Mdl s 66 M) {n p : Nat} (hn : M.2 1 2 = Int32.ofNat n) (hb : n < 2 ^ 31) (h : p < n) : mX12_noMaster 66 (Int32.ofNat p) s = some (.inl 0, s) := by
  simp only [(MD.no C).2.2, hn, sub1_lt hb, if_neg (rg_in h hb)]
end RQS
