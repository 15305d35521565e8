/-! THE LINE tool, all its parts -/
section LRE
variable {sc sm s1 : aS} {x : Nat → Int32} {F : Nat → Nat → Int32} {K : CK} {M : MK} {W : Nat → Int32} {n c0 c : Nat} {B : Nat → Nat} {mc mc' mr mr' : MM Int32}
theorem LineR.ceq (e : mc sc = mc' s1) (o1 : Off sc s1 41 58) (g : LineR mc' s1 x F K mr sm M W n B c0 c) : LineR mc sc x F K mr sm M W n B c0 c := by
  have cat : ∀ {w : Int32} {x' : Nat → Int32} {K' : CK}, SC mc' s1 w x' F K' → SC mc sc w x' F K' := fun ⟨s2, g1, g2, g3, g4⟩ => ⟨s2, e.trans g1, g2, g3, o1.trans g4⟩
  rcases g with ⟨z, x', K', W', i', a1, a2⟩ | ⟨x', K', W', k', i', b', a1, a2⟩
  · exact Or.inl ⟨z, x', K', W', i', cat a1, a2⟩
  · exact Or.inr ⟨x', K', W', k', i', b', cat a1, a2⟩
theorem LineR.meq (e : mr sm = mr' s1) (o1 : Off sm s1 66 (66 + 12)) (g : LineR mc sc x F K mr' s1 M W n B c0 c) : LineR mc sc x F K mr sm M W n B c0 c := by
  have cat : ∀ {w : Int32} {M' : MK}, MRun mr' s1 66 w M' → MRun mr sm 66 w M' := fun ⟨s2, g1, g2, g3⟩ => ⟨s2, e.trans g1, g2, o1.trans g3⟩
  rcases g with ⟨z, x', K', W', i', a1, a2, a3, a4, a5⟩ | ⟨x', K', W', k', i', b', a1, a2, a3, a4, a5, a6, a7⟩
  · exact Or.inl ⟨z, x', K', W', i', a1, a2, a3, cat a4, a5⟩
  · exact Or.inr ⟨x', K', W', k', i', b', a1, a2, a3, a4, a5, cat a6, a7⟩
theorem mbnd_eq {α β : Type} {m m' : MM α} {f : α → MM β} {s s' : aS} (h : m s = m' s') : mbnd m f s = mbnd m' f s' := by
  unfold mbnd
  rw [h]
theorem loop_go {σ ε : Type} {b : σ → MM (σ ⊕ ε)} {x y : σ} {s s' : aS} (h : b x s = some (.inl (.inl y), s')) : loopM b x s = loopM b y s' := by
  rw [loopM_eq, bnd_ok h]
theorem loop_end {σ ε : Type} {b : σ → MM (σ ⊕ ε)} {x : σ} {e : ε} {s s' : aS} (h : b x s = some (.inl (.inr e), s')) : loopM b x s = some (.inl e, s') := by
  rw [loopM_eq, bnd_ok h]
  rfl
end LRE
section TL2
variable {F : Nat → Nat → Int32} {M : MK} {n c0 c t : Nat} {B : Nat → Nat}
def free (W : Nat → Int32) (t : Nat) : Nat := (if W (141 + 4 * t + 0) = -1 then 1 else 0) + (if W (141 + 4 * t + 1) = -1 then 1 else 0) + (if W (141 + 4 * t + 2) = -1 then 1 else 0)
theorem free_place {W : Nat → Int32} {u q : Nat} (hu : u < 16) (hq : q < 3) (h : W (141 + 4 * t + q) = -1) : free (wplace W u t q) t + 1 = free W t := by
  have hn : ¬ Int32.ofNat u = -1 := fun z => by
    have := congrArg Int32.toInt z
    rw [ofN_toInt (by omega)] at this
    have e : (-1 : Int32).toInt = -1 := rfl
    omega
  have o : ∀ r, r < 3 → r ≠ q → wplace W u t q (141 + 4 * t + r) = W (141 + 4 * t + r) := fun r hr hne => (updn _ _ (by omega)).trans (updn _ _ (by omega))
  have a : wplace W u t q (141 + 4 * t + q) = Int32.ofNat u := (updn _ _ (by omega)).trans (updp _ _ _)
  have hq' : q = 0 ∨ q = 1 ∨ q = 2 := by omega
  unfold free
  rcases hq' with rfl | rfl | rfl
  · rw [a, o 1 (by decide) (by decide), o 2 (by decide) (by decide), h, if_neg hn, if_pos (show (-1 : Int32) = -1 from rfl)]
    try omega
  · rw [a, o 0 (by decide) (by decide), o 2 (by decide) (by decide), h, if_neg hn, if_pos (show (-1 : Int32) = -1 from rfl)]
    try omega
  · rw [a, o 0 (by decide) (by decide), o 1 (by decide) (by decide), h, if_neg hn, if_pos (show (-1 : Int32) = -1 from rfl)]
    try omega
noncomputable def tK (e : Unit ⊕ Unit) : MM Int32 := match e with
  | .inl _ => mret 0
  | .inr _ => mret 1
noncomputable def tR (e : Unit ⊕ Unit) : MM Int32 := match e with
  | .inl _ => mret 0
  | .inr _ => mbnd (gR 11 1 66) fun (v25 : Nat) => mbnd (ldI 0 v25 1) fun (v26 : Int32) => mbnd (stI 0 v25 1 (v26 + 1)) fun _ => mret 1
theorem m_end {sm : aS} {W : Nat → Int32} {i b : Nat} (D : Mdl sm 66 (mcur (mw M W) i b)) (h1 : W 1 = Int32.ofNat t) : MRun (tR (.inr ())) sm 66 1 (mcur (mw M (upd W 1 (Int32.ofNat (t + 1)))) i b) := by
  show MRun (mbnd (gR 11 1 66) fun (v25 : Nat) => mbnd (ldI 0 v25 1) fun (v26 : Int32) => mbnd (stI 0 v25 1 (v26 + 1)) fun _ => mret 1) sm 66 1 _
  refine MRun.get (w_ref D) (MRun.get (w_ld D (j := 1) (by decide)) ?_)
  rw [h1, ofN_succ]
  exact MRun.bnd (w_put D (j := 1) (by decide) _) fun s3 D3 => MRun.ret D3
theorem tool_step {sc sm : aS} {x : Nat → Int32} {K : CK} {W : Nat → Int32} {k i b : Nat} {mk mr : MM Int32} (TB : Byt M n B) (ht6 : t < 6) (T : Tc sc n B) (R : RdS sc x F) (A : Ats x F n B c0 k) (C : Crt sc 41 K) (hi : i ≤ n) (hk : nxt B n i = tb B n k) (D : Mdl sm 66 (mcur (mw M W) i b)) (H : Hld K (upd W 1 (Int32.ofNat (t + 1))) c) (ht : t < K.1 1)
    (bad : ∀ s1, mX7_readPartOf 54 (Int32.ofNat t) sc = some (.inl 0, s1) → mk sc = some (.inl 0, s1)) (badm : ∀ s1, mX12_readTool_L56 66 (Int32.ofNat t) () sm = some (.inl (.inr (.inl ())), s1) → mr sm = some (.inl 0, s1))
    (good : ∀ u q s1 m1, u < K.1 0 → q < 3 → W (141 + 4 * t + q) = -1 → k < c0 → mX7_readPartOf 54 (Int32.ofNat t) sc = some (.inl 1, s1) → Off sc s1 41 58 → Tc s1 n B → RdS s1 (xgos (xsets x 9 (Int32.ofNat u)) B n (k + 1)) F → Ats (xgos (xsets x 9 (Int32.ofNat u)) B n (k + 1)) F n B c0 (k + 1) → Crt s1 41 (kplace K u t q) → mX12_readTool_L56 66 (Int32.ofNat t) () sm = some (.inl (if thing B n (tb B n (k + 1)) = 256 then .inl () else .inr (.inr ())), m1) → Off sm m1 66 (66 + 12) → Mdl m1 66 (mcur (mw M (wplace W u t q)) (tb B n (k + 1)) (tb B n (k + 1))) → Hld (kplace K u t q) (upd (wplace W u t q) 1 (Int32.ofNat (t + 1))) c → LineR mk sc (xgos (xsets x 9 (Int32.ofNat u)) B n (k + 1)) F (kplace K u t q) mr sm M (wplace W u t q) n B c0 c) : LineR mk sc x F K mr sm M W n B c0 c := by
  have b0 : K.1 0 ≤ 16 := H.2.1 0 (by decide)
  rcases part_of T R A C hi hk TB D H ht with ⟨z, x', i', hz, h11, ⟨s1, e1, R1, C1, o1⟩, ⟨m1, f1, D1, p1⟩⟩ | ⟨u, q, hu, hq, hW, hkc, ⟨s1, e1, R1, C1, o1⟩, ⟨m1, f1, D1, p1⟩, H1⟩
  · exact Or.inl ⟨z, x', K, W, i', ⟨s1, bad s1 e1, R1, C1, o1⟩, h11, hz, ⟨m1, badm m1 f1, D1, p1⟩, wkp.rf W⟩
  · have wk : wkp W (wplace W u t q) := ((wkp.rf W).upd _ (by omega) (by omega) (by omega)).upd _ (by omega) (by omega) (by omega)
    exact LineR.wk wk rfl (LineR.cx rfl rfl (good u q s1 m1 hu hq hW hkc e1 o1 (T.off o1 (by decide)) R1 (A.next (by omega) (fun j h1 h2 => if_neg (by omega))) C1 f1 p1 D1 H1))
theorem tool_rest (TB : Byt M n B) (ht6 : t < 6) : ∀ m j k i b (sc sm : aS) (x : Nat → Int32) (K : CK) (W : Nat → Int32), m + j = 2 → free W t = m → Tc sc n B → RdS sc x F → Ats x F n B c0 k → k ≤ c0 → Crt sc 41 K → i ≤ n → nxt B n i = tb B n k → Mdl sm 66 (mcur (mw M W) i b) → Hld K (upd W 1 (Int32.ofNat (t + 1))) c → t < K.1 1 → W 1 = Int32.ofNat t → LineR (mbnd (loopM (mX7_readTool_L37 54 (Int32.ofNat t)) (Int32.ofNat j)) tK) sc x F K (mbnd (if thing B n (tb B n k) = 256 then loopM (mX12_readTool_L56 66 (Int32.ofNat t)) () else mret (.inr ())) tR) sm M W n B c0 c := by
  intro m
  induction m with
  | zero =>
    intro j k i b sc sm x K W hmj hf T R A hkc C hi hk D H ht h1
    have g7 : gI 7 7 54 sc = some (.inl (thing B n (tb B n k)), sc) := by
      rw [← A.2.2.2.1]
      exact rgis R (by decide) (by decide)
    by_cases h : thing B n (tb B n k) = 256
    · rw [if_pos h]
      refine tool_step TB ht6 T R A C hi hk D H ht (fun s1 e1 => ?_) (fun s1 e1 => ?_) fun u q s1 m1 hu hq hW => ?_
      · have e2 : mX7_readTool_L37 54 (Int32.ofNat t) (Int32.ofNat j) sc = some (.inl (.inr (.inl ())), s1) := by
          unfold mX7_readTool_L37
          rw [if_neg (show ¬ (3 : Int32) ≤ Int32.ofNat j from nle (n := 3) (by omega) (by decide)), bnd_ok g7, if_pos h, bnd_ok e1, if_pos rfl]
          rfl
        rw [bnd_ok (loop_end e2)]
        rfl
      · rw [bnd_ok (loop_end e1)]
        rfl
      · have := free_place (u := u) (by have := H.2.1 0 (by decide); have e : tM 0 = 16 := rfl; omega) hq hW
        omega
    · rw [if_neg h]
      have e2 : mX7_readTool_L37 54 (Int32.ofNat t) (Int32.ofNat j) sc = some (.inl (.inr (.inr ())), sc) := by
        unfold mX7_readTool_L37
        rw [if_neg (show ¬ (3 : Int32) ≤ Int32.ofNat j from nle (n := 3) (by omega) (by decide)), bnd_ok g7, if_neg h]
        rfl
      refine Or.inr ⟨x, K, upd W 1 (Int32.ofNat (t + 1)), k, i, b, ?_, A, hkc, rfl, rfl, ?_, hi, hk, H, rfl, (wkp.rf W).upd _ (by decide) (by decide) (by decide)⟩
      · exact SC.get (loop_end e2) (SC.ret R C)
      · exact MRun.get (x := (.inr () : Unit ⊕ Unit)) rfl (m_end D h1)
  | succ m ih =>
    intro j k i b sc sm x K W hmj hf T R A hkc C hi hk D H ht h1
    have g7 : gI 7 7 54 sc = some (.inl (thing B n (tb B n k)), sc) := by
      rw [← A.2.2.2.1]
      exact rgis R (by decide) (by decide)
    by_cases h : thing B n (tb B n k) = 256
    · rw [if_pos h]
      refine tool_step TB ht6 T R A C hi hk D H ht (fun s1 e1 => ?_) (fun s1 e1 => ?_) fun u q s1 m1 hu hq hW hkc' e1 o1 T1 R1 A1 C1 f1 p1 D1 H1 => ?_
      · have e2 : mX7_readTool_L37 54 (Int32.ofNat t) (Int32.ofNat j) sc = some (.inl (.inr (.inl ())), s1) := by
          unfold mX7_readTool_L37
          rw [if_neg (show ¬ (3 : Int32) ≤ Int32.ofNat j from nle (n := 3) (by omega) (by decide)), bnd_ok g7, if_pos h, bnd_ok e1, if_pos rfl]
          rfl
        rw [bnd_ok (loop_end e2)]
        rfl
      · rw [bnd_ok (loop_end e1)]
        rfl
      · have fp := free_place (u := u) (by have := H.2.1 0 (by decide); have e : tM 0 = 16 := rfl; omega) hq hW
        have e2 : mX7_readTool_L37 54 (Int32.ofNat t) (Int32.ofNat j) sc = some (.inl (.inl (Int32.ofNat (j + 1))), s1) := by
          unfold mX7_readTool_L37
          rw [if_neg (show ¬ (3 : Int32) ≤ Int32.ofNat j from nle (n := 3) (by omega) (by decide)), bnd_ok g7, if_pos h, bnd_ok e1, if_neg (by decide), ofN_succ]
          rfl
        have hW1 : wplace W u t q 1 = Int32.ofNat t := (updn _ _ (by omega)).trans ((updn _ _ (by omega)).trans h1)
        have g := ih (j + 1) (k + 1) (tb B n (k + 1)) (tb B n (k + 1)) s1 m1 _ (kplace K u t q) (wplace W u t q) (by omega) (by omega) T1 R1 A1 (by omega) C1 (tb_le B n _) (tb_nxt B n _) D1 H1 ht hW1
        refine LineR.ceq (mbnd_eq (loop_go e2)) o1 (LineR.meq ?_ p1 g)
        refine mbnd_eq ?_
        by_cases h9 : thing B n (tb B n (k + 1)) = 256
        · rw [if_pos h9] at f1 ⊢
          exact loop_go f1
        · rw [if_neg h9] at f1 ⊢
          exact loop_end f1
    · rw [if_neg h]
      have e2 : mX7_readTool_L37 54 (Int32.ofNat t) (Int32.ofNat j) sc = some (.inl (.inr (.inr ())), sc) := by
        unfold mX7_readTool_L37
        rw [if_neg (show ¬ (3 : Int32) ≤ Int32.ofNat j from nle (n := 3) (by omega) (by decide)), bnd_ok g7, if_neg h]
        rfl
      refine Or.inr ⟨x, K, upd W 1 (Int32.ofNat (t + 1)), k, i, b, ?_, A, hkc, rfl, rfl, ?_, hi, hk, H, rfl, (wkp.rf W).upd _ (by decide) (by decide) (by decide)⟩
      · exact SC.get (loop_end e2) (SC.ret R C)
      · exact MRun.get (x := (.inr () : Unit ⊕ Unit)) rfl (m_end D h1)
def ng (W : Nat → Int32) (a j : Nat) : Nat → Int32 := fun q => if a ≤ q ∧ q < a + j then -1 else W q
theorem ng_step (W : Nat → Int32) (a j : Nat) : upd (ng W a j) (a + j) (-1) = ng W a (j + 1) := funext fun q => by
  show (if q = a + j then -1 else if a ≤ q ∧ q < a + j then -1 else W q) = (if a ≤ q ∧ q < a + (j + 1) then -1 else W q)
  by_cases h : q = a + j
  · rw [if_pos h, if_pos (by omega)]
  · rw [if_neg h]
    by_cases h2 : a ≤ q ∧ q < a + j
    · rw [if_pos h2, if_pos (by omega)]
    · rw [if_neg h2, if_neg (by omega)]
theorem ng_none (W : Nat → Int32) (a : Nat) : ng W a 0 = W := funext fun q => if_neg (by omega)
def ktool (K : CK) : CK := kput (krows K 1 (K.1 1 + 1) (fillR 4 (K.1 1) (K.2.1 1) (-1) 4)) 1 (Int32.ofNat (K.1 1)) (Int32.ofNat 3) 0
def wtool (W : Nat → Int32) (t : Nat) : Nat → Int32 := upd (ng W (141 + 4 * t) 3) (141 + 4 * t + 3) 0
theorem Hld.tool {K : CK} {W : Nat → Int32} (H : Hld K W c) (h6 : K.1 1 < 6) : Hld (ktool K) (upd (wtool W (K.1 1)) 1 (Int32.ofNat (K.1 1 + 1))) c := by
  obtain ⟨S, hk, hW⟩ := H
  have hk1 : kOk (krows K 1 (K.1 1 + 1) (fillR 4 (K.1 1) (K.2.1 1) (-1) 4)) := fun t ht => by
    show (if t = 1 then K.1 1 + 1 else K.1 t) ≤ tM t
    by_cases q : t = 1
    · rw [if_pos q, q]
      exact h6
    · rw [if_neg q]
      exact hk t ht
  have S1 : Sm (krows K 1 (K.1 1 + 1) (fillR 4 (K.1 1) (K.2.1 1) (-1) 4)) (upd (ng W (141 + 4 * K.1 1) 4) 1 (Int32.ofNat (K.1 1 + 1))) := S.newtool hk h6 (-1) (fun j h1 h2 => (updn _ _ h1).trans (if_neg (by omega))) (fun j hj => (updn _ _ (by omega)).trans (if_pos (by omega))) (updp _ _ _)
  have lt : K.1 1 < (krows K 1 (K.1 1 + 1) (fillR 4 (K.1 1) (K.2.1 1) (-1) 4)).1 1 := Nat.lt_succ_self _
  have S2 := S1.toput hk1 lt (k := 3) (by decide) 0
  have ew : upd (wtool W (K.1 1)) 1 (Int32.ofNat (K.1 1 + 1)) = upd (upd (ng W (141 + 4 * K.1 1) 4) 1 (Int32.ofNat (K.1 1 + 1))) (141 + 4 * K.1 1 + 3) 0 := by
    rw [upd_comm _ (show 1 ≠ 141 + 4 * K.1 1 + 3 by omega)]
    unfold wtool
    congr 1
    funext q
    show (if q = 141 + 4 * K.1 1 + 3 then 0 else ng W (141 + 4 * K.1 1) 3 q) = (if q = 141 + 4 * K.1 1 + 3 then 0 else ng W (141 + 4 * K.1 1) 4 q)
    by_cases h : q = 141 + 4 * K.1 1 + 3
    · rw [if_pos h, if_pos h]
    · rw [if_neg h, if_neg h]
      unfold ng
      by_cases h2 : 141 + 4 * K.1 1 ≤ q ∧ q < 141 + 4 * K.1 1 + 3
      · rw [if_pos h2, if_pos (by omega)]
      · rw [if_neg h2, if_neg (by omega)]
  refine ⟨?_, hk1, ?_⟩
  · rw [ew]
    exact S2
  · exact wOk.newtool hW hk h6 rfl (fun t _ h => if_neg h) (fun j _ h1 h2 => (updn _ _ h1).trans ((updn _ _ (by omega)).trans (if_neg (by omega)))) (fun j hj => (updn _ _ (by omega)).trans ((updn _ _ (by omega)).trans (if_pos (by omega))))
theorem m_neg {sm : aS} {W : Nat → Int32} {i b : Nat} (D : Mdl sm 66 (mcur (mw M W) i b)) (ht : t < 6) : MRun (loopM (mX12_readTool_L15 66 (Int32.ofNat t)) 0) sm 66 () (mcur (mw M (ng W (141 + 4 * t) 3)) i b) := by
  have D0 : Mdl sm 66 ((fun j => mcur (mw M (ng W (141 + 4 * t) j)) i b) 0) := by
    show Mdl sm 66 (mcur (mw M (ng W (141 + 4 * t) 0)) i b)
    rw [ng_none]
    exact D
  refine MRun.loop 3 (fun j => Int32.ofNat j) (fun j => mcur (mw M (ng W (141 + 4 * t) j)) i b) (fun j s' hj D' => ?_) (fun s' D' => ?_) D0
  · have D' : Mdl s' 66 (mcur (mw M (ng W (141 + 4 * t) j)) i b) := D'
    unfold mX12_readTool_L15
    rw [if_neg (show ¬ (3 : Int32) ≤ Int32.ofNat j from nle (n := 3) hj (by decide))]
    rw [show (141 : Int32) + 4 * Int32.ofNat t + Int32.ofNat j = Int32.ofNat (141 + 4 * t + j) from at_lin 141 4 t j]
    refine MRun.get (w_ref D') (MRun.bnd (w_put D' (by omega) (-1)) fun s2 D2 => ?_)
    rw [ng_step] at D2
    rw [ofN_succ]
    exact MRun.ret D2
  · unfold mX12_readTool_L15
    rw [if_pos (show (3 : Int32) ≤ Int32.ofNat 3 by decide)]
    exact MRun.ret D'
theorem line_tool {sc sm : aS} {x : Nat → Int32} {K : CK} {W : Nat → Int32} {k i b : Nat} (T : Tc sc n B) (R : RdS sc x F) (A : Ats x F n B c0 k) (C : Crt sc 41 K) (hi : i ≤ n) (hk : nxt B n i = tb B n k) (TB : Byt M n B) (D : Mdl sm 66 (mcur (mw M W) i b)) (H : Hld K W c) (h6 : K.1 1 < 6) : LineR (mX7_readTool 54) sc x F K (mX12_readTool 66) sm M W n B c0 c := by
  have hW : W 1 = Int32.ofNat (K.1 1) := H.1.1.2.1
  have g0 : mX12_tools 66 sm = some (.inl (Int32.ofNat (K.1 1)), sm) := by
    have := tools_run D
    rwa [mw_row, hW] at this
  have hne : ¬ Int32.ofNat (K.1 1) = (6 : Int32) := by
    show ¬ Int32.ofNat (K.1 1) = Int32.ofNat 6
    rw [ofN_inj (by omega) (by decide)]
    omega
  unfold mX7_readTool mX12_readTool
  refine LineR.co R (LineR.mo D (LineR.cg (dr R) (LineR.cg (gR_ok C.1 (show _ = some (Value.ref 44) from rfl)) ?_)))
  obtain ⟨s1, e1, C1, o1⟩ := copen C (t := 1) (by decide) h6 (-1)
  have R1 : RdS s1 x F := R.off o1 (Or.inr (by decide))
  refine LineR.cany e1 (o1.wide (by decide) (by decide)) (LineR.cg (dr R1) (LineR.cg (gR_ok C1.1 (show _ = some (Value.ref 44) from rfl)) ?_))
  obtain ⟨s2, e2, C2, o2⟩ := cput1 (i := Int32.ofNat (K.1 1)) (j := Int32.ofNat 3) (v := 0) C1
  have R2 : RdS s2 x F := R1.off o2 (Or.inr (by decide))
  have T2 : Tc s2 n B := (T.off o1 (by decide)).off o2 (by decide)
  refine LineR.cany e2 (o2.wide (by decide) (by decide)) (LineR.mg g0 ?_)
  rw [if_neg hne]
  obtain ⟨m1, f1, D1, p1⟩ := m_neg D h6
  refine LineR.many f1 p1 (LineR.mg (w_ref D1) ?_)
  rw [show (141 : Int32) + 4 * Int32.ofNat (K.1 1) + 3 = Int32.ofNat (141 + 4 * K.1 1 + 3) from at_lin 141 4 (K.1 1) 3]
  obtain ⟨m2, f2, D2, p2⟩ := w_put D1 (j := 141 + 4 * K.1 1 + 3) (by omega) 0
  refine LineR.many f2 p2 ?_
  have D2 : Mdl m2 66 (mcur (mw M (wtool W (K.1 1))) i b) := D2
  have C2 : Crt s2 41 (ktool K) := C2
  have H1 := H.tool h6
  have wk : wkp W (wtool W (K.1 1)) := by
    have z : wkp W (ng W (141 + 4 * K.1 1) 3) := ⟨if_neg (by omega), if_neg (by omega), fun j hj => if_neg (by omega)⟩
    exact z.upd _ (by omega) (by omega) (by omega)
  have fr : free (wtool W (K.1 1)) (K.1 1) = 3 := by
    have z : ∀ r, r < 3 → wtool W (K.1 1) (141 + 4 * K.1 1 + r) = -1 := fun r hr => (updn _ _ (by omega)).trans (if_pos (by omega))
    unfold free
    rw [z 0 (by decide), z 1 (by decide), z 2 (by decide)]
    rfl
  have hW1 : wtool W (K.1 1) 1 = Int32.ofNat (K.1 1) := (updn _ _ (by omega)).trans ((if_neg (by omega)).trans hW)
  refine LineR.wk wk (K1 := ktool K) rfl ?_
  refine tool_step (t := K.1 1) TB h6 T2 R2 A C2 hi hk D2 H1 (Nat.lt_succ_self _) (fun s3 e3 => ?_) (fun s3 e3 => ?_) fun u q s3 m3 hu hq hWq hkc' e3 o3 T3 R3 A3 C3 f3 p3 D3 H3 => ?_
  · rw [bnd_ok e3, if_pos rfl]
    rfl
  · rw [bnd_ok (loop_end e3)]
    rfl
  · have b0 : K.1 0 ≤ 16 := H.2.1 0 (by decide)
    have hu' : u < K.1 0 := hu
    have fp := free_place (u := u) (t := K.1 1) (by omega) hq hWq
    have hW2 : wplace (wtool W (K.1 1)) u (K.1 1) q 1 = Int32.ofNat (K.1 1) := (updn _ _ (by omega)).trans ((updn _ _ (by omega)).trans hW1)
    have g := tool_rest TB h6 2 0 (k + 1) (tb B n (k + 1)) (tb B n (k + 1)) s3 m3 _ (kplace (ktool K) u (K.1 1) q) (wplace (wtool W (K.1 1)) u (K.1 1) q) rfl (by omega) T3 R3 A3 (by omega) C3 (tb_le B n _) (tb_nxt B n _) D3 H3 (Nat.lt_succ_self _) hW2
    refine LineR.ceq ((bnd_ok e3).trans ?_) o3 (LineR.meq ?_ p3 g)
    · rw [if_neg (by decide)]
      rfl
    · refine mbnd_eq ?_
      by_cases h9 : thing B n (tb B n (k + 1)) = 256
      · rw [if_pos h9] at f3 ⊢
        exact loop_go f3
      · rw [if_neg h9] at f3 ⊢
        exact loop_end f3
end TL2
