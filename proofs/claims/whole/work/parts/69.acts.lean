/-! COURTS THAT CHANGE: what a step makes of one Court, all else as it was -/
def Off (s s' : aS) (lo hi : Nat) : Prop := s'.2 = s.2 ∧ ∀ k, (k < lo ∨ hi < k) → s'.1 k = s.1 k
theorem Off.rf {s : aS} {lo hi : Nat} : Off s s lo hi := ⟨rfl, fun _ _ => rfl⟩
theorem Off.trans {s s' s'' : aS} {lo hi : Nat} (h : Off s s' lo hi) (g : Off s' s'' lo hi) : Off s s'' lo hi := ⟨g.1.trans h.1, fun k hk => (g.2 k hk).trans (h.2 k hk)⟩
theorem Off.sup {s : aS} {lo hi b : Nat} {e : AE} (h1 : lo ≤ b) (h2 : b ≤ hi) : Off s (sup s b e) lo hi := ⟨rfl, fun k hk => if_neg (by omega)⟩
/-- m answers v and makes K' of the Court K at a -/
def CRun {α : Type} (m : MM α) (s : aS) (a : Nat) (v : α) (K' : CK) : Prop := ∃ s', m s = some (.inl v, s') ∧ Crt s' a K' ∧ Off s s' a (a + 12)
def kput (K : CK) (t : Nat) (i j v : Int32) : CK := (K.1, kset K.2.1 t (tput (tW t) (K.1 t) (K.2.1 t) i j v), K.2.2)
def kint (K : CK) (k : Nat) (v : Int32) : CK := (K.1, K.2.1, (fun j => if j = k then v else K.2.2.1 j), K.2.2.2)
section CA9
variable {α β : Type} {s : aS} {a t : Nat} {K K' : CK} {i j v w : Int32}
theorem CRun.bnd {m : MM α} {f : α → MM β} {x : α} {y : β} (h : CRun m s a x K) (g : ∀ s', Crt s' a K → CRun (f x) s' a y K') : CRun (mbnd m f) s a y K' := by
  obtain ⟨s1, h1, h2, h3⟩ := h
  obtain ⟨s2, g1, g2, g3⟩ := g s1 h2
  exact ⟨s2, (bnd_ok h1).trans g1, g2, h3.trans g3⟩
theorem CRun.get {m : MM α} {f : α → MM β} {x : α} {y : β} (h : m s = some (.inl x, s)) (g : CRun (f x) s a y K') : CRun (mbnd m f) s a y K' := by
  obtain ⟨s2, g1, g2, g3⟩ := g
  exact ⟨s2, (bnd_ok h).trans g1, g2, g3⟩
theorem CRun.ret {x : α} (C : Crt s a K) : CRun (mret x) s a x K := ⟨s, rfl, C, Off.rf⟩
theorem CRun.onC {m : MM α} {x : α} (C : Crt s a K) (h : CRun m s a x K') : CRun (onC 1 a m) s a x K' := by
  obtain ⟨s', h1, h2⟩ := h
  exact ⟨s', (onC_ok C.1).trans h1, h2⟩
theorem cput (C : Crt s a K) (ht : t < 6) : CRun (mX8_put (a + 1 + 2 * t) i j v) s a () (kput K t i j v) := ⟨_, put_run (C.2 t ht), C.cells ht, Off.sup (by omega) (by omega)⟩
theorem cput0 (C : Crt s a K) : CRun (mX8_put (a + 1) i j v) s a () (kput K 0 i j v) := cput (t := 0) C (by decide)
theorem cput1 (C : Crt s a K) : CRun (mX8_put (a + 3) i j v) s a () (kput K 1 i j v) := cput (t := 1) C (by decide)
theorem cput3 (C : Crt s a K) : CRun (mX8_put (a + 7) i j v) s a () (kput K 3 i j v) := cput (t := 3) C (by decide)
theorem cput4 (C : Crt s a K) : CRun (mX8_put (a + 9) i j v) s a () (kput K 4 i j v) := cput (t := 4) C (by decide)
theorem cput5 (C : Crt s a K) : CRun (mX8_put (a + 11) i j v) s a () (kput K 5 i j v) := cput (t := 5) C (by decide)
theorem cadd0 (C : Crt s a K) : CRun (mX8_add (a + 1) i j v) s a () (kput K 0 i j (kget K 0 i j + v)) := ⟨_, add_run C.t0, C.cells (t := 0) (by decide), Off.sup (by omega) (by omega)⟩
theorem place_run (C : Crt s a K) : CRun (mX1_place a i j v) s a () (kput (kput K 1 i j v) 0 v 6 i) := by
  unfold mX1_place
  refine CRun.onC C (CRun.get (gR_ok C.1 rfl) (CRun.bnd (cput1 C) fun s1 C1 => CRun.get (gR_ok C1.1 rfl) (CRun.bnd (cput0 C1) fun s2 C2 => CRun.ret C2)))
theorem take_run (C : Crt s a K) : CRun (mX1_take a i) s a () (kput K 0 i 6 (-1)) := by
  unfold mX1_take
  exact CRun.onC C (CRun.get (gR_ok C.1 rfl) (CRun.bnd (cput0 C) fun s2 C2 => CRun.ret C2))
theorem need_run (C : Crt s a K) : CRun (mX1_need a i v) s a () (kput K 1 i 3 (kget K 1 i 3 ||| (1 <<< (v &&& (31 : Int32))))) := by
  unfold mX1_need
  exact CRun.onC C (CRun.get (gR_ok C.1 rfl) (CRun.get (gR_ok C.1 rfl) (CRun.get (get_ok C.t1) (CRun.bnd (cput1 C) fun s2 C2 => CRun.ret C2))))
theorem wearOff_run (C : Crt s a K) : CRun (mX1_wearOff a i v) s a (imin 99 (kget K 0 i 2 + v) - kget K 0 i 2) (kput K 0 i 2 (imin 99 (kget K 0 i 2 + v))) := by
  unfold mX1_wearOff
  exact CRun.onC C (CRun.get (gR_ok C.1 rfl) (CRun.get (get_ok C.t0) (CRun.get (m := mret _) rfl (CRun.get (gR_ok C.1 rfl) (CRun.bnd (cput0 C) fun s2 C2 => CRun.ret C2)))))
theorem Crt.int (C : Crt s a K) {k : Nat} (h7 : 7 ≤ k) (h12 : k ≤ 12) : Crt (sup s a (.inl (1, (cF a K).set k (.int v)))) a (kint K k v) := by
  have hF : cF a (kint K k v) = (cF a K).set k (.int v) := by
    have : k = 7 ∨ k = 8 ∨ k = 9 ∨ k = 10 ∨ k = 11 ∨ k = 12 := by omega
    rcases this with rfl | rfl | rfl | rfl | rfl | rfl <;> rfl
  refine ⟨?_, fun q hq => (C.2 q hq).frame (by omega) (by omega)⟩
  rw [hF]
  exact hasO_put C.1.2
theorem cint (C : Crt s a K) {k : Nat} (h7 : 7 ≤ k) (h12 : k ≤ 12) : CRun (pI 1 k a v) s a () (kint K k v) := ⟨_, pF_ok C.1 (by show k < 13; omega), C.int h7 h12, Off.sup (Nat.le_refl a) (by omega)⟩
theorem isDamp_run (C : Crt s a K) : mX1_isDamp a i s = some (.inl (if K.2.2.1 9 ≤ ((iushr i 16) &&& 32767) - ((iushr i 16) &&& 32767) / 100 * 100 then 0 else 1), s) := by
  unfold mX1_isDamp
  rw [onC_ok C.1, bnd_ok (gI_ok C.1 rfl)]
  split <;> rfl
end CA9
