/-! COURTS THAT CHANGE: rows more, GUILT that comes and passes on -/
def krows (K : CK) (t r : Nat) (g : Nat → Int32) : CK := ((fun k => if k = t then r else K.1 k), kset K.2.1 t g, K.2.2)
section BL
variable {s : aS} {a t r : Nat} {K : CK} {g : Nat → Int32} {i j v d f : Int32}
theorem Crt.tab (C : Crt s a K) (ht : t < 6) (hr : r ≤ tM t) : Crt (sup (sup s (a + 1 + 2 * t) (tO (a + 2 + 2 * t) (tM t) (tW t) r)) (a + 2 + 2 * t) (tE (tM t) (tW t) g)) a (krows K t r g) := by
  refine ⟨hasO_sup (hasO_sup C.1 (by omega)) (by omega), fun k hk => ?_⟩
  show Tb _ _ _ _ _ (if k = t then r else K.1 k) (kset K.2.1 t g k)
  unfold kset
  by_cases h : k = t
  · subst h
    rw [if_pos rfl, if_pos rfl]
    exact ((C.2 k hk).rows hr).with
  · rw [if_neg h, if_neg h]
    exact ((C.2 k hk).frame (by omega) (by omega)).frame (by omega) (by omega)
/-- a row behind the others; where there is no room, the first row's goes -/
def klast (K : CK) (t : Nat) (v : Int32) : CK := if K.1 t < tM t then krows K t (K.1 t + 1) (fillR (tW t) (K.1 t) (K.2.1 t) v (tW t)) else krows K t (K.1 t) (fillR (tW t) (K.1 t - 1) (va_cpy (K.2.1 t) (K.2.1 t) (tW t) 0 ((K.1 t - 1) * tW t)) v (tW t))
def klastR (K : CK) (t : Nat) : Int32 := if K.1 t < tM t then Int32.ofNat (K.1 t) else Int32.ofNat (K.1 t - 1)
theorem clast (C : Crt s a K) (ht : t < 6) (h0 : 0 < tM t) : CRun (mX8_openLatest (a + 1 + 2 * t) v) s a (klastR K t) (klast K t v) := by
  refine ⟨_, openLatest_run (C.2 t ht) h0, ?_, ?_⟩
  · unfold klast
    split
    · next h => exact C.tab ht h
    · exact C.tab ht (C.2 t ht).2.2.1
  · split
    · exact Off.trans (Off.sup (by omega) (by omega)) (Off.sup (by omega) (by omega))
    · exact Off.trans (Off.sup (by omega) (by omega)) (Off.sup (by omega) (by omega))
def kblame (K : CK) (p g d f : Int32) : CK :=
  if 0 < g then
    let K1 := klast (kput K 0 p 3 (kget K 0 p 3 + g)) 4 0
    let q := klastR (kput K 0 p 3 (kget K 0 p 3 + g)) 4
    kput (kput (kput (kput (kput K1 4 q 0 (K.2.2.1 8)) 4 q 1 p) 4 q 2 g) 4 q 3 d) 4 q 4 f
  else K
theorem blame_run (C : Crt s a K) : CRun (mX1_blame a i v d f) s a () (kblame K i v d f) := by
  unfold mX1_blame kblame
  refine CRun.onC C ?_
  by_cases h : 0 < v
  · rw [if_pos h, if_pos h]
    refine CRun.get (gR_ok C.1 rfl) (CRun.bnd (cadd0 C) fun s1 C1 => CRun.get (gR_ok C1.1 rfl) (CRun.bnd (clast (t := 4) C1 (by decide) (by decide)) fun s2 C2 => CRun.get (gR_ok C2.1 rfl) (CRun.get (gI_ok (x := K.2.2.1 8) C2.1 ?_) (CRun.bnd (cput4 C2) fun s3 C3 => CRun.get (gR_ok C3.1 rfl) (CRun.bnd (cput4 C3) fun s4 C4 => CRun.get (gR_ok C4.1 rfl) (CRun.bnd (cput4 C4) fun s5 C5 => CRun.get (gR_ok C5.1 rfl) (CRun.bnd (cput4 C5) fun s6 C6 => CRun.get (gR_ok C6.1 rfl) (CRun.bnd (cput4 C6) fun s7 C7 => CRun.ret C7))))))))
    show some (Value.int ((klast (kput K 0 i 3 (kget K 0 i 3 + v)) 4 0).2.2.1 8)) = _
    unfold klast
    split <;> rfl
  · rw [if_neg h, if_neg h]
    exact CRun.ret C
end BL
