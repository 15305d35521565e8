/-! COURTS COPIED -/
theorem hasO_off {s s' : aS} {lo hi b ci : Nat} {fs : List Value} (h : hasO s b ci fs) (o : Off s s' lo hi) (hb : b < lo ∨ hi < b) : hasO s' b ci fs := ⟨(o.2 b hb).trans h.1, by rw [o.1]; exact h.2⟩
theorem hasI_off {s s' : aS} {lo hi b t n : Nat} {f : Nat → Int32} (h : hasI s b t n f) (o : Off s s' lo hi) (hb : b < lo ∨ hi < b) : hasI s' b t n f := ⟨(o.2 b hb).trans h.1, by rw [o.1]; exact h.2⟩
theorem Crt.off {s s' : aS} {lo hi d : Nat} {K : CK} (D : Crt s d K) (o : Off s s' lo hi) (h : d + 12 < lo ∨ hi < d) : Crt s' d K := ⟨hasO_off D.1 o (by omega), fun k hk => ⟨hasO_off (D.2 k hk).1 o (by omega), hasI_off (D.2 k hk).2.1 o (by omega), (D.2 k hk).2.2⟩⟩
theorem Mdl.off {s s' : aS} {lo hi b : Nat} {M : MK} (D : Mdl s b M) (o : Off s s' lo hi) (h : b + 12 < lo ∨ hi < b) : Mdl s' b M := ⟨hasO_off D.1 o (by omega), fun q h1 h2 => hasI_off (D.2 q h1 h2) o (by omega)⟩
def kcp (K K2 : CK) (t : Nat) : CK := krows K t (K2.1 t) (va_cpy (K2.2.1 t) (K.2.1 t) 0 0 (K2.1 t * tW t))
def klaw (K : CK) (r : Nat) : CK := (K.1, K.2.1, K.2.2.1, r)
def kcopy (K K2 : CK) : CK := kint (kint (kint (kint (kint (kint (klaw (kcp (kcp (kcp (kcp (kcp (kcp K K2 0) K2 1) K2 2) K2 3) K2 4) K2 5) K2.2.2.2) 7 (K2.2.2.1 7)) 8 (K2.2.2.1 8)) 9 (K2.2.2.1 9)) 10 (K2.2.2.1 10)) 11 (K2.2.2.1 11)) 12 (K2.2.2.1 12)
section CC
variable {α β : Type} {s : aS} {a d t : Nat} {K K' K2 : CK}
theorem CRun.bnd2 {m : MM α} {f : α → MM β} {x : α} {y : β} (h : CRun m s a x K) (D : Crt s d K2) (hap : d + 12 < a ∨ a + 12 < d) (g : ∀ s', Crt s' a K → Crt s' d K2 → CRun (f x) s' a y K') : CRun (mbnd m f) s a y K' := by
  obtain ⟨s1, h1, h2, h3⟩ := h
  obtain ⟨s2, g1, g2, g3⟩ := g s1 h2 (D.off h3 hap)
  exact ⟨s2, (bnd_ok h1).trans g1, g2, h3.trans g3⟩
theorem ccp (C : Crt s a K) (D : Crt s d K2) (hap : d + 12 < a ∨ a + 12 < d) (ht : t < 6) : CRun (mX8_copyFrom (a + 1 + 2 * t) (d + 1 + 2 * t)) s a () (kcp K K2 t) := by
  refine ⟨_, copyFrom_run (C.2 t ht) (D.2 t ht) (by omega) (by omega) (by omega) (by omega), ?_, Off.trans (Off.sup (by omega) (by omega)) (Off.sup (by omega) (by omega))⟩
  rw [sup_comm (by omega)]
  exact C.tab ht (D.2 t ht).2.2.1
theorem claw (C : Crt s a K) {r : Nat} : CRun (pR 1 6 a r) s a () (klaw K r) := ⟨_, pF_ok C.1 (Nat.le_of_ble_eq_true rfl), ⟨hasO_put C.1.2, fun q hq => (C.2 q hq).frame (by omega) (by omega)⟩, Off.sup (Nat.le_refl a) (by omega)⟩
theorem copy_run (C : Crt s a K) (D : Crt s d K2) (hap : d + 12 < a ∨ a + 12 < d) : CRun (mX1_copyFrom a d) s a () (kcopy K K2) := by
  unfold mX1_copyFrom
  refine CRun.onC C ?_
  refine CRun.get (gR_ok C.1 rfl) (CRun.get (gR_ok D.1 rfl) (CRun.bnd2 (ccp (t := 0) C D hap (by decide)) D hap fun s1 C D => ?_))
  refine CRun.get (gR_ok C.1 rfl) (CRun.get (gR_ok D.1 rfl) (CRun.bnd2 (ccp (t := 1) C D hap (by decide)) D hap fun s1 C D => ?_))
  refine CRun.get (gR_ok C.1 rfl) (CRun.get (gR_ok D.1 rfl) (CRun.bnd2 (ccp (t := 2) C D hap (by decide)) D hap fun s1 C D => ?_))
  refine CRun.get (gR_ok C.1 rfl) (CRun.get (gR_ok D.1 rfl) (CRun.bnd2 (ccp (t := 3) C D hap (by decide)) D hap fun s1 C D => ?_))
  refine CRun.get (gR_ok C.1 rfl) (CRun.get (gR_ok D.1 rfl) (CRun.bnd2 (ccp (t := 4) C D hap (by decide)) D hap fun s1 C D => ?_))
  refine CRun.get (gR_ok C.1 rfl) (CRun.get (gR_ok D.1 rfl) (CRun.bnd2 (ccp (t := 5) C D hap (by decide)) D hap fun s1 C D => ?_))
  refine CRun.get (gR_ok D.1 rfl) (CRun.bnd2 (claw C) D hap fun s1 C D => ?_)
  refine CRun.get (gI_ok D.1 rfl) (CRun.bnd2 (cint (k := 7) C (by decide) (by decide)) D hap fun s1 C D => ?_)
  refine CRun.get (gI_ok D.1 rfl) (CRun.bnd2 (cint (k := 8) C (by decide) (by decide)) D hap fun s1 C D => ?_)
  refine CRun.get (gI_ok D.1 rfl) (CRun.bnd2 (cint (k := 9) C (by decide) (by decide)) D hap fun s1 C D => ?_)
  refine CRun.get (gI_ok D.1 rfl) (CRun.bnd2 (cint (k := 10) C (by decide) (by decide)) D hap fun s1 C D => ?_)
  refine CRun.get (gI_ok D.1 rfl) (CRun.bnd2 (cint (k := 11) C (by decide) (by decide)) D hap fun s1 C D => ?_)
  exact CRun.get (gI_ok D.1 rfl) (CRun.bnd2 (cint (k := 12) C (by decide) (by decide)) D hap fun s1 C D => CRun.ret C)
end CC
