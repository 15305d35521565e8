/-! LAUNDERING, the class: the search's answer -/
section SR9
variable {s : aS} {f : Int32} {K : CK} {W : Nat → Int32} {LW : Option (List Ln)} {c t : Nat} {hr sh : Int32} {v : Nat → Nat → Int32}
theorem consider_core {σ : St2 → aS} {i j k lim xa xb xc ba bb bc w : Int32} (on : ∀ st (α : Type) (m : MM α), onC 3 8 m (σ st) = m (σ st)) (g0 : ∀ st, gR 3 0 8 (σ st) = some (.inl 9, σ st)) (g1 : ∀ st, gR 3 1 8 (σ st) = some (.inl 13, σ st)) (A0 : ∀ st, mX3_wayOf 9 0 i (σ st) = some (.inl xa, σ st)) (A1 : ∀ st, mX3_wayOf 9 1 j (σ st) = some (.inl xb, σ st)) (A2 : ∀ st, mX3_wayOf 9 2 k (σ st) = some (.inl xc, σ st)) (B0 : ∀ st, mX3_wayOf 13 0 i (σ st) = some (.inl ba, σ st)) (B1 : ∀ st, mX3_wayOf 13 1 j (σ st) = some (.inl bb, σ st)) (B2 : ∀ st, mX3_wayOf 13 2 k (σ st) = some (.inl bc, σ st)) (e : imin 1 i + imin 1 j + imin 1 k = w) (p3 : ∀ st x, pI 3 3 8 x (σ st) = some (.inl (), σ (x, st.2))) (p4 : ∀ st x, pI 3 4 8 x (σ st) = some (.inl (), σ (st.1, x))) (g3 : ∀ st, gI 3 3 8 (σ st) = some (.inl st.1, σ st)) (st : St2) : mX3_consider 8 i j k lim (σ st) = some (.inl (), σ (if lim < xa + xb + xc then st else if st.1 = -1 then (w, ba ||| bb ||| bc) else if st.1 ≤ w then st else (w, ba ||| bb ||| bc))) := by
  unfold mX3_consider
  rw [on, bnd_ok (g0 st), bnd_ok (A0 st), bnd_ok (g0 st), bnd_ok (A1 st), bnd_ok (g0 st), bnd_ok (A2 st), mret_mbnd, mret_mbnd, e]
  by_cases q : lim < xa + xb + xc
  · rw [if_pos q, if_pos q]
    rfl
  rw [if_neg q, if_neg q, bnd_ok (g3 st)]
  by_cases q2 : st.1 = -1
  · rw [if_pos q2, if_pos q2, bnd_ok (p3 st w), bnd_ok (g1 _), bnd_ok (B0 _), bnd_ok (g1 _), bnd_ok (B1 _), bnd_ok (g1 _), bnd_ok (B2 _), bnd_ok (p4 _ _)]
    rfl
  rw [if_neg q2, if_neg q2, bnd_ok (g3 st)]
  by_cases q3 : st.1 ≤ w
  · rw [if_pos q3, if_pos q3]
    rfl
  · rw [if_neg q3, if_neg q3, bnd_ok (p3 st w), bnd_ok (g1 _), bnd_ok (B0 _), bnd_ok (g1 _), bnd_ok (B1 _), bnd_ok (g1 _), bnd_ok (B2 _), bnd_ok (p4 _ _)]
    rfl
theorem consider_run {l np : Nat} (S : ScOk l s) (hl : lOk l) {can : Nat → Nat → Bool} (hnp : np ≤ 16) (H : ∀ k, k < 3 → WS s v k (wLst (can k) np)) {lim : Int32} {i j k : Nat} (hi : i < (wLst (can 0) np).length) (hj : j < (wLst (can 1) np).length) (hkk : k < (wLst (can 2) np).length) (st : St2) : mX3_consider 8 (Int32.ofNat i) (Int32.ofNat j) (Int32.ofNat k) lim (sup s 8 (o8 st)) = some (.inl (), sup s 8 (o8 (lookS lim st ((v 0 (wLst (can 0) np)[i] + v 1 (wLst (can 1) np)[j]) + v 2 (wLst (can 2) np)[k]) (co (wLst (can 0) np)[i] (wLst (can 1) np)[j] (wLst (can 2) np)[k]) (cb (wLst (can 0) np)[i] ||| cb (wLst (can 1) np)[j] ||| cb (wLst (can 2) np)[k])))) := by
  have S' : ∀ st, ScOk l (sup s 8 (o8 st)) := fun st => (ScR.o8 hl).2.2 S
  have H' : ∀ st k, k < 3 → WS (sup s 8 (o8 st)) v k (wLst (can k) np) := fun st k h3 => (H k h3).off (by omega) (by omega) (by decide)
  have l0 := wLst_len (can := can 0) np
  have l1 := wLst_len (can := can 1) np
  have l2 := wLst_len (can := can 2) np
  have A0 : ∀ st, mX3_wayOf 9 0 (Int32.ofNat i) (sup s 8 (o8 st)) = some (.inl (v 0 (wLst (can 0) np)[i]), sup s 8 (o8 st)) := fun st => wayA (S' st) (k := 0) (by decide) (H' st 0 (by decide)) (by omega) hi
  have A1 : ∀ st, mX3_wayOf 9 1 (Int32.ofNat j) (sup s 8 (o8 st)) = some (.inl (v 1 (wLst (can 1) np)[j]), sup s 8 (o8 st)) := fun st => wayA (S' st) (k := 1) (by decide) (H' st 1 (by decide)) (by omega) hj
  have A2 : ∀ st, mX3_wayOf 9 2 (Int32.ofNat k) (sup s 8 (o8 st)) = some (.inl (v 2 (wLst (can 2) np)[k]), sup s 8 (o8 st)) := fun st => wayA (S' st) (k := 2) (by decide) (H' st 2 (by decide)) (by omega) hkk
  have B0 : ∀ st, mX3_wayOf 13 0 (Int32.ofNat i) (sup s 8 (o8 st)) = some (.inl (cb (wLst (can 0) np)[i]), sup s 8 (o8 st)) := fun st => wayB (S' st) (k := 0) (by decide) (H' st 0 (by decide)) (by omega) hi
  have B1 : ∀ st, mX3_wayOf 13 1 (Int32.ofNat j) (sup s 8 (o8 st)) = some (.inl (cb (wLst (can 1) np)[j]), sup s 8 (o8 st)) := fun st => wayB (S' st) (k := 1) (by decide) (H' st 1 (by decide)) (by omega) hj
  have B2 : ∀ st, mX3_wayOf 13 2 (Int32.ofNat k) (sup s 8 (o8 st)) = some (.inl (cb (wLst (can 2) np)[k]), sup s 8 (o8 st)) := fun st => wayB (S' st) (k := 2) (by decide) (H' st 2 (by decide)) (by omega) hkk
  have e0 := wLst_cs (by omega) hi
  have e1 := wLst_cs (by omega) hj
  have e2 := wLst_cs (by omega) hkk
  have eco : Int32.ofNat (cs (wLst (can 0) np)[i]) + Int32.ofNat (cs (wLst (can 1) np)[j]) + Int32.ofNat (cs (wLst (can 2) np)[k]) = Int32.ofNat (co (wLst (can 0) np)[i] (wLst (can 1) np)[j] (wLst (can 2) np)[k]) := by
    rw [ofN_add, ofN_add]
    rfl
  have P : ∀ st x, _ := fun (st : St2) (x : Int32) => pI8 (s := s) (st := st) S.2.1 x
  have eco2 : imin 1 (Int32.ofNat i) + imin 1 (Int32.ofNat j) + imin 1 (Int32.ofNat k) = Int32.ofNat (co (wLst (can 0) np)[i] (wLst (can 1) np)[j] (wLst (can 2) np)[k]) := by
    rw [e0, e1, e2, eco]
  exact consider_core (σ := fun st => sup s 8 (o8 st)) (fun st => (lau_st (S' st)).1) (fun st => (lau_st (S' st)).2.1) (fun st => (lau_st (S' st)).2.2.1) A0 A1 A2 B0 B1 B2 eco2 (fun st x => (P st x).1) (fun st x => (P st x).2.1) (fun st => (P st 0).2.2.1) st
theorem search_run (C : CL s f K LW) (S : Sm K W) (hk : kOk K) (hw : wOk K W c) (ht : t < K.1 1) (hh : hr = -1 ∨ 0 ≤ hr) : ∃ s1, mX3_search 8 28 3 (Int32.ofNat t) sh hr s = some (.inl (), sup s1 8 (o8 (looks (fun k => canB W sh t k) (fun k => vO W LW hr sh t k) (W 7) (K.1 0)))) ∧ ScR K.2.2.2 s s1 ∧ ScR K.2.2.2 s1 (sup s1 8 (o8 (looks (fun k => canB W sh t k) (fun k => vO W LW hr sh t k) (W 7) (K.1 0)))) ∧ ∃ x y, hasO s1 8 3 [.ref 9, .ref 13, .ref 17, .int x, .int y] := by
  have hl := C.2.2.2.1
  have hb16 : K.1 0 ≤ 16 := hk 0 (by decide)
  obtain ⟨s1, a1, a2, a3, a4⟩ := sort_run (sh := sh) (hr := hr) C S hk hw ht hh (k := 0) (by decide)
  obtain ⟨s2, b1, b2, b3, b4⟩ := sort_run (sh := sh) (hr := hr) (C.scR a2) S hk hw ht hh (k := 1) (by decide)
  obtain ⟨s3, d1, d2, d3, d4⟩ := sort_run (sh := sh) (hr := hr) ((C.scR a2).scR b2) S hk hw ht hh (k := 2) (by decide)
  have C3 := ((C.scR a2).scR b2).scR d2
  have H : ∀ k, k < 3 → WS s3 (fun k => vO W LW hr sh t k) k (wLst (canB W sh t k) (K.1 0)) := fun k h3 => by
    have : k = 0 ∨ k = 1 ∨ k = 2 := by omega
    rcases this with rfl | rfl | rfl
    · exact d4 0 (by decide) (by decide) _ (b4 0 (by decide) (by decide) _ a3)
    · exact d4 1 (by decide) (by decide) _ b3
    · exact d3
  obtain ⟨x0, y0, h8⟩ := C3.2.1.2.1
  have S' : ∀ st, ScOk K.2.2.2 (sup s3 8 (o8 st)) := fun st => (ScR.o8 hl).2.2 C3.2.1
  have C' : ∀ st, CL (sup s3 8 (o8 st)) f K LW := fun st => C3.scR (ScR.o8 hl)
  have H' : ∀ st k, k < 3 → WS (sup s3 8 (o8 st)) (fun k => vO W LW hr sh t k) k (wLst (canB W sh t k) (K.1 0)) := fun st k h3 => (H k h3).off (by omega) (by omega) (by decide)
  have ldw : ∀ st k, k < 3 → ldI 0 17 (Int32.ofNat k) (sup s3 8 (o8 st)) = some (.inl (Int32.ofNat (wLst (canB W sh t k) (K.1 0)).length), sup s3 8 (o8 st)) := fun st k h3 => by
    obtain ⟨-, -, w, w1, w2⟩ := H' st k h3
    rw [ldI_ok w1 (ofN_nn (by omega)) (by rw [ofN_cl (by omega)]; exact h3), ofN_cl (by omega), w2]
  have gl : ∀ st, gI 1 10 28 (sup s3 8 (o8 st)) = some (.inl (W 7), sup s3 8 (o8 st)) := fun st => by
    rw [← (Sm.ints S).2.2.2.1]
    exact gI_ok (C' st).1.2.1 rfl
  have l0 := wLst_len (can := canB W sh t 0) (K.1 0)
  have l1 := wLst_len (can := canB W sh t 1) (K.1 0)
  have l2 := wLst_len (can := canB W sh t 2) (K.1 0)
  have L3 : ∀ i (hi : i < (wLst (canB W sh t 0) (K.1 0)).length) j (hj : j < (wLst (canB W sh t 1) (K.1 0)).length) st, loopM (mX3_search_L106 8 28 (Int32.ofNat i) (Int32.ofNat j)) 0 (sup s3 8 (o8 st)) = some (.inl (), sup s3 8 (o8 ((wLst (canB W sh t 2) (K.1 0)).foldl (fun st c => lookS (W 7) st ((vO W LW hr sh t 0 (wLst (canB W sh t 0) (K.1 0))[i] + vO W LW hr sh t 1 (wLst (canB W sh t 1) (K.1 0))[j]) + vO W LW hr sh t 2 c) (co (wLst (canB W sh t 0) (K.1 0))[i] (wLst (canB W sh t 1) (K.1 0))[j] c) (cb (wLst (canB W sh t 0) (K.1 0))[i] ||| cb (wLst (canB W sh t 1) (K.1 0))[j] ||| cb c)) st))) := fun i hi j hj => idx_loop (fun k hkk st => by
    have hc := consider_run (can := fun k => canB W sh t k) (v := fun k => vO W LW hr sh t k) C3.2.1 hl hb16 H (lim := W 7) hi hj hkk st
    unfold mX3_search_L106
    rw [bnd_ok (lau_st (S' st)).2.2.2.1, bnd_ok (show ldI 0 17 2 _ = _ from ldw st 2 (by decide)), if_neg (nle hkk (by omega)), bnd_ok (gl st), bnd_ok hc]
    rfl) (fun st => by
    unfold mX3_search_L106
    rw [bnd_ok (lau_st (S' st)).2.2.2.1, bnd_ok (show ldI 0 17 2 _ = _ from ldw st 2 (by decide)), if_pos (Int32.le_refl _)]
    rfl)
  have L2 : ∀ i (hi : i < (wLst (canB W sh t 0) (K.1 0)).length) st, loopM (mX3_search_L92 8 28 (Int32.ofNat i)) 0 (sup s3 8 (o8 st)) = some (.inl (), sup s3 8 (o8 ((wLst (canB W sh t 1) (K.1 0)).foldl (fun st b => (wLst (canB W sh t 2) (K.1 0)).foldl (fun st c => lookS (W 7) st ((vO W LW hr sh t 0 (wLst (canB W sh t 0) (K.1 0))[i] + vO W LW hr sh t 1 b) + vO W LW hr sh t 2 c) (co (wLst (canB W sh t 0) (K.1 0))[i] b c) (cb (wLst (canB W sh t 0) (K.1 0))[i] ||| cb b ||| cb c)) st) st))) := fun i hi => idx_loop (fun j hj st => by
    unfold mX3_search_L92
    rw [bnd_ok (lau_st (S' st)).2.2.2.1, bnd_ok (show ldI 0 17 1 _ = _ from ldw st 1 (by decide)), if_neg (nle hj (by omega)), bnd_ok (L3 i hi j hj st)]
    rfl) (fun st => by
    unfold mX3_search_L92
    rw [bnd_ok (lau_st (S' st)).2.2.2.1, bnd_ok (show ldI 0 17 1 _ = _ from ldw st 1 (by decide)), if_pos (Int32.le_refl _)]
    rfl)
  have L1 : ∀ st, loopM (mX3_search_L78 8 28) 0 (sup s3 8 (o8 st)) = some (.inl (), sup s3 8 (o8 ((wLst (canB W sh t 0) (K.1 0)).foldl (fun st a => (wLst (canB W sh t 1) (K.1 0)).foldl (fun st b => (wLst (canB W sh t 2) (K.1 0)).foldl (fun st c => lookS (W 7) st ((vO W LW hr sh t 0 a + vO W LW hr sh t 1 b) + vO W LW hr sh t 2 c) (co a b c) (cb a ||| cb b ||| cb c)) st) st) st))) := idx_loop (fun i hi st => by
    unfold mX3_search_L78
    rw [bnd_ok (lau_st (S' st)).2.2.2.1, bnd_ok (show ldI 0 17 0 _ = _ from ldw st 0 (by decide)), if_neg (nle hi (by omega)), bnd_ok (L2 i hi st)]
    rfl) (fun st => by
    unfold mX3_search_L78
    rw [bnd_ok (lau_st (S' st)).2.2.2.1, bnd_ok (show ldI 0 17 0 _ = _ from ldw st 0 (by decide)), if_pos (Int32.le_refl _)]
    rfl)
  have first : loopM (mX3_search_L3 8 28 3 (Int32.ofNat t) sh hr) 0 s = some (.inl (), s3) := by
    rw [loopM_eq]
    refine (bnd_ok (show mX3_search_L3 8 28 3 (Int32.ofNat t) sh hr 0 s = _ from a1)).trans ?_
    show loopM _ (Int32.ofNat 1) s1 = _
    rw [loopM_eq]
    refine (bnd_ok b1).trans ?_
    show loopM _ (Int32.ofNat 2) s2 = _
    rw [loopM_eq]
    refine (bnd_ok d1).trans ?_
    show loopM _ (Int32.ofNat 3) s3 = _
    rw [loopM_eq]
    exact (bnd_ok (show mX3_search_L3 8 28 3 (Int32.ofNat t) sh hr (Int32.ofNat 3) s3 = some (.inl (.inr ()), s3) from rfl)).trans rfl
  have e8 : s3 = sup s3 8 (o8 (x0, y0)) := by
    obtain ⟨hh, z⟩ := s3
    unfold sup
    congr 1
    funext b
    show hh b = if b = 8 then _ else hh b
    by_cases q : b = 8
    · rw [if_pos q, q]
      exact h8.1
    · rw [if_neg q]
  refine ⟨s3, ?_, a2.tr (b2.tr d2), ScR.o8 hl, x0, y0, h8⟩
  unfold mX3_search
  rw [(lau_st C.2.1).1, bnd_ok first]
  have p1 : pI 3 3 8 (-1) s3 = some (.inl (), sup s3 8 (o8 (-1, y0))) := by
    have := (pI8 (s := s3) (st := (x0, y0)) ⟨x0, y0, h8⟩ (-1)).1
    rw [← e8] at this
    exact this
  rw [bnd_ok p1, bnd_ok (pI8 (s := s3) (st := (-1, y0)) ⟨x0, y0, h8⟩ (-1)).2.1, bnd_ok (L1 (-1, -1))]
  rfl
end SR9
