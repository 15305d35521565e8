/-! ACTS, the frame of each: what is run on both sides, what must be shown of it -/
def Ev {α : Type} (m : MM α) (s : aS) (v : α) (Q : aS → Prop) : Prop := ∃ s', m s = some (.inl v, s') ∧ Q s'
section EVS
variable {α β : Type} {s s1 : aS} {Q : aS → Prop}
theorem Ev.get {m : MM α} {g : α → MM β} {x : α} {y : β} (h : m s = some (.inl x, s1)) (k : Ev (g x) s1 y Q) : Ev (mbnd m g) s y Q := by
  obtain ⟨s2, a, b⟩ := k
  exact ⟨s2, (bnd_ok h).trans a, b⟩
theorem Ev.on {m : MM α} {y : α} {ci a : Nat} {fs : List Value} (h : hasO s a ci fs) (k : Ev m s y Q) : Ev (onC ci a m) s y Q := by
  obtain ⟨s2, a, b⟩ := k
  exact ⟨s2, (onC_ok h).trans a, b⟩
theorem Ev.kr {m : MM α} {y : α} {f : Int32} {K' : CK} (h : KRun m s f y K') (q : ∀ s', CC s' f K' → Off s s' 28 40 → Q s') : Ev m s y Q := by
  obtain ⟨s2, a, b, c⟩ := h
  exact ⟨s2, a, q s2 b c⟩
theorem Ev.ar {m : MM α} {y : α} {M : MK} {W' : Nat → Int32} (h : AR m s M y W') : Ev m s y (fun s4 => ∃ M4, Mdl s4 66 M4 ∧ Off s s4 66 78 ∧ M4.2 1 = W' ∧ KeepA M M4) := by
  obtain ⟨s2, M4, a, b, c, d, e⟩ := h
  exact ⟨s2, a, M4, b, c, d, e⟩
end EVS
section GOES
variable {s : aS} {f : Int32} {K : CK} {M : MK} {LW : Option (List Ln)} {c c' : Nat}
theorem act_goes (H : World s f K M LW c) (h : c ≤ c') (h' : c' < 100000) {mc mr k : MM Int32} {hs : List (Nat × Int32)} {K' : CK} {W' : Nat → Int32} {v : Int32} (hm : ∀ s, mr s = onC 11 66 (mbnd (pI 11 0 66 0) fun _ => k) s)
    (el : K'.2.2.2 = K.2.2.2)
    (hcl : ∀ sa, mX6_keepAct 23 28 s = some (.inl (), sa) → CL sa f K LW → Ev mc s v (fun s1 => CC s1 f K' ∧ ScOk K.2.2.2 s1 ∧ Fr (pAct K.2.2.2) sa s1 ∧ s1.2 = sa.2))
    (href : ∀ s2 s3 M3, Mdl s2 66 (mint M 0 0) → mX12_remembers 66 s2 = some (.inl (), s3) → Mdl s3 66 M3 → M3.2 1 = M.2 1 → Ev k s2 v (fun s4 => ∃ M4, Mdl s4 66 M4 ∧ Off s3 s4 66 78 ∧ M4.2 1 = W' ∧ KeepA M3 M4))
    (hS : Sm K' W') (hk' : kOk K') (hw' : wOk K' W' c') (h4 : W' 4 = M.2 1 4) (h1071 : ∀ i, 1071 ≤ i → W' i = M.2 1 i) : Both s mc mr hs c' := by
  obtain ⟨sa, r1, CLa, -, fin⟩ := act_keep H
  obtain ⟨s1, e1, C1, Sc1, fr1, es1⟩ := hcl sa r1 CLa
  obtain ⟨O1, rf⟩ := fin s1 K' fr1 es1 C1 Sc1 el
  refine Or.inl ⟨v, s1, e1, O1, fun s1' h79 => ?_⟩
  obtain ⟨D1, rf2⟩ := rf s1' h79
  obtain ⟨s2, p1, D2, o2⟩ := mint_run (k := 0) (v := 0) D1 rfl
  obtain ⟨s3, M3, q1, D3, e3, o3, -, rf3⟩ := rf2 s2 D2 o2
  obtain ⟨s4, t1, M4, D4, o4, e4, kp⟩ := href s2 s3 M3 D2 q1 D3 e3
  obtain ⟨w1, w2, w3, w4⟩ := rf3 s4 M4 c' D4 o4 kp h h' (by rw [e4]; exact hS) hk' (by rw [e4]; exact hw') (by rw [e4]; exact h4) (fun i hi => by rw [e4]; exact h1071 i hi)
  exact ⟨s4, f, K', M4, LW, (hm s1').trans ((onC_ok D1.1).trans ((bnd_ok p1).trans t1)), w2, w3, w4, w1⟩
/-- what the class's side of an act comes to, where only its Court changes behind the keeping -/
theorem act_fin {sa s1 : aS} {K' : CK} (CLa : CL sa f K LW) (C1 : CC s1 f K') (o : Off sa s1 28 40) : CC s1 f K' ∧ ScOk K.2.2.2 s1 ∧ Fr (pAct K.2.2.2) sa s1 ∧ s1.2 = sa.2 := by
  have hl := CLa.2.2.2.1
  unfold lOk at hl
  exact ⟨C1, CLa.2.1.fr o.fr fun k q (z : 28 ≤ k ∧ k ≤ 40) => by unfold scr at q; omega, o.fr.mono fun k q => Or.inr q, o.1⟩
/-- only parts change, their sorts and homes stay -/
theorem wOk.parts {W W' : Nat → Int32} (hw : wOk K W c) (hk : kOk K) (e : ∀ i, i < 771 → i < 13 ∨ 141 ≤ i → i ≠ 9 → i ≠ 10 → W' i = W i) (hp : ∀ p, p < K.1 0 → W' (13 + 8 * p) = W (13 + 8 * p) ∧ W' (13 + 8 * p + 1) = W (13 + 8 * p + 1) ∧ isN (W' (13 + 8 * p + 2)) 99 ∧ isN (W' (13 + 8 * p + 3)) 179820 ∧ isN (W' (13 + 8 * p + 4)) 1 ∧ isN (W' (13 + 8 * p + 5)) 1 ∧ W' (13 + 8 * p + 6) = W (13 + 8 * p + 6)) (hg : gsum W' (K.1 0) ≤ 2997 * K.1 3) : wOk K W' c := by
  have b0 : K.1 0 ≤ 16 := hk 0 (by decide)
  have b1 : K.1 1 ≤ 6 := hk 1 (by decide)
  have b2 : K.1 2 ≤ 6 := hk 2 (by decide)
  have b3 : K.1 3 ≤ 60 := hk 3 (by decide)
  have b5 : K.1 5 ≤ 30 := hk 5 (by decide)
  obtain ⟨p, t, m, d, so, sh, gs, x3, x5, x7, x8⟩ := hw
  refine ⟨fun i hi => ?_, fun i hi k hk => ?_, fun i hi => ?_, fun i hi => ?_, fun i hi => ?_, fun i hi k h1 h2 => ?_, hg, ?_, ?_, ?_, ?_⟩
  · obtain ⟨a0, a1, a2, a3, a4, a5, a6⟩ := p i hi
    obtain ⟨q0, q1, q2, q3, q4, q5, q6⟩ := hp i hi
    have hs : (W (13 + 8 * i)).toNatClampNeg ≤ 2 := by
      obtain ⟨n, h1, h2⟩ := a0
      rw [h2, ofN_cl (by omega)]
      exact h1
    refine ⟨by rw [q0]; exact a0, by rw [q1]; exact a1, q2, q3, q4, q5, ?_⟩
    rw [q6]
    refine a6.imp id ?_
    rintro ⟨q, hq, z1, z2⟩
    exact ⟨q, hq, z1, by rw [q0, e _ (by omega) (by omega) (by omega) (by omega)]; exact z2⟩
  · rw [e _ (by omega) (by omega) (by omega) (by omega)]
    refine (t i hi k hk).imp id ?_
    rintro ⟨q, hq, z1, z2, z3⟩
    exact ⟨q, hq, z1, by rw [(hp q hq).1]; exact z2, by rw [(hp q hq).2.2.2.2.2.2]; exact z3⟩
  · rw [e _ (by omega) (by omega) (by omega) (by omega)]
    exact m i hi
  · have := d i hi
    unfold dOk at this ⊢
    rw [e (171 + 7 * i) (by omega) (by omega) (by omega) (by omega), e (171 + 7 * i + 1) (by omega) (by omega) (by omega) (by omega), e (171 + 7 * i + 2) (by omega) (by omega) (by omega) (by omega), e (171 + 7 * i + 3) (by omega) (by omega) (by omega) (by omega), e (171 + 7 * i + 4) (by omega) (by omega) (by omega) (by omega), e (171 + 7 * i + 5) (by omega) (by omega) (by omega) (by omega), e 5 (by omega) (by omega) (by omega) (by omega)]
    exact this
  · rw [e _ (by omega) (by omega) (by omega) (by omega), e _ (by omega) (by omega) (by omega) (by omega)]
    exact so i hi
  · rw [e _ (by omega) (by omega) (by omega) (by omega)]
    exact sh i hi k h1 h2
  · rw [e 3 (by decide) (by decide) (by decide) (by decide)]
    exact x3
  · rw [e 5 (by decide) (by decide) (by decide) (by decide)]
    exact x5
  · rw [e 7 (by decide) (by decide) (by decide) (by decide)]
    exact x7
  · rw [e 8 (by decide) (by decide) (by decide) (by decide)]
    exact x8
theorem gsum_eq {W W' : Nat → Int32} : ∀ n, (∀ p, p < n → W' (13 + 8 * p + 3) = W (13 + 8 * p + 3)) → gsum W' n = gsum W n
  | 0, _ => rfl
  | n + 1, h => by
    show gsum W' n + (W' (13 + 8 * n + 3)).toNatClampNeg = gsum W n + (W (13 + 8 * n + 3)).toNatClampNeg
    rw [gsum_eq n (fun p hp => h p (by omega)), h n (by omega)]
/-- another number of a part: wear, nailed, ground, came -/
theorem wOk.pupd {W : Nat → Int32} (hw : wOk K W c) (hk : kOk K) {q k : Nat} {v : Int32} (hq : q < K.1 0) (h : (k = 2 ∧ isN v 99) ∨ ((k = 4 ∨ k = 5) ∧ isN v 1) ∨ k = 7) : wOk K (upd W (13 + 8 * q + k) v) c := by
  have b0 : K.1 0 ≤ 16 := hk 0 (by decide)
  have k7 : k ≤ 7 ∧ k ≠ 0 ∧ k ≠ 1 ∧ k ≠ 3 ∧ k ≠ 6 := by omega
  have o : ∀ i, i ≠ 13 + 8 * q + k → upd W (13 + 8 * q + k) v i = W i := fun i hi => if_neg hi
  refine hw.parts hk (fun i _ hi _ _ => o i (by omega)) (fun p hp => ?_) ?_
  · obtain ⟨a0, a1, a2, a3, a4, a5, a6⟩ := hw.1 p hp
    refine ⟨o _ (by omega), o _ (by omega), ?_, by rw [o _ (by omega)]; exact a3, ?_, ?_, o _ (by omega)⟩
    · show isN (if 13 + 8 * p + 2 = 13 + 8 * q + k then v else _) 99
      split
      · rcases h with h | h | h
        · exact h.2
        · omega
        · omega
      · exact a2
    · show isN (if 13 + 8 * p + 4 = 13 + 8 * q + k then v else _) 1
      split
      · rcases h with h | h | h
        · omega
        · exact h.2
        · omega
      · exact a4
    · show isN (if 13 + 8 * p + 5 = 13 + 8 * q + k then v else _) 1
      split
      · rcases h with h | h | h
        · omega
        · exact h.2
        · omega
      · exact a5
  · rw [gsum_eq _ fun p _ => o _ (by omega)]
    exact hw.2.2.2.2.2.2.1
end GOES
