/-! ALL LINES of a law's text on both sides -/
noncomputable def lKl (e : Unit ⊕ Unit ⊕ Unit ⊕ Unit) : MM Int32 := match e with
  | .inl _ => mret 0
  | .inr (.inl _) => mret 1
  | .inr (.inr (.inl _)) => mret 0
  | .inr (.inr (.inr _)) => mbnd (gI 5 8 59) fun (v16 : Int32) => mbnd (nox (mX10_wrongl 59 v16)) fun (v17 : Int32) => mbool v17
def LwR (mc mr : MM Int32) (s sm : aS) (M : MK) (n : Nat) (B : Nat → Nat) (c0 : Nat) (Wb : Nat → Int32) : Prop :=
  (∃ z, (LRun mc s 0 fun s' => LFl s' z) ∧ NRun mr sm (-1) fun s' => RBd s' M Wb z) ∨
  ∃ Ls k nu, (LRun mc s 1 fun s' => LS0 s' n B c0 k (codeL Ls) nu (Int32.ofNat Ls.length) (-1)) ∧ (NRun mr sm (Int32.ofNat Ls.length) fun s' => RLn s' M n B Wb Ls k) ∧ Ls.length ≤ 12 ∧ (∀ x, x ∈ Ls → lnOk x)
theorem LwR.step {mc mc' mr mr' : MM Int32} {s s1 sm m1 : aS} {M : MK} {n c0 : Nat} {B : Nat → Nat} {Wb : Nat → Int32} (e : mc s = mc' s1) (o : Off s s1 59 65) (f : mr sm = mr' m1) (p : Off sm m1 66 (66 + 12)) (h : LwR mc' mr' s1 m1 M n B c0 Wb) : LwR mc mr s sm M n B c0 Wb := by
  rcases h with ⟨z, ⟨s2, a1, a2, a3⟩, ⟨m2, b1, b2, b3⟩⟩ | ⟨Ls, k, nu, ⟨s2, a1, a2, a3⟩, ⟨m2, b1, b2, b3⟩, r⟩
  · exact Or.inl ⟨z, ⟨s2, e.trans a1, a2, o.trans a3⟩, ⟨m2, f.trans b1, b2, p.trans b3⟩⟩
  · exact Or.inr ⟨Ls, k, nu, ⟨s2, e.trans a1, a2, o.trans a3⟩, ⟨m2, f.trans b1, b2, p.trans b3⟩, r⟩
section LW
variable {M : MK} {Wb : Nat → Int32} {n c0 : Nat} {B : Nat → Nat}
theorem LS0.lines {s : aS} {k : Nat} {C : List Nat} {nu li fa : Int32} (L : LS0 s n B c0 k C nu li fa) (v : Int32) : LRun (pI 5 10 59 v) s () fun s' => LS0 s' n B c0 k C nu v fa := by
  obtain ⟨T, h, x, F, R, A, c1, c3, c7, c8, c9, c10⟩ := L
  obtain ⟨s1, e1, R1, o1⟩ := putl R (k := 10) (by decide) (by decide) v
  exact ⟨s1, e1, ⟨T.off o1 (by decide), h, _, F, R1, A.keep (fun q h1 h2 => if_neg (by omega)), c1, c3, c7, rfl, c9, c10⟩, o1⟩
theorem LS0.yes {s : aS} {k : Nat} {C : List Nat} {nu li fa v : Int32} (L : LS0 s n B c0 k C nu li fa) (hk : k < c0) (h : thing B n (tb B n k) = v) : LRun (nox (mX10_takeThingl 59 v)) s 1 fun s' => LS0 s' n B c0 (k + 1) C nu li fa := by
  obtain ⟨T, hk', x, F, R, A, c1, c3, c7, c8, c9, c10⟩ := L
  obtain ⟨s1, e1, R1, o1⟩ := takeYesl T R A h
  exact ⟨s1, e1, ⟨T.off o1 (by decide), hk, _, F, R1, A.next hk' (fun _ _ _ => rfl), c1, c3, c7, c8, c9, c10⟩, o1⟩
theorem LS0.no {s : aS} {k : Nat} {C : List Nat} {nu li fa v : Int32} (L : LS0 s n B c0 k C nu li fa) (h : ¬ thing B n (tb B n k) = v) : LRun (nox (mX10_takeThingl 59 v)) s 0 fun s' => LFl s' (tb B n k) := by
  obtain ⟨T, hk', x, F, R, A, -⟩ := L
  obtain ⟨s1, e1, R1, o1⟩ := takeNol R A h
  exact ⟨s1, e1, ⟨_, F, R1, (if_pos rfl).trans A.2.2.2.2⟩, o1⟩
theorem lw_loop (TB : Byt M n B) : ∀ m k (Ls : List Ln) (nu : Int32) (s sm : aS), m + Ls.length = 12 → LS0 s n B c0 k (codeL Ls) nu (Int32.ofNat Ls.length) (-1) → RLn sm M n B Wb Ls k → (codeL Ls).length ≤ tb B n k → (∀ x, x ∈ Ls → lnOk x) → LwR (mbnd (loopM (mX10_readLinesl_L30 59 12) (Int32.ofNat Ls.length)) lKl) (mbnd (loopM (mX12_readAll_L28 66 0) (Int32.ofNat Ls.length)) lR) s sm M n B c0 Wb := by
  intro m
  induction m with
  | zero =>
    intro k Ls nu s sm hm L H hC hok
    have hl : Ls.length = 12 := (Nat.zero_add _).symm.trans hm
    obtain ⟨s1, e1, L1, o1⟩ := L.wrong
    obtain ⟨W, dp, i, b, hi, hx, D, hI, hH, hW⟩ := H
    have ml := m_letters (byt_mn TB) D hi
    rw [hx] at ml
    obtain ⟨m1, f1, D1, p1⟩ := ml
    have e2 : mX10_readLinesl_L30 59 12 (Int32.ofNat Ls.length) s = some (.inl (.inr (.inr (.inr (.inr ())))), s) := by
      unfold mX10_readLinesl_L30
      rw [hl, if_pos (show (12 : Int32) ≤ Int32.ofNat 12 by decide)]
      rfl
    have f2 : mX12_readAll_L28 66 0 (Int32.ofNat Ls.length) sm = some (.inl (.inr (.inl ())), m1) := by
      unfold mX12_readAll_L28
      have f3 : mX12_readLine 66 0 (Int32.ofNat Ls.length) sm = some (.inl 0, m1) := by
        unfold mX12_readLine
        rw [onC_ok D.1, bnd_ok f1, hl]
        rfl
      rw [bnd_ok f3]
      rfl
    exact Or.inl ⟨tb B n k, ⟨s1, (bnd_ok (loop_end e2)).trans e1, L1, o1⟩, ⟨m1, (bnd_ok (loop_end f2)).trans rfl, ⟨W, _, _, _, D1, hW⟩, p1⟩⟩
  | succ m ih =>
    intro k Ls nu s sm hm L H hC hok
    have hb := L.bd.2.2.2.1
    have hn := L.bd.1
    have hl : Ls.length < 12 := by omega
    have h12 : ¬ (12 : Int32) ≤ Int32.ofNat Ls.length := nle (n := 12) hl (by decide)
    rcases law_line TB L H hC hl with ⟨z, ⟨s1, e1, L1, o1⟩, ⟨m1, f1, R1, p1⟩⟩ | ⟨k', x, nu', ⟨s1, e1, L1, o1⟩, ⟨m1, f1, H1, p1⟩, hk', hC', hx⟩
    · have e2 : mX10_readLinesl_L30 59 12 (Int32.ofNat Ls.length) s = some (.inl (.inr (.inl ())), s1) := by
        unfold mX10_readLinesl_L30
        rw [if_neg h12, bnd_ok (nox_ok e1)]
        rfl
      have f2 : mX12_readAll_L28 66 0 (Int32.ofNat Ls.length) sm = some (.inl (.inr (.inl ())), m1) := by
        unfold mX12_readAll_L28
        rw [bnd_ok f1]
        rfl
      exact Or.inl ⟨z, ⟨s1, (bnd_ok (loop_end e2)).trans rfl, L1, o1⟩, ⟨m1, (bnd_ok (loop_end f2)).trans rfl, R1, p1⟩⟩
    · have hl1 : (Ls ++ [x]).length = Ls.length + 1 := List.length_append
      have hok' : ∀ y, y ∈ Ls ++ [x] → lnOk y := fun y hy => by
        rcases List.mem_append.mp hy with hy | hy
        · exact hok y hy
        · rw [List.mem_singleton.mp hy]
          exact hx
      obtain ⟨s2, e2, L2, o2⟩ := L1.lines (Int32.ofNat (Ls.length + 1))
      rw [← hl1] at L2
      obtain ⟨W, dp, i, b, hi, hxx, D, hI, hH, hW⟩ := H1
      have mb := m_blanks (byt_mn TB) D hi
      rw [hxx] at mb
      obtain ⟨m2, f2, D2, p2⟩ := mb
      have hp := tb_le B n k'
      have g10 : gI 11 10 66 m2 = some (.inl (Int32.ofNat (tb B n k')), m2) := gI_ok D2.1 rfl
      have g11 : gI 11 11 66 m2 = some (.inl (Int32.ofNat n), m2) := by
        rw [← TB.1]
        exact gI_ok D2.1 rfl
      have o12 := o1.trans o2
      have p12 := p1.trans p2
      by_cases hend : tb B n k' < n
      · have g7n := thing_not_end hb hend
        have is := m_isAt (byt_mn TB) D2 hp (lo := 59) (hi' := 59) (by decide) (by decide)
        by_cases hs : B (tb B n k') = 59
        · have ht := (sign_thing2 hb (ch := 59) (by decide) (by decide)).mpr ⟨hend, hs⟩
          obtain ⟨s3, e3, L3, o3⟩ := L2.yes (L2.more hend) (v := 59) ht
          rw [if_pos ⟨hend, by omega, by omega⟩] at is
          obtain ⟨m3, f3, D3, p3⟩ := mint_run (k := 10) (v := Int32.ofNat (tb B n k' + 1)) D2 rfl
          rw [mcur_p] at D3
          have e4 : mX10_readLinesl_L30 59 12 (Int32.ofNat Ls.length) s = some (.inl (.inl (Int32.ofNat (Ls ++ [x]).length)), s3) := by
            unfold mX10_readLinesl_L30
            rw [if_neg h12, bnd_ok (nox_ok e1), if_neg (show ¬ (1 : Int32) = 0 by decide), bnd_ok L1.g10, ofN_succ, bnd_ok e2, bnd_ok L2.g7, if_neg g7n]
            refine (bnd_ok e3).trans ?_
            rw [if_neg (show ¬ (1 : Int32) = 0 by decide), hl1]
            rfl
          have f4 : mX12_readAll_L28 66 0 (Int32.ofNat Ls.length) sm = some (.inl (.inl (Int32.ofNat (Ls ++ [x]).length)), m3) := by
            unfold mX12_readAll_L28
            rw [bnd_ok f1, if_neg (show ¬ (1 : Int32) = 0 by decide), bnd_ok f2, bnd_ok g10, bnd_ok g11, if_neg (fun q => by rw [ofN_inj (by omega) (by omega)] at q; omega)]
            refine (bnd_ok is).trans ?_
            rw [if_neg (show ¬ (1 : Int32) = 0 by decide), bnd_ok g10, ofN_succ, bnd_ok f3, ofN_succ, hl1]
            rfl
          have hst := tb_step hend
          exact LwR.step (mbnd_eq (loop_go e4)) (o12.trans o3) (mbnd_eq (loop_go f4)) (p12.trans p3) (ih (k' + 1) (Ls ++ [x]) nu' s3 m3 (by omega) L3 ⟨W, dp, _, _, hend, sign_next hend hs (by decide), D3, hI, hH, hW⟩ (by omega) hok')
        · have ht : ¬ thing B n (tb B n k') = 59 := fun q => hs ((sign_thing2 hb (ch := 59) (by decide) (by decide)).mp q).2
          obtain ⟨s3, e3, L3, o3⟩ := L2.no ht
          rw [if_neg (fun q => hs (by omega))] at is
          have e4 : mX10_readLinesl_L30 59 12 (Int32.ofNat Ls.length) s = some (.inl (.inr (.inr (.inr (.inl ())))), s3) := by
            unfold mX10_readLinesl_L30
            rw [if_neg h12, bnd_ok (nox_ok e1), if_neg (show ¬ (1 : Int32) = 0 by decide), bnd_ok L1.g10, ofN_succ, bnd_ok e2, bnd_ok L2.g7, if_neg g7n]
            exact (bnd_ok e3).trans rfl
          have f4 : mX12_readAll_L28 66 0 (Int32.ofNat Ls.length) sm = some (.inl (.inr (.inr (.inr ()))), m2) := by
            unfold mX12_readAll_L28
            rw [bnd_ok f1, if_neg (show ¬ (1 : Int32) = 0 by decide), bnd_ok f2, bnd_ok g10, bnd_ok g11, if_neg (fun q => by rw [ofN_inj (by omega) (by omega)] at q; omega)]
            exact (bnd_ok is).trans rfl
          exact Or.inl ⟨tb B n k', ⟨s3, (bnd_ok (loop_end e4)).trans rfl, L3, o12.trans o3⟩, ⟨m2, (bnd_ok (loop_end f4)).trans rfl, ⟨W, _, _, _, D2, hW⟩, p12⟩⟩
      · have hen : tb B n k' = n := by omega
        have e4 : mX10_readLinesl_L30 59 12 (Int32.ofNat Ls.length) s = some (.inl (.inr (.inr (.inl ()))), s2) := by
          unfold mX10_readLinesl_L30
          rw [if_neg h12, bnd_ok (nox_ok e1), if_neg (show ¬ (1 : Int32) = 0 by decide), bnd_ok L1.g10, ofN_succ, bnd_ok e2, bnd_ok L2.g7, if_pos (by rw [hen]; exact thing_end)]
          rfl
        have f4 : mX12_readAll_L28 66 0 (Int32.ofNat Ls.length) sm = some (.inl (.inr (.inr (.inl (Int32.ofNat Ls.length)))), m2) := by
          unfold mX12_readAll_L28
          rw [bnd_ok f1, if_neg (show ¬ (1 : Int32) = 0 by decide), bnd_ok f2, bnd_ok g10, bnd_ok g11, if_pos (by rw [hen])]
          rfl
        refine Or.inr ⟨Ls ++ [x], k', nu', ⟨s2, (bnd_ok (loop_end e4)).trans rfl, L2, o12⟩, ⟨m2, (bnd_ok (loop_end f4)).trans ?_, ⟨W, dp, _, _, hp, tb_nxt B n k', D2, hI, hH, hW⟩, p12⟩, by omega, hok'⟩
        show some (Sum.inl (Int32.ofNat Ls.length + 1), m2) = _
        rw [ofN_succ, hl1]
end LW
