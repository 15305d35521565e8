/-! THE TAPE: together, the call -/
section TG2
variable {s : aS} {f : Int32} {K : CK} {M : MK} {LW : Option (List Ln)} {c c' : Nat} {x : Int32}
theorem uses_run (D : Mdl s 66 M) {n : Nat} (h9 : M.1 9 = Int32.ofNat n) : MRun (mX12_uses 66) s 66 () (mint (mint (mint (mint M 0 0) 11 (Int32.ofNat n)) 9 0) 10 0) := by
  unfold mX12_uses
  refine MRun.onC D (MRun.bnd (mint_run D rfl) fun s1 C1 => MRun.get (x := Int32.ofNat n) (by rw [← h9]; exact gI_ok C1.1 rfl) (MRun.bnd (mint_run C1 rfl) fun s2 C2 => MRun.bnd (mint_run C2 rfl) fun s3 C3 => MRun.bnd (mint_run C3 rfl) fun s4 C4 => MRun.ret C4))
theorem go_together (H : World s f K M LW c) (h1 : c ≤ c') (h2 : c' < 100000) : Both s (mX11_together 0 x) (mX12_together 66 x) [(0, 1)] c' := by
  obtain ⟨⟨⟨C, D, S, hk, hw, hc⟩, -, -⟩, ef, ⟨n, g, hn, O1, I2, e9, hb0⟩, R, O, -⟩ := id H
  have b0 : K.1 0 ≤ 16 := hk 0 (by decide)
  have b3 : K.1 3 ≤ 60 := hk 3 (by decide)
  have hb : ∀ k, k < n → (g k).toNatClampNeg < 256 ∧ g k = Int32.ofNat (g k).toNatClampNeg ∧ M.2 6 k = sb (g k).toNatClampNeg := fun k hk9 => by
    obtain ⟨b, q1, q2, q3⟩ := hb0 k hk9
    have : (g k).toNatClampNeg = b := by rw [q2, ofN_cl (by omega)]
    rw [this]
    exact ⟨q1, q2, q3⟩
  have told := c_told (b := fun k => (g k).toNatClampNeg) C hk (show Tpc s n g from ⟨O1, I2⟩) hn (fun k hk9 => ⟨(hb k hk9).1, (hb k hk9).2.1⟩)
  -- the class cuts
  have p1 : pI 9 1 1 0 s = some (.inl (), sup s 1 (.inl (9, [.ref 2, .int (Int32.ofNat 0)]))) := pF_ok O1 (Nat.le_of_ble_eq_true rfl)
  have cut : mX9_cut 1 0 s = some (.inl 1, sup s 1 (.inl (9, [.ref 2, .int (Int32.ofNat 0)]))) := by
    unfold mX9_cut
    rw [onC_ok O1, if_neg (by decide), bnd_ok (gI_ok O1 rfl), if_pos (show (0 : Int32) ≤ Int32.ofNat n from (ofN_le (n := 0) (by decide) (by omega)).mpr (Nat.zero_le n)), bnd_ok p1]
    rfl
  have f1 : Fr (fun q => q = 1) s (sup s 1 (.inl (9, [.ref 2, .int (Int32.ofNat 0)]))) := Fr.sup
  have O2 : hasO (sup s 1 (.inl (9, [.ref 2, .int (Int32.ofNat 0)]))) 1 9 [.ref 2, .int (Int32.ofNat 0)] := hasO_put O1.2
  have es : (sup s 1 (.inl (9, [.ref 2, .int (Int32.ofNat 0)]))).2 = s.2 := rfl
  generalize sup s 1 (.inl (9, [.ref 2, .int (Int32.ofNat 0)])) = s5 at *
  have Oa : Ot s5 := O.fr f1 (by decide)
  have I5 : hasI s5 2 0 400 g := hasI_fr I2 f1 (by decide)
  have C5 : CC s5 f K := C.fr f1 (by decide) fun k h1 h2 (q : k = 1) => by omega
  -- the reference's side, from any state like that
  have ref : ∀ s1', Mdl s1' 66 M → ∃ t1, mX12_uses 66 s1' = some (.inl (), t1) ∧ Mdl t1 66 (mint (mint (mint (mint M 0 0) 11 (Int32.ofNat n)) 9 0) 10 0) ∧ Off s1' t1 66 78 := fun s1' D1 => uses_run D1 e9
  have mt : ∀ t1, Mdl t1 66 (mint (mint (mint (mint M 0 0) 11 (Int32.ofNat n)) 9 0) 10 0) → _ := fun t1 Dt => m_told (r := K.1 0) (n := n) (b := fun k => (g k).toNatClampNeg) Dt S.1.1 b0 rfl hn (fun k hk9 => ⟨(hb k hk9).1, (hb k hk9).2.2⟩)
  by_cases G : ∀ i, i < n → (g i).toNatClampNeg < K.1 0
  · have ht := told.1 G
    have hne := tset_ne (fun k => (g k).toNatClampNeg) b0 G
    have run : mX11_together 0 x s = some (.inl (if x = 0 then (wtog (M.2 1) (tset (fun k => (g k).toNatClampNeg) n) (K.1 3)).1 else (wtog (M.2 1) (tset (fun k => (g k).toNatClampNeg) n) (K.1 3)).2), s5) := by
      unfold mX11_together
      rw [onC_ok C.1, bnd_ok ht, bnd_ok (gR_ok C.1 rfl), bnd_ok cut, if_neg hne, bnd_ok (c_tog C5 S hk _)]
      split <;> rfl
    refine Or.inl ⟨_, s5, run, Oa, fun s1' h79 => ?_⟩
    have D1 : Mdl s1' 66 M := (D.fr f1 fun k k1 k2 (q : k = 1) => by omega).fr h79.fr fun k k1 k2 (q : k = 79) => by omega
    obtain ⟨t1, q1, D2, u1⟩ := ref s1' D1
    have f14 : Fr (fun k => k = 79 ∨ (66 ≤ k ∧ k ≤ 78)) s5 t1 := Fr.tr (h79.fr.mono fun k q => Or.inl q) (u1.fr.mono fun k q => Or.inr q)
    refine ⟨t1, f, K, _, LW, ?_, u1.2 79 (by omega), rfl, ⟨?_, ?_⟩, H.tape h1 h2 (Fr.tr (f1.mono fun k q => Or.inl q) (f14.mono fun k q => Or.inr (Or.inr q))) D2 ⟨⟨h79.2.2.choose, (u1.2 79 (by omega)).trans h79.2.2.choose_spec⟩, by rw [u1.1, h79.1]; exact Oa.2⟩ ⟨0, g, by omega, hasO_fr O2 f14 (by omega), hasI_fr I5 f14 (by omega), rfl, fun j hj => absurd hj (Nat.not_lt_zero j)⟩ rfl rfl rfl rfl rfl rfl⟩
    · unfold mX12_together
      rw [onC_ok D1.1, bnd_ok q1, bnd_ok ((mt t1 D2).1 G)]
      refine (bnd_ok (v := 0) (s' := t1) rfl).trans ?_
      rw [bnd_ok (thr_no D2 1), if_pos rfl, bnd_ok (m_tog D2 (n := K.1 3) S.1.2.2.2.1 b3 _ _)]
      show (if x = 0 then _ else _ : MM Int32) t1 = some (.inl (if x = 0 then (wtog (M.2 1) _ (K.1 3)).1 else (wtog (M.2 1) _ (K.1 3)).2), t1)
      split <;> rfl
    · rw [u1.1, h79.1, es]
      omega
    · rw [u1.1, h79.1, es]
      omega
  · have ht := told.2 G
    have run : mX11_together 0 x s = some (.inr 0, thS s5) := by
      unfold mX11_together
      rw [onC_ok C.1, bnd_ok ht, bnd_ok (gR_ok C.1 rfl), bnd_ok cut, if_pos rfl]
      rfl
    have f2 : Fr (fun q => q = 1) s (thS s5) := f1.tr thS_fr
    have D1 : Mdl (thS s5) 66 M := D.fr f2 fun k k1 k2 (q : k = 1) => by omega
    obtain ⟨t1, q1, D2, u1⟩ := ref _ D1
    obtain ⟨z, hz⟩ := (mt t1 D2).2 G
    obtain ⟨t2, q2, D3, u2⟩ := mint_run (k := 0) (v := 1) D2 rfl
    have oo := u1.trans u2
    have f14 : Fr (fun k => 66 ≤ k ∧ k ≤ 78) (thS s5) t2 := oo.fr
    refine Or.inr ⟨0, 1, 0, thS s5, run, rfl, one_ne0, t2, f, K, _, LW, ?_, rfl, ⟨?_, ?_⟩, H.tape h1 h2 (Fr.tr (f2.mono fun k q => Or.inl q) (f14.mono fun k q => Or.inr (Or.inr (Or.inr q)))) D3 ((Oa.fr (thS_fr (P := fun _ => False)) id).fr f14 (by omega)) ⟨0, g, by omega, hasO_fr (hasO_fr O2 (thS_fr (P := fun _ => False)) id) f14 (by omega), hasI_fr (hasI_fr I5 (thS_fr (P := fun _ => False)) id) f14 (by omega), rfl, fun j hj => absurd hj (Nat.not_lt_zero j)⟩ rfl rfl rfl rfl rfl rfl⟩
    · unfold mX12_together
      rw [onC_ok D1.1, bnd_ok q1, bnd_ok hz]
      refine (bnd_ok (v := 1) (s' := t1) rfl).trans ?_
      refine (bnd_ok (v := 1) (s' := t2) ?_).trans rfl
      unfold mX12_throwsIf
      rw [onC_ok D2.1, if_neg one_ne0]
      exact (bnd_ok q2).trans rfl
    · rw [oo.1]
      show s5.2.2.1 + 1 ≤ _
      rw [es]
      omega
    · rw [oo.1]
      show s5.2.2.2 + 6 ≤ _
      rw [es]
      omega
end TG2
