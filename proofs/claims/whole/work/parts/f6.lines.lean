/-! THE SHORT LINES of the shop's text -/
section COP
variable {s : aS} {a : Nat} {K : CK}
theorem copen (C : Crt s a K) {t : Nat} (ht : t < 6) (h : K.1 t < tM t) (v : Int32) : CRun (mX8_open (a + 1 + 2 * t) v) s a (Int32.ofNat (K.1 t)) (krows K t (K.1 t + 1) (fillR (tW t) (K.1 t) (K.2.1 t) v (tW t))) := by
  have g := open_run (v := v) (C.2 t ht)
  rw [if_pos h, if_pos h] at g
  exact ⟨_, g, C.tab ht h, Off.trans (Off.sup (by omega) (by omega)) (Off.sup (by omega) (by omega))⟩
end COP
section LNS
variable {sc sm : aS} {x : Nat → Int32} {F : Nat → Nat → Int32} {K : CK} {M : MK} {W : Nat → Int32} {n k c0 c i b : Nat} {B : Nat → Nat}
theorem le_pred {u r : Nat} (hu : u < 100000) (hr : r ≤ 100) (h : Int32.ofNat u ≤ Int32.ofNat r - 1) : u < r := by
  match r, hr, h with
  | 0, _, h =>
    have e : (Int32.ofNat 0 - 1).toInt = -1 := rfl
    have := Int32.le_iff_toInt_le.mp h
    rw [ofN_toInt (by omega), e] at this
    omega
  | r + 1, hr, h =>
    rw [ofN_pred] at h
    have := (ofN_le (by omega) (by omega)).mp h
    omega
theorem neg_ofN {u : Nat} (hu : u < 100000) : ¬ Int32.ofNat u < 0 := ofN_nn (by omega)
theorem ge_ofN {u : Nat} (hu : u < 100000) : (0 : Int32) ≤ Int32.ofNat u := (ofN_le (n := 0) (by omega) (by omega)).mpr (Nat.zero_le u)
theorem line_damp (T : Tc sc n B) (R : RdS sc x F) (A : Ats x F n B c0 k) (C : Crt sc 41 K) (hi : i ≤ n) (hk : nxt B n i = tb B n k) (TB : Byt M n B) (D : Mdl sm 66 (mcur (mw M W) i b)) (H : Hld K W c) : LineR (mX7_readDamp 54) sc x F K (mbnd (mX12_number 66 0 100) fun (v30 : Int32) => mbnd (gR 11 1 66) fun (v31 : Nat) => mbnd (stI 0 v31 8 v30) fun _ => if v30 < 0 then mret 0 else mret 1) sm M W n B c0 c := by
  rcases num2 T R A hi hk 100 with ⟨r1, r2⟩ | ⟨u, hu, hle, r1, r2, r3, r4, r5⟩
  · refine Or.inl ⟨tb B n k, xsets x 11 (Int32.ofNat (tb B n k)), K, upd W 8 (-1), dend B n (tb B n k), ?_, rfl, tb_le B n k, ?_, (wkp.rf W).upd _ (by decide) (by decide) (by decide)⟩
    · unfold mX7_readDamp
      exact SC.o R (SC.bnd (SC.rd C r1) fun s1 R1 C1 _ => by rw [if_pos rfl]; exact SC.ret R1 C1)
    · refine MRun.bnd (r2 sm (mw M W) b TB.mw D) fun s1 D1 => MRun.get (w_ref D1) (MRun.bnd (w_put D1 (j := 8) (by decide) _) fun s2 D2 => ?_)
      rw [if_pos (by decide)]
      exact MRun.ret D2
  · refine Or.inr ⟨xgos (xsets x 9 (Int32.ofNat u)) B n (k + 1), kint K 9 (Int32.ofNat u), upd W 8 (Int32.ofNat u), k + 1, dend B n (tb B n k), tb B n k, ?_, A.next (by omega) (fun j h1 h2 => if_neg (by omega)), r5, rfl, rfl, ?_, r4, r3, ⟨H.1.damp _, H.2.1, ?_⟩, rfl, (wkp.rf W).upd _ (by decide) (by decide) (by decide)⟩
    · unfold mX7_readDamp
      refine SC.o R (SC.bnd (SC.rd C r1) fun s1 R1 C1 _ => ?_)
      rw [if_neg (by decide)]
      exact SC.get (dr R1) (SC.get (rgis R1 (k := 9) (by decide) (by decide)) (SC.bnd (SC.crt R1 (cint C1 (k := 9) (by decide) (by decide))) fun s2 R2 C2 _ => SC.ret R2 C2))
    · refine MRun.bnd (r2 sm (mw M W) b TB.mw D) fun s1 D1 => MRun.get (w_ref D1) (MRun.bnd (w_put D1 (j := 8) (by decide) _) fun s2 D2 => ?_)
      rw [if_neg (neg_ofN hu)]
      exact MRun.ret D2
    · obtain ⟨-, -, -, -, -, -, -, -, -, h7, -⟩ := id H.2.2
      exact (show wOk K (upd W 8 (Int32.ofNat u)) c from wOk.ints H.2.2 H.2.1 (fun i h1 h2 h3 => if_neg h3) (by rw [show upd W 8 (Int32.ofNat u) 7 = W 7 from if_neg (by decide)]; exact h7) (by rw [show upd W 8 (Int32.ofNat u) 8 = Int32.ofNat u from if_pos rfl]; exact isN_le (m := 100) hu (by decide) hle))
theorem line_limit (T : Tc sc n B) (R : RdS sc x F) (A : Ats x F n B c0 k) (C : Crt sc 41 K) (hi : i ≤ n) (hk : nxt B n i = tb B n k) (TB : Byt M n B) (D : Mdl sm 66 (mcur (mw M W) i b)) (H : Hld K W c) : LineR (mX7_readLimit 54) sc x F K (mbnd (mX12_number 66 0 9999) fun (v30 : Int32) => mbnd (gR 11 1 66) fun (v31 : Nat) => mbnd (stI 0 v31 7 v30) fun _ => if v30 < 0 then mret 0 else mret 1) sm M W n B c0 c := by
  rcases num2 T R A hi hk 9999 with ⟨r1, r2⟩ | ⟨u, hu, hle, r1, r2, r3, r4, r5⟩
  · refine Or.inl ⟨tb B n k, xsets x 11 (Int32.ofNat (tb B n k)), K, upd W 7 (-1), dend B n (tb B n k), ?_, rfl, tb_le B n k, ?_, (wkp.rf W).upd _ (by decide) (by decide) (by decide)⟩
    · unfold mX7_readLimit
      exact SC.o R (SC.bnd (SC.rd C r1) fun s1 R1 C1 _ => by rw [if_pos rfl]; exact SC.ret R1 C1)
    · refine MRun.bnd (r2 sm (mw M W) b TB.mw D) fun s1 D1 => MRun.get (w_ref D1) (MRun.bnd (w_put D1 (j := 7) (by decide) _) fun s2 D2 => ?_)
      rw [if_pos (by decide)]
      exact MRun.ret D2
  · refine Or.inr ⟨xgos (xsets x 9 (Int32.ofNat u)) B n (k + 1), kint K 10 (Int32.ofNat u), upd W 7 (Int32.ofNat u), k + 1, dend B n (tb B n k), tb B n k, ?_, A.next (by omega) (fun j h1 h2 => if_neg (by omega)), r5, rfl, rfl, ?_, r4, r3, ⟨H.1.limit _, H.2.1, ?_⟩, rfl, (wkp.rf W).upd _ (by decide) (by decide) (by decide)⟩
    · unfold mX7_readLimit
      refine SC.o R (SC.bnd (SC.rd C r1) fun s1 R1 C1 _ => ?_)
      rw [if_neg (by decide)]
      exact SC.get (dr R1) (SC.get (rgis R1 (k := 9) (by decide) (by decide)) (SC.bnd (SC.crt R1 (cint C1 (k := 10) (by decide) (by decide))) fun s2 R2 C2 _ => SC.ret R2 C2))
    · refine MRun.bnd (r2 sm (mw M W) b TB.mw D) fun s1 D1 => MRun.get (w_ref D1) (MRun.bnd (w_put D1 (j := 7) (by decide) _) fun s2 D2 => ?_)
      rw [if_neg (neg_ofN hu)]
      exact MRun.ret D2
    · obtain ⟨-, -, -, -, -, -, -, -, -, -, h8⟩ := id H.2.2
      exact (show wOk K (upd W 7 (Int32.ofNat u)) c from wOk.ints H.2.2 H.2.1 (fun i h1 h2 h3 => if_neg h2) (by rw [show upd W 7 (Int32.ofNat u) 7 = Int32.ofNat u from if_pos rfl]; exact isN_le (m := 9999) hu (by decide) hle) (by rw [show upd W 7 (Int32.ofNat u) 8 = W 8 from if_neg (by decide)]; exact h8))
theorem line_master (T : Tc sc n B) (R : RdS sc x F) (A : Ats x F n B c0 k) (C : Crt sc 41 K) (hi : i ≤ n) (hk : nxt B n i = tb B n k) (TB : Byt M n B) (D : Mdl sm 66 (mcur (mw M W) i b)) (H : Hld K W c) (h6 : K.1 2 < 6) : LineR (mX7_readMaster 54) sc x F K (mX12_readMaster 66) sm M W n B c0 c := by
  have hW : W 2 = Int32.ofNat (K.1 2) := H.1.1.2.2.1
  have g0 : mX12_masters 66 sm = some (.inl (Int32.ofNat (K.1 2)), sm) := by
    have := masters_run D
    rwa [mw_row, hW] at this
  have hne : ¬ Int32.ofNat (K.1 2) = (6 : Int32) := by
    show ¬ Int32.ofNat (K.1 2) = Int32.ofNat 6
    rw [ofN_inj (by omega) (by decide)]
    omega
  rcases num2 T R A hi hk 9 with ⟨r1, r2⟩ | ⟨u, hu, hle, r1, r2, r3, r4, r5⟩
  · refine Or.inl ⟨tb B n k, xsets x 11 (Int32.ofNat (tb B n k)), K, W, dend B n (tb B n k), ?_, rfl, tb_le B n k, ?_, wkp.rf W⟩
    · unfold mX7_readMaster
      exact SC.o R (SC.bnd (SC.rd C r1) fun s1 R1 C1 _ => by rw [if_pos rfl]; exact SC.ret R1 C1)
    · unfold mX12_readMaster
      refine MRun.onC D (MRun.get g0 ?_)
      rw [if_neg hne]
      refine MRun.bnd (r2 sm (mw M W) b TB.mw D) fun s1 D1 => ?_
      rw [if_neg (by decide)]
      exact MRun.ret D1
  · have o : ∀ j, j ≠ 2 → j ≠ 165 + K.1 2 → upd (upd W (165 + K.1 2) (Int32.ofNat u)) 2 (Int32.ofNat (K.1 2 + 1)) j = W j := fun j h1 h2 => (if_neg h1).trans (if_neg h2)
    have o2 : upd (upd W (165 + K.1 2) (Int32.ofNat u)) 2 (Int32.ofNat (K.1 2 + 1)) (165 + K.1 2) = Int32.ofNat u := (if_neg (by omega)).trans (if_pos rfl)
    refine Or.inr ⟨xgos (xsets x 9 (Int32.ofNat u)) B n (k + 1), krows K 2 (K.1 2 + 1) (fillR 1 (K.1 2) (K.2.1 2) (Int32.ofNat u) 1), upd (upd W (165 + K.1 2) (Int32.ofNat u)) 2 (Int32.ofNat (K.1 2 + 1)), k + 1, dend B n (tb B n k), tb B n k, ?_, A.next (by omega) (fun j h1 h2 => if_neg (by omega)), r5, rfl, rfl, ?_, r4, r3, ⟨?_, ?_, ?_⟩, rfl, ?_⟩
    · unfold mX7_readMaster
      refine SC.o R (SC.bnd (SC.rd C r1) fun s1 R1 C1 _ => ?_)
      rw [if_neg (by decide)]
      exact SC.get (dr R1) (SC.get (gR_ok C1.1 rfl) (SC.get (rgis R1 (k := 9) (by decide) (by decide)) (SC.bnd (SC.crt R1 (copen C1 (t := 2) (by decide) h6 (Int32.ofNat u))) fun s2 R2 C2 _ => SC.ret R2 C2)))
    · unfold mX12_readMaster
      refine MRun.onC D (MRun.get g0 ?_)
      rw [if_neg hne]
      refine MRun.bnd (r2 sm (mw M W) b TB.mw D) fun s1 D1 => ?_
      have g1 : mX12_masters 66 s1 = some (.inl (Int32.ofNat (K.1 2)), s1) := by
        have := masters_run D1
        rwa [mw_row, hW] at this
      rw [if_pos (ge_ofN hu)]
      refine MRun.get (w_ref D1) (MRun.get g1 ?_)
      rw [show (165 : Int32) + Int32.ofNat (K.1 2) = Int32.ofNat (165 + K.1 2) from ofN_add 165 (K.1 2)]
      refine MRun.bnd (w_put D1 (by omega) _) fun s2 D2 => MRun.get (w_ref D2) (MRun.get (w_ld D2 (j := 2) (by decide)) ?_)
      rw [show upd W (165 + K.1 2) (Int32.ofNat u) 2 = Int32.ofNat (K.1 2) from (if_neg (by omega)).trans hW, ofN_succ]
      exact MRun.bnd (w_put D2 (j := 2) (by decide) _) fun s3 D3 => MRun.ret D3
    · refine H.1.newmast H.2.1 h6 (Int32.ofNat u) (fun j h1 h2 => o j h1 (by omega)) (fun j hj => ?_) (if_pos rfl)
      rw [show j = 0 by omega]
      exact o2
    · intro t ht
      show (if t = 2 then K.1 2 + 1 else K.1 t) ≤ tM t
      by_cases e : t = 2
      · rw [if_pos e, e]
        exact h6
      · rw [if_neg e]
        exact H.2.1 t ht
    · refine wOk.newmast H.2.2 H.2.1 h6 rfl (fun t _ h => if_neg h) (fun j _ h1 h2 => o j h1 h2) ?_
      rw [o2]
      exact isN_le (m := 9) hu (by decide) hle
    · exact ((wkp.rf W).upd _ (by omega) (by omega) (by omega)).upd _ (by decide) (by decide) (by decide)
end LNS
