/-! THE START: what the two sides build (the cells are printed by a program of mine) -/
def Has (s : aS) (L : List AE) (r q : Nat) : Prop := s.2.1 = L.length ∧ (∀ k e, L[k]? = some e → s.1 k = e) ∧ s.2.2.1 = r ∧ s.2.2.2 = q
def Go {α : Type} (m : MM α) (s : aS) (Q : α → aS → Prop) : Prop := ∃ v s', m s = some (.inl v, s') ∧ Q v s'
theorem Has.lt {s : aS} {L : List AE} {r q k : Nat} {e : AE} (H : Has s L r q) (h : L[k]? = some e) : k < s.2.1 := by
  rw [H.1]
  exact (List.getElem?_eq_some_iff.mp h).1
abbrev pushA (s : aS) (e : AE) (k : Nat) : aS := push s e k
theorem Has.push {s : aS} {L : List AE} {r q N : Nat} {e : AE} (H : Has s L r q) : Has (push s e N) (L ++ [e]) (r + 1) (q + N) := by
  obtain ⟨h1, h2, h3, h4⟩ := H
  refine ⟨?_, fun k e' h => ?_, congrArg (· + 1) h3, congrArg (· + N) h4⟩
  · rw [List.length_append]
    exact congrArg (· + 1) h1
  · show (if k = s.2.1 then e else s.1 k) = e'
    by_cases hk : k < L.length
    · rw [List.getElem?_append_left hk] at h
      rw [if_neg (by omega)]
      exact h2 k e' h
    · have := (List.getElem?_eq_some_iff.mp h).1
      rw [List.length_append] at this
      have : k = L.length := by simp only [List.length_cons, List.length_nil] at this; omega
      subst this
      rw [List.getElem?_append_right (Nat.le_refl _), Nat.sub_self] at h
      rw [if_pos h1.symm]
      exact Option.some.inj h
theorem Has.sup {s : aS} {L : List AE} {r q a : Nat} {e : AE} (H : Has s L r q) : Has (sup s a e) (L.set a e) r q := by
  obtain ⟨h1, h2, h3, h4⟩ := H
  refine ⟨?_, fun k e' h => ?_, h3, h4⟩
  · rw [List.length_set]
    exact h1
  · show (if k = a then e else s.1 k) = e'
    rw [List.getElem?_set] at h
    by_cases hk : a = k
    · subst hk
      rw [if_pos rfl] at h
      rw [if_pos rfl]
      split at h
      · exact Option.some.inj h
      · cases h
    · rw [if_neg hk] at h
      rw [if_neg (Ne.symm hk)]
      exact h2 k e' h
theorem Has.obj {s : aS} {L : List AE} {r q a ci : Nat} {fs : List Value} (H : Has s L r q) (h : L[a]? = some (.inl (ci, fs))) : hasO s a ci fs := ⟨H.2.1 a _ h, H.lt h⟩
theorem Has.ints {s : aS} {L : List AE} {r q a t n : Nat} {f : Nat → Int32} (H : Has s L r q) (h : L[a]? = some (.inr (.inl (t, n, f)))) : hasI s a t n f := ⟨H.2.1 a _ h, H.lt h⟩
theorem Has.more {s s' : aS} {L T : List AE} {r q r' q' a : Nat} {e : AE} (H : Has s L r q) (hl : L.length = a + 1) (hs : s'.2.1 = a + 1 + T.length) (f : Fr (fun x => x = a) s s') (h0 : s'.1 a = e) (ht : ∀ j e', T[j]? = some e' → s'.1 (a + 1 + j) = e') (hr : s'.2.2.1 = r + r') (hq : s'.2.2.2 = q + q') : Has s' (L.set a e ++ T) (r + r') (q + q') := by
  obtain ⟨h1, h2, h3, h4⟩ := H
  refine ⟨?_, fun k e' h => ?_, hr, hq⟩
  · rw [List.length_append, List.length_set, hl]
    exact hs
  · by_cases hk : k < L.length
    · rw [List.getElem?_append_left (by rw [List.length_set]; exact hk), List.getElem?_set] at h
      by_cases hk' : a = k
      · subst hk'
        rw [if_pos rfl, if_pos hk] at h
        exact h0.trans (Option.some.inj h)
      · rw [if_neg hk'] at h
        exact (f.2 k (by omega) (Ne.symm hk')).trans (h2 k e' h)
    · rw [List.getElem?_append_right (by rw [List.length_set]; omega), List.length_set, hl] at h
      have := ht _ _ h
      rwa [show a + 1 + (k - (a + 1)) = k by omega] at this
section GO
variable {α β : Type} {s : aS} {L : List AE} {r q : Nat} {Q : β → aS → Prop}
theorem Go.bnd {m : MM α} {f : α → MM β} {v : α} {s' : aS} (h : m s = some (.inl v, s')) (g : Go (f v) s' Q) : Go (mbnd m f) s Q := by
  obtain ⟨w, s2, e, hq⟩ := g
  exact ⟨w, s2, (bnd_ok h).trans e, hq⟩
theorem Go.call {m : MM α} {f : α → MM β} (h : Go m s fun v s' => Go (f v) s' Q) : Go (mbnd (nox m) f) s Q := by
  obtain ⟨v, s', e, g⟩ := h
  exact Go.bnd (nox_ok e) g
theorem Go.ret {v : β} (h : Q v s) : Go (mret v) s Q := ⟨v, s, rfl, h⟩
theorem Go.onC {ci a : Nat} {fs : List Value} {m : MM β} (H : Has s L r q) (h : L[a]? = some (.inl (ci, fs))) (g : Go m s Q) : Go (onC ci a m) s Q := by
  obtain ⟨v, s', e, hq⟩ := g
  exact ⟨v, s', (onC_ok (H.obj h)).trans e, hq⟩
theorem Go.nw {ci N n : Nat} {fs : List Value} {f : Nat → MM β} (H : Has s L r q) (hn : L.length = n) (g : ∀ s', Has s' (L ++ [.inl (ci, fs)]) (r + 1) (q + N) → Go (f n) s' Q) : Go (mbnd (nw ci N fs) f) s Q := by
  subst hn
  rw [← H.1] at g
  exact Go.bnd (v := s.2.1) (s' := pushA s (.inl (ci, fs)) N) rfl (g _ H.push)
theorem Go.nwI {t N n : Nat} {i : Int32} {f : Nat → MM β} (H : Has s L r q) (hi : i.toNatClampNeg = N) (h0 : ¬ i < 0) (hn : L.length = n) (hN : N ≤ 100000) (g : ∀ s', Has s' (L ++ [.inr (.inl (t, N, fun _ => 0))]) (r + 1) (q + N) → Go (f n) s' Q) : Go (mbnd (nwI t i) f) s Q := by
  subst hn
  subst hi
  rw [← H.1] at g
  exact Go.bnd (v := s.2.1) (s' := pushA s (.inr (.inl (t, i.toNatClampNeg, fun _ => 0))) i.toNatClampNeg) (if_neg (fun h => h.elim h0 fun h => by omega)) (g _ H.push)
theorem Go.nwQ {t N n : Nat} {i : Int32} {f : Nat → MM β} (H : Has s L r q) (hi : i.toNatClampNeg = N) (h0 : ¬ i < 0) (hn : L.length = n) (hN : N ≤ 100000) (g : ∀ s', Has s' (L ++ [.inr (.inr (.inl (t, N, fun _ => none)))]) (r + 1) (q + N) → Go (f n) s' Q) : Go (mbnd (nwQ t i) f) s Q := by
  subst hn
  subst hi
  rw [← H.1] at g
  exact Go.bnd (v := s.2.1) (s' := pushA s (.inr (.inr (.inl (t, i.toNatClampNeg, fun _ => none)))) i.toNatClampNeg) (if_neg (fun h => h.elim h0 fun h => by omega)) (g _ H.push)
theorem Go.nwL {n : Nat} {f : Nat → MM β} (H : Has s L r q) (hn : L.length = n) (g : ∀ s', Has s' (L ++ [.inr (.inr (.inr (1, fun _ => 0)))]) (r + 1) (q + 1) → Go (f n) s' Q) : Go (mbnd (nwL 1) f) s Q := by
  subst hn
  rw [← H.1] at g
  exact Go.bnd (v := s.2.1) (s' := pushA s (.inr (.inr (.inr (1, fun _ => 0)))) 1) (if_neg (by decide)) (g _ H.push)
theorem Go.nwA {n : Nat} {f : Nat → MM β} (H : Has s L r q) (hn : L.length = n) (g : ∀ s', Has s' (L ++ [.inr (.inr (.inl (2, 3, fun i => if i < 3 then some (n + 1 + i) else none))), .inr (.inl (0, 17, fun _ => 0)), .inr (.inl (0, 17, fun _ => 0)), .inr (.inl (0, 17, fun _ => 0))]) (r + 4) (q + 54) → Go (f n) s' Q) : Go (mbnd (nwA 3 17) f) s Q := by
  obtain ⟨h1, h2, h3, h4⟩ := H
  rw [← h1] at hn
  subst hn
  refine Go.bnd (v := s.2.1) (s' := (nwAh s.1 s.2.1 3 17, s.2.1 + 4, s.2.2.1 + 4, s.2.2.2 + 54)) (if_neg (by decide)) (g _ ⟨?_, fun k e h => ?_, congrArg (· + 4) h3, congrArg (· + 54) h4⟩)
  · rw [List.length_append, ← h1]
    rfl
  · show (if k = s.2.1 then _ else if s.2.1 < k ∧ k < s.2.1 + 1 + 3 then _ else s.1 k) = e
    by_cases hk : k < L.length
    · rw [List.getElem?_append_left hk] at h
      rw [if_neg (by omega), if_neg (by omega)]
      exact h2 k e h
    · rw [List.getElem?_append_right (by omega)] at h
      obtain ⟨j, hj⟩ : ∃ j, k = s.2.1 + j := ⟨k - s.2.1, by omega⟩
      subst hj
      rw [show s.2.1 + j - L.length = j by omega] at h
      match j, h with
      | 0, h => rw [if_pos (Nat.add_zero _)]; exact Option.some.inj h
      | 1, h => rw [if_neg (by omega), if_pos (by omega)]; exact Option.some.inj h
      | 2, h => rw [if_neg (by omega), if_pos (by omega)]; exact Option.some.inj h
      | 3, h => rw [if_neg (by omega), if_pos (by omega)]; exact Option.some.inj h
      | j + 4, h => cases h
theorem Go.pR {ci a k v : Nat} {fs : List Value} {f : Unit → MM β} (H : Has s L r q) (h : L[a]? = some (.inl (ci, fs))) (hk : k < fs.length) (g : ∀ s', Has s' (L.set a (.inl (ci, fs.set k (.ref v)))) r q → Go (f ()) s' Q) : Go (mbnd (pR ci k a v) f) s Q := Go.bnd (pF_ok (H.obj h) hk) (g _ H.sup)
theorem Go.pI {ci a k : Nat} {v : Int32} {fs : List Value} {f : Unit → MM β} (H : Has s L r q) (h : L[a]? = some (.inl (ci, fs))) (hk : k < fs.length) (g : ∀ s', Has s' (L.set a (.inl (ci, fs.set k (.int v)))) r q → Go (f ()) s' Q) : Go (mbnd (pI ci k a v) f) s Q := Go.bnd (pF_ok (H.obj h) hk) (g _ H.sup)
theorem Go.gR {ci a k v : Nat} {fs : List Value} {f : Nat → MM β} (H : Has s L r q) (h : L[a]? = some (.inl (ci, fs))) (hk : fs[k]? = some (.ref v)) (g : Go (f v) s Q) : Go (mbnd (gR ci k a) f) s Q := Go.bnd (gR_ok (H.obj h) hk) g
theorem Go.stI {t a N k : Nat} {i x : Int32} {e : Nat → Int32} {f : Unit → MM β} (H : Has s L r q) (h : L[a]? = some (.inr (.inl (t, N, e)))) (h0 : ¬ i < 0) (hi : i.toNatClampNeg = k) (hN : k < N) (g : ∀ s', Has s' (L.set a (.inr (.inl (t, N, upd e k x)))) r q → Go (f ()) s' Q) : Go (mbnd (stI t a i x) f) s Q := by
  subst hi
  exact Go.bnd (stI_ok (H.ints h) h0 hN) (g _ H.sup)
theorem Go.court {a l : Nat} {f : Unit → MM β} (H : Has s L r q) (hl : L.length = a + 1) (h : L[a]? = some (.inl (1, [.null, .null, .null, .null, .null, .null, .null, .int 0, .int 0, .int 0, .int 0, .int 0, .int 0]))) (g : ∀ s', Has s' (L.set a (.inl (1, cF a (kNew l))) ++ [tO (a + 2) 16 8 0, tE 16 8 fun _ => 0, tO (a + 4) 6 4 0, tE 6 4 fun _ => 0, tO (a + 6) 6 1 0, tE 6 1 fun _ => 0, tO (a + 8) 60 7 0, tE 60 7 fun _ => 0, tO (a + 10) 60 5 0, tE 60 5 fun _ => 0, tO (a + 12) 30 6 0, tE 30 6 fun _ => 0]) (r + 12) (q + 1082) → Go (f ()) s' Q) : Go (mbnd (nox (mX1_init a l)) f) s Q := by
  obtain ⟨s', e1, C, n1, f1, r1, q1⟩ := court_init (l := l) (H.obj h) (H.1.trans hl)
  refine Go.bnd (nox_ok e1) (g s' (H.more hl n1 f1 C.1.1 (fun j e' hj => ?_) (by rw [r1, H.2.2.1]) (by rw [q1, H.2.2.2])))
  match j, hj with
  | 0, hj => exact (C.2 0 (by decide)).1.1.trans (Option.some.inj hj)
  | 1, hj => exact (C.2 0 (by decide)).2.1.1.trans (Option.some.inj hj)
  | 2, hj => exact (C.2 1 (by decide)).1.1.trans (Option.some.inj hj)
  | 3, hj => exact (C.2 1 (by decide)).2.1.1.trans (Option.some.inj hj)
  | 4, hj => exact (C.2 2 (by decide)).1.1.trans (Option.some.inj hj)
  | 5, hj => exact (C.2 2 (by decide)).2.1.1.trans (Option.some.inj hj)
  | 6, hj => exact (C.2 3 (by decide)).1.1.trans (Option.some.inj hj)
  | 7, hj => exact (C.2 3 (by decide)).2.1.1.trans (Option.some.inj hj)
  | 8, hj => exact (C.2 4 (by decide)).1.1.trans (Option.some.inj hj)
  | 9, hj => exact (C.2 4 (by decide)).2.1.1.trans (Option.some.inj hj)
  | 10, hj => exact (C.2 5 (by decide)).1.1.trans (Option.some.inj hj)
  | 11, hj => exact (C.2 5 (by decide)).2.1.1.trans (Option.some.inj hj)
  | j + 12, hj => cases hj
end GO
/-- all cells at the start -/
def cells0 : List AE := [.inl (10, [.ref 1, .ref 54, .ref 59, .ref 3, .ref 8, .ref 18, .ref 23, .ref 28, .ref 41, .int (-1)]), .inl (9, [.ref 2, .int 0]), .inr (.inl (0, 400, fun _ => 0)), .inl (2, [.ref 4, .ref 5, .ref 6, .ref 7]), .inr (.inl (0, 10, fun _ => 0)), .inr (.inl (0, 3, fun _ => 0)), .inr (.inl (0, 3, fun _ => 0)), .inr (.inl (0, 3, fun _ => 0)), .inl (3, [.ref 9, .ref 13, .ref 17, .int (-1), .int (-1)]), .inr (.inr (.inl (2, 3, fun i => if i < 3 then some (9 + 1 + i) else none))), .inr (.inl (0, 17, fun _ => 0)), .inr (.inl (0, 17, fun _ => 0)), .inr (.inl (0, 17, fun _ => 0)), .inr (.inr (.inl (2, 3, fun i => if i < 3 then some (13 + 1 + i) else none))), .inr (.inl (0, 17, fun _ => 0)), .inr (.inl (0, 17, fun _ => 0)), .inr (.inl (0, 17, fun _ => 0)), .inr (.inl (0, 3, fun _ => 0)), .inl (0, [.ref 19, .ref 20, .ref 21, .ref 22, .int 0, .int 0]), .inr (.inl (0, 6, fun _ => 0)), .inr (.inl (0, 6, fun _ => 0)), .inr (.inl (0, 6, fun _ => 0)), .inr (.inl (0, 6, fun _ => 0)), .inl (6, [.ref 24, .int 0, .int 0, .null]), .inr (.inr (.inl (3, 10, fun _ => none))), .inl (4, [.int (-1), .ref 26, .ref 27]), .inr (.inl (0, 0, fun _ => 0)), .inr (.inl (0, 40, fun _ => 0)), .inl (1, cF 28 (kNew 25)), .inl (8, [.ref 30, .int (Int32.ofNat 16), .int (Int32.ofNat 8), .int (Int32.ofNat 0)]), .inr (.inl (0, 16 * 8, fun _ => 0)), .inl (8, [.ref 32, .int (Int32.ofNat 6), .int (Int32.ofNat 4), .int (Int32.ofNat 0)]), .inr (.inl (0, 6 * 4, fun _ => 0)), .inl (8, [.ref 34, .int (Int32.ofNat 6), .int (Int32.ofNat 1), .int (Int32.ofNat 0)]), .inr (.inl (0, 6 * 1, fun _ => 0)), .inl (8, [.ref 36, .int (Int32.ofNat 60), .int (Int32.ofNat 7), .int (Int32.ofNat 0)]), .inr (.inl (0, 60 * 7, fun _ => 0)), .inl (8, [.ref 38, .int (Int32.ofNat 60), .int (Int32.ofNat 5), .int (Int32.ofNat 0)]), .inr (.inl (0, 60 * 5, fun _ => 0)), .inl (8, [.ref 40, .int (Int32.ofNat 30), .int (Int32.ofNat 6), .int (Int32.ofNat 0)]), .inr (.inl (0, 30 * 6, fun _ => 0)), .inl (1, cF 41 (kNew 25)), .inl (8, [.ref 43, .int (Int32.ofNat 16), .int (Int32.ofNat 8), .int (Int32.ofNat 0)]), .inr (.inl (0, 16 * 8, fun _ => 0)), .inl (8, [.ref 45, .int (Int32.ofNat 6), .int (Int32.ofNat 4), .int (Int32.ofNat 0)]), .inr (.inl (0, 6 * 4, fun _ => 0)), .inl (8, [.ref 47, .int (Int32.ofNat 6), .int (Int32.ofNat 1), .int (Int32.ofNat 0)]), .inr (.inl (0, 6 * 1, fun _ => 0)), .inl (8, [.ref 49, .int (Int32.ofNat 60), .int (Int32.ofNat 7), .int (Int32.ofNat 0)]), .inr (.inl (0, 60 * 7, fun _ => 0)), .inl (8, [.ref 51, .int (Int32.ofNat 60), .int (Int32.ofNat 5), .int (Int32.ofNat 0)]), .inr (.inl (0, 60 * 5, fun _ => 0)), .inl (8, [.ref 53, .int (Int32.ofNat 30), .int (Int32.ofNat 6), .int (Int32.ofNat 0)]), .inr (.inl (0, 30 * 6, fun _ => 0)), .inl (7, [.ref 1, .ref 55, .ref 56, .ref 57, .ref 58, .int 0, .int 0, .int 0, .int 0, .int 0, .int 0, .int (-1), .ref 28, .ref 41]), .inr (.inl (0, 400, fun _ => 0)), .inr (.inl (0, 400, fun _ => 0)), .inr (.inl (0, 400, fun _ => 0)), .inr (.inl (0, 400, fun _ => 0)), .inl (5, [.ref 1, .ref 60, .ref 61, .ref 62, .ref 63, .int 0, .int 0, .int 0, .int 0, .int 0, .int 0, .int (-1), .ref 64, .ref 65, .int 0, .int 0, .int 0, .int 0]), .inr (.inl (0, 400, fun _ => 0)), .inr (.inl (0, 400, fun _ => 0)), .inr (.inl (0, 400, fun _ => 0)), .inr (.inl (0, 400, fun _ => 0)), .inr (.inl (0, 400, fun _ => 0)), .inr (.inl (0, 40, fun _ => 0)), .inl (11, [.int 0, .ref 67, .ref 68, .ref 69, .ref 70, .ref 71, .int 0, .int 0, .ref 72, .int 0, .int 0, .int 0, .int 0, .int 0, .int (-1), .ref 73, .int 0, .ref 74, .int 0, .int 0, .int 0, .ref 75, .ref 76, .int 0, .int 0, .ref 77, .ref 78]), .inr (.inl (0, 2769, upd (fun _ => 0) 12 1)), .inr (.inl (0, 1920, fun _ => 0)), .inr (.inl (0, 1920, fun _ => 0)), .inr (.inl (0, 1071, fun _ => 0)), .inr (.inl (0, 10710, fun _ => 0)), .inr (.inl (1, 400, fun _ => 0)), .inr (.inl (0, 5, fun _ => 0)), .inr (.inl (0, 400, fun _ => 0)), .inr (.inl (0, 3, fun _ => 0)), .inr (.inl (0, 3, fun _ => 0)), .inr (.inl (0, 6, fun _ => 0)), .inr (.inl (0, 6, fun _ => 0)), .inr (.inr (.inr (1, fun _ => 0)))]
set_option maxRecDepth 8000 in
theorem start_go (n0 : Nat) (xs : Nat → Int32) {Q : Int32 → aS → Prop} (k : ∀ s, Has s cells0 80 25741 → Go (mbnd (loopM (mL_main_L n0 xs 0 66 79) 0) fun (e : Unit ⊕ Unit) => match e with
    | .inl _ => (mret 1 : MM Int32)
    | .inr _ => mret 0) s Q) : Go (mL_main n0 xs) aS0 Q := by
  have H : Has aS0 [] 0 0 := ⟨rfl, fun k e h => (by cases h), rfl, rfl⟩
  unfold mL_main
  refine Go.nw H (n := 0) rfl fun s H => ?_
  refine Go.call ?_
  refine Go.onC H (fs := [.null, .null, .null, .null, .null, .null, .null, .null, .null, .int 0]) rfl ?_
  refine Go.nw H (n := 1) rfl fun s H => ?_
  refine Go.call ?_
  refine Go.onC H (fs := [.null, .int 0]) rfl ?_
  refine Go.nwI H (N := 400) (n := 2) rfl (by decide) rfl (by decide) fun s H => ?_
  refine Go.pR H (fs := [.null, .int 0]) rfl (by decide) fun s H => ?_
  refine Go.ret ?_
  have H : Has s [.inl (10, [.null, .null, .null, .null, .null, .null, .null, .null, .null, .int 0]), .inl (9, [.ref 2, .int 0]), .inr (.inl (0, 400, fun _ => 0))] 3 412 := H
  refine Go.pR H (fs := [.null, .null, .null, .null, .null, .null, .null, .null, .null, .int 0]) rfl (by decide) fun s H => ?_
  refine Go.nw H (n := 3) rfl fun s H => ?_
  refine Go.call ?_
  refine Go.onC H (fs := [.null, .null, .null, .null]) rfl ?_
  refine Go.nwI H (N := 10) (n := 4) rfl (by decide) rfl (by decide) fun s H => ?_
  refine Go.pR H (fs := [.null, .null, .null, .null]) rfl (by decide) fun s H => ?_
  refine Go.nwI H (N := 3) (n := 5) rfl (by decide) rfl (by decide) fun s H => ?_
  refine Go.pR H (fs := [.ref 4, .null, .null, .null]) rfl (by decide) fun s H => ?_
  refine Go.nwI H (N := 3) (n := 6) rfl (by decide) rfl (by decide) fun s H => ?_
  refine Go.pR H (fs := [.ref 4, .ref 5, .null, .null]) rfl (by decide) fun s H => ?_
  refine Go.nwI H (N := 3) (n := 7) rfl (by decide) rfl (by decide) fun s H => ?_
  refine Go.pR H (fs := [.ref 4, .ref 5, .ref 6, .null]) rfl (by decide) fun s H => ?_
  refine Go.ret ?_
  have H : Has s [.inl (10, [.ref 1, .null, .null, .null, .null, .null, .null, .null, .null, .int 0]), .inl (9, [.ref 2, .int 0]), .inr (.inl (0, 400, fun _ => 0)), .inl (2, [.ref 4, .ref 5, .ref 6, .ref 7]), .inr (.inl (0, 10, fun _ => 0)), .inr (.inl (0, 3, fun _ => 0)), .inr (.inl (0, 3, fun _ => 0)), .inr (.inl (0, 3, fun _ => 0))] 8 435 := H
  refine Go.pR H (fs := [.ref 1, .null, .null, .null, .null, .null, .null, .null, .null, .int 0]) rfl (by decide) fun s H => ?_
  refine Go.nw H (n := 8) rfl fun s H => ?_
  refine Go.call ?_
  refine Go.onC H (fs := [.null, .null, .null, .int 0, .int 0]) rfl ?_
  refine Go.nwA H (n := 9) rfl fun s H => ?_
  refine Go.pR H (fs := [.null, .null, .null, .int 0, .int 0]) rfl (by decide) fun s H => ?_
  refine Go.nwA H (n := 13) rfl fun s H => ?_
  refine Go.pR H (fs := [.ref 9, .null, .null, .int 0, .int 0]) rfl (by decide) fun s H => ?_
  refine Go.nwI H (N := 3) (n := 17) rfl (by decide) rfl (by decide) fun s H => ?_
  refine Go.pR H (fs := [.ref 9, .ref 13, .null, .int 0, .int 0]) rfl (by decide) fun s H => ?_
  refine Go.pI H (fs := [.ref 9, .ref 13, .ref 17, .int 0, .int 0]) rfl (by decide) fun s H => ?_
  refine Go.pI H (fs := [.ref 9, .ref 13, .ref 17, .int (-1), .int 0]) rfl (by decide) fun s H => ?_
  refine Go.ret ?_
  have H : Has s [.inl (10, [.ref 1, .null, .null, .ref 3, .null, .null, .null, .null, .null, .int 0]), .inl (9, [.ref 2, .int 0]), .inr (.inl (0, 400, fun _ => 0)), .inl (2, [.ref 4, .ref 5, .ref 6, .ref 7]), .inr (.inl (0, 10, fun _ => 0)), .inr (.inl (0, 3, fun _ => 0)), .inr (.inl (0, 3, fun _ => 0)), .inr (.inl (0, 3, fun _ => 0)), .inl (3, [.ref 9, .ref 13, .ref 17, .int (-1), .int (-1)]), .inr (.inr (.inl (2, 3, fun i => if i < 3 then some (9 + 1 + i) else none))), .inr (.inl (0, 17, fun _ => 0)), .inr (.inl (0, 17, fun _ => 0)), .inr (.inl (0, 17, fun _ => 0)), .inr (.inr (.inl (2, 3, fun i => if i < 3 then some (13 + 1 + i) else none))), .inr (.inl (0, 17, fun _ => 0)), .inr (.inl (0, 17, fun _ => 0)), .inr (.inl (0, 17, fun _ => 0)), .inr (.inl (0, 3, fun _ => 0))] 18 551 := H
  refine Go.pR H (fs := [.ref 1, .null, .null, .ref 3, .null, .null, .null, .null, .null, .int 0]) rfl (by decide) fun s H => ?_
  refine Go.nw H (n := 18) rfl fun s H => ?_
  refine Go.call ?_
  refine Go.onC H (fs := [.null, .null, .null, .null, .int 0, .int 0]) rfl ?_
  refine Go.nwI H (N := 6) (n := 19) rfl (by decide) rfl (by decide) fun s H => ?_
  refine Go.pR H (fs := [.null, .null, .null, .null, .int 0, .int 0]) rfl (by decide) fun s H => ?_
  refine Go.nwI H (N := 6) (n := 20) rfl (by decide) rfl (by decide) fun s H => ?_
  refine Go.pR H (fs := [.ref 19, .null, .null, .null, .int 0, .int 0]) rfl (by decide) fun s H => ?_
  refine Go.nwI H (N := 6) (n := 21) rfl (by decide) rfl (by decide) fun s H => ?_
  refine Go.pR H (fs := [.ref 19, .ref 20, .null, .null, .int 0, .int 0]) rfl (by decide) fun s H => ?_
  refine Go.nwI H (N := 6) (n := 22) rfl (by decide) rfl (by decide) fun s H => ?_
  refine Go.pR H (fs := [.ref 19, .ref 20, .ref 21, .null, .int 0, .int 0]) rfl (by decide) fun s H => ?_
  refine Go.ret ?_
  have H : Has s [.inl (10, [.ref 1, .null, .null, .ref 3, .ref 8, .null, .null, .null, .null, .int 0]), .inl (9, [.ref 2, .int 0]), .inr (.inl (0, 400, fun _ => 0)), .inl (2, [.ref 4, .ref 5, .ref 6, .ref 7]), .inr (.inl (0, 10, fun _ => 0)), .inr (.inl (0, 3, fun _ => 0)), .inr (.inl (0, 3, fun _ => 0)), .inr (.inl (0, 3, fun _ => 0)), .inl (3, [.ref 9, .ref 13, .ref 17, .int (-1), .int (-1)]), .inr (.inr (.inl (2, 3, fun i => if i < 3 then some (9 + 1 + i) else none))), .inr (.inl (0, 17, fun _ => 0)), .inr (.inl (0, 17, fun _ => 0)), .inr (.inl (0, 17, fun _ => 0)), .inr (.inr (.inl (2, 3, fun i => if i < 3 then some (13 + 1 + i) else none))), .inr (.inl (0, 17, fun _ => 0)), .inr (.inl (0, 17, fun _ => 0)), .inr (.inl (0, 17, fun _ => 0)), .inr (.inl (0, 3, fun _ => 0)), .inl (0, [.ref 19, .ref 20, .ref 21, .ref 22, .int 0, .int 0]), .inr (.inl (0, 6, fun _ => 0)), .inr (.inl (0, 6, fun _ => 0)), .inr (.inl (0, 6, fun _ => 0)), .inr (.inl (0, 6, fun _ => 0))] 23 581 := H
  refine Go.pR H (fs := [.ref 1, .null, .null, .ref 3, .ref 8, .null, .null, .null, .null, .int 0]) rfl (by decide) fun s H => ?_
  refine Go.nw H (n := 23) rfl fun s H => ?_
  refine Go.call ?_
  refine Go.onC H (fs := [.null, .int 0, .int 0, .null]) rfl ?_
  refine Go.nwQ H (N := 10) (n := 24) rfl (by decide) rfl (by decide) fun s H => ?_
  refine Go.pR H (fs := [.null, .int 0, .int 0, .null]) rfl (by decide) fun s H => ?_
  refine Go.ret ?_
  have H : Has s [.inl (10, [.ref 1, .null, .null, .ref 3, .ref 8, .ref 18, .null, .null, .null, .int 0]), .inl (9, [.ref 2, .int 0]), .inr (.inl (0, 400, fun _ => 0)), .inl (2, [.ref 4, .ref 5, .ref 6, .ref 7]), .inr (.inl (0, 10, fun _ => 0)), .inr (.inl (0, 3, fun _ => 0)), .inr (.inl (0, 3, fun _ => 0)), .inr (.inl (0, 3, fun _ => 0)), .inl (3, [.ref 9, .ref 13, .ref 17, .int (-1), .int (-1)]), .inr (.inr (.inl (2, 3, fun i => if i < 3 then some (9 + 1 + i) else none))), .inr (.inl (0, 17, fun _ => 0)), .inr (.inl (0, 17, fun _ => 0)), .inr (.inl (0, 17, fun _ => 0)), .inr (.inr (.inl (2, 3, fun i => if i < 3 then some (13 + 1 + i) else none))), .inr (.inl (0, 17, fun _ => 0)), .inr (.inl (0, 17, fun _ => 0)), .inr (.inl (0, 17, fun _ => 0)), .inr (.inl (0, 3, fun _ => 0)), .inl (0, [.ref 19, .ref 20, .ref 21, .ref 22, .int 0, .int 0]), .inr (.inl (0, 6, fun _ => 0)), .inr (.inl (0, 6, fun _ => 0)), .inr (.inl (0, 6, fun _ => 0)), .inr (.inl (0, 6, fun _ => 0)), .inl (6, [.ref 24, .int 0, .int 0, .null]), .inr (.inr (.inl (3, 10, fun _ => none)))] 25 595 := H
  refine Go.pR H (fs := [.ref 1, .null, .null, .ref 3, .ref 8, .ref 18, .null, .null, .null, .int 0]) rfl (by decide) fun s H => ?_
  refine Go.nw H (n := 25) rfl fun s H => ?_
  refine Go.nwI H (N := 0) (n := 26) rfl (by decide) rfl (by decide) fun s H => ?_
  refine Go.call ?_
  refine Go.onC H (fs := [.int 0, .null, .null]) rfl ?_
  refine Go.nwI H (N := 40) (n := 27) rfl (by decide) rfl (by decide) fun s H => ?_
  refine Go.pR H (fs := [.int 0, .null, .null]) rfl (by decide) fun s H => ?_
  refine Go.pI H (fs := [.int 0, .null, .ref 27]) rfl (by decide) fun s H => ?_
  refine Go.pR H (fs := [.int (-1), .null, .ref 27]) rfl (by decide) fun s H => ?_
  refine Go.ret ?_
  have H : Has s [.inl (10, [.ref 1, .null, .null, .ref 3, .ref 8, .ref 18, .ref 23, .null, .null, .int 0]), .inl (9, [.ref 2, .int 0]), .inr (.inl (0, 400, fun _ => 0)), .inl (2, [.ref 4, .ref 5, .ref 6, .ref 7]), .inr (.inl (0, 10, fun _ => 0)), .inr (.inl (0, 3, fun _ => 0)), .inr (.inl (0, 3, fun _ => 0)), .inr (.inl (0, 3, fun _ => 0)), .inl (3, [.ref 9, .ref 13, .ref 17, .int (-1), .int (-1)]), .inr (.inr (.inl (2, 3, fun i => if i < 3 then some (9 + 1 + i) else none))), .inr (.inl (0, 17, fun _ => 0)), .inr (.inl (0, 17, fun _ => 0)), .inr (.inl (0, 17, fun _ => 0)), .inr (.inr (.inl (2, 3, fun i => if i < 3 then some (13 + 1 + i) else none))), .inr (.inl (0, 17, fun _ => 0)), .inr (.inl (0, 17, fun _ => 0)), .inr (.inl (0, 17, fun _ => 0)), .inr (.inl (0, 3, fun _ => 0)), .inl (0, [.ref 19, .ref 20, .ref 21, .ref 22, .int 0, .int 0]), .inr (.inl (0, 6, fun _ => 0)), .inr (.inl (0, 6, fun _ => 0)), .inr (.inl (0, 6, fun _ => 0)), .inr (.inl (0, 6, fun _ => 0)), .inl (6, [.ref 24, .int 0, .int 0, .null]), .inr (.inr (.inl (3, 10, fun _ => none))), .inl (4, [.int (-1), .ref 26, .ref 27]), .inr (.inl (0, 0, fun _ => 0)), .inr (.inl (0, 40, fun _ => 0))] 28 638 := H
  refine Go.nw H (n := 28) rfl fun s H => ?_
  refine Go.court H (a := 28) rfl rfl fun s H => ?_
  have H : Has s [.inl (10, [.ref 1, .null, .null, .ref 3, .ref 8, .ref 18, .ref 23, .null, .null, .int 0]), .inl (9, [.ref 2, .int 0]), .inr (.inl (0, 400, fun _ => 0)), .inl (2, [.ref 4, .ref 5, .ref 6, .ref 7]), .inr (.inl (0, 10, fun _ => 0)), .inr (.inl (0, 3, fun _ => 0)), .inr (.inl (0, 3, fun _ => 0)), .inr (.inl (0, 3, fun _ => 0)), .inl (3, [.ref 9, .ref 13, .ref 17, .int (-1), .int (-1)]), .inr (.inr (.inl (2, 3, fun i => if i < 3 then some (9 + 1 + i) else none))), .inr (.inl (0, 17, fun _ => 0)), .inr (.inl (0, 17, fun _ => 0)), .inr (.inl (0, 17, fun _ => 0)), .inr (.inr (.inl (2, 3, fun i => if i < 3 then some (13 + 1 + i) else none))), .inr (.inl (0, 17, fun _ => 0)), .inr (.inl (0, 17, fun _ => 0)), .inr (.inl (0, 17, fun _ => 0)), .inr (.inl (0, 3, fun _ => 0)), .inl (0, [.ref 19, .ref 20, .ref 21, .ref 22, .int 0, .int 0]), .inr (.inl (0, 6, fun _ => 0)), .inr (.inl (0, 6, fun _ => 0)), .inr (.inl (0, 6, fun _ => 0)), .inr (.inl (0, 6, fun _ => 0)), .inl (6, [.ref 24, .int 0, .int 0, .null]), .inr (.inr (.inl (3, 10, fun _ => none))), .inl (4, [.int (-1), .ref 26, .ref 27]), .inr (.inl (0, 0, fun _ => 0)), .inr (.inl (0, 40, fun _ => 0)), .inl (1, cF 28 (kNew 25)), .inl (8, [.ref 30, .int (Int32.ofNat 16), .int (Int32.ofNat 8), .int (Int32.ofNat 0)]), .inr (.inl (0, 16 * 8, fun _ => 0)), .inl (8, [.ref 32, .int (Int32.ofNat 6), .int (Int32.ofNat 4), .int (Int32.ofNat 0)]), .inr (.inl (0, 6 * 4, fun _ => 0)), .inl (8, [.ref 34, .int (Int32.ofNat 6), .int (Int32.ofNat 1), .int (Int32.ofNat 0)]), .inr (.inl (0, 6 * 1, fun _ => 0)), .inl (8, [.ref 36, .int (Int32.ofNat 60), .int (Int32.ofNat 7), .int (Int32.ofNat 0)]), .inr (.inl (0, 60 * 7, fun _ => 0)), .inl (8, [.ref 38, .int (Int32.ofNat 60), .int (Int32.ofNat 5), .int (Int32.ofNat 0)]), .inr (.inl (0, 60 * 5, fun _ => 0)), .inl (8, [.ref 40, .int (Int32.ofNat 30), .int (Int32.ofNat 6), .int (Int32.ofNat 0)]), .inr (.inl (0, 30 * 6, fun _ => 0))] 41 1733 := H
  refine Go.pR H (fs := [.ref 1, .null, .null, .ref 3, .ref 8, .ref 18, .ref 23, .null, .null, .int 0]) rfl (by decide) fun s H => ?_
  refine Go.nw H (n := 41) rfl fun s H => ?_
  refine Go.court H (a := 41) rfl rfl fun s H => ?_
  have H : Has s [.inl (10, [.ref 1, .null, .null, .ref 3, .ref 8, .ref 18, .ref 23, .ref 28, .null, .int 0]), .inl (9, [.ref 2, .int 0]), .inr (.inl (0, 400, fun _ => 0)), .inl (2, [.ref 4, .ref 5, .ref 6, .ref 7]), .inr (.inl (0, 10, fun _ => 0)), .inr (.inl (0, 3, fun _ => 0)), .inr (.inl (0, 3, fun _ => 0)), .inr (.inl (0, 3, fun _ => 0)), .inl (3, [.ref 9, .ref 13, .ref 17, .int (-1), .int (-1)]), .inr (.inr (.inl (2, 3, fun i => if i < 3 then some (9 + 1 + i) else none))), .inr (.inl (0, 17, fun _ => 0)), .inr (.inl (0, 17, fun _ => 0)), .inr (.inl (0, 17, fun _ => 0)), .inr (.inr (.inl (2, 3, fun i => if i < 3 then some (13 + 1 + i) else none))), .inr (.inl (0, 17, fun _ => 0)), .inr (.inl (0, 17, fun _ => 0)), .inr (.inl (0, 17, fun _ => 0)), .inr (.inl (0, 3, fun _ => 0)), .inl (0, [.ref 19, .ref 20, .ref 21, .ref 22, .int 0, .int 0]), .inr (.inl (0, 6, fun _ => 0)), .inr (.inl (0, 6, fun _ => 0)), .inr (.inl (0, 6, fun _ => 0)), .inr (.inl (0, 6, fun _ => 0)), .inl (6, [.ref 24, .int 0, .int 0, .null]), .inr (.inr (.inl (3, 10, fun _ => none))), .inl (4, [.int (-1), .ref 26, .ref 27]), .inr (.inl (0, 0, fun _ => 0)), .inr (.inl (0, 40, fun _ => 0)), .inl (1, cF 28 (kNew 25)), .inl (8, [.ref 30, .int (Int32.ofNat 16), .int (Int32.ofNat 8), .int (Int32.ofNat 0)]), .inr (.inl (0, 16 * 8, fun _ => 0)), .inl (8, [.ref 32, .int (Int32.ofNat 6), .int (Int32.ofNat 4), .int (Int32.ofNat 0)]), .inr (.inl (0, 6 * 4, fun _ => 0)), .inl (8, [.ref 34, .int (Int32.ofNat 6), .int (Int32.ofNat 1), .int (Int32.ofNat 0)]), .inr (.inl (0, 6 * 1, fun _ => 0)), .inl (8, [.ref 36, .int (Int32.ofNat 60), .int (Int32.ofNat 7), .int (Int32.ofNat 0)]), .inr (.inl (0, 60 * 7, fun _ => 0)), .inl (8, [.ref 38, .int (Int32.ofNat 60), .int (Int32.ofNat 5), .int (Int32.ofNat 0)]), .inr (.inl (0, 60 * 5, fun _ => 0)), .inl (8, [.ref 40, .int (Int32.ofNat 30), .int (Int32.ofNat 6), .int (Int32.ofNat 0)]), .inr (.inl (0, 30 * 6, fun _ => 0)), .inl (1, cF 41 (kNew 25)), .inl (8, [.ref 43, .int (Int32.ofNat 16), .int (Int32.ofNat 8), .int (Int32.ofNat 0)]), .inr (.inl (0, 16 * 8, fun _ => 0)), .inl (8, [.ref 45, .int (Int32.ofNat 6), .int (Int32.ofNat 4), .int (Int32.ofNat 0)]), .inr (.inl (0, 6 * 4, fun _ => 0)), .inl (8, [.ref 47, .int (Int32.ofNat 6), .int (Int32.ofNat 1), .int (Int32.ofNat 0)]), .inr (.inl (0, 6 * 1, fun _ => 0)), .inl (8, [.ref 49, .int (Int32.ofNat 60), .int (Int32.ofNat 7), .int (Int32.ofNat 0)]), .inr (.inl (0, 60 * 7, fun _ => 0)), .inl (8, [.ref 51, .int (Int32.ofNat 60), .int (Int32.ofNat 5), .int (Int32.ofNat 0)]), .inr (.inl (0, 60 * 5, fun _ => 0)), .inl (8, [.ref 53, .int (Int32.ofNat 30), .int (Int32.ofNat 6), .int (Int32.ofNat 0)]), .inr (.inl (0, 30 * 6, fun _ => 0))] 54 2828 := H
  refine Go.pR H (fs := [.ref 1, .null, .null, .ref 3, .ref 8, .ref 18, .ref 23, .ref 28, .null, .int 0]) rfl (by decide) fun s H => ?_
  refine Go.nw H (n := 54) rfl fun s H => ?_
  refine Go.gR H (fs := [.ref 1, .null, .null, .ref 3, .ref 8, .ref 18, .ref 23, .ref 28, .ref 41, .int 0]) rfl rfl ?_
  refine Go.gR H (fs := [.ref 1, .null, .null, .ref 3, .ref 8, .ref 18, .ref 23, .ref 28, .ref 41, .int 0]) rfl rfl ?_
  refine Go.gR H (fs := [.ref 1, .null, .null, .ref 3, .ref 8, .ref 18, .ref 23, .ref 28, .ref 41, .int 0]) rfl rfl ?_
  refine Go.call ?_
  refine Go.onC H (fs := [.null, .null, .null, .null, .null, .int 0, .int 0, .int 0, .int 0, .int 0, .int 0, .int 0, .null, .null]) rfl ?_
  refine Go.call ?_
  refine Go.onC H (fs := [.null, .null, .null, .null, .null, .int 0, .int 0, .int 0, .int 0, .int 0, .int 0, .int 0, .null, .null]) rfl ?_
  refine Go.nwI H (N := 400) (n := 55) rfl (by decide) rfl (by decide) fun s H => ?_
  refine Go.pR H (fs := [.null, .null, .null, .null, .null, .int 0, .int 0, .int 0, .int 0, .int 0, .int 0, .int 0, .null, .null]) rfl (by decide) fun s H => ?_
  refine Go.nwI H (N := 400) (n := 56) rfl (by decide) rfl (by decide) fun s H => ?_
  refine Go.pR H (fs := [.null, .ref 55, .null, .null, .null, .int 0, .int 0, .int 0, .int 0, .int 0, .int 0, .int 0, .null, .null]) rfl (by decide) fun s H => ?_
  refine Go.nwI H (N := 400) (n := 57) rfl (by decide) rfl (by decide) fun s H => ?_
  refine Go.pR H (fs := [.null, .ref 55, .ref 56, .null, .null, .int 0, .int 0, .int 0, .int 0, .int 0, .int 0, .int 0, .null, .null]) rfl (by decide) fun s H => ?_
  refine Go.nwI H (N := 400) (n := 58) rfl (by decide) rfl (by decide) fun s H => ?_
  refine Go.pR H (fs := [.null, .ref 55, .ref 56, .ref 57, .null, .int 0, .int 0, .int 0, .int 0, .int 0, .int 0, .int 0, .null, .null]) rfl (by decide) fun s H => ?_
  refine Go.pI H (fs := [.null, .ref 55, .ref 56, .ref 57, .ref 58, .int 0, .int 0, .int 0, .int 0, .int 0, .int 0, .int 0, .null, .null]) rfl (by decide) fun s H => ?_
  refine Go.pR H (fs := [.null, .ref 55, .ref 56, .ref 57, .ref 58, .int 0, .int 0, .int 0, .int 0, .int 0, .int 0, .int (-1), .null, .null]) rfl (by decide) fun s H => ?_
  refine Go.ret ?_
  have H : Has s [.inl (10, [.ref 1, .null, .null, .ref 3, .ref 8, .ref 18, .ref 23, .ref 28, .ref 41, .int 0]), .inl (9, [.ref 2, .int 0]), .inr (.inl (0, 400, fun _ => 0)), .inl (2, [.ref 4, .ref 5, .ref 6, .ref 7]), .inr (.inl (0, 10, fun _ => 0)), .inr (.inl (0, 3, fun _ => 0)), .inr (.inl (0, 3, fun _ => 0)), .inr (.inl (0, 3, fun _ => 0)), .inl (3, [.ref 9, .ref 13, .ref 17, .int (-1), .int (-1)]), .inr (.inr (.inl (2, 3, fun i => if i < 3 then some (9 + 1 + i) else none))), .inr (.inl (0, 17, fun _ => 0)), .inr (.inl (0, 17, fun _ => 0)), .inr (.inl (0, 17, fun _ => 0)), .inr (.inr (.inl (2, 3, fun i => if i < 3 then some (13 + 1 + i) else none))), .inr (.inl (0, 17, fun _ => 0)), .inr (.inl (0, 17, fun _ => 0)), .inr (.inl (0, 17, fun _ => 0)), .inr (.inl (0, 3, fun _ => 0)), .inl (0, [.ref 19, .ref 20, .ref 21, .ref 22, .int 0, .int 0]), .inr (.inl (0, 6, fun _ => 0)), .inr (.inl (0, 6, fun _ => 0)), .inr (.inl (0, 6, fun _ => 0)), .inr (.inl (0, 6, fun _ => 0)), .inl (6, [.ref 24, .int 0, .int 0, .null]), .inr (.inr (.inl (3, 10, fun _ => none))), .inl (4, [.int (-1), .ref 26, .ref 27]), .inr (.inl (0, 0, fun _ => 0)), .inr (.inl (0, 40, fun _ => 0)), .inl (1, cF 28 (kNew 25)), .inl (8, [.ref 30, .int (Int32.ofNat 16), .int (Int32.ofNat 8), .int (Int32.ofNat 0)]), .inr (.inl (0, 16 * 8, fun _ => 0)), .inl (8, [.ref 32, .int (Int32.ofNat 6), .int (Int32.ofNat 4), .int (Int32.ofNat 0)]), .inr (.inl (0, 6 * 4, fun _ => 0)), .inl (8, [.ref 34, .int (Int32.ofNat 6), .int (Int32.ofNat 1), .int (Int32.ofNat 0)]), .inr (.inl (0, 6 * 1, fun _ => 0)), .inl (8, [.ref 36, .int (Int32.ofNat 60), .int (Int32.ofNat 7), .int (Int32.ofNat 0)]), .inr (.inl (0, 60 * 7, fun _ => 0)), .inl (8, [.ref 38, .int (Int32.ofNat 60), .int (Int32.ofNat 5), .int (Int32.ofNat 0)]), .inr (.inl (0, 60 * 5, fun _ => 0)), .inl (8, [.ref 40, .int (Int32.ofNat 30), .int (Int32.ofNat 6), .int (Int32.ofNat 0)]), .inr (.inl (0, 30 * 6, fun _ => 0)), .inl (1, cF 41 (kNew 25)), .inl (8, [.ref 43, .int (Int32.ofNat 16), .int (Int32.ofNat 8), .int (Int32.ofNat 0)]), .inr (.inl (0, 16 * 8, fun _ => 0)), .inl (8, [.ref 45, .int (Int32.ofNat 6), .int (Int32.ofNat 4), .int (Int32.ofNat 0)]), .inr (.inl (0, 6 * 4, fun _ => 0)), .inl (8, [.ref 47, .int (Int32.ofNat 6), .int (Int32.ofNat 1), .int (Int32.ofNat 0)]), .inr (.inl (0, 6 * 1, fun _ => 0)), .inl (8, [.ref 49, .int (Int32.ofNat 60), .int (Int32.ofNat 7), .int (Int32.ofNat 0)]), .inr (.inl (0, 60 * 7, fun _ => 0)), .inl (8, [.ref 51, .int (Int32.ofNat 60), .int (Int32.ofNat 5), .int (Int32.ofNat 0)]), .inr (.inl (0, 60 * 5, fun _ => 0)), .inl (8, [.ref 53, .int (Int32.ofNat 30), .int (Int32.ofNat 6), .int (Int32.ofNat 0)]), .inr (.inl (0, 30 * 6, fun _ => 0)), .inl (7, [.ref 1, .ref 55, .ref 56, .ref 57, .ref 58, .int 0, .int 0, .int 0, .int 0, .int 0, .int 0, .int (-1), .null, .null]), .inr (.inl (0, 400, fun _ => 0)), .inr (.inl (0, 400, fun _ => 0)), .inr (.inl (0, 400, fun _ => 0)), .inr (.inl (0, 400, fun _ => 0))] 59 4442 := H
  refine Go.pR H (fs := [.ref 1, .ref 55, .ref 56, .ref 57, .ref 58, .int 0, .int 0, .int 0, .int 0, .int 0, .int 0, .int (-1), .null, .null]) rfl (by decide) fun s H => ?_
  refine Go.pR H (fs := [.ref 1, .ref 55, .ref 56, .ref 57, .ref 58, .int 0, .int 0, .int 0, .int 0, .int 0, .int 0, .int (-1), .ref 28, .null]) rfl (by decide) fun s H => ?_
  refine Go.ret ?_
  have H : Has s [.inl (10, [.ref 1, .null, .null, .ref 3, .ref 8, .ref 18, .ref 23, .ref 28, .ref 41, .int 0]), .inl (9, [.ref 2, .int 0]), .inr (.inl (0, 400, fun _ => 0)), .inl (2, [.ref 4, .ref 5, .ref 6, .ref 7]), .inr (.inl (0, 10, fun _ => 0)), .inr (.inl (0, 3, fun _ => 0)), .inr (.inl (0, 3, fun _ => 0)), .inr (.inl (0, 3, fun _ => 0)), .inl (3, [.ref 9, .ref 13, .ref 17, .int (-1), .int (-1)]), .inr (.inr (.inl (2, 3, fun i => if i < 3 then some (9 + 1 + i) else none))), .inr (.inl (0, 17, fun _ => 0)), .inr (.inl (0, 17, fun _ => 0)), .inr (.inl (0, 17, fun _ => 0)), .inr (.inr (.inl (2, 3, fun i => if i < 3 then some (13 + 1 + i) else none))), .inr (.inl (0, 17, fun _ => 0)), .inr (.inl (0, 17, fun _ => 0)), .inr (.inl (0, 17, fun _ => 0)), .inr (.inl (0, 3, fun _ => 0)), .inl (0, [.ref 19, .ref 20, .ref 21, .ref 22, .int 0, .int 0]), .inr (.inl (0, 6, fun _ => 0)), .inr (.inl (0, 6, fun _ => 0)), .inr (.inl (0, 6, fun _ => 0)), .inr (.inl (0, 6, fun _ => 0)), .inl (6, [.ref 24, .int 0, .int 0, .null]), .inr (.inr (.inl (3, 10, fun _ => none))), .inl (4, [.int (-1), .ref 26, .ref 27]), .inr (.inl (0, 0, fun _ => 0)), .inr (.inl (0, 40, fun _ => 0)), .inl (1, cF 28 (kNew 25)), .inl (8, [.ref 30, .int (Int32.ofNat 16), .int (Int32.ofNat 8), .int (Int32.ofNat 0)]), .inr (.inl (0, 16 * 8, fun _ => 0)), .inl (8, [.ref 32, .int (Int32.ofNat 6), .int (Int32.ofNat 4), .int (Int32.ofNat 0)]), .inr (.inl (0, 6 * 4, fun _ => 0)), .inl (8, [.ref 34, .int (Int32.ofNat 6), .int (Int32.ofNat 1), .int (Int32.ofNat 0)]), .inr (.inl (0, 6 * 1, fun _ => 0)), .inl (8, [.ref 36, .int (Int32.ofNat 60), .int (Int32.ofNat 7), .int (Int32.ofNat 0)]), .inr (.inl (0, 60 * 7, fun _ => 0)), .inl (8, [.ref 38, .int (Int32.ofNat 60), .int (Int32.ofNat 5), .int (Int32.ofNat 0)]), .inr (.inl (0, 60 * 5, fun _ => 0)), .inl (8, [.ref 40, .int (Int32.ofNat 30), .int (Int32.ofNat 6), .int (Int32.ofNat 0)]), .inr (.inl (0, 30 * 6, fun _ => 0)), .inl (1, cF 41 (kNew 25)), .inl (8, [.ref 43, .int (Int32.ofNat 16), .int (Int32.ofNat 8), .int (Int32.ofNat 0)]), .inr (.inl (0, 16 * 8, fun _ => 0)), .inl (8, [.ref 45, .int (Int32.ofNat 6), .int (Int32.ofNat 4), .int (Int32.ofNat 0)]), .inr (.inl (0, 6 * 4, fun _ => 0)), .inl (8, [.ref 47, .int (Int32.ofNat 6), .int (Int32.ofNat 1), .int (Int32.ofNat 0)]), .inr (.inl (0, 6 * 1, fun _ => 0)), .inl (8, [.ref 49, .int (Int32.ofNat 60), .int (Int32.ofNat 7), .int (Int32.ofNat 0)]), .inr (.inl (0, 60 * 7, fun _ => 0)), .inl (8, [.ref 51, .int (Int32.ofNat 60), .int (Int32.ofNat 5), .int (Int32.ofNat 0)]), .inr (.inl (0, 60 * 5, fun _ => 0)), .inl (8, [.ref 53, .int (Int32.ofNat 30), .int (Int32.ofNat 6), .int (Int32.ofNat 0)]), .inr (.inl (0, 30 * 6, fun _ => 0)), .inl (7, [.ref 1, .ref 55, .ref 56, .ref 57, .ref 58, .int 0, .int 0, .int 0, .int 0, .int 0, .int 0, .int (-1), .ref 28, .ref 41]), .inr (.inl (0, 400, fun _ => 0)), .inr (.inl (0, 400, fun _ => 0)), .inr (.inl (0, 400, fun _ => 0)), .inr (.inl (0, 400, fun _ => 0))] 59 4442 := H
  refine Go.pR H (fs := [.ref 1, .null, .null, .ref 3, .ref 8, .ref 18, .ref 23, .ref 28, .ref 41, .int 0]) rfl (by decide) fun s H => ?_
  refine Go.nw H (n := 59) rfl fun s H => ?_
  refine Go.gR H (fs := [.ref 1, .ref 54, .null, .ref 3, .ref 8, .ref 18, .ref 23, .ref 28, .ref 41, .int 0]) rfl rfl ?_
  refine Go.call ?_
  refine Go.onC H (fs := [.null, .null, .null, .null, .null, .int 0, .int 0, .int 0, .int 0, .int 0, .int 0, .int 0, .null, .null, .int 0, .int 0, .int 0, .int 0]) rfl ?_
  refine Go.call ?_
  refine Go.onC H (fs := [.null, .null, .null, .null, .null, .int 0, .int 0, .int 0, .int 0, .int 0, .int 0, .int 0, .null, .null, .int 0, .int 0, .int 0, .int 0]) rfl ?_
  refine Go.nwI H (N := 400) (n := 60) rfl (by decide) rfl (by decide) fun s H => ?_
  refine Go.pR H (fs := [.null, .null, .null, .null, .null, .int 0, .int 0, .int 0, .int 0, .int 0, .int 0, .int 0, .null, .null, .int 0, .int 0, .int 0, .int 0]) rfl (by decide) fun s H => ?_
  refine Go.nwI H (N := 400) (n := 61) rfl (by decide) rfl (by decide) fun s H => ?_
  refine Go.pR H (fs := [.null, .ref 60, .null, .null, .null, .int 0, .int 0, .int 0, .int 0, .int 0, .int 0, .int 0, .null, .null, .int 0, .int 0, .int 0, .int 0]) rfl (by decide) fun s H => ?_
  refine Go.nwI H (N := 400) (n := 62) rfl (by decide) rfl (by decide) fun s H => ?_
  refine Go.pR H (fs := [.null, .ref 60, .ref 61, .null, .null, .int 0, .int 0, .int 0, .int 0, .int 0, .int 0, .int 0, .null, .null, .int 0, .int 0, .int 0, .int 0]) rfl (by decide) fun s H => ?_
  refine Go.nwI H (N := 400) (n := 63) rfl (by decide) rfl (by decide) fun s H => ?_
  refine Go.pR H (fs := [.null, .ref 60, .ref 61, .ref 62, .null, .int 0, .int 0, .int 0, .int 0, .int 0, .int 0, .int 0, .null, .null, .int 0, .int 0, .int 0, .int 0]) rfl (by decide) fun s H => ?_
  refine Go.pI H (fs := [.null, .ref 60, .ref 61, .ref 62, .ref 63, .int 0, .int 0, .int 0, .int 0, .int 0, .int 0, .int 0, .null, .null, .int 0, .int 0, .int 0, .int 0]) rfl (by decide) fun s H => ?_
  refine Go.pR H (fs := [.null, .ref 60, .ref 61, .ref 62, .ref 63, .int 0, .int 0, .int 0, .int 0, .int 0, .int 0, .int (-1), .null, .null, .int 0, .int 0, .int 0, .int 0]) rfl (by decide) fun s H => ?_
  refine Go.ret ?_
  have H : Has s [.inl (10, [.ref 1, .ref 54, .null, .ref 3, .ref 8, .ref 18, .ref 23, .ref 28, .ref 41, .int 0]), .inl (9, [.ref 2, .int 0]), .inr (.inl (0, 400, fun _ => 0)), .inl (2, [.ref 4, .ref 5, .ref 6, .ref 7]), .inr (.inl (0, 10, fun _ => 0)), .inr (.inl (0, 3, fun _ => 0)), .inr (.inl (0, 3, fun _ => 0)), .inr (.inl (0, 3, fun _ => 0)), .inl (3, [.ref 9, .ref 13, .ref 17, .int (-1), .int (-1)]), .inr (.inr (.inl (2, 3, fun i => if i < 3 then some (9 + 1 + i) else none))), .inr (.inl (0, 17, fun _ => 0)), .inr (.inl (0, 17, fun _ => 0)), .inr (.inl (0, 17, fun _ => 0)), .inr (.inr (.inl (2, 3, fun i => if i < 3 then some (13 + 1 + i) else none))), .inr (.inl (0, 17, fun _ => 0)), .inr (.inl (0, 17, fun _ => 0)), .inr (.inl (0, 17, fun _ => 0)), .inr (.inl (0, 3, fun _ => 0)), .inl (0, [.ref 19, .ref 20, .ref 21, .ref 22, .int 0, .int 0]), .inr (.inl (0, 6, fun _ => 0)), .inr (.inl (0, 6, fun _ => 0)), .inr (.inl (0, 6, fun _ => 0)), .inr (.inl (0, 6, fun _ => 0)), .inl (6, [.ref 24, .int 0, .int 0, .null]), .inr (.inr (.inl (3, 10, fun _ => none))), .inl (4, [.int (-1), .ref 26, .ref 27]), .inr (.inl (0, 0, fun _ => 0)), .inr (.inl (0, 40, fun _ => 0)), .inl (1, cF 28 (kNew 25)), .inl (8, [.ref 30, .int (Int32.ofNat 16), .int (Int32.ofNat 8), .int (Int32.ofNat 0)]), .inr (.inl (0, 16 * 8, fun _ => 0)), .inl (8, [.ref 32, .int (Int32.ofNat 6), .int (Int32.ofNat 4), .int (Int32.ofNat 0)]), .inr (.inl (0, 6 * 4, fun _ => 0)), .inl (8, [.ref 34, .int (Int32.ofNat 6), .int (Int32.ofNat 1), .int (Int32.ofNat 0)]), .inr (.inl (0, 6 * 1, fun _ => 0)), .inl (8, [.ref 36, .int (Int32.ofNat 60), .int (Int32.ofNat 7), .int (Int32.ofNat 0)]), .inr (.inl (0, 60 * 7, fun _ => 0)), .inl (8, [.ref 38, .int (Int32.ofNat 60), .int (Int32.ofNat 5), .int (Int32.ofNat 0)]), .inr (.inl (0, 60 * 5, fun _ => 0)), .inl (8, [.ref 40, .int (Int32.ofNat 30), .int (Int32.ofNat 6), .int (Int32.ofNat 0)]), .inr (.inl (0, 30 * 6, fun _ => 0)), .inl (1, cF 41 (kNew 25)), .inl (8, [.ref 43, .int (Int32.ofNat 16), .int (Int32.ofNat 8), .int (Int32.ofNat 0)]), .inr (.inl (0, 16 * 8, fun _ => 0)), .inl (8, [.ref 45, .int (Int32.ofNat 6), .int (Int32.ofNat 4), .int (Int32.ofNat 0)]), .inr (.inl (0, 6 * 4, fun _ => 0)), .inl (8, [.ref 47, .int (Int32.ofNat 6), .int (Int32.ofNat 1), .int (Int32.ofNat 0)]), .inr (.inl (0, 6 * 1, fun _ => 0)), .inl (8, [.ref 49, .int (Int32.ofNat 60), .int (Int32.ofNat 7), .int (Int32.ofNat 0)]), .inr (.inl (0, 60 * 7, fun _ => 0)), .inl (8, [.ref 51, .int (Int32.ofNat 60), .int (Int32.ofNat 5), .int (Int32.ofNat 0)]), .inr (.inl (0, 60 * 5, fun _ => 0)), .inl (8, [.ref 53, .int (Int32.ofNat 30), .int (Int32.ofNat 6), .int (Int32.ofNat 0)]), .inr (.inl (0, 30 * 6, fun _ => 0)), .inl (7, [.ref 1, .ref 55, .ref 56, .ref 57, .ref 58, .int 0, .int 0, .int 0, .int 0, .int 0, .int 0, .int (-1), .ref 28, .ref 41]), .inr (.inl (0, 400, fun _ => 0)), .inr (.inl (0, 400, fun _ => 0)), .inr (.inl (0, 400, fun _ => 0)), .inr (.inl (0, 400, fun _ => 0)), .inl (5, [.ref 1, .ref 60, .ref 61, .ref 62, .ref 63, .int 0, .int 0, .int 0, .int 0, .int 0, .int 0, .int (-1), .null, .null, .int 0, .int 0, .int 0, .int 0]), .inr (.inl (0, 400, fun _ => 0)), .inr (.inl (0, 400, fun _ => 0)), .inr (.inl (0, 400, fun _ => 0)), .inr (.inl (0, 400, fun _ => 0))] 64 6060 := H
  refine Go.nwI H (N := 400) (n := 64) rfl (by decide) rfl (by decide) fun s H => ?_
  refine Go.pR H (fs := [.ref 1, .ref 60, .ref 61, .ref 62, .ref 63, .int 0, .int 0, .int 0, .int 0, .int 0, .int 0, .int (-1), .null, .null, .int 0, .int 0, .int 0, .int 0]) rfl (by decide) fun s H => ?_
  refine Go.nwI H (N := 40) (n := 65) rfl (by decide) rfl (by decide) fun s H => ?_
  refine Go.pR H (fs := [.ref 1, .ref 60, .ref 61, .ref 62, .ref 63, .int 0, .int 0, .int 0, .int 0, .int 0, .int 0, .int (-1), .ref 64, .null, .int 0, .int 0, .int 0, .int 0]) rfl (by decide) fun s H => ?_
  refine Go.ret ?_
  have H : Has s [.inl (10, [.ref 1, .ref 54, .null, .ref 3, .ref 8, .ref 18, .ref 23, .ref 28, .ref 41, .int 0]), .inl (9, [.ref 2, .int 0]), .inr (.inl (0, 400, fun _ => 0)), .inl (2, [.ref 4, .ref 5, .ref 6, .ref 7]), .inr (.inl (0, 10, fun _ => 0)), .inr (.inl (0, 3, fun _ => 0)), .inr (.inl (0, 3, fun _ => 0)), .inr (.inl (0, 3, fun _ => 0)), .inl (3, [.ref 9, .ref 13, .ref 17, .int (-1), .int (-1)]), .inr (.inr (.inl (2, 3, fun i => if i < 3 then some (9 + 1 + i) else none))), .inr (.inl (0, 17, fun _ => 0)), .inr (.inl (0, 17, fun _ => 0)), .inr (.inl (0, 17, fun _ => 0)), .inr (.inr (.inl (2, 3, fun i => if i < 3 then some (13 + 1 + i) else none))), .inr (.inl (0, 17, fun _ => 0)), .inr (.inl (0, 17, fun _ => 0)), .inr (.inl (0, 17, fun _ => 0)), .inr (.inl (0, 3, fun _ => 0)), .inl (0, [.ref 19, .ref 20, .ref 21, .ref 22, .int 0, .int 0]), .inr (.inl (0, 6, fun _ => 0)), .inr (.inl (0, 6, fun _ => 0)), .inr (.inl (0, 6, fun _ => 0)), .inr (.inl (0, 6, fun _ => 0)), .inl (6, [.ref 24, .int 0, .int 0, .null]), .inr (.inr (.inl (3, 10, fun _ => none))), .inl (4, [.int (-1), .ref 26, .ref 27]), .inr (.inl (0, 0, fun _ => 0)), .inr (.inl (0, 40, fun _ => 0)), .inl (1, cF 28 (kNew 25)), .inl (8, [.ref 30, .int (Int32.ofNat 16), .int (Int32.ofNat 8), .int (Int32.ofNat 0)]), .inr (.inl (0, 16 * 8, fun _ => 0)), .inl (8, [.ref 32, .int (Int32.ofNat 6), .int (Int32.ofNat 4), .int (Int32.ofNat 0)]), .inr (.inl (0, 6 * 4, fun _ => 0)), .inl (8, [.ref 34, .int (Int32.ofNat 6), .int (Int32.ofNat 1), .int (Int32.ofNat 0)]), .inr (.inl (0, 6 * 1, fun _ => 0)), .inl (8, [.ref 36, .int (Int32.ofNat 60), .int (Int32.ofNat 7), .int (Int32.ofNat 0)]), .inr (.inl (0, 60 * 7, fun _ => 0)), .inl (8, [.ref 38, .int (Int32.ofNat 60), .int (Int32.ofNat 5), .int (Int32.ofNat 0)]), .inr (.inl (0, 60 * 5, fun _ => 0)), .inl (8, [.ref 40, .int (Int32.ofNat 30), .int (Int32.ofNat 6), .int (Int32.ofNat 0)]), .inr (.inl (0, 30 * 6, fun _ => 0)), .inl (1, cF 41 (kNew 25)), .inl (8, [.ref 43, .int (Int32.ofNat 16), .int (Int32.ofNat 8), .int (Int32.ofNat 0)]), .inr (.inl (0, 16 * 8, fun _ => 0)), .inl (8, [.ref 45, .int (Int32.ofNat 6), .int (Int32.ofNat 4), .int (Int32.ofNat 0)]), .inr (.inl (0, 6 * 4, fun _ => 0)), .inl (8, [.ref 47, .int (Int32.ofNat 6), .int (Int32.ofNat 1), .int (Int32.ofNat 0)]), .inr (.inl (0, 6 * 1, fun _ => 0)), .inl (8, [.ref 49, .int (Int32.ofNat 60), .int (Int32.ofNat 7), .int (Int32.ofNat 0)]), .inr (.inl (0, 60 * 7, fun _ => 0)), .inl (8, [.ref 51, .int (Int32.ofNat 60), .int (Int32.ofNat 5), .int (Int32.ofNat 0)]), .inr (.inl (0, 60 * 5, fun _ => 0)), .inl (8, [.ref 53, .int (Int32.ofNat 30), .int (Int32.ofNat 6), .int (Int32.ofNat 0)]), .inr (.inl (0, 30 * 6, fun _ => 0)), .inl (7, [.ref 1, .ref 55, .ref 56, .ref 57, .ref 58, .int 0, .int 0, .int 0, .int 0, .int 0, .int 0, .int (-1), .ref 28, .ref 41]), .inr (.inl (0, 400, fun _ => 0)), .inr (.inl (0, 400, fun _ => 0)), .inr (.inl (0, 400, fun _ => 0)), .inr (.inl (0, 400, fun _ => 0)), .inl (5, [.ref 1, .ref 60, .ref 61, .ref 62, .ref 63, .int 0, .int 0, .int 0, .int 0, .int 0, .int 0, .int (-1), .ref 64, .ref 65, .int 0, .int 0, .int 0, .int 0]), .inr (.inl (0, 400, fun _ => 0)), .inr (.inl (0, 400, fun _ => 0)), .inr (.inl (0, 400, fun _ => 0)), .inr (.inl (0, 400, fun _ => 0)), .inr (.inl (0, 400, fun _ => 0)), .inr (.inl (0, 40, fun _ => 0))] 66 6500 := H
  refine Go.pR H (fs := [.ref 1, .ref 54, .null, .ref 3, .ref 8, .ref 18, .ref 23, .ref 28, .ref 41, .int 0]) rfl (by decide) fun s H => ?_
  refine Go.pI H (fs := [.ref 1, .ref 54, .ref 59, .ref 3, .ref 8, .ref 18, .ref 23, .ref 28, .ref 41, .int 0]) rfl (by decide) fun s H => ?_
  refine Go.ret ?_
  have H : Has s [.inl (10, [.ref 1, .ref 54, .ref 59, .ref 3, .ref 8, .ref 18, .ref 23, .ref 28, .ref 41, .int (-1)]), .inl (9, [.ref 2, .int 0]), .inr (.inl (0, 400, fun _ => 0)), .inl (2, [.ref 4, .ref 5, .ref 6, .ref 7]), .inr (.inl (0, 10, fun _ => 0)), .inr (.inl (0, 3, fun _ => 0)), .inr (.inl (0, 3, fun _ => 0)), .inr (.inl (0, 3, fun _ => 0)), .inl (3, [.ref 9, .ref 13, .ref 17, .int (-1), .int (-1)]), .inr (.inr (.inl (2, 3, fun i => if i < 3 then some (9 + 1 + i) else none))), .inr (.inl (0, 17, fun _ => 0)), .inr (.inl (0, 17, fun _ => 0)), .inr (.inl (0, 17, fun _ => 0)), .inr (.inr (.inl (2, 3, fun i => if i < 3 then some (13 + 1 + i) else none))), .inr (.inl (0, 17, fun _ => 0)), .inr (.inl (0, 17, fun _ => 0)), .inr (.inl (0, 17, fun _ => 0)), .inr (.inl (0, 3, fun _ => 0)), .inl (0, [.ref 19, .ref 20, .ref 21, .ref 22, .int 0, .int 0]), .inr (.inl (0, 6, fun _ => 0)), .inr (.inl (0, 6, fun _ => 0)), .inr (.inl (0, 6, fun _ => 0)), .inr (.inl (0, 6, fun _ => 0)), .inl (6, [.ref 24, .int 0, .int 0, .null]), .inr (.inr (.inl (3, 10, fun _ => none))), .inl (4, [.int (-1), .ref 26, .ref 27]), .inr (.inl (0, 0, fun _ => 0)), .inr (.inl (0, 40, fun _ => 0)), .inl (1, cF 28 (kNew 25)), .inl (8, [.ref 30, .int (Int32.ofNat 16), .int (Int32.ofNat 8), .int (Int32.ofNat 0)]), .inr (.inl (0, 16 * 8, fun _ => 0)), .inl (8, [.ref 32, .int (Int32.ofNat 6), .int (Int32.ofNat 4), .int (Int32.ofNat 0)]), .inr (.inl (0, 6 * 4, fun _ => 0)), .inl (8, [.ref 34, .int (Int32.ofNat 6), .int (Int32.ofNat 1), .int (Int32.ofNat 0)]), .inr (.inl (0, 6 * 1, fun _ => 0)), .inl (8, [.ref 36, .int (Int32.ofNat 60), .int (Int32.ofNat 7), .int (Int32.ofNat 0)]), .inr (.inl (0, 60 * 7, fun _ => 0)), .inl (8, [.ref 38, .int (Int32.ofNat 60), .int (Int32.ofNat 5), .int (Int32.ofNat 0)]), .inr (.inl (0, 60 * 5, fun _ => 0)), .inl (8, [.ref 40, .int (Int32.ofNat 30), .int (Int32.ofNat 6), .int (Int32.ofNat 0)]), .inr (.inl (0, 30 * 6, fun _ => 0)), .inl (1, cF 41 (kNew 25)), .inl (8, [.ref 43, .int (Int32.ofNat 16), .int (Int32.ofNat 8), .int (Int32.ofNat 0)]), .inr (.inl (0, 16 * 8, fun _ => 0)), .inl (8, [.ref 45, .int (Int32.ofNat 6), .int (Int32.ofNat 4), .int (Int32.ofNat 0)]), .inr (.inl (0, 6 * 4, fun _ => 0)), .inl (8, [.ref 47, .int (Int32.ofNat 6), .int (Int32.ofNat 1), .int (Int32.ofNat 0)]), .inr (.inl (0, 6 * 1, fun _ => 0)), .inl (8, [.ref 49, .int (Int32.ofNat 60), .int (Int32.ofNat 7), .int (Int32.ofNat 0)]), .inr (.inl (0, 60 * 7, fun _ => 0)), .inl (8, [.ref 51, .int (Int32.ofNat 60), .int (Int32.ofNat 5), .int (Int32.ofNat 0)]), .inr (.inl (0, 60 * 5, fun _ => 0)), .inl (8, [.ref 53, .int (Int32.ofNat 30), .int (Int32.ofNat 6), .int (Int32.ofNat 0)]), .inr (.inl (0, 30 * 6, fun _ => 0)), .inl (7, [.ref 1, .ref 55, .ref 56, .ref 57, .ref 58, .int 0, .int 0, .int 0, .int 0, .int 0, .int 0, .int (-1), .ref 28, .ref 41]), .inr (.inl (0, 400, fun _ => 0)), .inr (.inl (0, 400, fun _ => 0)), .inr (.inl (0, 400, fun _ => 0)), .inr (.inl (0, 400, fun _ => 0)), .inl (5, [.ref 1, .ref 60, .ref 61, .ref 62, .ref 63, .int 0, .int 0, .int 0, .int 0, .int 0, .int 0, .int (-1), .ref 64, .ref 65, .int 0, .int 0, .int 0, .int 0]), .inr (.inl (0, 400, fun _ => 0)), .inr (.inl (0, 400, fun _ => 0)), .inr (.inl (0, 400, fun _ => 0)), .inr (.inl (0, 400, fun _ => 0)), .inr (.inl (0, 400, fun _ => 0)), .inr (.inl (0, 40, fun _ => 0))] 66 6500 := H
  refine Go.nw H (n := 66) rfl fun s H => ?_
  refine Go.call ?_
  refine Go.onC H (fs := [.int 0, .null, .null, .null, .null, .null, .int 0, .int 0, .null, .int 0, .int 0, .int 0, .int 0, .int 0, .int 0, .null, .int 0, .null, .int 0, .int 0, .int 0, .null, .null, .int 0, .int 0, .null, .null]) rfl ?_
  refine Go.nwI H (N := 2769) (n := 67) rfl (by decide) rfl (by decide) fun s H => ?_
  refine Go.pR H (fs := [.int 0, .null, .null, .null, .null, .null, .int 0, .int 0, .null, .int 0, .int 0, .int 0, .int 0, .int 0, .int 0, .null, .int 0, .null, .int 0, .int 0, .int 0, .null, .null, .int 0, .int 0, .null, .null]) rfl (by decide) fun s H => ?_
  refine Go.nwI H (N := 1920) (n := 68) rfl (by decide) rfl (by decide) fun s H => ?_
  refine Go.pR H (fs := [.int 0, .ref 67, .null, .null, .null, .null, .int 0, .int 0, .null, .int 0, .int 0, .int 0, .int 0, .int 0, .int 0, .null, .int 0, .null, .int 0, .int 0, .int 0, .null, .null, .int 0, .int 0, .null, .null]) rfl (by decide) fun s H => ?_
  refine Go.nwI H (N := 1920) (n := 69) rfl (by decide) rfl (by decide) fun s H => ?_
  refine Go.pR H (fs := [.int 0, .ref 67, .ref 68, .null, .null, .null, .int 0, .int 0, .null, .int 0, .int 0, .int 0, .int 0, .int 0, .int 0, .null, .int 0, .null, .int 0, .int 0, .int 0, .null, .null, .int 0, .int 0, .null, .null]) rfl (by decide) fun s H => ?_
  refine Go.nwI H (N := 1071) (n := 70) rfl (by decide) rfl (by decide) fun s H => ?_
  refine Go.pR H (fs := [.int 0, .ref 67, .ref 68, .ref 69, .null, .null, .int 0, .int 0, .null, .int 0, .int 0, .int 0, .int 0, .int 0, .int 0, .null, .int 0, .null, .int 0, .int 0, .int 0, .null, .null, .int 0, .int 0, .null, .null]) rfl (by decide) fun s H => ?_
  refine Go.nwI H (N := 10710) (n := 71) rfl (by decide) rfl (by decide) fun s H => ?_
  refine Go.pR H (fs := [.int 0, .ref 67, .ref 68, .ref 69, .ref 70, .null, .int 0, .int 0, .null, .int 0, .int 0, .int 0, .int 0, .int 0, .int 0, .null, .int 0, .null, .int 0, .int 0, .int 0, .null, .null, .int 0, .int 0, .null, .null]) rfl (by decide) fun s H => ?_
  refine Go.nwI H (N := 400) (n := 72) rfl (by decide) rfl (by decide) fun s H => ?_
  refine Go.pR H (fs := [.int 0, .ref 67, .ref 68, .ref 69, .ref 70, .ref 71, .int 0, .int 0, .null, .int 0, .int 0, .int 0, .int 0, .int 0, .int 0, .null, .int 0, .null, .int 0, .int 0, .int 0, .null, .null, .int 0, .int 0, .null, .null]) rfl (by decide) fun s H => ?_
  refine Go.pI H (fs := [.int 0, .ref 67, .ref 68, .ref 69, .ref 70, .ref 71, .int 0, .int 0, .ref 72, .int 0, .int 0, .int 0, .int 0, .int 0, .int 0, .null, .int 0, .null, .int 0, .int 0, .int 0, .null, .null, .int 0, .int 0, .null, .null]) rfl (by decide) fun s H => ?_
  refine Go.nwI H (N := 5) (n := 73) rfl (by decide) rfl (by decide) fun s H => ?_
  refine Go.pR H (fs := [.int 0, .ref 67, .ref 68, .ref 69, .ref 70, .ref 71, .int 0, .int 0, .ref 72, .int 0, .int 0, .int 0, .int 0, .int 0, .int (-1), .null, .int 0, .null, .int 0, .int 0, .int 0, .null, .null, .int 0, .int 0, .null, .null]) rfl (by decide) fun s H => ?_
  refine Go.nwI H (N := 400) (n := 74) rfl (by decide) rfl (by decide) fun s H => ?_
  refine Go.pR H (fs := [.int 0, .ref 67, .ref 68, .ref 69, .ref 70, .ref 71, .int 0, .int 0, .ref 72, .int 0, .int 0, .int 0, .int 0, .int 0, .int (-1), .ref 73, .int 0, .null, .int 0, .int 0, .int 0, .null, .null, .int 0, .int 0, .null, .null]) rfl (by decide) fun s H => ?_
  refine Go.nwI H (N := 3) (n := 75) rfl (by decide) rfl (by decide) fun s H => ?_
  refine Go.pR H (fs := [.int 0, .ref 67, .ref 68, .ref 69, .ref 70, .ref 71, .int 0, .int 0, .ref 72, .int 0, .int 0, .int 0, .int 0, .int 0, .int (-1), .ref 73, .int 0, .ref 74, .int 0, .int 0, .int 0, .null, .null, .int 0, .int 0, .null, .null]) rfl (by decide) fun s H => ?_
  refine Go.nwI H (N := 3) (n := 76) rfl (by decide) rfl (by decide) fun s H => ?_
  refine Go.pR H (fs := [.int 0, .ref 67, .ref 68, .ref 69, .ref 70, .ref 71, .int 0, .int 0, .ref 72, .int 0, .int 0, .int 0, .int 0, .int 0, .int (-1), .ref 73, .int 0, .ref 74, .int 0, .int 0, .int 0, .ref 75, .null, .int 0, .int 0, .null, .null]) rfl (by decide) fun s H => ?_
  refine Go.nwI H (N := 6) (n := 77) rfl (by decide) rfl (by decide) fun s H => ?_
  refine Go.pR H (fs := [.int 0, .ref 67, .ref 68, .ref 69, .ref 70, .ref 71, .int 0, .int 0, .ref 72, .int 0, .int 0, .int 0, .int 0, .int 0, .int (-1), .ref 73, .int 0, .ref 74, .int 0, .int 0, .int 0, .ref 75, .ref 76, .int 0, .int 0, .null, .null]) rfl (by decide) fun s H => ?_
  refine Go.nwI H (N := 6) (n := 78) rfl (by decide) rfl (by decide) fun s H => ?_
  refine Go.pR H (fs := [.int 0, .ref 67, .ref 68, .ref 69, .ref 70, .ref 71, .int 0, .int 0, .ref 72, .int 0, .int 0, .int 0, .int 0, .int 0, .int (-1), .ref 73, .int 0, .ref 74, .int 0, .int 0, .int 0, .ref 75, .ref 76, .int 0, .int 0, .ref 77, .null]) rfl (by decide) fun s H => ?_
  refine Go.gR H (fs := [.int 0, .ref 67, .ref 68, .ref 69, .ref 70, .ref 71, .int 0, .int 0, .ref 72, .int 0, .int 0, .int 0, .int 0, .int 0, .int (-1), .ref 73, .int 0, .ref 74, .int 0, .int 0, .int 0, .ref 75, .ref 76, .int 0, .int 0, .ref 77, .ref 78]) rfl rfl ?_
  refine Go.stI H (N := 2769) (i := 12) (e := fun _ => 0) (k := 12) rfl (by decide) rfl (by decide) fun s H => ?_
  refine Go.ret ?_
  have H : Has s [.inl (10, [.ref 1, .ref 54, .ref 59, .ref 3, .ref 8, .ref 18, .ref 23, .ref 28, .ref 41, .int (-1)]), .inl (9, [.ref 2, .int 0]), .inr (.inl (0, 400, fun _ => 0)), .inl (2, [.ref 4, .ref 5, .ref 6, .ref 7]), .inr (.inl (0, 10, fun _ => 0)), .inr (.inl (0, 3, fun _ => 0)), .inr (.inl (0, 3, fun _ => 0)), .inr (.inl (0, 3, fun _ => 0)), .inl (3, [.ref 9, .ref 13, .ref 17, .int (-1), .int (-1)]), .inr (.inr (.inl (2, 3, fun i => if i < 3 then some (9 + 1 + i) else none))), .inr (.inl (0, 17, fun _ => 0)), .inr (.inl (0, 17, fun _ => 0)), .inr (.inl (0, 17, fun _ => 0)), .inr (.inr (.inl (2, 3, fun i => if i < 3 then some (13 + 1 + i) else none))), .inr (.inl (0, 17, fun _ => 0)), .inr (.inl (0, 17, fun _ => 0)), .inr (.inl (0, 17, fun _ => 0)), .inr (.inl (0, 3, fun _ => 0)), .inl (0, [.ref 19, .ref 20, .ref 21, .ref 22, .int 0, .int 0]), .inr (.inl (0, 6, fun _ => 0)), .inr (.inl (0, 6, fun _ => 0)), .inr (.inl (0, 6, fun _ => 0)), .inr (.inl (0, 6, fun _ => 0)), .inl (6, [.ref 24, .int 0, .int 0, .null]), .inr (.inr (.inl (3, 10, fun _ => none))), .inl (4, [.int (-1), .ref 26, .ref 27]), .inr (.inl (0, 0, fun _ => 0)), .inr (.inl (0, 40, fun _ => 0)), .inl (1, cF 28 (kNew 25)), .inl (8, [.ref 30, .int (Int32.ofNat 16), .int (Int32.ofNat 8), .int (Int32.ofNat 0)]), .inr (.inl (0, 16 * 8, fun _ => 0)), .inl (8, [.ref 32, .int (Int32.ofNat 6), .int (Int32.ofNat 4), .int (Int32.ofNat 0)]), .inr (.inl (0, 6 * 4, fun _ => 0)), .inl (8, [.ref 34, .int (Int32.ofNat 6), .int (Int32.ofNat 1), .int (Int32.ofNat 0)]), .inr (.inl (0, 6 * 1, fun _ => 0)), .inl (8, [.ref 36, .int (Int32.ofNat 60), .int (Int32.ofNat 7), .int (Int32.ofNat 0)]), .inr (.inl (0, 60 * 7, fun _ => 0)), .inl (8, [.ref 38, .int (Int32.ofNat 60), .int (Int32.ofNat 5), .int (Int32.ofNat 0)]), .inr (.inl (0, 60 * 5, fun _ => 0)), .inl (8, [.ref 40, .int (Int32.ofNat 30), .int (Int32.ofNat 6), .int (Int32.ofNat 0)]), .inr (.inl (0, 30 * 6, fun _ => 0)), .inl (1, cF 41 (kNew 25)), .inl (8, [.ref 43, .int (Int32.ofNat 16), .int (Int32.ofNat 8), .int (Int32.ofNat 0)]), .inr (.inl (0, 16 * 8, fun _ => 0)), .inl (8, [.ref 45, .int (Int32.ofNat 6), .int (Int32.ofNat 4), .int (Int32.ofNat 0)]), .inr (.inl (0, 6 * 4, fun _ => 0)), .inl (8, [.ref 47, .int (Int32.ofNat 6), .int (Int32.ofNat 1), .int (Int32.ofNat 0)]), .inr (.inl (0, 6 * 1, fun _ => 0)), .inl (8, [.ref 49, .int (Int32.ofNat 60), .int (Int32.ofNat 7), .int (Int32.ofNat 0)]), .inr (.inl (0, 60 * 7, fun _ => 0)), .inl (8, [.ref 51, .int (Int32.ofNat 60), .int (Int32.ofNat 5), .int (Int32.ofNat 0)]), .inr (.inl (0, 60 * 5, fun _ => 0)), .inl (8, [.ref 53, .int (Int32.ofNat 30), .int (Int32.ofNat 6), .int (Int32.ofNat 0)]), .inr (.inl (0, 30 * 6, fun _ => 0)), .inl (7, [.ref 1, .ref 55, .ref 56, .ref 57, .ref 58, .int 0, .int 0, .int 0, .int 0, .int 0, .int 0, .int (-1), .ref 28, .ref 41]), .inr (.inl (0, 400, fun _ => 0)), .inr (.inl (0, 400, fun _ => 0)), .inr (.inl (0, 400, fun _ => 0)), .inr (.inl (0, 400, fun _ => 0)), .inl (5, [.ref 1, .ref 60, .ref 61, .ref 62, .ref 63, .int 0, .int 0, .int 0, .int 0, .int 0, .int 0, .int (-1), .ref 64, .ref 65, .int 0, .int 0, .int 0, .int 0]), .inr (.inl (0, 400, fun _ => 0)), .inr (.inl (0, 400, fun _ => 0)), .inr (.inl (0, 400, fun _ => 0)), .inr (.inl (0, 400, fun _ => 0)), .inr (.inl (0, 400, fun _ => 0)), .inr (.inl (0, 40, fun _ => 0)), .inl (11, [.int 0, .ref 67, .ref 68, .ref 69, .ref 70, .ref 71, .int 0, .int 0, .ref 72, .int 0, .int 0, .int 0, .int 0, .int 0, .int (-1), .ref 73, .int 0, .ref 74, .int 0, .int 0, .int 0, .ref 75, .ref 76, .int 0, .int 0, .ref 77, .ref 78]), .inr (.inl (0, 2769, upd (fun _ => 0) 12 1)), .inr (.inl (0, 1920, fun _ => 0)), .inr (.inl (0, 1920, fun _ => 0)), .inr (.inl (0, 1071, fun _ => 0)), .inr (.inl (0, 10710, fun _ => 0)), .inr (.inl (1, 400, fun _ => 0)), .inr (.inl (0, 5, fun _ => 0)), .inr (.inl (0, 400, fun _ => 0)), .inr (.inl (0, 3, fun _ => 0)), .inr (.inl (0, 3, fun _ => 0)), .inr (.inl (0, 6, fun _ => 0)), .inr (.inl (0, 6, fun _ => 0))] 79 25740 := H
  refine Go.nwL H (n := 79) rfl fun s H => ?_
  exact k s H
def M0 : MK := (fun j => if j = 14 then -1 else 0, fun q => if q = 1 then upd (fun _ => 0) 12 1 else fun _ => 0)
theorem Has.court {s : aS} {r q a l : Nat} {L : List AE} (H : Has s L r q) (h0 : L[a]? = some (.inl (1, cF a (kNew l)))) (h : ∀ k, k < 6 → L[a + 1 + 2 * k]? = some (tO (a + 2 + 2 * k) (tM k) (tW k) 0) ∧ L[a + 2 + 2 * k]? = some (tE (tM k) (tW k) fun _ => 0)) : Crt s a (kNew l) := by
  refine ⟨H.obj h0, fun k hk => ⟨H.obj (h k hk).1, H.ints (h k hk).2, Nat.zero_le _, ?_⟩⟩
  match k, hk with
  | 0, _ => exact ⟨by decide, by decide, by decide⟩
  | 1, _ => exact ⟨by decide, by decide, by decide⟩
  | 2, _ => exact ⟨by decide, by decide, by decide⟩
  | 3, _ => exact ⟨by decide, by decide, by decide⟩
  | 4, _ => exact ⟨by decide, by decide, by decide⟩
  | 5, _ => exact ⟨by decide, by decide, by decide⟩
  | k + 6, h => exact absurd h (by omega)
theorem start_world {s : aS} {r q : Nat} (H : Has s cells0 r q) : World s (-1) (kNew 25) M0 none 0 := by
  have C28 : Crt s 28 (kNew 25) := H.court rfl fun k hk => by
    match k, hk with
    | 0, _ => exact ⟨rfl, rfl⟩
    | 1, _ => exact ⟨rfl, rfl⟩
    | 2, _ => exact ⟨rfl, rfl⟩
    | 3, _ => exact ⟨rfl, rfl⟩
    | 4, _ => exact ⟨rfl, rfl⟩
    | 5, _ => exact ⟨rfl, rfl⟩
    | k + 6, h => exact absurd h (by omega)
  have C41 : Crt s 41 (kNew 25) := H.court rfl fun k hk => by
    match k, hk with
    | 0, _ => exact ⟨rfl, rfl⟩
    | 1, _ => exact ⟨rfl, rfl⟩
    | 2, _ => exact ⟨rfl, rfl⟩
    | 3, _ => exact ⟨rfl, rfl⟩
    | 4, _ => exact ⟨rfl, rfl⟩
    | 5, _ => exact ⟨rfl, rfl⟩
    | k + 6, h => exact absurd h (by omega)
  have C : CC s (-1) (kNew 25) := ⟨H.obj rfl, C28⟩
  have D : Mdl s 66 M0 := ⟨H.obj rfl, fun q h1 h2 => by
    match q, h1, h2 with
    | 1, _, _ => exact H.ints rfl
    | 2, _, _ => exact H.ints rfl
    | 3, _, _ => exact H.ints rfl
    | 4, _, _ => exact H.ints rfl
    | 5, _, _ => exact H.ints rfl
    | 6, _, _ => exact H.ints rfl
    | 7, _, _ => exact H.ints rfl
    | 8, _, _ => exact H.ints rfl
    | 9, _, _ => exact H.ints rfl
    | 10, _, _ => exact H.ints rfl
    | 11, _, _ => exact H.ints rfl
    | 12, _, _ => exact H.ints rfl
    | 0, h, _ => exact absurd h (by decide)
    | q + 13, _, h => exact absurd h (by omega)⟩
  have N : ∀ {p : Nat} {P : Prop}, p < 0 → P := fun h => absurd h (Nat.not_lt_zero _)
  have Z : ∀ B, isN (0 : Int32) B := fun B => ⟨0, Nat.zero_le _, rfl⟩
  have S : Sm (kNew 25) (M0.2 1) := ⟨⟨rfl, rfl, rfl, rfl, rfl, rfl⟩, ⟨rfl, rfl, rfl, rfl, rfl, rfl⟩, fun p h => N h, fun p h => N h, fun p h => N h, fun p h => N h, fun p h => N h, fun p h => N h⟩
  have hw : wOk (kNew 25) (M0.2 1) 0 := ⟨fun p h => N h, fun p h => N h, fun p h => N h, fun p h => N h, fun d h => absurd h (Nat.not_lt_zero _), fun p h => N h, Nat.zero_le _, Z _, Z _, Z _, Z _⟩
  have LC : LawC s 25 none := ⟨fun _ => 0, H.obj rfl, H.ints rfl⟩
  have SC : ScOk 25 s := ⟨H.obj rfl, ⟨-1, -1, H.obj rfl⟩, ⟨H.2.1 9 _ rfl, H.2.1 13 _ rfl, H.lt (k := 22) rfl⟩, ⟨0, 0, H.obj rfl⟩, fun b n hb => ?_⟩
  refine ⟨⟨⟨C, D, S, fun k _ => Nat.zero_le _, hw, by decide⟩, ⟨C, SC, LC, Or.inl rfl, trivial⟩, rfl⟩, rfl, ⟨0, fun _ => 0, Nat.zero_le _, H.obj rfl, H.ints rfl, rfl, fun k h => N h⟩, ⟨⟨_, C41⟩, ⟨fun j => if j = 11 then -1 else 0, fun _ _ => 0, H.obj rfl, fun k hk => ?_⟩, fun j => if j = 11 then -1 else 0, fun _ _ => 0, H.obj rfl, fun k hk => ?_, H.ints rfl⟩, ⟨⟨_, H.2.1 79 _ rfl⟩, H.lt (k := 79) rfl⟩, 25, 0, 0, fun _ => none, ⟨⟨by decide, by decide⟩, H.obj rfl, ⟨fun _ => none, H.2.1 24 _ rfl, H.lt (k := 24) rfl, fun _ _ => rfl⟩, fun i a K _ h => (by cases h), fun i j a K b K' _ _ _ h => (by cases h)⟩, ⟨fun j h => N h, rfl, Or.inl ⟨rfl, rfl⟩⟩, ⟨Or.inl rfl, Or.inl rfl, ⟨none, LC, trivial, fun h => absurd h (by decide)⟩, fun _ => 0, H.ints rfl⟩⟩
  · match k, hk with
    | 0, _ => exact H.ints rfl
    | 1, _ => exact H.ints rfl
    | 2, _ => exact H.ints rfl
    | 3, _ => exact H.ints rfl
    | k + 4, h => exact absurd h (by omega)
  · match k, hk with
    | 0, _ => exact H.ints rfl
    | 1, _ => exact H.ints rfl
    | 2, _ => exact H.ints rfl
    | 3, _ => exact H.ints rfl
    | 4, _ => exact H.ints rfl
    | k + 5, h => exact absurd h (by omega)
  · unfold scN at hb
    split at hb
    · next h =>
      cases hb
      subst h
      exact ⟨_, H.ints rfl⟩
    · split at hb
      · next h =>
        cases hb
        have h' : b = 5 ∨ b = 6 ∨ b = 7 := by omega
        rcases h' with rfl | rfl | rfl
        · exact ⟨_, H.ints rfl⟩
        · exact ⟨_, H.ints rfl⟩
        · exact ⟨_, H.ints rfl⟩
      · split at hb
        · next h =>
          cases hb
          have h' : b = 10 ∨ b = 11 ∨ b = 12 ∨ b = 14 ∨ b = 15 ∨ b = 16 := by omega
          rcases h' with rfl | rfl | rfl | rfl | rfl | rfl
          · exact ⟨_, H.ints rfl⟩
          · exact ⟨_, H.ints rfl⟩
          · exact ⟨_, H.ints rfl⟩
          · exact ⟨_, H.ints rfl⟩
          · exact ⟨_, H.ints rfl⟩
          · exact ⟨_, H.ints rfl⟩
        · split at hb
          · next h =>
            cases hb
            subst h
            exact ⟨_, H.ints rfl⟩
          · split at hb
            · next h =>
              cases hb
              have h' : b = 19 ∨ b = 20 ∨ b = 21 ∨ b = 22 := by omega
              rcases h' with rfl | rfl | rfl | rfl
              · exact ⟨_, H.ints rfl⟩
              · exact ⟨_, H.ints rfl⟩
              · exact ⟨_, H.ints rfl⟩
              · exact ⟨_, H.ints rfl⟩
            · split at hb
              · next h =>
                cases hb
                have h' : b = 27 := h
                subst h'
                exact ⟨_, H.ints rfl⟩
              · cases hb
theorem pure_of (SH : Shop) (LA : Law) : PURE := by
  intro n0 xs hn
  obtain ⟨v, s', e, hv, h1, h2⟩ := start_go n0 xs (Q := fun v s' => v = 1 ∧ s'.2.2.1 ≤ 601024 ∧ s'.2.2.2 ≤ 7293034) fun s H => by
    obtain ⟨s', e, r1, r2⟩ := all_calls SH LA n0 xs hn 512 0 s _ _ _ _ 0 (by omega) (by omega) (start_world H) (by omega)
    refine ⟨1, s', ?_, rfl, ?_, ?_⟩
    · rw [bnd_ok (show loopM (mL_main_L n0 xs 0 66 79) 0 s = _ from e)]
      rfl
    · have := H.2.2.1
      omega
    · have := H.2.2.2
      omega
  subst hv
  exact ⟨s', e, h1, h2⟩
