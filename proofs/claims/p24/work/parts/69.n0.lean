theorem mgF {S : Sto} {f : Nat} {v : Int} {a : Nat} {i : Int} : mg (updI S 2 f v) a i = mg S a i := by
  show (if mt a = 2 ∧ i.toNat = f then v else S.2.1 (mt a) i.toNat) = _
  rw [if_neg (by rintro ⟨e, -⟩; unfold mt at e; omega)]
theorem mfF {S : Sto} {f k : Nat} {v : Int} : mf (updI S 2 f v) k = if k = f then v else mf S k := by
  show (if 2 = 2 ∧ k = f then v else S.2.1 2 k) = _
  by_cases e : k = f
  · rw [if_pos ⟨rfl, e⟩, if_pos e]
  · rw [if_neg (fun q => e q.2), if_neg e]
theorem fillH_v {S : Sto} {b : Int} (b0 : 0 ≤ b) : ∀ (n a : Nat) (j : Int), 0 ≤ j → mg (fillH S b n) a j = if a = 20 ∧ b ≤ j ∧ j < b + n then -1 else mg S a j
  | 0, a, j, j0 => by rw [if_neg (by omega)]; rfl
  | n + 1, a, j, j0 => by
    show mg (updI (fillH S b n) (mt 20) (b + n).toNat (-1)) a j = _
    simp only [mgU, tnE j0 (show 0 ≤ b + (n : Int) by omega), fillH_v b0 n a j j0]
    by_cases e : a = 20 ∧ j = b + n
    · rw [if_pos e, if_pos (by omega)]
    · rw [if_neg e]
      by_cases q : a = 20 ∧ b ≤ j ∧ j < b + n
      · rw [if_pos q, if_pos (by omega)]
      · rw [if_neg q, if_neg (by omega)]
theorem fillS_v {S T : Sto} {o : Int} (o0 : 0 ≤ o) : ∀ (n a : Nat) (j : Int), 0 ≤ j → mg (fillS S T o n) a j = if a = 31 ∧ 6 * o ≤ j ∧ j < 6 * o + n then giv S o (j - 6 * o) else mg T a j
  | 0, a, j, j0 => by rw [if_neg (by omega)]; rfl
  | n + 1, a, j, j0 => by
    show mg (updI (fillS S T o n) (mt 31) (6 * o + n).toNat (giv S o n)) a j = _
    simp only [mgU, tnE j0 (show 0 ≤ 6 * o + (n : Int) by omega), fillS_v o0 n a j j0]
    by_cases e : a = 31 ∧ j = 6 * o + n
    · rw [if_pos e, if_pos (by omega), show j - 6 * o = n by omega]
    · rw [if_neg e]
      by_cases q : a = 31 ∧ 6 * o ≤ j ∧ j < 6 * o + n
      · rw [if_pos q, if_pos (by omega)]
      · rw [if_neg q, if_neg (by omega)]
theorem order_MI {n : Int} {S S' : Sto} {d p k v : Int} (h : MI n S) (hn : n + 1 ≤ 15000) (hR : orderR S d p k v S') : MI (n + 1) S' := by
  obtain ⟨h1, h2, h3⟩ := hR
  by_cases hk : k = 0
  · obtain ⟨-, hS⟩ := h3 hk
    have H := (h.up hn).th0 (k := 0)
    have hb : (0 ≤ d ∧ d < nD S) ∧ (1 ≤ p ∧ p ≤ 50) ∧ nO S ≠ 20 := by
      rw [hk] at h1
      by_cases a : 0 ≤ d ∧ d < nD S
      · rw [if_neg (fun z => z a)] at h1
        by_cases b : 1 ≤ p ∧ p ≤ 50
        · rw [if_neg (fun z => z b)] at h1
          by_cases e : nO S = 20
          · rw [if_pos e] at h1; omega
          · exact ⟨a, b, e⟩
        · rw [if_pos b] at h1; omega
      · rw [if_pos a] at h1; omega
    have eO : nO S = nO (thr S 0) := rfl
    have eD : nD S = nD (thr S 0) := rfl
    rw [eO] at hS hb
    rw [eD] at hb
    obtain ⟨b1, b2, b3⟩ := hb
    generalize hT : thr S 0 = T at *
    obtain ⟨hM, hN, hdr, hde, hma, hor, hfr, hst⟩ := H
    obtain ⟨q, hq⟩ : ∃ q, nO T = q := ⟨_, rfl⟩
    rw [hq] at hS b3
    have q0 : 0 ≤ q := by omega
    have hv : ∀ (a : Nat) (j : Int), 0 ≤ j → mg S' a j = if a = 27 ∧ j = q then -1 else if a = 25 ∧ j = q then p else if a = 24 ∧ j = q then d else mg T a j := fun a j j0 => by
      rw [hS]
      simp only [mgF, mgU, tnE j0 q0]
    have e8 : nD S' = nD T := by rw [hS]; exact mfF.trans (if_neg (by omega))
    have e13 : nM S' = nM T := by rw [hS]; exact mfF.trans (if_neg (by omega))
    have e23 : nO S' = q + 1 := by rw [hS]; exact mfF.trans (if_pos rfl)
    have em : ∀ (a : Nat) (j : Int), 0 ≤ j → (a ≠ 27 ∧ a ≠ 25 ∧ a ≠ 24 ∨ j ≠ q) → mg S' a j = mg T a j := fun a j j0 ha => by
      rw [hv a j j0, if_neg (by omega), if_neg (by omega), if_neg (by omega)]
    have hdq : ∀ d, 0 ≤ d → desEq T S' d := fun d d0 => ⟨em 1 d d0 (Or.inl (by omega)), fun k k0 k1 a a2 a7 => em a _ (by omega) (Or.inl (by omega)), fun p p0 _ => em 9 _ (by omega) (Or.inl (by omega)), em 10 _ d0 (Or.inl (by omega)), fun j j0 _ => em 11 _ (by omega) (Or.inl (by omega))⟩
    have hMS : MS S' := by rw [hS]; exact hM
    have es6 : shN S' 6 = shN T 6 := em 1 6 (by omega) (Or.inl (by omega))
    refine ⟨hMS, by rw [e8, e13, e23]; omega, ?_, fun d d0 d1 => desEq.des (hde d d0 (by omega)) (hdq d d0), fun i i0 i1 => mac_loc (hma i i0 (by omega)) (fun a a1 a2 => em a i i0 (Or.inl (by omega))) (fun k k0 k6 => ⟨em 20 _ (by omega) (Or.inl (by omega)), em 21 _ (by omega) (Or.inl (by omega))⟩) (by omega) (fun z => ?_),
      fun o o0 o1 => ?_, ⟨fun d a b => (em 10 d (by omega) (Or.inl (by omega))).trans (hfr.1 d (by omega) b), fun i' a b => ?_, fun o a b => ?_⟩, fun k k0 k1 => by rw [em 22 _ k0 (Or.inl (by omega))]; exact hst k k0 k1⟩
    · unfold draftI
      rw [es6]
      exact ⟨hdr.1, hdr.2.1, fun k k0 k1 => shEq.ok (fun a a2 a7 => em a _ (by omega) (Or.inl (by omega))) (hdr.2.2 k k0 k1)⟩
    · have y := (hma i i0 (by omega)).2.2.2.2.2.2.2
      rw [em 26 _ z (Or.inl (by omega)), em 27 _ z (Or.inr (by have := y.2.1; omega))]; exact y.2.2 z
    · rw [e23] at o1
      by_cases e : o = q
      · subst e
        obtain ⟨z1, z2, z3, z4, z5⟩ := hfr.2.2 o (by omega) (by omega)
        have x26 := (em 26 o o0 (Or.inl (by omega))).trans z1
        have x28 := (em 28 o o0 (Or.inl (by omega))).trans z2
        have x29 := (em 29 o o0 (Or.inl (by omega))).trans z3
        have x30 := (em 30 o o0 (Or.inl (by omega))).trans z4
        have x27 : mg S' 27 o = -1 := by rw [hv 27 o o0, if_pos ⟨rfl, rfl⟩]
        have x25 : mg S' 25 o = p := by rw [hv 25 o o0, if_neg (by omega), if_pos ⟨rfl, rfl⟩]
        have x24 : mg S' 24 o = d := by rw [hv 24 o o0, if_neg (by omega), if_neg (by omega), if_pos ⟨rfl, rfl⟩]
        have hmn := (desEq.des (hde d b1.1 b1.2) (hdq d b1.1)).mn
        refine ⟨by rw [x24]; omega, by rw [x25]; exact b2, by omega, ⟨by omega, by omega, fun z => by omega, by omega⟩, ?_, by omega, fun c c0 c6 => ?_⟩
        · rw [x24, x25, x26, x28, x29]
          exact ⟨by omega, by omega, by omega, by omega, fun z => by omega, fun z => by omega, fun _ _ => ⟨rfl, rfl⟩⟩
        · have z6 := z5 c c0 c6
          dsimp only [sdK] at z6 ⊢
          rw [em 31 _ (by omega) (Or.inl (by omega)), z6, x26]
          exact ⟨by omega, by omega, fun z => by omega⟩
      · have y := hor o o0 (by omega)
        exact ord_loc y (fun a a1 a2 => em a o o0 (Or.inr e)) (fun c c0 c6 => em 31 _ (by omega) (Or.inl (by omega))) (by omega) (by omega) (fun z => by rw [em 17 _ z (Or.inl (by omega))]; exact y.2.2.2.1.2.2.1 z) (hde _ y.1.1 y.1.2) (hdq _ y.1.1)
    · obtain ⟨z1, z2, z3⟩ := hfr.2.1 i' (by omega) b
      exact ⟨(em 18 _ (by omega) (Or.inl (by omega))).trans z1, (em 19 _ (by omega) (Or.inl (by omega))).trans z2, fun k k0 k6 => (em 21 _ (by omega) (Or.inl (by omega))).trans (z3 k k0 k6)⟩
    · obtain ⟨z1, z2, z3, z4, z5⟩ := hfr.2.2 o (by omega) b
      exact ⟨(em 26 _ (by omega) (Or.inl (by omega))).trans z1, (em 28 _ (by omega) (Or.inl (by omega))).trans z2, (em 29 _ (by omega) (Or.inl (by omega))).trans z3, (em 30 _ (by omega) (Or.inl (by omega))).trans z4, fun c c0 c6 => (em 31 _ (by omega) (Or.inl (by omega))).trans (z5 c c0 c6)⟩
  · rw [h2 hk]; exact (h.up hn).th0
theorem machine_MI {n : Int} {S S' : Sto} {a w g k v : Int} (h : MI n S) (hn : n + 1 ≤ 15000) (hR : machineR S a w g k v S') : MI (n + 1) S' := by
  obtain ⟨h1, h2, h3⟩ := hR
  by_cases hk : k = 0
  · obtain ⟨-, hS⟩ := h3 hk
    have H := (h.up hn).th0 (k := 0)
    have hb : (1 ≤ a ∧ a ≤ 6 ∧ 1 ≤ w ∧ w ≤ 16 ∧ 1 ≤ g ∧ g ≤ 16) ∧ nM S ≠ 4 := by
      rw [hk] at h1
      by_cases b : 1 ≤ a ∧ a ≤ 6 ∧ 1 ≤ w ∧ w ≤ 16 ∧ 1 ≤ g ∧ g ≤ 16
      · rw [if_neg (fun z => z b)] at h1
        by_cases e : nM S = 4
        · rw [if_pos e] at h1; omega
        · exact ⟨b, e⟩
      · rw [if_pos b] at h1; omega
    have eM : nM S = nM (thr S 0) := rfl
    rw [eM] at hS hb
    obtain ⟨b1, b3⟩ := hb
    generalize hT : thr S 0 = T at *
    obtain ⟨hM, hN, hdr, hde, hma, hor, hfr, hst⟩ := H
    obtain ⟨q, hq⟩ : ∃ q, nM T = q := ⟨_, rfl⟩
    rw [hq] at hS b3
    have q0 : 0 ≤ q := by omega
    have hv : ∀ (k : Nat) (j : Int), 0 ≤ j → mg S' k j = if k = 20 ∧ 6 * q ≤ j ∧ j < 6 * q + 6 then -1 else if k = 17 ∧ j = q then -1 else if k = 16 ∧ j = q then g else if k = 15 ∧ j = q then w else if k = 14 ∧ j = q then a else mg T k j := fun k j j0 => by
      rw [hS]
      simp only [mgF, fillH_v (show 0 ≤ 6 * q by omega) 6 k j j0, mgU, tnE j0 q0]
      rfl
    have e8 : nD S' = nD T := by rw [hS]; exact (mfF.trans (if_neg (by omega))).trans (fillH_ag 6).mf
    have e23 : nO S' = nO T := by rw [hS]; exact (mfF.trans (if_neg (by omega))).trans (fillH_ag 6).mf
    have e13 : nM S' = q + 1 := by rw [hS]; exact mfF.trans (if_pos rfl)
    have em : ∀ (k : Nat) (j : Int), 0 ≤ j → (k < 14 ∨ 20 < k ∨ k = 18 ∨ k = 19 ∨ (k < 20 ∧ j ≠ q) ∨ (k = 20 ∧ (j < 6 * q ∨ 6 * q + 6 ≤ j))) → mg S' k j = mg T k j := fun k j j0 ha => by
      rw [hv k j j0, if_neg (by omega), if_neg (by omega), if_neg (by omega), if_neg (by omega), if_neg (by omega)]
    have hdq : ∀ d, 0 ≤ d → desEq T S' d := fun d d0 => ⟨em 1 d d0 (by omega), fun k k0 k1 a a2 a7 => em a _ (by omega) (by omega), fun p p0 _ => em 9 _ (by omega) (by omega), em 10 _ d0 (by omega), fun j j0 _ => em 11 _ (by omega) (by omega)⟩
    have hMS : MS S' := by rw [hS]; refine MS.upd ((fillH_ag 6).ms ?_); exact hM
    have es6 : shN S' 6 = shN T 6 := em 1 6 (by omega) (by omega)
    refine ⟨hMS, by rw [e8, e13, e23]; omega, ?_, fun d d0 d1 => desEq.des (hde d d0 (by omega)) (hdq d d0), fun i i0 i1 => ?_,
      fun o o0 o1 => ?_, ⟨fun d a b => (em 10 d (by omega) (by omega)).trans (hfr.1 d (by omega) b), fun i' a b => ?_, fun o a b => ?_⟩, fun k k0 k1 => by rw [em 22 _ k0 (by omega)]; exact hst k k0 k1⟩
    · unfold draftI
      rw [es6]
      exact ⟨hdr.1, hdr.2.1, fun k k0 k1 => shEq.ok (fun a a2 a7 => em a _ (by omega) (by omega)) (hdr.2.2 k k0 k1)⟩
    · rw [e13] at i1
      by_cases e : i = q
      · subst e
        obtain ⟨z1, z2, z3⟩ := hfr.2.1 i (by omega) (by omega)
        have x14 : mg S' 14 i = a := by rw [hv 14 i i0]; simp
        have x15 : mg S' 15 i = w := by rw [hv 15 i i0]; simp
        have x16 : mg S' 16 i = g := by rw [hv 16 i i0]; simp
        have x17 : mg S' 17 i = -1 := by rw [hv 17 i i0]; simp
        have x18 : mg S' 18 i = 0 := (em 18 i i0 (by omega)).trans z1
        have x19 : mg S' 19 i = 0 := (em 19 i i0 (by omega)).trans z2
        have x20 : ∀ k, 0 ≤ k → k < 6 → mg S' 20 (6 * i + k) = -1 := fun k k0 k6 => by rw [hv 20 _ (by omega), if_pos (by omega)]
        have x21 : ∀ k, 0 ≤ k → k < 6 → mg S' 21 (6 * i + k) = 0 := fun k k0 k6 => (em 21 _ (by omega) (by omega)).trans (z3 k k0 k6)
        refine ⟨by omega, by omega, by omega, by omega, by omega, fun k k0 k6 => ?_, fun k l k0 kl l6 => ?_, by omega, by omega, fun z => by omega⟩
        · dsimp only [hdK, ltK]
          rw [x20 k k0 k6, x21 k k0 k6, x19]
          exact ⟨by omega, by omega, by omega, by omega, fun _ => rfl, fun z => absurd rfl z⟩
        · dsimp only [hdK, ltK]
          rw [x20 k k0 (by omega)]
          exact ⟨fun z => absurd rfl z, fun z => absurd rfl z⟩
      · exact mac_loc (hma i i0 (by omega)) (fun a a1 a2 => em a i i0 (by omega)) (fun k k0 k6 => ⟨em 20 _ (by omega) (by omega), em 21 _ (by omega) (by omega)⟩) (by omega) (fun z => by rw [em 26 _ z (by omega), em 27 _ z (by omega)]; exact (hma i i0 (by omega)).2.2.2.2.2.2.2.2.2 z)
    · have y := hor o o0 (by omega)
      refine ord_loc y (fun a a1 a2 => em a o o0 (by omega)) (fun c c0 c6 => em 31 _ (by omega) (by omega)) (by omega) (by omega) (fun z => ?_) (hde _ y.1.1 y.1.2) (hdq _ y.1.1)
      have y2 := y.2.2.2.1
      rw [em 17 _ z (by have := y2.2.1; omega)]; exact y2.2.2.1 z
    · obtain ⟨z1, z2, z3⟩ := hfr.2.1 i' (by omega) b
      exact ⟨(em 18 _ (by omega) (by omega)).trans z1, (em 19 _ (by omega) (by omega)).trans z2, fun k k0 k6 => (em 21 _ (by omega) (by omega)).trans (z3 k k0 k6)⟩
    · obtain ⟨z1, z2, z3, z4, z5⟩ := hfr.2.2 o (by omega) b
      exact ⟨(em 26 _ (by omega) (by omega)).trans z1, (em 28 _ (by omega) (by omega)).trans z2, (em 29 _ (by omega) (by omega)).trans z3, (em 30 _ (by omega) (by omega)).trans z4, fun c c0 c6 => (em 31 _ (by omega) (by omega)).trans (z5 c c0 c6)⟩
  · rw [h2 hk]; exact (h.up hn).th0
theorem design_MI {n : Int} {S S' : Sto} {k v : Int} (h : MI n S) (hn : n + 1 ≤ 15000) (hR : designR S k v S') : MI (n + 1) S' := by
  obtain ⟨h1, h2, h3⟩ := hR
  by_cases hk : k = 0
  · obtain ⟨-, T, hag, hS, hv, s1, s2, s3, v9, v10, v11, hdn⟩ := h3 hk
    have H := (h.up hn).th0 (k := 0)
    have hb : shN S 6 ≠ 0 ∧ nD S ≠ 6 := by
      rw [hk] at h1
      by_cases b : shN S 6 = 0 ∨ nD S = 6
      · rw [if_pos b] at h1; omega
      · omega
    have eD : nD S = nD (thr S 0) := rfl
    have e0 : ∀ (a : Nat) (i : Int), mg S a i = mg (thr S 0) a i := fun a i => u2.symm
    have e6 : shN S 6 = shN (thr S 0) 6 := rfl
    simp only [e0] at hv v9 v10 v11
    have s3 : ∀ i, 0 ≤ i → i < 6 → i ≠ nD S → mg T 1 i = mg (thr S 0) 1 i := fun i a b c => (s3 i a b c).trans (e0 1 i)
    simp only [eD, e6] at hv s1 s2 s3 v9 v10 v11 hdn hS hb
    generalize hT : thr S 0 = T0 at *
    obtain ⟨hM, hN, hdr, hde, hma, hor, hfr, hst⟩ := H
    obtain ⟨q, hq⟩ : ∃ q, nD T0 = q := ⟨_, rfl⟩
    rw [hq] at hS hb hv s1 s3 v9 v10 v11 hdn
    have hdr6 := hdr.2.1
    have e8 : nD S' = q + 1 := by rw [hS]; exact mfF.trans (if_pos rfl)
    have e13 : nM S' = nM T0 := by rw [hS]; exact (mfF.trans (if_neg (by omega))).trans hag.mf
    have e23 : nO S' = nO T0 := by rw [hS]; exact (mfF.trans (if_neg (by omega))).trans hag.mf
    have eT : ∀ (a : Nat) (i : Int), mg S' a i = mg T a i := fun a i => by rw [hS]; exact mgF
    have em : ∀ (a : Nat) (j : Int), 12 < a → a ≠ 32 → mg S' a j = mg T0 a j := fun a j ha h32 => (eT a j).trans (hag.mg (by simp; omega))
    have hdq : ∀ d, 0 ≤ d → d < q → desI T0 d → desEq T0 S' d := fun d d0 dq hd => ⟨(eT 1 d).trans (s3 d d0 (by omega) (by omega)), fun k k0 k1 a a2 a7 => (eT a _).trans ((hv a _ a2 a7 (by omega)).trans (if_neg (by have := hd.1.2.2.2.1; omega))), fun p p0 p1 => (eT 9 _).trans (v9 _ (by omega) (Or.inl (by have := hd.1.2.2.2.1; omega))), (eT 10 d).trans (v10 d d0 (by omega)), fun j j0 j1 => (eT 11 _).trans (v11 _ (by omega) (by have := hd.mn; omega))⟩
    have hdT : desEq T S' q := ⟨eT 1 q, fun k _ _ a _ _ => eT a _, fun p _ _ => eT 9 _, eT 10 q, fun j _ _ => eT 11 _⟩
    have es6 : shN S' 6 = 0 := (eT 1 6).trans s2
    refine ⟨by rw [hS]; exact hag.ms hM, by rw [e8, e13, e23]; omega, ⟨by omega, by omega, fun k k0 k1 => by omega⟩, fun d d0 d1 => ?_, fun i i0 i1 => mac_loc (hma i i0 (by omega)) (fun a a1 a2 => em a i (by omega) (by omega)) (fun k k0 k6 => ⟨em 20 _ (by omega) (by omega), em 21 _ (by omega) (by omega)⟩) (by omega) (fun z => by rw [em 26 _ (by omega) (by omega), em 27 _ (by omega) (by omega)]; exact (hma i i0 (by omega)).2.2.2.2.2.2.2.2.2 z),
      fun o o0 o1 => ?_, ⟨fun d a b => ?_, fun i' a b => ?_, fun o a b => ?_⟩, fun k k0 k1 => by rw [em 22 _ (by omega) (by omega)]; exact hst k k0 k1⟩
    · rw [e8] at d1
      by_cases e : d = q
      · rw [e]; exact desEq.des hdn hdT
      · exact desEq.des (hde d d0 (by omega)) (hdq d d0 (by omega) (hde d d0 (by omega)))
    · have y := hor o o0 (by omega)
      have y2 := hde _ y.1.1 y.1.2
      exact ord_loc y (fun a a1 a2 => em a o (by omega) (by omega)) (fun c c0 c6 => em 31 _ (by omega) (by omega)) (by omega) (by omega) (fun z => by rw [em 17 _ (by omega) (by omega)]; exact y.2.2.2.1.2.2.1 z) y2 (hdq _ y.1.1 (by have := y.1.2; omega) y2)
    · exact ((eT 10 d).trans (v10 d (by omega) (by omega))).trans (hfr.1 d (by omega) b)
    · obtain ⟨z1, z2, z3⟩ := hfr.2.1 i' (by omega) b
      exact ⟨(em 18 _ (by omega) (by omega)).trans z1, (em 19 _ (by omega) (by omega)).trans z2, fun k k0 k6 => (em 21 _ (by omega) (by omega)).trans (z3 k k0 k6)⟩
    · obtain ⟨z1, z2, z3, z4, z5⟩ := hfr.2.2 o (by omega) b
      exact ⟨(em 26 _ (by omega) (by omega)).trans z1, (em 28 _ (by omega) (by omega)).trans z2, (em 29 _ (by omega) (by omega)).trans z3, (em 30 _ (by omega) (by omega)).trans z4, fun c c0 c6 => (em 31 _ (by omega) (by omega)).trans (z5 c c0 c6)⟩
  · rw [h2 hk]; exact (h.up hn).th0

