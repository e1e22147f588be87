theorem stock_MI {n : Int} {S S' : Sto} {c s x k v : Int} (h : MI n S) (hn : n + 1 ≤ 15000) (hR : stockR S c s x k v S') : MI (n + 1) S' := by
  obtain ⟨h1, h2, h3⟩ := hR
  by_cases hk : k = 0
  · obtain ⟨-, rfl⟩ := h3 hk
    have H := (h.up hn).th0 (k := 0)
    have hcs : (0 ≤ c ∧ c < 6 ∧ 0 ≤ s ∧ s < 3) ∧ (1 ≤ x ∧ x ≤ 100000) ∧ ¬ mg S 22 (3 * c + s) + x > 1000000 := by
      rw [hk] at h1
      refine ⟨Classical.byContradiction fun q => ?_, Classical.byContradiction fun q => ?_, fun q => ?_⟩
      · rw [if_pos q] at h1; omega
      · by_cases a : 0 ≤ c ∧ c < 6 ∧ 0 ≤ s ∧ s < 3
        · rw [if_neg (fun z => z a), if_pos q] at h1; omega
        · rw [if_pos a] at h1; omega
      · by_cases a : 0 ≤ c ∧ c < 6 ∧ 0 ≤ s ∧ s < 3
        · by_cases b : 1 ≤ x ∧ x ≤ 100000
          · rw [if_neg (fun z => z a), if_neg (fun z => z b), if_pos q] at h1; omega
          · rw [if_neg (fun z => z a), if_pos b] at h1; omega
        · rw [if_pos a] at h1; omega
    generalize hT : thr S 0 = T at *
    have e22 : mg S 22 (3 * c + s) = mg T 22 (3 * c + s) := by rw [← hT]; exact u2.symm
    have hag : agr [22] T (updI T (mt 22) (3 * c + s).toNat (mg S 22 (3 * c + s) + x)) := agr.rf.upd (by simp)
    have hk9 : ∀ q, q = 1 ∨ q = 2 ∨ q = 3 ∨ q = 4 ∨ q = 5 ∨ q = 6 ∨ q = 7 ∨ q = 9 ∨ q = 10 ∨ q = 11 → q ∉ [22] := fun q hq => by simp; omega
    have em : ∀ (a : Nat) (i : Int), a ≠ 22 → mg (updI T (mt 22) (3 * c + s).toNat (mg S 22 (3 * c + s) + x)) a i = mg T a i := fun a i ha => hag.mg (by simp; exact ha)
    obtain ⟨hM, hN, hdr, hde, hma, hor, hfr, hst⟩ := H
    refine ⟨hM, hN, draft_ag hag hk9 hdr, fun d d0 d1 => desEq.des (hde d d0 d1) (desEq_ag hag hk9 d), fun i i0 i1 => mac_loc (hma i i0 i1) (fun a a1 a2 => em a i (by omega)) (fun k k0 k6 => ⟨em 20 _ (by omega), em 21 _ (by omega)⟩) (Int.le_refl _) (fun q => by rw [em 26 _ (by omega), em 27 _ (by omega)]; exact (hma i i0 i1).2.2.2.2.2.2.2.2.2 q),
      fun o o0 o1 => ord_loc (hor o o0 o1) (fun a a1 a2 => em a o (by omega)) (fun c c0 c6 => em 31 _ (by omega)) (Int.le_refl _) (Int.le_refl _) (fun q => by rw [em 17 _ (by omega)]; exact (hor o o0 o1).2.2.2.1.2.2.1 q) (hde _ (hor o o0 o1).1.1 (hor o o0 o1).1.2) (desEq_ag hag hk9 _), hfr, fun q q0 q1 => ?_⟩
    have y := hst q q0 q1
    have y2 := hst (3 * c + s) (by omega) (by omega)
    rw [mgU]
    by_cases e : 22 = 22 ∧ q.toNat = (3 * c + s).toNat
    · rw [if_pos e]; omega
    · rw [if_neg e]; exact y
  · rw [h2 hk]; exact (h.up hn).th0
theorem wipe_MI {n : Int} {S S' : Sto} {k v : Int} (h : MI n S) (hn : n + 1 ≤ 15000) (hR : wipeR S k v S') : MI (n + 1) S' := by
  obtain ⟨-, -, rfl⟩ := hR
  have H := (h.up hn).th0 (k := 0)
  generalize hT : thr S 0 = T at *
  have hag : agr [1] T (updI T (mt 1) 6 0) := agr.rf.upd (by simp)
  have em : ∀ (a : Nat) (i : Int), a ≠ 1 ∨ (0 ≤ i ∧ i < 6) → mg (updI T (mt 1) 6 0) a i = mg T a i := fun a i ha => by
    rw [mgU, if_neg (by omega)]
  have hdq : ∀ d, 0 ≤ d → d < 6 → desEq T (updI T (mt 1) 6 0) d := fun d d0 d6 => ⟨em 1 d (Or.inr ⟨d0, d6⟩), fun k _ _ a a2 a7 => em a _ (Or.inl (by omega)), fun p _ _ => em 9 _ (Or.inl (by omega)), em 10 _ (Or.inl (by omega)), fun j _ _ => em 11 _ (Or.inl (by omega))⟩
  obtain ⟨hM, hN, hdr, hde, hma, hor, hfr, hst⟩ := H
  have e6 : shN (updI T (mt 1) 6 0) 6 = 0 := by
    show mg (updI T (mt 1) 6 0) 1 6 = 0
    rw [mgU, if_pos ⟨rfl, rfl⟩]
  refine ⟨hM, hN, ⟨by omega, by omega, fun k k0 k1 => by omega⟩, fun d d0 d1 => desEq.des (hde d d0 d1) (hdq d d0 (by have := hN; show d < 6; have e : nD (updI T (mt 1) 6 0) = nD T := rfl; omega)), fun i i0 i1 => mac_loc (hma i i0 i1) (fun a a1 a2 => em a i (Or.inl (by omega))) (fun k k0 k6 => ⟨em 20 _ (Or.inl (by omega)), em 21 _ (Or.inl (by omega))⟩) (Int.le_refl _) (fun q => by rw [em 26 _ (Or.inl (by omega)), em 27 _ (Or.inl (by omega))]; exact (hma i i0 i1).2.2.2.2.2.2.2.2.2 q),
      fun o o0 o1 => ord_loc (hor o o0 o1) (fun a a1 a2 => em a o (Or.inl (by omega))) (fun c c0 c6 => em 31 _ (Or.inl (by omega))) (Int.le_refl _) (Int.le_refl _) (fun q => by rw [em 17 _ (Or.inl (by omega))]; exact (hor o o0 o1).2.2.2.1.2.2.1 q) (hde _ (hor o o0 o1).1.1 (hor o o0 o1).1.2) (hdq _ (hor o o0 o1).1.1 (by have := (hor o o0 o1).1.2; omega)), hfr, hst⟩
theorem shape_MI {n : Int} {S S' : Sto} {i c x y w g k v : Int} (h : MI n S) (hn : n + 1 ≤ 15000) (hR : shapeR S i c x y w g k v S') : MI (n + 1) S' := by
  obtain ⟨h1, h2, h3⟩ := hR
  by_cases hk : k = 0
  · obtain ⟨-, hS⟩ := h3 hk
    have H := (h.up hn).th0 (k := 0)
    have hb : (0 ≤ i ∧ i ≤ 1 ∧ 0 ≤ c ∧ c < 6) ∧ (0 ≤ x ∧ x ≤ 15 ∧ 0 ≤ y ∧ y ≤ 15 ∧ 1 ≤ w ∧ w ≤ 16 - x ∧ 1 ≤ g ∧ g ≤ 16 - y) ∧ shN S 6 ≠ 7 := by
      rw [hk] at h1
      by_cases a : 0 ≤ i ∧ i ≤ 1 ∧ 0 ≤ c ∧ c < 6
      · rw [if_neg (fun z => z a)] at h1
        by_cases b : 0 ≤ x ∧ x ≤ 15 ∧ 0 ≤ y ∧ y ≤ 15 ∧ 1 ≤ w ∧ w ≤ 16 - x ∧ 1 ≤ g ∧ g ≤ 16 - y
        · rw [if_neg (fun z => z b)] at h1
          by_cases e : shN S 6 = 7
          · rw [if_pos e] at h1; omega
          · exact ⟨a, b, e⟩
        · rw [if_pos b] at h1; omega
      · rw [if_pos a] at h1; omega
    obtain ⟨b1, b2, b3⟩ := hb
    have e6 : shN S 6 = shN (thr S 0) 6 := rfl
    rw [e6] at hS b3
    generalize hT : thr S 0 = T at *
    obtain ⟨hM, hN, hdr, hde, hma, hor, hfr, hst⟩ := H
    obtain ⟨q, hq⟩ : ∃ q, shN T 6 = q := ⟨_, rfl⟩
    have hdr2 := hdr
    unfold draftI at hdr2
    rw [hq] at hS b3 hdr2
    have hq42 : (0 : Int) ≤ 42 + q := by omega
    have hv : ∀ (a : Nat) (j : Int), 0 ≤ j → mg S' a j = if a = 1 ∧ j = 6 then q + 1 else if a = 7 ∧ j = 42 + q then g else if a = 6 ∧ j = 42 + q then w else if a = 5 ∧ j = 42 + q then y else if a = 4 ∧ j = 42 + q then x else if a = 3 ∧ j = 42 + q then c else if a = 2 ∧ j = 42 + q then i else mg T a j := fun a j j0 => by
      rw [hS]
      simp only [mgU, tnE j0 hq42, show (j.toNat = 6) = (j = 6) from propext ⟨fun z => by omega, fun z => by omega⟩]
    have hag : agr [1, 2, 3, 4, 5, 6, 7] T S' := by
      rw [hS]
      exact ((((((agr.rf.upd (by simp)).upd (by simp)).upd (by simp)).upd (by simp)).upd (by simp)).upd (by simp)).upd (by simp)
    have em : ∀ (a : Nat) (j : Int), 7 < a → mg S' a j = mg T a j := fun a j ha => hag.mg (by simp; omega)
    have es : ∀ j, 0 ≤ j → j < 42 + q → shEq T S' j := fun j j0 j1 a a2 a7 => by
      rw [hv a j j0, if_neg (by omega), if_neg (by omega), if_neg (by omega), if_neg (by omega), if_neg (by omega), if_neg (by omega), if_neg (by omega)]
    have e1 : ∀ j, 0 ≤ j → j ≠ 6 → mg S' 1 j = mg T 1 j := fun j j0 j6 => by
      rw [hv 1 j j0, if_neg (by omega), if_neg (by omega), if_neg (by omega), if_neg (by omega), if_neg (by omega), if_neg (by omega), if_neg (by omega)]
    have hdq : ∀ d, 0 ≤ d → d < 6 → desI T d → desEq T S' d := fun d d0 d6 hd => ⟨e1 d d0 (by omega), fun k k0 k1 => es _ (by omega) (by have := hd.1.2.2.2.1; omega), fun p _ _ => em 9 _ (by omega), em 10 _ (by omega), fun j _ _ => em 11 _ (by omega)⟩
    have e8 : nD S' = nD T := hag.mf
    have e13 : nM S' = nM T := hag.mf
    have e23 : nO S' = nO T := hag.mf
    have es6 : shN S' 6 = q + 1 := by
      show mg S' 1 6 = _
      rw [hv 1 6 (by omega), if_pos ⟨rfl, rfl⟩]
    refine ⟨hag.ms hM, by rw [e8, e13, e23]; exact hN, ⟨by omega, by omega, fun k k0 k1 => ?_⟩, fun d d0 d1 => ?_, fun i' i0 i1 => mac_loc (hma i' i0 (by omega)) (fun a a1 a2 => em a i' (by omega)) (fun k k0 k6 => ⟨em 20 _ (by omega), em 21 _ (by omega)⟩) (by omega) (fun z => by rw [em 26 _ (by omega), em 27 _ (by omega)]; exact (hma i' i0 (by omega)).2.2.2.2.2.2.2.2.2 z),
      fun o o0 o1 => ?_, ⟨fun d a b => (em 10 d (by omega)).trans (hfr.1 d (by omega) b), fun i' a b => ?_, fun o a b => ?_⟩, fun k k0 k1 => by rw [em 22 _ (by omega)]; exact hst k k0 k1⟩
    · rw [es6] at k1
      by_cases e : k = q
      · subst e
        unfold shOK
        rw [hv 2 _ (by omega), hv 3 _ (by omega), hv 4 _ (by omega), hv 5 _ (by omega), hv 6 _ (by omega), hv 7 _ (by omega)]
        simp
        omega
      · exact (es _ (by omega) (by omega)).ok (hdr2.2.2 k k0 (by omega))
    · rw [e8] at d1
      exact desEq.des (hde d d0 d1) (hdq d d0 (by omega) (hde d d0 d1))
    · rw [e23] at o1
      have y := hor o o0 o1
      exact ord_loc y (fun a a1 a2 => em a o (by omega)) (fun c c0 c6 => em 31 _ (by omega)) (by omega) (by omega) (fun z => by rw [em 17 _ (by omega)]; exact y.2.2.2.1.2.2.1 z) (hde _ y.1.1 y.1.2) (hdq _ y.1.1 (by have := y.1.2; omega) (hde _ y.1.1 y.1.2))
    · obtain ⟨z1, z2, z3⟩ := hfr.2.1 i' (by omega) b
      exact ⟨(em 18 _ (by omega)).trans z1, (em 19 _ (by omega)).trans z2, fun k k0 k6 => (em 21 _ (by omega)).trans (z3 k k0 k6)⟩
    · obtain ⟨z1, z2, z3, z4, z5⟩ := hfr.2.2 o (by omega) b
      exact ⟨(em 26 _ (by omega)).trans z1, (em 28 _ (by omega)).trans z2, (em 29 _ (by omega)).trans z3, (em 30 _ (by omega)).trans z4, fun c c0 c6 => (em 31 _ (by omega)).trans (z5 c c0 c6)⟩
  · rw [h2 hk]; exact (h.up hn).th0

