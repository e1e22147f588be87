/-! THE LAW: the whole house is looked at -/
theorem sum_part {f : Nat → Int} {k : Nat} : ∀ n : Nat, k ≤ n → (∀ j, j < n → 0 ≤ f j) → 0 ≤ sumTo f k ∧ sumTo f k ≤ sumTo f n
  | 0, h, _ => by rw [show k = 0 by omega]; exact ⟨Int.le_refl _, Int.le_refl _⟩
  | n + 1, h, hf => by
    have hn := hf n (by omega)
    by_cases e : k = n + 1
    · rw [e]
      exact ⟨sum_nn _ hf, Int.le_refl _⟩
    · have := sum_part (k := k) n (by omega) (fun j hj => hf j (by omega))
      show 0 ≤ sumTo f k ∧ sumTo f k ≤ sumTo f n + f n
      omega
theorem thO_nn {R : Sto} {o : Int} (h1 : 0 ≤ mnK R (mg R 24 o) * mg R 28 o) (h2 : 0 ≤ mg R 30 o) (h3 : 0 ≤ mg R 29 o) : 0 ≤ thO R o := by
  unfold thO
  omega
theorem MI.tho {n : Int} {R : Sto} (h : MI n R) {o : Int} (o0 : 0 ≤ o) (o1 : o < nO R) : 0 ≤ thO R o := by
  have hor := h.2.2.2.2.2.1 o o0 o1
  have hmn := (h.2.2.2.1 _ hor.1.1 hor.1.2).mn
  have h5 := hor.2.2.2.2.1
  have h6 := hor.2.2.2.2.2.1
  have := Int.mul_nonneg (show 0 ≤ mnK R (mg R 24 o) by omega) (show 0 ≤ mg R 28 o by omega)
  exact thO_nn this h6.1 h5.2.2.1
theorem QI.r {n : Int} {R : Sto} {b : Int} (h : QI R b) (hI : MI n R) : 0 ≤ lfS R ∧ 0 ≤ swS R ∧ lfS R ≤ b ∧ swS R ≤ b := by
  have hN := hI.2.1
  have h1 : 0 ≤ lfS R := sum_nn _ fun j hj => (hI.2.2.2.2.2.2.2 j (by omega) (by omega)).1
  have h2 : 0 ≤ swS R := sum_nn _ fun j hj => (hI.2.2.2.2.1 j (by omega) (by omega)).2.2.2.2.1.1
  have := h.1
  omega
theorem LD.h {n : Int} {R : Sto} {i : Int} (h : LD R i) (hI : MI n R) (i0 : 0 ≤ i) (i1 : i < nM R) : (mg R 18 i = 0 ∧ hset R i (mg R 14 i).toNat = 0) ∨ (mg R 18 i ≠ 0 ∧ hset R i (mg R 14 i).toNat ≠ 0) := by
  have hm := hI.2.2.2.2.1 i i0 i1
  have h14 := hm.1
  have hb : ∀ k, 0 ≤ k → k < 6 → -1 ≤ hdK R i k ∧ hdK R i k < 6 := fun k k0 k6 => ⟨(hm.2.2.2.2.2.1 k k0 k6).1, (hm.2.2.2.2.2.1 k k0 k6).2.1⟩
  by_cases e : mg R 18 i = 0
  · left
    have ha := h.2.mp e
    exact ⟨e, hset_0 (fun k k0 k6 => by
      by_cases z : k < mg R 14 i
      · exact ha k k0 z
      · exact (hm.2.2.2.2.2.1 k k0 k6).2.2.2.2.1 (by omega)) _ (by omega)⟩
  · right
    refine ⟨e, fun z => e (h.2.mpr fun k k0 k1 => ?_)⟩
    rcases (show hdK R i k = -1 ∨ 0 ≤ hdK R i k by have := hb k k0 (by omega); omega) with y | y
    · exact y
    · exfalso
      have := (hset_b hb (hdK R i k).toNat (mg R 14 i).toNat (by omega)).mpr ⟨k.toNat, by omega, by rw [Int.toNat_of_nonneg k0, Int.toNat_of_nonneg y]⟩
      rw [z] at this
      simp at this
theorem MI.hs6 {n : Int} {R : Sto} (hI : MI n R) {i : Int} (i0 : 0 ≤ i) (i1 : i < nM R) : hset R i (mg R 14 i).toNat < 64 := by
  have hm := hI.2.2.2.2.1 i i0 i1
  have h14 := hm.1
  exact hset_lt (fun k k0 k6 => ⟨(hm.2.2.2.2.2.1 k k0 k6).1, (hm.2.2.2.2.2.1 k k0 k6).2.1⟩) _ (by omega)
def s_isWhole : Spec := fun as S post => match as with
  | [.inr (.inr (some 1)), .inr (.inr (some 3))] => ∃ xs Ln n R, PI xs Ln n R S ∧ (S.2.1 3 2 = nM R ∧ S.2.1 3 3 = nO R) ∧ QI R (S.2.1 3 4) ∧ S.2.1 3 4 ≤ 2000000 ∧ post (.inl (some (vI 1))) S
  | _ => False
def spL_isWhole : Nat → CD := spF mdL_isWhole fun i => match i with
  | 1 => ((frS s_leftI), 0, 0, 12)
  | 2 => ((frS s_ofMachineI), 0, 0, 12)
  | 3 => ((frS s_ofOrderI), 0, 0, 12)
  | 4 => ((frS s_stitchesI), 0, 0, 12)
  | _ => noR
set_option maxHeartbeats 40000000 in
set_option maxRecDepth 100000 in
theorem sat_L_isWhole : Sat mL_isWhole s_isWhole 0 0 13 := by
  refine sat_of (E := eL_isWhole) (sp := spL_isWhole) (ini := false) (by decide +kernel) (fun h => by cases h) okL_isWhole (fun i => match i with
    | 1 => ⟨frS_sat sat_X6_left_i, Nat.le_of_ble_eq_true rfl⟩
    | 2 => ⟨frS_sat sat_X6_ofMachine_i, Nat.le_of_ble_eq_true rfl⟩
    | 3 => ⟨frS_sat sat_X6_ofOrder_i, Nat.le_of_ble_eq_true rfl⟩
    | 4 => ⟨frS_sat sat_X6_stitches_i, Nat.le_of_ble_eq_true rfl⟩
    | i + 5 => ⟨sat_no _, Nat.le_of_ble_eq_true rfl⟩
    | 0 => ⟨sat_no _, Nat.le_of_ble_eq_true rfl⟩) ?_
  intro as S post h
  match as, h with
  | [.inr (.inr (some 1)), .inr (.inr (some 3))], h =>
    obtain ⟨xs, Ln, n9, R, hP, ⟨d2, d3⟩, hQ, hb, h⟩ := h
    have hI := hP.mi
    have hN := hI.2.1
    have t1 : ∃ n, S.1 1 = some (6, n) := ⟨9, hP.t1⟩
    have t3 := hP.x.1
    have e2 : S.2.1 3 (Int.toNat 2) = nM R := d2
    have e3 : S.2.1 3 (Int.toNat 3) = nO R := d3
    have e4 : S.2.1 3 (Int.toNat 4) = S.2.1 3 4 := rfl
    obtain ⟨qa, qb, qc, qd⟩ := hQ.r hI
    obtain ⟨q1, q2, q3⟩ := hQ
    generalize hbb : S.2.1 3 4 = b9 at *
    refine bodyL [(4, fun ms L st S' c => ∃ (k : Nat) (x4 x5 x6 x7 : AV), L = [vT 1, vT 3, vI (sumTo (fun j => mg R 22 (j : Int)) k), vI k, x4, x5, x6, x7] ∧ st = [] ∧ S' = S ∧ c = (0, 0) ∧ ms = 100 + (18 - k) ∧ k ≤ 18),
      (37, fun ms L st S' c => ∃ (k : Nat) (x6 x7 : AV), L = [vT 1, vT 3, vI (lfS R), vI (sumTo (fun j => mg R 19 (j : Int)) k), vI 1, vI k, x6, x7] ∧ st = [] ∧ S' = S ∧ c = (0, 0) ∧ ms = 60 + (4 - k) ∧ (k : Int) ≤ nM R),
      (180, fun ms L st S' c => ∃ (k : Nat) (x7 : AV), L = [vT 1, vT 3, vI (lfS R), vI (swS R), vI 1, vI (sumTo (fun j => thO R (j : Int)) k), vI k, x7] ∧ st = [] ∧ S' = S ∧ c = (0, 0) ∧ ms = 20 - k ∧ (k : Int) ≤ nO R)] 200 200 rfl
      (List.forall_mem_cons.mpr ⟨?_, List.forall_mem_cons.mpr ⟨?_, List.forall_mem_cons.mpr ⟨?_, fun q hq => by cases hq⟩⟩⟩) ?_
    · rintro ms L st S' c ⟨k, x4, x5, x6, x7, rfl, rfl, rfl, rfl, rfl, hk⟩
      have e9 : 3 * ((k : Int) / 3) + (k : Int) % 3 = k := by omega
      repeat' (first
          | omega
          | with_reducible apply And.intro
          | intro c9
          | exact t1
          | refine gg_left hP ⟨by omega, by omega, by omega, by omega⟩ ?_
          | rw [e9]
          | exact ⟨100 + (18 - (k + 1)), by omega, k + 1, _, _, _, _, by rw [Int.natCast_add]; rfl, rfl, rfl, rfl, rfl, by omega⟩
          | (rw [show k = 18 by omega]; exact ⟨64, by omega, 0, _, _, rfl, rfl, rfl, rfl, rfl, by omega⟩)
          | refine Exists.intro _ (And.intro rfl ?_)
          | ((with_reducible show wp _ _ _ _ _ _ _ _ _ _ _ _ _ _); conv => whnf)
          | ((with_reducible show callK _ _ _ _ _ _ _ _ _); conv => whnf)
          | ((with_reducible show condK _ _ _ _ _); conv => whnf)
          | ((with_reducible show st1 _ _ _ _ _ _ _ _ _ _ _ _); conv => whnf)
          | ((with_reducible show (Prod.fst _ : Spec) _ _ _); conv => whnf)
          | ((with_reducible show shortK _ _); conv => whnf)
          | exact Nat.le_of_ble_eq_true rfl)
    · rintro ms L st S' c ⟨k, x6, x7, rfl, rfl, rfl, rfl, rfl, hk⟩
      by_cases hkn : (k : Int) < nM R
      · have hm := hI.2.2.2.2.1 k (by omega) hkn
        have hj := hm.2.2.2.2.2.2.2
        have h18 := hm.2.2.2.1
        have h19 := hm.2.2.2.2.1
        have hld := q3 k (by omega) hkn
        have hl1 := hld.1
        have hl2 := hld.h hI (by omega) hkn
        have h64 := hI.hs6 (i := k) (by omega) hkn
        have hr : (0 ≤ (k : Int) ∧ (k : Int) < nM R) := ⟨by omega, hkn⟩
        generalize hHH : hset R k (mg R 14 k).toNat = H at *
        by_cases z : mg R 17 k = -1
        · clear hj
          repeat' (first
              | omega
              | with_reducible apply And.intro
              | intro c9
              | exact t1
              | rw [e2]
              | exact ⟨100, 5, t3, Or.inl rfl, by omega, by omega⟩
              | refine gg_mac3 hP ⟨hr, rfl⟩ ?_
              | refine gg_mac0 hP ⟨hr, rfl⟩ ?_
              | refine gg_mac1 hP ⟨hr, rfl⟩ ?_
              | (refine gg_mac2 hP ⟨hr, rfl⟩ ?_; rw [hHH])
              | exact ⟨60 + (4 - (k + 1)), by omega, k + 1, _, _, by rw [Int.natCast_add]; rfl, rfl, rfl, rfl, rfl, by omega⟩
              | refine Exists.intro _ (And.intro rfl ?_)
              | ((with_reducible show wp _ _ _ _ _ _ _ _ _ _ _ _ _ _); conv => whnf)
              | ((with_reducible show callK _ _ _ _ _ _ _ _ _); conv => whnf)
              | ((with_reducible show condK _ _ _ _ _); conv => whnf)
              | ((with_reducible show st1 _ _ _ _ _ _ _ _ _ _ _ _); conv => whnf)
              | ((with_reducible show (Prod.fst _ : Spec) _ _ _); conv => whnf)
              | ((with_reducible show shortK _ _); conv => whnf)
              | exact Nat.le_of_ble_eq_true rfl)
        · have hj0 : 0 ≤ mg R 17 k := by omega
          obtain ⟨j1, j2⟩ := hj.2.2 hj0
          have hjr : 0 ≤ mg R 17 k ∧ mg R 17 k < nO R := ⟨hj0, hj.2.1⟩
          clear hj
          repeat' (first
              | omega
              | with_reducible apply And.intro
              | intro c9
              | exact t1
              | rw [e2]
              | exact ⟨100, 5, t3, Or.inl rfl, by omega, by omega⟩
              | refine gg_mac3 hP ⟨hr, rfl⟩ ?_
              | refine gg_mac0 hP ⟨hr, rfl⟩ ?_
              | refine gg_mac1 hP ⟨hr, rfl⟩ ?_
              | (refine gg_mac2 hP ⟨hr, rfl⟩ ?_; rw [hHH])
              | refine gg_ord6 hP ⟨hjr, rfl⟩ ?_
              | refine gg_ord0 hP ⟨hjr, rfl⟩ ?_
              | exact ⟨60 + (4 - (k + 1)), by omega, k + 1, _, _, by rw [Int.natCast_add]; rfl, rfl, rfl, rfl, rfl, by omega⟩
              | refine Exists.intro _ (And.intro rfl ?_)
              | ((with_reducible show wp _ _ _ _ _ _ _ _ _ _ _ _ _ _); conv => whnf)
              | ((with_reducible show callK _ _ _ _ _ _ _ _ _); conv => whnf)
              | ((with_reducible show condK _ _ _ _ _); conv => whnf)
              | ((with_reducible show st1 _ _ _ _ _ _ _ _ _ _ _ _); conv => whnf)
              | ((with_reducible show (Prod.fst _ : Spec) _ _ _); conv => whnf)
              | ((with_reducible show shortK _ _); conv => whnf)
              | exact Nat.le_of_ble_eq_true rfl)
      · have ek : k = (nM R).toNat := by omega
        repeat' (first
            | omega
            | with_reducible apply And.intro
            | intro c9
            | exact t1
            | rw [e2]
            | exact ⟨100, 5, t3, Or.inl rfl, by omega, by omega⟩
            | (rw [ek]; exact ⟨20, by omega, 0, _, rfl, rfl, rfl, rfl, rfl, by omega⟩)
            | refine Exists.intro _ (And.intro rfl ?_)
            | ((with_reducible show wp _ _ _ _ _ _ _ _ _ _ _ _ _ _); conv => whnf)
            | ((with_reducible show callK _ _ _ _ _ _ _ _ _); conv => whnf)
            | ((with_reducible show condK _ _ _ _ _); conv => whnf)
            | ((with_reducible show st1 _ _ _ _ _ _ _ _ _ _ _ _); conv => whnf)
            | ((with_reducible show (Prod.fst _ : Spec) _ _ _); conv => whnf)
            | ((with_reducible show shortK _ _); conv => whnf)
            | exact Nat.le_of_ble_eq_true rfl)
    · rintro ms L st S' c ⟨k, x7, rfl, rfl, rfl, rfl, rfl, hk⟩
      by_cases hkn : (k : Int) < nO R
      · have hor := hI.2.2.2.2.2.1 k (by omega) hkn
        have hd := hor.1
        have h25 := hor.2.1
        have h26 := hor.2.2.1
        have h27 := hor.2.2.2.1
        have h5 := hor.2.2.2.2.1
        have h30 := hor.2.2.2.2.2.1
        have hmn := (hI.2.2.2.1 _ hd.1 hd.2).mn
        have hr : (0 ≤ (k : Int) ∧ (k : Int) < nO R) := ⟨by omega, hkn⟩
        have hst : (mg R 26 k = 2 ∧ mg R 28 k = mg R 25 k ∧ mg R 27 k = -1) ∨ (mg R 26 k = 1 ∧ mg R 28 k < mg R 25 k ∧ 0 ≤ mg R 27 k) ∨ ((mg R 26 k = 0 ∨ mg R 26 k = 3) ∧ mg R 28 k < mg R 25 k ∧ mg R 27 k = -1) := by
          obtain ⟨y1, y2, y3, y4, y5, y6, y7⟩ := h5
          have hno : mg R 26 k ≠ 1 → mg R 27 k = -1 := fun q => by
            rcases (show mg R 27 k = -1 ∨ 0 ≤ mg R 27 k by omega) with w | w
            · exact w
            · exact absurd (h27.2.2.2.mpr w) q
          rcases (show mg R 26 k = 0 ∨ mg R 26 k = 1 ∨ mg R 26 k = 2 ∨ mg R 26 k = 3 by omega) with w | w | w | w
          · have a := y7 (by omega) (by omega)
            exact Or.inr (Or.inr ⟨Or.inl w, by omega, hno (by omega)⟩)
          · exact Or.inr (Or.inl ⟨w, y5 w, h27.2.2.2.mp w⟩)
          · exact Or.inl ⟨w, (y6 w).1, hno (by omega)⟩
          · have a := y7 (by omega) (by omega)
            exact Or.inr (Or.inr ⟨Or.inr w, by omega, hno (by omega)⟩)
        have h5' : 0 ≤ mg R 28 k ∧ mg R 28 k ≤ mg R 25 k ∧ 0 ≤ mg R 29 k ∧ mg R 29 k < mnK R (mg R 24 k) := ⟨h5.1, h5.2.1, h5.2.2.1, h5.2.2.2.1⟩
        have h27' : -1 ≤ mg R 27 k ∧ mg R 27 k < nM R := ⟨h27.1, h27.2.1⟩
        clear h5 h27 hor
        rcases hst with ⟨s1, s2, s3⟩ | ⟨s1, s2, s3⟩ | ⟨s1 | s1, s2, s3⟩
        repeat' (first
            | omega
            | with_reducible apply And.intro
            | intro c9
            | exact t1
            | rw [e3]
            | exact ⟨100, 5, t3, Or.inl rfl, by omega, by omega⟩
            | refine gg_ord0 hP ⟨hr, rfl⟩ ?_
            | refine gg_ord1 hP ⟨hr, rfl⟩ ?_
            | refine gg_ord2 hP ⟨hr, rfl⟩ ?_
            | refine gg_ord3 hP ⟨hr, rfl⟩ ?_
            | refine gg_ord4 hP ⟨hr, rfl⟩ ?_
            | refine gg_ord5 hP ⟨hr, rfl⟩ ?_
            | refine gg_ord6 hP ⟨hr, rfl⟩ ?_
            | refine gg_stAll hP ⟨hd, rfl⟩ ?_
            | exact ⟨20 - (k + 1), by omega, k + 1, _, by rw [Int.natCast_add]; rfl, rfl, rfl, rfl, rfl, by omega⟩
            | refine Exists.intro _ (And.intro rfl ?_)
            | ((with_reducible show wp _ _ _ _ _ _ _ _ _ _ _ _ _ _); conv => whnf)
            | ((with_reducible show callK _ _ _ _ _ _ _ _ _); conv => whnf)
            | ((with_reducible show condK _ _ _ _ _); conv => whnf)
            | ((with_reducible show st1 _ _ _ _ _ _ _ _ _ _ _ _); conv => whnf)
            | ((with_reducible show (Prod.fst _ : Spec) _ _ _); conv => whnf)
            | ((with_reducible show shortK _ _); conv => whnf)
            | exact Nat.le_of_ble_eq_true rfl)
      · have ek : k = (nO R).toNat := by omega
        have eth : sumTo (fun j => thO R (j : Int)) k = swS R := by rw [ek]; exact q2.symm
        repeat' (first
            | omega
            | with_reducible apply And.intro
            | intro c9
            | exact t1
            | rw [e3]
            | rw [eth]
            | rw [e4]
            | exact ⟨100, 5, t3, Or.inl rfl, by omega, by omega⟩
            | exact kr_i ( h ) (Nat.le_of_ble_eq_true rfl) (Nat.le_of_ble_eq_true rfl)
            | refine Exists.intro _ (And.intro rfl ?_)
            | ((with_reducible show wp _ _ _ _ _ _ _ _ _ _ _ _ _ _); conv => whnf)
            | ((with_reducible show callK _ _ _ _ _ _ _ _ _); conv => whnf)
            | ((with_reducible show condK _ _ _ _ _); conv => whnf)
            | ((with_reducible show st1 _ _ _ _ _ _ _ _ _ _ _ _); conv => whnf)
            | ((with_reducible show (Prod.fst _ : Spec) _ _ _); conv => whnf)
            | ((with_reducible show shortK _ _); conv => whnf)
            | exact Nat.le_of_ble_eq_true rfl)
    · repeat' (first
          | omega
          | with_reducible apply And.intro
          | intro c9
          | exact t1
          | exact ⟨118, by omega, 0, _, _, _, _, rfl, rfl, rfl, rfl, rfl, by omega⟩
          | refine Exists.intro _ (And.intro rfl ?_)
          | ((with_reducible show wp _ _ _ _ _ _ _ _ _ _ _ _ _ _); conv => whnf)
          | ((with_reducible show callK _ _ _ _ _ _ _ _ _); conv => whnf)
          | ((with_reducible show condK _ _ _ _ _); conv => whnf)
          | ((with_reducible show st1 _ _ _ _ _ _ _ _ _ _ _ _); conv => whnf)
          | ((with_reducible show (Prod.fst _ : Spec) _ _ _); conv => whnf)
          | ((with_reducible show shortK _ _); conv => whnf)
          | exact Nat.le_of_ble_eq_true rfl)

