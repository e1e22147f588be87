def spX6_run : Nat → CD := spF mdX6_run fun i => match i with
  | 1 => (s_machineAt, 1, 6, 1)
  | 2 => (s_isFrom1To, 0, 0, 1)
  | 3 => (s_sewStretch, 0, 0, 4)
  | _ => noR
set_option maxHeartbeats 4000000 in
set_option maxRecDepth 100000 in
theorem sat_X6_run : Sat mX6_run s_runC 2 12 12 := by
  refine sat_of (E := eX6_run) (sp := spX6_run) (ini := false) (by decide +kernel) (fun h => by cases h) okX6_run (fun i => match i with
    | 1 => ⟨sat_X6_machineAt, Nat.le_of_ble_eq_true rfl⟩
    | 2 => ⟨sat_X6_isFrom1To, Nat.le_of_ble_eq_true rfl⟩
    | 3 => ⟨sat_X6_sewStretch, Nat.le_of_ble_eq_true rfl⟩
    | i + 4 => ⟨sat_no _, Nat.le_of_ble_eq_true rfl⟩
    | 0 => ⟨sat_no _, Nat.le_of_ble_eq_true rfl⟩) ?_
  intro as S post h
  match as, h with
  | [.inr (.inr (some 1)), .inl m, .inl st], h =>
    obtain ⟨W, hW, hd, hA, hA1, hB⟩ := h
    have hr := hW.r5
    have hc := hW.1
    by_cases z : 0 ≤ m ∧ m < S.2.1 1 5
    · obtain ⟨hT, ⟨m1, m2, m3⟩, -, -, -, hj⟩ := hW.mc z
      by_cases zs : 1 ≤ st ∧ st ≤ 100000
      · obtain ⟨hB1, hB2⟩ := hB z zs
        rcases hj with hj | ⟨o, ho, hj, -⟩
        · refine body0 200 rfl ?_
          repeat' (first
              | omega
              | with_reducible apply And.intro
              | (intro c9; (try simp only [mg, mf, colK, stK, clK, mnK, shN] at c9))
              | exact hc
              | exact ⟨9, hc.1⟩
              | exact ⟨9, m1⟩
              | (rw [hj] at c9; cases c9; done)
              | exact hB1 hj
              | (simp only [mg, mf, colK, stK, clK, mnK, shN]; omega)
              | refine Exists.intro _ (And.intro rfl ?_)
              | refine Exists.intro _ (And.intro (hT) ?_)
              | refine Exists.intro _ (And.intro (hj) ?_)
              | ((with_reducible show wp _ _ _ _ _ _ _ _ _ _ _ _ _ _); conv => whnf)
              | ((with_reducible show callK _ _ _ _ _ _ _ _ _); conv => whnf)
              | ((with_reducible show condK _ _ _ _ _); conv => whnf)
              | ((with_reducible show st1 _ _ _ _ _ _ _ _ _ _ _ _); conv => whnf)
              | ((with_reducible show (Prod.fst _ : Spec) _ _ _); conv => whnf)
              | ((with_reducible show shortK _ _); conv => whnf)
              | exact Nat.le_of_ble_eq_true rfl)
        · obtain ⟨J, hJ0, hJ1, hJ⟩ := hB2 (by rw [hj]; simp)
          refine bodyL [(48, fun ms L st' S' cc => ∃ x j a6, L = [vT 1, vI m, vI st, vT (1024 + 16 * m.toNat), vI x, vI j, a6] ∧ st' = [] ∧ cc = (1, 6) ∧ ms = (st - x).toNat ∧ 0 ≤ j ∧ j ≤ x ∧ x ≤ st ∧ J x S')] 100001 140 rfl
            (List.forall_mem_cons.mpr ⟨?_, fun q hq => by cases hq⟩) ?_
          · rintro ms L st' S' cc ⟨x, j, a6, rfl, rfl, rfl, rfl, j0, jx, xs, hx⟩
            have e1 : x = st → post (.inl (some (vI x))) S' := fun e => by rw [e]; rw [e] at hx; exact hJ1 S' hx
            have e2 := fun a b => hJ x S' a b hx
            repeat' (first
                | omega
                | with_reducible apply And.intro
                | (intro c9; (try simp only [mg, mf, colK, stK, clK, mnK, shN] at c9))
                | exact e1 (by omega)
                | (obtain ⟨W1, w1, -⟩ := e2 (by omega) (by omega); exact ⟨9, w1.1.1⟩)
                | (obtain ⟨W1, w1, w2, w3, w4⟩ := e2 (by omega) (by omega); refine ⟨W1, m.toNat, rfl, w1, by omega, by omega, ?_, ?_⟩)
                | exact w3 ‹_›
                | exact (w4 _ _ _ _ _ ‹(_ : Int) < S'.2.1 1 7› ‹S'.2.2 _ 4 = some _› ‹strP _ _ _ _ _ _ _ _›).1 ‹_›
                | (have q := ((w4 _ _ _ _ _ ‹(_ : Int) < S'.2.1 1 7› ‹S'.2.2 _ 4 = some _› ‹strP _ _ _ _ _ _ _ _›).2 ‹(0 : Int) < _›).1; omega)
                | (simp only [mg, mf, colK, stK, clK, mnK, shN]; omega)
                | refine Exists.intro _ (And.intro rfl ?_)
                | ((with_reducible show wp _ _ _ _ _ _ _ _ _ _ _ _ _ _); conv => whnf)
                | ((with_reducible show callK _ _ _ _ _ _ _ _ _); conv => whnf)
                | ((with_reducible show condK _ _ _ _ _); conv => whnf)
                | ((with_reducible show st1 _ _ _ _ _ _ _ _ _ _ _ _); conv => whnf)
                | ((with_reducible show (Prod.fst _ : Spec) _ _ _); conv => whnf)
                | ((with_reducible show shortK _ _); conv => whnf)
                | exact Nat.le_of_ble_eq_true rfl)
            · obtain ⟨q1, q2⟩ := (w4 _ _ _ _ _ ‹(_ : Int) < S'.2.1 1 7› ‹S'.2.2 _ 4 = some _› ‹strP _ _ _ _ _ _ _ _›).2 ‹(0 : Int) < _›
              refine ⟨_, ?_, _, _, _, rfl, rfl, rfl, rfl, ?_, ?_, ?_, q2 _ ‹_›⟩ <;> omega
          · repeat' (first
                | omega
                | with_reducible apply And.intro
                | (intro c9; (try simp only [mg, mf, colK, stK, clK, mnK, shN] at c9))
                | exact hc
                | exact ⟨9, hc.1⟩
                | exact ⟨9, m1⟩
                | rw [hT]
                | (rw [hj] at c9; cases c9; done)
                | exact ⟨(st - 0).toNat, by omega, 0, 0, _, rfl, rfl, rfl, rfl, by omega, by omega, by omega, hJ0⟩
                | (simp only [mg, mf, colK, stK, clK, mnK, shN]; omega)
                | refine Exists.intro _ (And.intro rfl ?_)
                | refine Exists.intro _ (And.intro (hT) ?_)
                | refine Exists.intro _ (And.intro (hj) ?_)
                | ((with_reducible show wp _ _ _ _ _ _ _ _ _ _ _ _ _ _); conv => whnf)
                | ((with_reducible show callK _ _ _ _ _ _ _ _ _); conv => whnf)
                | ((with_reducible show condK _ _ _ _ _); conv => whnf)
                | ((with_reducible show st1 _ _ _ _ _ _ _ _ _ _ _ _); conv => whnf)
                | ((with_reducible show (Prod.fst _ : Spec) _ _ _); conv => whnf)
                | ((with_reducible show shortK _ _); conv => whnf)
                | exact Nat.le_of_ble_eq_true rfl)
      · refine body0 200 rfl ?_
        repeat' (first
            | omega
            | with_reducible apply And.intro
            | (intro c9; (try simp only [mg, mf, colK, stK, clK, mnK, shN] at c9))
            | exact hc
            | exact ⟨9, hc.1⟩
            | exact hA1 z zs
            | (simp only [mg, mf, colK, stK, clK, mnK, shN]; omega)
            | refine Exists.intro _ (And.intro rfl ?_)
            | refine Exists.intro _ (And.intro (hT) ?_)
            | ((with_reducible show wp _ _ _ _ _ _ _ _ _ _ _ _ _ _); conv => whnf)
            | ((with_reducible show callK _ _ _ _ _ _ _ _ _); conv => whnf)
            | ((with_reducible show condK _ _ _ _ _); conv => whnf)
            | ((with_reducible show st1 _ _ _ _ _ _ _ _ _ _ _ _); conv => whnf)
            | ((with_reducible show (Prod.fst _ : Spec) _ _ _); conv => whnf)
            | ((with_reducible show shortK _ _); conv => whnf)
            | exact Nat.le_of_ble_eq_true rfl)
    · refine body0 200 rfl ?_
      repeat' (first
          | omega
          | with_reducible apply And.intro
          | (intro c9; (try simp only [mg, mf, colK, stK, clK, mnK, shN] at c9))
          | exact hc
          | exact ⟨9, hc.1⟩
          | exact hA z
          | (simp only [mg, mf, colK, stK, clK, mnK, shN]; omega)
          | refine Exists.intro _ (And.intro rfl ?_)
          | ((with_reducible show wp _ _ _ _ _ _ _ _ _ _ _ _ _ _); conv => whnf)
          | ((with_reducible show callK _ _ _ _ _ _ _ _ _); conv => whnf)
          | ((with_reducible show condK _ _ _ _ _); conv => whnf)
          | ((with_reducible show st1 _ _ _ _ _ _ _ _ _ _ _ _); conv => whnf)
          | ((with_reducible show (Prod.fst _ : Spec) _ _ _); conv => whnf)
          | ((with_reducible show shortK _ _); conv => whnf)
          | exact Nat.le_of_ble_eq_true rfl)

