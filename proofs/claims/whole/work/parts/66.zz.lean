theorem swV_p {U : Sto} {o d : Int} (h : mg U 29 o = mnK U d) : swV U o d = sw6 (sw5 U o) o := if_pos h
theorem swV_n {U : Sto} {o d : Int} (h : mg U 29 o ≠ mnK U d) : swV U o d = U := if_neg h
theorem swW_p {V : Sto} {o : Int} (h : mg V 28 o = mg V 25 o) : swW V o = lvU (updI V (mt 26) o.toNat 2) o := if_pos h
theorem swW_n {V : Sto} {o : Int} (h : mg V 28 o ≠ mg V 25 o) : swW V o = V := if_neg h
def s_sewsOne : Spec := fun as S post => match as with
  | [.inr (.inr (some 2)), .inl m] => (∃ n, MI n S) ∧ (0 ≤ m ∧ m < nM S ∧ 0 ≤ jbO S m) ∧ (mg S 22 (jbT S m) = 0 → post (.inl (some (vI 0))) S) ∧ ∀ S', stepP S m S' → post (.inl (some (vI 1))) S'
  | _ => False
def spX7_sewsOne : Nat → CD := spF mdX7_sewsOne fun i => match i with
  | 1 => (s_colourAt, 0, 0, 1)
  | 2 => (s_head, 0, 0, 1)
  | 3 => (s_leaves, 0, 0, 1)
  | _ => noR
set_option maxHeartbeats 4000000 in
set_option maxRecDepth 100000 in
theorem sat_X7_sewsOne : Sat mX7_sewsOne s_sewsOne 0 0 2 := by
  refine sat_of (E := eX7_sewsOne) (sp := spX7_sewsOne) (ini := false) (by decide +kernel) (fun h => by cases h) okX7_sewsOne (fun i => match i with
    | 1 => ⟨sat_X7_colourAt, Nat.le_of_ble_eq_true rfl⟩
    | 2 => ⟨sat_X7_head, Nat.le_of_ble_eq_true rfl⟩
    | 3 => ⟨sat_X7_leaves, Nat.le_of_ble_eq_true rfl⟩
    | i + 4 => ⟨sat_no _, Nat.le_of_ble_eq_true rfl⟩
    | 0 => ⟨sat_no _, Nat.le_of_ble_eq_true rfl⟩) ?_
  intro as S post h
  match as, h with
  | [.inr (.inr (some 2)), .inl m], h =>
    obtain ⟨⟨n9, hI⟩, ⟨m0, m1, j0⟩, hA, hB⟩ := h
    have hI2 := hI
    obtain ⟨hM, hN, -, -, -, -, -, hstk⟩ := hI2
    have hr := hM.2.1
    obtain ⟨a1, a2, a3, a4, a5, a6, a7, a8, a9, a10⟩ := hI.job m0 m1 j0
    have hmm := hI.2.2.2.2.1 m m0 m1
    have hmn := a10.mn
    have m4 : m < 4 := by omega
    have o20 : jbO S m < 20 := by omega
    have d6 : jbD S m < 6 := by omega
    have hpp := a2.2.2.2.2.1
    have hb25 := a2.2.1
    have h29 : 0 ≤ mg S 29 (jbO S m) ∧ mg S 29 (jbO S m) < 2240 := ⟨hpp.2.2.1, Int.lt_of_lt_of_le hpp.2.2.2.1 hmn.2⟩
    have h28 : 0 ≤ mg S 28 (jbO S m) ∧ mg S 28 (jbO S m) ≤ 50 := by omega
    have hhd : hdOK S m := ⟨m0, m4, hmm.1.1, hmm.1.2, fun k k0 k6 => ⟨(hmm.2.2.2.2.2.1 k k0 k6).1, (hmm.2.2.2.2.2.1 k k0 k6).2.1, by have q := hmm.2.2.2.2.2.1 k k0 k6; have q9 := hmm.2.2.2.2.1; dsimp only [ltK] at q ⊢; omega, by have q := hmm.2.2.2.2.2.1 k k0 k6; have q9 := hmm.2.2.2.2.1; dsimp only [ltK] at q ⊢; omega⟩⟩
    have hth := hstk (jbT S m) (by show 0 ≤ 3 * jbC S m + mg S 31 (6 * jbO S m + jbC S m); omega) (by show 3 * jbC S m + mg S 31 (6 * jbO S m + jbC S m) < 18; omega)
    have hx20 := hhd.2.2.1
    have hx21 := hhd.2.2.2.1
    obtain ⟨o, ho⟩ : ∃ o, S.2.1 (mt 17) m.toNat = o := ⟨_, rfl⟩
    obtain ⟨d, hd⟩ : ∃ d, S.2.1 (mt 24) o.toNat = d := ⟨_, rfl⟩
    obtain ⟨c, hc⟩ : ∃ c, clK S d (S.2.1 (mt 29) o.toNat) = c := ⟨_, rfl⟩
    obtain ⟨s, hs⟩ : ∃ s, S.2.1 (mt 31) (6 * o + c).toNat = s := ⟨_, rfl⟩
    have hcA : jbC S m = c := by dsimp only [jbC, jbD, jbO]; rw [ho, hd]; exact hc
    have hsA : mg S 31 (6 * jbO S m + jbC S m) = s := by rw [hcA]; dsimp only [jbO]; rw [ho]; exact hs
    have hthA : jbT S m = 3 * c + s := by show 3 * jbC S m + mg S 31 (6 * jbO S m + jbC S m) = _; rw [hsA, hcA]
    have hdA : jbD S m = d := by dsimp only [jbD, jbO]; rw [ho]; exact hd
    have hoA : jbO S m = o := ho
    unfold stepP at hB
    rw [hthA] at hA hth hB
    rw [hcA] at a7 hB
    rw [hsA] at a8
    rw [hdA] at d6 hmn hB a6
    rw [hoA] at o20 h29 h28 hB j0 hb25 a6 a5
    have d0 : 0 ≤ d := by have := a9.1; rw [hdA] at this; exact this
    dsimp only [mg, mf, colK, stK, clK, mnK, shN] at hth h28 h29 hb25 hA a5 hmn hx20 hx21
    refine body0 300 rfl ?_
    repeat' (first
        | omega
        | with_reducible apply And.intro
        | (intro c9; (try simp only [mg, mf, colK, stK, clK, mnK, shN, ho, hd, hc, hs] at c9))
        | exact hM
        | exact ms_o hM
        | (refine ms_r hM rfl rfl ?_ ?_ <;> (try simp only [mLen]) <;> omega)
        | (refine ms_w hM rfl rfl ?_ ?_ <;> (try simp only [mLen]) <;> omega)
        | exact a6
        | exact hhd
        | (refine ms_r hM rfl rfl ?_ ?_ <;> (try simp only [mLen, updI_2, mt_a, mt_b, mt_c, false_and, if_false]) <;> omega)
        | (refine ms_w hM rfl rfl ?_ ?_ <;> (try simp only [mLen, updI_2, mt_a, mt_b, mt_c, false_and, if_false]) <;> omega)
        | (simp only [mg, mf, colK, stK, clK, mnK, shN, ho, hd, hc, hs, updI_2, mt_c, Nat.reduceEqDiff, false_and, if_false]; omega)
        | (simp only [mg, mf, colK, stK, clK, mnK, shN, ho, hd, hc, hs]; omega)
        | refine Exists.intro _ (And.intro rfl ?_)
        | refine Exists.intro _ (And.intro ((congrFun hr _).trans rfl) ?_)
        | ((with_reducible show wp _ _ _ _ _ _ _ _ _ _ _ _ _ _); conv => whnf)
        | ((with_reducible show callK _ _ _ _ _ _ _ _ _); conv => whnf)
        | ((with_reducible show condK _ _ _ _ _); conv => whnf)
        | ((with_reducible show st1 _ _ _ _ _ _ _ _ _ _ _ _); conv => whnf)
        | ((with_reducible show (Prod.fst _ : Spec) _ _ _); conv => whnf)
        | ((with_reducible show shortK _ _); conv => whnf)
        | exact Nat.le_of_ble_eq_true rfl)
    all_goals trace_state
