/-! THE CLASS: what is asked, of arguments in range: no room is used -/
def s_atI (f a len : Nat) : Spec := fun as S post => match as with
  | [.inr (.inr (some 1)), .inl d] => cfC S ∧ (0 ≤ d ∧ d < S.2.1 1 f) ∧ S.2.1 1 f ≤ len ∧ post (.inl (some (vR (S.2.2 a d.toNat)))) S
  | _ => False
def s_designAtI : Spec := s_atI 3 5 6
def spX6_designAt_i : Nat → CD := spF mdX6_designAt fun i => match i with
  | _ => noR
set_option maxHeartbeats 4000000 in
set_option maxRecDepth 100000 in
theorem sat_X6_designAt_i : Sat mX6_designAt s_designAtI 0 0 1 := by
  refine sat_of (E := eX6_designAt) (sp := spX6_designAt_i) (ini := false) (by decide +kernel) (fun h => by cases h) okX6_designAt (fun i => match i with
    | _ => ⟨sat_no _, Nat.le_of_ble_eq_true rfl⟩) ?_
  intro as S post h
  match as, h with
  | [.inr (.inr (some 1)), .inl d], h =>
    obtain ⟨⟨c1, c2, c3, c4, c5, c6, c7, c8, c9', c10, c11, cn⟩, hd, hk, hA⟩ := h
    have hne : S.2.2 5 d.toNat ≠ none := (cn.1 d.toNat (by omega)).2 (by omega)
    refine body0 80 rfl ?_
    repeat' (first
        | omega
        | with_reducible apply And.intro
        | (intro c9; (try simp only [mg, mf, colK, stK, clK, mnK, shN] at c9))
        | exact ⟨9, c1⟩
        | refine ⟨110, 6, c8, by omega, ?_⟩
        | exact ⟨110, 6, c8, rfl, by omega, by omega⟩
        | exact absurd c9 hne
        | exact hA
        | (simp only [mg, mf, colK, stK, clK, mnK, shN]; omega)
        | refine Exists.intro _ (And.intro rfl ?_)
        | refine Exists.intro _ (And.intro (c3) ?_)
        | ((with_reducible show wp _ _ _ _ _ _ _ _ _ _ _ _ _ _); conv => whnf)
        | ((with_reducible show callK _ _ _ _ _ _ _ _ _); conv => whnf)
        | ((with_reducible show condK _ _ _ _ _); conv => whnf)
        | ((with_reducible show st1 _ _ _ _ _ _ _ _ _ _ _ _); conv => whnf)
        | ((with_reducible show (Prod.fst _ : Spec) _ _ _); conv => whnf)
        | ((with_reducible show shortK _ _); conv => whnf)
        | exact Nat.le_of_ble_eq_true rfl)
def s_machineAtI : Spec := s_atI 5 6 4
def spX6_machineAt_i : Nat → CD := spF mdX6_machineAt fun i => match i with
  | _ => noR
set_option maxHeartbeats 4000000 in
set_option maxRecDepth 100000 in
theorem sat_X6_machineAt_i : Sat mX6_machineAt s_machineAtI 0 0 1 := by
  refine sat_of (E := eX6_machineAt) (sp := spX6_machineAt_i) (ini := false) (by decide +kernel) (fun h => by cases h) okX6_machineAt (fun i => match i with
    | _ => ⟨sat_no _, Nat.le_of_ble_eq_true rfl⟩) ?_
  intro as S post h
  match as, h with
  | [.inr (.inr (some 1)), .inl d], h =>
    obtain ⟨⟨c1, c2, c3, c4, c5, c6, c7, c8, c9', c10, c11, cn⟩, hd, hk, hA⟩ := h
    have hne : S.2.2 6 d.toNat ≠ none := (cn.2.1 d.toNat (by omega)).2 (by omega)
    refine body0 80 rfl ?_
    repeat' (first
        | omega
        | with_reducible apply And.intro
        | (intro c9; (try simp only [mg, mf, colK, stK, clK, mnK, shN] at c9))
        | exact ⟨9, c1⟩
        | refine ⟨111, 4, c9', by omega, ?_⟩
        | exact ⟨111, 4, c9', rfl, by omega, by omega⟩
        | exact absurd c9 hne
        | exact hA
        | (simp only [mg, mf, colK, stK, clK, mnK, shN]; omega)
        | refine Exists.intro _ (And.intro rfl ?_)
        | refine Exists.intro _ (And.intro (c4) ?_)
        | ((with_reducible show wp _ _ _ _ _ _ _ _ _ _ _ _ _ _); conv => whnf)
        | ((with_reducible show callK _ _ _ _ _ _ _ _ _); conv => whnf)
        | ((with_reducible show condK _ _ _ _ _); conv => whnf)
        | ((with_reducible show st1 _ _ _ _ _ _ _ _ _ _ _ _); conv => whnf)
        | ((with_reducible show (Prod.fst _ : Spec) _ _ _); conv => whnf)
        | ((with_reducible show shortK _ _); conv => whnf)
        | exact Nat.le_of_ble_eq_true rfl)
def s_orderAtI : Spec := s_atI 7 7 20
def spX6_orderAt_i : Nat → CD := spF mdX6_orderAt fun i => match i with
  | _ => noR
set_option maxHeartbeats 4000000 in
set_option maxRecDepth 100000 in
theorem sat_X6_orderAt_i : Sat mX6_orderAt s_orderAtI 0 0 1 := by
  refine sat_of (E := eX6_orderAt) (sp := spX6_orderAt_i) (ini := false) (by decide +kernel) (fun h => by cases h) okX6_orderAt (fun i => match i with
    | _ => ⟨sat_no _, Nat.le_of_ble_eq_true rfl⟩) ?_
  intro as S post h
  match as, h with
  | [.inr (.inr (some 1)), .inl d], h =>
    obtain ⟨⟨c1, c2, c3, c4, c5, c6, c7, c8, c9', c10, c11, cn⟩, hd, hk, hA⟩ := h
    have hne : S.2.2 7 d.toNat ≠ none := (cn.2.2 d.toNat (by omega)).2 (by omega)
    refine body0 80 rfl ?_
    repeat' (first
        | omega
        | with_reducible apply And.intro
        | (intro c9; (try simp only [mg, mf, colK, stK, clK, mnK, shN] at c9))
        | exact ⟨9, c1⟩
        | refine ⟨112, 20, c10, by omega, ?_⟩
        | exact ⟨112, 20, c10, rfl, by omega, by omega⟩
        | exact absurd c9 hne
        | exact hA
        | (simp only [mg, mf, colK, stK, clK, mnK, shN]; omega)
        | refine Exists.intro _ (And.intro rfl ?_)
        | refine Exists.intro _ (And.intro (c5) ?_)
        | ((with_reducible show wp _ _ _ _ _ _ _ _ _ _ _ _ _ _); conv => whnf)
        | ((with_reducible show callK _ _ _ _ _ _ _ _ _); conv => whnf)
        | ((with_reducible show condK _ _ _ _ _); conv => whnf)
        | ((with_reducible show st1 _ _ _ _ _ _ _ _ _ _ _ _); conv => whnf)
        | ((with_reducible show (Prod.fst _ : Spec) _ _ _); conv => whnf)
        | ((with_reducible show shortK _ _); conv => whnf)
        | exact Nat.le_of_ble_eq_true rfl)
def s_changesI : Spec := fun as S post => match as with
  | [.inr (.inr (some 1)), .inl d] => (0 ≤ d ∧ d < S.2.1 1 3) ∧ s_changesC [vT 1, vI d] S post
  | _ => False
def spX6_changes_i : Nat → CD := spF mdX6_changes fun i => match i with
  | 1 => (s_designAtI, 0, 0, 1)
  | _ => noR
set_option maxHeartbeats 4000000 in
set_option maxRecDepth 100000 in
theorem sat_X6_changes_i : Sat mX6_changes s_changesI 0 0 12 := by
  refine sat_of (E := eX6_changes) (sp := spX6_changes_i) (ini := false) (by decide +kernel) (fun h => by cases h) okX6_changes (fun i => match i with
    | 1 => ⟨sat_X6_designAt_i, Nat.le_of_ble_eq_true rfl⟩
    | i + 2 => ⟨sat_no _, Nat.le_of_ble_eq_true rfl⟩
    | 0 => ⟨sat_no _, Nat.le_of_ble_eq_true rfl⟩) ?_
  intro as S post h
  match as, h with
  | [.inr (.inr (some 1)), .inl d], h =>
    obtain ⟨hin, W, hW, hd, hA, hB⟩ := h
    have hr := hW.r3
    have hc := hW.1
    have hT := fun z => hW.dg (d := d) z
    refine body0 40 rfl ?_
    repeat' (first
        | omega
        | with_reducible apply And.intro
        | (intro c9; (try simp only [mg, mf, colK, stK, clK, mnK, shN] at c9))
        | exact hc
        | exact ⟨9, hc.1⟩
        | exact ⟨9, (hT hin).2.1.1⟩
        | exact hA (by omega)
        | exact hB (by omega)
        | (simp only [mg, mf, colK, stK, clK, mnK, shN]; omega)
        | refine Exists.intro _ (And.intro rfl ?_)
        | refine Exists.intro _ (And.intro (((hT hin).1)) ?_)
        | ((with_reducible show wp _ _ _ _ _ _ _ _ _ _ _ _ _ _); conv => whnf)
        | ((with_reducible show callK _ _ _ _ _ _ _ _ _); conv => whnf)
        | ((with_reducible show condK _ _ _ _ _); conv => whnf)
        | ((with_reducible show st1 _ _ _ _ _ _ _ _ _ _ _ _); conv => whnf)
        | ((with_reducible show (Prod.fst _ : Spec) _ _ _); conv => whnf)
        | ((with_reducible show shortK _ _); conv => whnf)
        | exact Nat.le_of_ble_eq_true rfl)
def s_changesAnewI : Spec := fun as S post => match as with
  | [.inr (.inr (some 1)), .inl d] => (0 ≤ d ∧ d < S.2.1 1 3) ∧ s_changesAnewC [vT 1, vI d] S post
  | _ => False
def spX6_changesAnew_i : Nat → CD := spF mdX6_changesAnew fun i => match i with
  | 1 => (s_designAtI, 0, 0, 1)
  | 2 => (s_fewestOf, 0, 0, 11)
  | _ => noR
set_option maxHeartbeats 4000000 in
set_option maxRecDepth 100000 in
theorem sat_X6_changesAnew_i : Sat mX6_changesAnew s_changesAnewI 0 0 12 := by
  refine sat_of (E := eX6_changesAnew) (sp := spX6_changesAnew_i) (ini := false) (by decide +kernel) (fun h => by cases h) okX6_changesAnew (fun i => match i with
    | 1 => ⟨sat_X6_designAt_i, Nat.le_of_ble_eq_true rfl⟩
    | 2 => ⟨sat_X3_fewestOfAllOrders, Nat.le_of_ble_eq_true rfl⟩
    | i + 3 => ⟨sat_no _, Nat.le_of_ble_eq_true rfl⟩
    | 0 => ⟨sat_no _, Nat.le_of_ble_eq_true rfl⟩) ?_
  intro as S post h
  match as, h with
  | [.inr (.inr (some 1)), .inl d], h =>
    obtain ⟨hin, W, hW, hd, hA, hB⟩ := h
    have hr := hW.r3
    have hc := hW.1
    refine body0 40 rfl ?_
    by_cases z : 0 ≤ d ∧ d < S.2.1 1 3
    · obtain ⟨hT, hD, hT1, ⟨a, u, col, nd, hq, hv⟩, -⟩ := hW.dg z
      have hB' := hB z
      rw [← hv] at hB'
      repeat' (first
          | omega
          | with_reducible apply And.intro
          | (intro c9; (try simp only [mg, mf, colK, stK, clK, mnK, shN] at c9))
          | exact hc
          | exact ⟨9, hc.1⟩
          | exact ⟨9, hD.1⟩
          | rw [gfR (ci := 0) hT1 rfl]
          | exact ⟨3, hq.1.1⟩
          | refine ⟨a, _, u, col, nd, hq, ?_⟩
          | exact hA c9
          | exact hB'
          | (simp only [mg, mf, colK, stK, clK, mnK, shN]; omega)
          | refine Exists.intro _ (And.intro rfl ?_)
          | refine Exists.intro _ (And.intro (hT) ?_)
          | ((with_reducible show wp _ _ _ _ _ _ _ _ _ _ _ _ _ _); conv => whnf)
          | ((with_reducible show callK _ _ _ _ _ _ _ _ _); conv => whnf)
          | ((with_reducible show condK _ _ _ _ _); conv => whnf)
          | ((with_reducible show st1 _ _ _ _ _ _ _ _ _ _ _ _); conv => whnf)
          | ((with_reducible show (Prod.fst _ : Spec) _ _ _); conv => whnf)
          | ((with_reducible show shortK _ _); conv => whnf)
          | exact Nat.le_of_ble_eq_true rfl)
    · repeat' (first
          | omega
          | with_reducible apply And.intro
          | (intro c9; (try simp only [mg, mf, colK, stK, clK, mnK, shN] at c9))
          | exact hc
          | exact ⟨9, hc.1⟩
          | exact hA c9
          | (simp only [mg, mf, colK, stK, clK, mnK, shN]; omega)
          | refine Exists.intro _ (And.intro rfl ?_)
          | ((with_reducible show wp _ _ _ _ _ _ _ _ _ _ _ _ _ _); conv => whnf)
          | ((with_reducible show callK _ _ _ _ _ _ _ _ _); conv => whnf)
          | ((with_reducible show condK _ _ _ _ _); conv => whnf)
          | ((with_reducible show st1 _ _ _ _ _ _ _ _ _ _ _ _); conv => whnf)
          | ((with_reducible show (Prod.fst _ : Spec) _ _ _); conv => whnf)
          | ((with_reducible show shortK _ _); conv => whnf)
          | exact Nat.le_of_ble_eq_true rfl)
def s_jumpsI : Spec := fun as S post => match as with
  | [.inr (.inr (some 1)), .inl d, .inl i] => (0 ≤ d ∧ d < S.2.1 1 3) ∧ s_jumpsC [vT 1, vI d, vI i] S post
  | _ => False
def spX6_jumps_i : Nat → CD := spF mdX6_jumps fun i => match i with
  | 1 => (s_designAtI, 0, 0, 1)
  | _ => noR
set_option maxHeartbeats 4000000 in
set_option maxRecDepth 100000 in
theorem sat_X6_jumps_i : Sat mX6_jumps s_jumpsI 0 0 12 := by
  refine sat_of (E := eX6_jumps) (sp := spX6_jumps_i) (ini := false) (by decide +kernel) (fun h => by cases h) okX6_jumps (fun i => match i with
    | 1 => ⟨sat_X6_designAt_i, Nat.le_of_ble_eq_true rfl⟩
    | i + 2 => ⟨sat_no _, Nat.le_of_ble_eq_true rfl⟩
    | 0 => ⟨sat_no _, Nat.le_of_ble_eq_true rfl⟩) ?_
  intro as S post h
  match as, h with
  | [.inr (.inr (some 1)), .inl d, .inl i], h =>
    obtain ⟨hin, W, hW, hd, hA, hB⟩ := h
    have hr := hW.r3
    have hc := hW.1
    refine body0 40 rfl ?_
    by_cases z : 0 ≤ d ∧ d < S.2.1 1 3
    · have hT := hW.dg z
      have hB' := hB z
      repeat' (first
          | omega
          | with_reducible apply And.intro
          | (intro c9; (try simp only [mg, mf, colK, stK, clK, mnK, shN] at c9))
          | exact hc
          | exact ⟨9, hc.1⟩
          | exact ⟨9, hT.2.1.1⟩
          | exact hA c9
          | (rw [if_pos c9] at hB'; exact hB')
          | (rw [if_neg c9] at hB'; exact hB')
          | (simp only [mg, mf, colK, stK, clK, mnK, shN]; omega)
          | refine Exists.intro _ (And.intro rfl ?_)
          | refine Exists.intro _ (And.intro (hT.1) ?_)
          | ((with_reducible show wp _ _ _ _ _ _ _ _ _ _ _ _ _ _); conv => whnf)
          | ((with_reducible show callK _ _ _ _ _ _ _ _ _); conv => whnf)
          | ((with_reducible show condK _ _ _ _ _); conv => whnf)
          | ((with_reducible show st1 _ _ _ _ _ _ _ _ _ _ _ _); conv => whnf)
          | ((with_reducible show (Prod.fst _ : Spec) _ _ _); conv => whnf)
          | ((with_reducible show shortK _ _); conv => whnf)
          | exact Nat.le_of_ble_eq_true rfl)
    · repeat' (first
          | omega
          | with_reducible apply And.intro
          | (intro c9; (try simp only [mg, mf, colK, stK, clK, mnK, shN] at c9))
          | exact hc
          | exact ⟨9, hc.1⟩
          | exact hA c9
          | (simp only [mg, mf, colK, stK, clK, mnK, shN]; omega)
          | refine Exists.intro _ (And.intro rfl ?_)
          | ((with_reducible show wp _ _ _ _ _ _ _ _ _ _ _ _ _ _); conv => whnf)
          | ((with_reducible show callK _ _ _ _ _ _ _ _ _); conv => whnf)
          | ((with_reducible show condK _ _ _ _ _); conv => whnf)
          | ((with_reducible show st1 _ _ _ _ _ _ _ _ _ _ _ _); conv => whnf)
          | ((with_reducible show (Prod.fst _ : Spec) _ _ _); conv => whnf)
          | ((with_reducible show shortK _ _); conv => whnf)
          | exact Nat.le_of_ble_eq_true rfl)
def s_sequenceI : Spec := fun as S post => match as with
  | [.inr (.inr (some 1)), .inl d, .inl p] => (0 ≤ d ∧ d < S.2.1 1 3 ∧ 0 ≤ p) ∧ s_sequenceC [vT 1, vI d, vI p] S post
  | _ => False
def spX6_sequence_i : Nat → CD := spF mdX6_sequence fun i => match i with
  | 1 => (s_designAtI, 0, 0, 1)
  | 2 => (s_shapeAt, 0, 0, 1)
  | _ => noR
set_option maxHeartbeats 4000000 in
set_option maxRecDepth 100000 in
theorem sat_X6_sequence_i : Sat mX6_sequence s_sequenceI 0 0 12 := by
  refine sat_of (E := eX6_sequence) (sp := spX6_sequence_i) (ini := false) (by decide +kernel) (fun h => by cases h) okX6_sequence (fun i => match i with
    | 1 => ⟨sat_X6_designAt_i, Nat.le_of_ble_eq_true rfl⟩
    | 2 => ⟨sat_X6_shapeAt, Nat.le_of_ble_eq_true rfl⟩
    | i + 3 => ⟨sat_no _, Nat.le_of_ble_eq_true rfl⟩
    | 0 => ⟨sat_no _, Nat.le_of_ble_eq_true rfl⟩) ?_
  intro as S post h
  match as, h with
  | [.inr (.inr (some 1)), .inl d, .inl p], h =>
    obtain ⟨hin, W, hW, hd, hA, hB⟩ := h
    have hr := hW.r3
    have hc := hW.1
    refine body0 60 rfl ?_
    by_cases z : 0 ≤ d ∧ d < S.2.1 1 3
    · obtain ⟨hT, ⟨d1, d2, d3, d4, d5, d6, d7, d8⟩, -⟩ := hW.dg z
      have hB' := fun y : 0 ≤ p => hB ⟨z.1, z.2, y⟩
      repeat' (first
          | omega
          | with_reducible apply And.intro
          | (intro c9; (try simp only [mg, mf, colK, stK, clK, mnK, shN] at c9))
          | (with_reducible (have q9 : (none : Option Nat) = _ := c9; clear q9; cases c9))
          | (rw [(d8 p.toNat (by omega)).1] at c9; cases c9)
          | exact hc
          | exact ⟨9, hc.1⟩
          | exact ⟨9, d1⟩
          | refine ⟨W.n d.toNat, d3, d6.2.1, hd.2, ?_⟩
          | rw [gfR (ci := 0) d2 rfl]
          | exact ⟨5, (d8 p.toNat (by omega)).2.1⟩
          | exact hA (by omega)
          | (have y := hB' (by omega); rw [if_pos (by omega)] at y; exact y)
          | (have y := hB' (by omega); rw [if_neg (by omega)] at y; exact y)
          | (simp only [mg, mf, colK, stK, clK, mnK, shN]; omega)
          | refine Exists.intro _ (And.intro rfl ?_)
          | refine Exists.intro _ (And.intro (hT) ?_)
          | refine Exists.intro _ (And.intro (d2) ?_)
          | refine Exists.intro _ (And.intro (((d8 p.toNat (by omega)).1)) ?_)
          | ((with_reducible show wp _ _ _ _ _ _ _ _ _ _ _ _ _ _); conv => whnf)
          | ((with_reducible show callK _ _ _ _ _ _ _ _ _); conv => whnf)
          | ((with_reducible show condK _ _ _ _ _); conv => whnf)
          | ((with_reducible show st1 _ _ _ _ _ _ _ _ _ _ _ _); conv => whnf)
          | ((with_reducible show (Prod.fst _ : Spec) _ _ _); conv => whnf)
          | ((with_reducible show shortK _ _); conv => whnf)
          | exact Nat.le_of_ble_eq_true rfl)
    · repeat' (first
          | omega
          | with_reducible apply And.intro
          | (intro c9; (try simp only [mg, mf, colK, stK, clK, mnK, shN] at c9))
          | exact hc
          | exact ⟨9, hc.1⟩
          | exact hA (by omega)
          | (simp only [mg, mf, colK, stK, clK, mnK, shN]; omega)
          | refine Exists.intro _ (And.intro rfl ?_)
          | ((with_reducible show wp _ _ _ _ _ _ _ _ _ _ _ _ _ _); conv => whnf)
          | ((with_reducible show callK _ _ _ _ _ _ _ _ _); conv => whnf)
          | ((with_reducible show condK _ _ _ _ _); conv => whnf)
          | ((with_reducible show st1 _ _ _ _ _ _ _ _ _ _ _ _); conv => whnf)
          | ((with_reducible show (Prod.fst _ : Spec) _ _ _); conv => whnf)
          | ((with_reducible show shortK _ _); conv => whnf)
          | exact Nat.le_of_ble_eq_true rfl)
def s_stitchesI : Spec := fun as S post => match as with
  | [.inr (.inr (some 1)), .inl d, .inl c] => (0 ≤ d ∧ d < S.2.1 1 3 ∧ (c = -1 ∨ 0 ≤ c ∧ c < 6)) ∧ s_stitchesC [vT 1, vI d, vI c] S post
  | _ => False
def spX6_stitches_i : Nat → CD := spF mdX6_stitches fun i => match i with
  | 1 => (s_designAtI, 0, 0, 1)
  | 2 => (s_isColour, 0, 0, 1)
  | 3 => (s_dgNeed, 0, 0, 1)
  | _ => noR
set_option maxHeartbeats 4000000 in
set_option maxRecDepth 100000 in
theorem sat_X6_stitches_i : Sat mX6_stitches s_stitchesI 0 0 12 := by
  refine sat_of (E := eX6_stitches) (sp := spX6_stitches_i) (ini := false) (by decide +kernel) (fun h => by cases h) okX6_stitches (fun i => match i with
    | 1 => ⟨sat_X6_designAt_i, Nat.le_of_ble_eq_true rfl⟩
    | 2 => ⟨sat_X6_isColour, Nat.le_of_ble_eq_true rfl⟩
    | 3 => ⟨sat_X0_need, Nat.le_of_ble_eq_true rfl⟩
    | i + 4 => ⟨sat_no _, Nat.le_of_ble_eq_true rfl⟩
    | 0 => ⟨sat_no _, Nat.le_of_ble_eq_true rfl⟩) ?_
  intro as S post h
  match as, h with
  | [.inr (.inr (some 1)), .inl d, .inl c], h =>
    obtain ⟨hin, W, hW, hd, hA, hB⟩ := h
    have hr := hW.r3
    have hc := hW.1
    refine body0 60 rfl ?_
    by_cases z : 0 ≤ d ∧ d < S.2.1 1 3
    · obtain ⟨hT, hD, -⟩ := hW.dg z
      have hD2 := hD
      obtain ⟨d1, d2, d3, d4, d5, d6, d7, d8⟩ := hD2
      repeat' (first
          | omega
          | with_reducible apply And.intro
          | (intro c9; (try simp only [mg, mf, colK, stK, clK, mnK, shN] at c9))
          | exact hc
          | exact ⟨9, hc.1⟩
          | exact ⟨9, d1⟩
          | refine ⟨100, _, d5, by omega, ?_⟩
          | rw [hT]
          | refine ⟨_, _, _, _, hD, ?_, ?_⟩
          | exact hA (by omega)
          | (have y := hB ⟨z.1, z.2, by omega⟩; rw [if_pos (by omega)] at y; exact y)
          | (have y := hB ⟨z.1, z.2, by omega⟩; rw [if_neg (by omega)] at y; exact y)
          | (simp only [mg, mf, colK, stK, clK, mnK, shN]; omega)
          | refine Exists.intro _ (And.intro rfl ?_)
          | refine Exists.intro _ (And.intro (hT) ?_)
          | refine Exists.intro _ (And.intro (d4) ?_)
          | ((with_reducible show wp _ _ _ _ _ _ _ _ _ _ _ _ _ _); conv => whnf)
          | ((with_reducible show callK _ _ _ _ _ _ _ _ _); conv => whnf)
          | ((with_reducible show condK _ _ _ _ _); conv => whnf)
          | ((with_reducible show st1 _ _ _ _ _ _ _ _ _ _ _ _); conv => whnf)
          | ((with_reducible show (Prod.fst _ : Spec) _ _ _); conv => whnf)
          | ((with_reducible show shortK _ _); conv => whnf)
          | exact Nat.le_of_ble_eq_true rfl)
    · repeat' (first
          | omega
          | with_reducible apply And.intro
          | (intro c9; (try simp only [mg, mf, colK, stK, clK, mnK, shN] at c9))
          | exact hc
          | exact ⟨9, hc.1⟩
          | exact hA (by omega)
          | (simp only [mg, mf, colK, stK, clK, mnK, shN]; omega)
          | refine Exists.intro _ (And.intro rfl ?_)
          | ((with_reducible show wp _ _ _ _ _ _ _ _ _ _ _ _ _ _); conv => whnf)
          | ((with_reducible show callK _ _ _ _ _ _ _ _ _); conv => whnf)
          | ((with_reducible show condK _ _ _ _ _); conv => whnf)
          | ((with_reducible show st1 _ _ _ _ _ _ _ _ _ _ _ _); conv => whnf)
          | ((with_reducible show (Prod.fst _ : Spec) _ _ _); conv => whnf)
          | ((with_reducible show shortK _ _); conv => whnf)
          | exact Nat.le_of_ble_eq_true rfl)
def s_stitchI : Spec := fun as S post => match as with
  | [.inr (.inr (some 1)), .inl d, .inl x, .inl w] => ((0 ≤ d ∧ d < S.2.1 1 3 ∧ 0 ≤ x) ∧ 0 ≤ w ∧ w ≤ 2) ∧ s_stitchC [vT 1, vI d, vI x, vI w] S post
  | _ => False
def spX6_stitch_i : Nat → CD := spF mdX6_stitch fun i => match i with
  | 1 => (s_designAtI, 0, 0, 1)
  | 2 => (s_shapeOf, 0, 0, 2)
  | 3 => (s_xOf, 0, 0, 1)
  | 4 => (s_yOf, 0, 0, 1)
  | _ => noR
set_option maxHeartbeats 4000000 in
set_option maxRecDepth 100000 in
theorem sat_X6_stitch_i : Sat mX6_stitch s_stitchI 0 0 12 := by
  refine sat_of (E := eX6_stitch) (sp := spX6_stitch_i) (ini := false) (by decide +kernel) (fun h => by cases h) okX6_stitch (fun i => match i with
    | 1 => ⟨sat_X6_designAt_i, Nat.le_of_ble_eq_true rfl⟩
    | 2 => ⟨sat_X0_shapeOf, Nat.le_of_ble_eq_true rfl⟩
    | 3 => ⟨sat_X6_xOf, Nat.le_of_ble_eq_true rfl⟩
    | 4 => ⟨sat_X6_yOf, Nat.le_of_ble_eq_true rfl⟩
    | i + 5 => ⟨sat_no _, Nat.le_of_ble_eq_true rfl⟩
    | 0 => ⟨sat_no _, Nat.le_of_ble_eq_true rfl⟩) ?_
  intro as S post h
  match as, h with
  | [.inr (.inr (some 1)), .inl d, .inl x, .inl w], h =>
    obtain ⟨hin, W, hW, hd, hA, hA2, hB⟩ := h
    have hr := hW.r3
    have hc := hW.1
    refine body0 120 rfl ?_
    by_cases z : 0 ≤ d ∧ d < S.2.1 1 3
    · obtain ⟨hT, hD, -, -, hcl, -⟩ := hW.dg z
      have hD2 := hD
      obtain ⟨d1, d2, d3, d4, d5, d6, d7, d8⟩ := hD2
      have hcx := fun y => hcl x.toNat y
      repeat' (first
          | omega
          | with_reducible apply And.intro
          | (intro c9; (try simp only [mg, mf, colK, stK, clK, mnK, shN] at c9))
          | (with_reducible (have q9 : (_ = none ∧ ∀ p, ¬ inP _ _ x p) ∨ _ := c9; clear q9; rcases c9 with ⟨rfl, c7⟩ | ⟨c6, rfl, c7⟩))
          | (with_reducible (have q9 : (none : Option Nat) = some _ := c9; cases q9))
          | (with_reducible (have q9 : some (_ : Nat) = none := c9; cases q9))
          | (with_reducible (have q9 : _ = (_ : Int) % 16 := c9; clear q9; subst c9))
          | (with_reducible (have q9 : _ = (_ : Int) / 16 := c9; clear q9; subst c9))
          | (have y := c7.2.2; have y2 := hD.rng (p := c6 + 1) c7.1; omega)
          | exact hc
          | exact ⟨9, hc.1⟩
          | exact ⟨9, d1⟩
          | rw [hT]
          | refine ⟨_, _, _, _, hD, ?_, ?_⟩
          | exact hA (by omega)
          | exact hA2 ⟨z.1, z.2, by omega⟩ (by omega)
          | exact (hB ⟨z.1, z.2, by omega⟩ (by omega)).1 c7
          | exact ⟨5, (d8 c6 c7.1).2.1⟩
          | refine ⟨100, _, d5, by omega, ?_⟩
          | exact ⟨100, _, d5, Or.inl rfl, by omega, by omega⟩
          | (have y := hcx (by omega); omega)
          | (have y := (hB ⟨z.1, z.2, by omega⟩ (by omega)).2 c6 c7; rw [if_pos (by omega)] at y; exact y)
          | (have y := (hB ⟨z.1, z.2, by omega⟩ (by omega)).2 c6 c7; rw [if_neg (by omega), if_pos (by omega)] at y; exact y)
          | (have y := (hB ⟨z.1, z.2, by omega⟩ (by omega)).2 c6 c7; rw [if_neg (by omega), if_neg (by omega)] at y; exact y)
          | (simp only [mg, mf, colK, stK, clK, mnK, shN]; omega)
          | refine Exists.intro _ (And.intro rfl ?_)
          | refine Exists.intro _ (And.intro (hT) ?_)
          | refine Exists.intro _ (And.intro (d4) ?_)
          | ((with_reducible show wp _ _ _ _ _ _ _ _ _ _ _ _ _ _); conv => whnf)
          | ((with_reducible show callK _ _ _ _ _ _ _ _ _); conv => whnf)
          | ((with_reducible show condK _ _ _ _ _); conv => whnf)
          | ((with_reducible show st1 _ _ _ _ _ _ _ _ _ _ _ _); conv => whnf)
          | ((with_reducible show (Prod.fst _ : Spec) _ _ _); conv => whnf)
          | ((with_reducible show shortK _ _); conv => whnf)
          | exact Nat.le_of_ble_eq_true rfl)
    · repeat' (first
          | omega
          | with_reducible apply And.intro
          | (intro c9; (try simp only [mg, mf, colK, stK, clK, mnK, shN] at c9))
          | exact hc
          | exact ⟨9, hc.1⟩
          | exact hA (by omega)
          | (simp only [mg, mf, colK, stK, clK, mnK, shN]; omega)
          | refine Exists.intro _ (And.intro rfl ?_)
          | ((with_reducible show wp _ _ _ _ _ _ _ _ _ _ _ _ _ _); conv => whnf)
          | ((with_reducible show callK _ _ _ _ _ _ _ _ _); conv => whnf)
          | ((with_reducible show condK _ _ _ _ _); conv => whnf)
          | ((with_reducible show st1 _ _ _ _ _ _ _ _ _ _ _ _); conv => whnf)
          | ((with_reducible show (Prod.fst _ : Spec) _ _ _); conv => whnf)
          | ((with_reducible show shortK _ _); conv => whnf)
          | exact Nat.le_of_ble_eq_true rfl)
def s_shadeOfI : Spec := fun as S post => match as with
  | [.inr (.inr (some 1)), .inl d, .inl c] => (0 ≤ d ∧ d < S.2.1 1 7 ∧ 0 ≤ c ∧ c < 6) ∧ s_shadeOfC [vT 1, vI d, vI c] S post
  | _ => False
def spX6_shadeOf_i : Nat → CD := spF mdX6_shadeOf fun i => match i with
  | 1 => (s_orderAtI, 0, 0, 1)
  | 2 => (s_isColour, 0, 0, 1)
  | 3 => (s_shade, 0, 0, 1)
  | _ => noR
set_option maxHeartbeats 4000000 in
set_option maxRecDepth 100000 in
theorem sat_X6_shadeOf_i : Sat mX6_shadeOf s_shadeOfI 0 0 12 := by
  refine sat_of (E := eX6_shadeOf) (sp := spX6_shadeOf_i) (ini := false) (by decide +kernel) (fun h => by cases h) okX6_shadeOf (fun i => match i with
    | 1 => ⟨sat_X6_orderAt_i, Nat.le_of_ble_eq_true rfl⟩
    | 2 => ⟨sat_X6_isColour, Nat.le_of_ble_eq_true rfl⟩
    | 3 => ⟨sat_X2_shade, Nat.le_of_ble_eq_true rfl⟩
    | i + 4 => ⟨sat_no _, Nat.le_of_ble_eq_true rfl⟩
    | 0 => ⟨sat_no _, Nat.le_of_ble_eq_true rfl⟩) ?_
  intro as S post h
  match as, h with
  | [.inr (.inr (some 1)), .inl d, .inl c], h =>
    obtain ⟨hin, W, hW, hd, hA, hB⟩ := h
    have hr := hW.r7
    have hc := hW.1
    refine body0 60 rfl ?_
    by_cases z : 0 ≤ d ∧ d < S.2.1 1 7
    · obtain ⟨hT, ⟨o1, o2, o3, o4⟩, -⟩ := hW.or z
      repeat' (first
          | omega
          | with_reducible apply And.intro
          | (intro c9; (try simp only [mg, mf, colK, stK, clK, mnK, shN] at c9))
          | exact hc
          | exact ⟨9, hc.1⟩
          | exact ⟨9, o1⟩
          | rw [hT]
          | (refine And.intro ⟨o1, o2, o3⟩ (And.intro hd.2 ?_))
          | exact hA (by omega)
          | (rw [if_pos (by omega)]; exact hB (by omega))
          | (simp only [mg, mf, colK, stK, clK, mnK, shN]; omega)
          | refine Exists.intro _ (And.intro rfl ?_)
          | refine Exists.intro _ (And.intro (hT) ?_)
          | ((with_reducible show wp _ _ _ _ _ _ _ _ _ _ _ _ _ _); conv => whnf)
          | ((with_reducible show callK _ _ _ _ _ _ _ _ _); conv => whnf)
          | ((with_reducible show condK _ _ _ _ _); conv => whnf)
          | ((with_reducible show st1 _ _ _ _ _ _ _ _ _ _ _ _); conv => whnf)
          | ((with_reducible show (Prod.fst _ : Spec) _ _ _); conv => whnf)
          | ((with_reducible show shortK _ _); conv => whnf)
          | exact Nat.le_of_ble_eq_true rfl)
    · repeat' (first
          | omega
          | with_reducible apply And.intro
          | (intro c9; (try simp only [mg, mf, colK, stK, clK, mnK, shN] at c9))
          | exact hc
          | exact ⟨9, hc.1⟩
          | exact hA (by omega)
          | (simp only [mg, mf, colK, stK, clK, mnK, shN]; omega)
          | refine Exists.intro _ (And.intro rfl ?_)
          | ((with_reducible show wp _ _ _ _ _ _ _ _ _ _ _ _ _ _); conv => whnf)
          | ((with_reducible show callK _ _ _ _ _ _ _ _ _); conv => whnf)
          | ((with_reducible show condK _ _ _ _ _); conv => whnf)
          | ((with_reducible show st1 _ _ _ _ _ _ _ _ _ _ _ _); conv => whnf)
          | ((with_reducible show (Prod.fst _ : Spec) _ _ _); conv => whnf)
          | ((with_reducible show shortK _ _); conv => whnf)
          | exact Nat.le_of_ble_eq_true rfl)
def s_leftI : Spec := fun as S post => match as with
  | [.inr (.inr (some 1)), .inl c, .inl s] => (0 ≤ c ∧ c < 6 ∧ 0 ≤ s ∧ s < 3) ∧ s_leftC [vT 1, vI c, vI s] S post
  | _ => False
def spX6_left_i : Nat → CD := spF mdX6_left fun i => match i with
  | 1 => (s_isColour, 0, 0, 1)
  | 2 => (s_isShade, 0, 0, 1)
  | 3 => (s_count, 0, 0, 2)
  | _ => noR
set_option maxHeartbeats 4000000 in
set_option maxRecDepth 100000 in
theorem sat_X6_left_i : Sat mX6_left s_leftI 0 0 12 := by
  refine sat_of (E := eX6_left) (sp := spX6_left_i) (ini := false) (by decide +kernel) (fun h => by cases h) okX6_left (fun i => match i with
    | 1 => ⟨sat_X6_isColour, Nat.le_of_ble_eq_true rfl⟩
    | 2 => ⟨sat_X6_isShade, Nat.le_of_ble_eq_true rfl⟩
    | 3 => ⟨sat_X5_count, Nat.le_of_ble_eq_true rfl⟩
    | i + 4 => ⟨sat_no _, Nat.le_of_ble_eq_true rfl⟩
    | 0 => ⟨sat_no _, Nat.le_of_ble_eq_true rfl⟩) ?_
  intro as S post h
  match as, h with
  | [.inr (.inr (some 1)), .inl c, .inl s], h =>
    obtain ⟨hin, W, hW, hd, hA, hB⟩ := h
    have hc := hW.1
    obtain ⟨f1, f2, f3, f4, f5, f6, -, -, -, -, f11, fn⟩ := hc
    refine body0 60 rfl ?_
    repeat' (first
        | omega
        | with_reducible apply And.intro
        | (intro c9; (try simp only [mg, mf, colK, stK, clK, mnK, shN] at c9))
        | exact ⟨9, f1⟩
        | exact ⟨1, f11.1⟩
        | rw [gfR (ci := 6) f6 rfl]
        | (refine And.intro f11 (And.intro hd ?_))
        | exact hA (by omega)
        | (rw [if_pos (by omega)]; exact hB (by omega))
        | (simp only [mg, mf, colK, stK, clK, mnK, shN]; omega)
        | refine Exists.intro _ (And.intro rfl ?_)
        | refine Exists.intro _ (And.intro (f6) ?_)
        | ((with_reducible show wp _ _ _ _ _ _ _ _ _ _ _ _ _ _); conv => whnf)
        | ((with_reducible show callK _ _ _ _ _ _ _ _ _); conv => whnf)
        | ((with_reducible show condK _ _ _ _ _); conv => whnf)
        | ((with_reducible show st1 _ _ _ _ _ _ _ _ _ _ _ _); conv => whnf)
        | ((with_reducible show (Prod.fst _ : Spec) _ _ _); conv => whnf)
        | ((with_reducible show shortK _ _); conv => whnf)
        | exact Nat.le_of_ble_eq_true rfl)
def s_ofMachineI : Spec := fun as S post => match as with
  | [.inr (.inr (some 1)), .inl d, .inl w] => ((0 ≤ d ∧ d < S.2.1 1 5) ∧ 0 ≤ w ∧ w ≤ 3) ∧ s_ofMachineC [vT 1, vI d, vI w] S post
  | _ => False
def spX6_ofMachine_i : Nat → CD := spF mdX6_ofMachine fun i => match i with
  | 1 => (s_machineAtI, 0, 0, 1)
  | _ => noR
set_option maxHeartbeats 4000000 in
set_option maxRecDepth 100000 in
theorem sat_X6_ofMachine_i : Sat mX6_ofMachine s_ofMachineI 0 0 12 := by
  refine sat_of (E := eX6_ofMachine) (sp := spX6_ofMachine_i) (ini := false) (by decide +kernel) (fun h => by cases h) okX6_ofMachine (fun i => match i with
    | 1 => ⟨sat_X6_machineAt_i, Nat.le_of_ble_eq_true rfl⟩
    | i + 2 => ⟨sat_no _, Nat.le_of_ble_eq_true rfl⟩
    | 0 => ⟨sat_no _, Nat.le_of_ble_eq_true rfl⟩) ?_
  intro as S post h
  match as, h with
  | [.inr (.inr (some 1)), .inl d, .inl w], h =>
    obtain ⟨hin, W, hW, hd, hA, hA2, hB⟩ := h
    have hr := hW.r5
    have hc := hW.1
    refine body0 60 rfl ?_
    by_cases z : 0 ≤ d ∧ d < S.2.1 1 5
    · obtain ⟨hT, ⟨o1, o2, o3⟩, -, -, -, hj⟩ := hW.mc z
      rcases hj with hj | ⟨o, ho, hj, -⟩
      · repeat' (first
            | omega
            | with_reducible apply And.intro
            | (intro c9; (try simp only [mg, mf, colK, stK, clK, mnK, shN] at c9))
            | ((with_reducible show swK _ _ _ _ _); conv => whnf)
            | exact trivial
            | exact hc
            | exact ⟨9, hc.1⟩
            | exact ⟨9, o1⟩
            | rw [hT]
            | rw [hj]
            | exact hA2 z (by omega)
            | exact (hB z (by omega)).1 (by omega) hj
            | (rw [hj] at c9; cases c9; done)
            | exact (hB z (by omega)).2.2.1 (by omega)
            | exact (hB z (by omega)).2.2.2.1 (by omega)
            | exact (hB z (by omega)).2.2.2.2 (by omega)
            | (simp only [mg, mf, colK, stK, clK, mnK, shN]; omega)
            | refine Exists.intro _ (And.intro rfl ?_)
            | refine Exists.intro _ (And.intro (hT) ?_)
            | refine Exists.intro _ (And.intro (hj) ?_)
            | ((with_reducible show wp _ _ _ _ _ _ _ _ _ _ _ _ _ _); conv => whnf)
            | ((with_reducible show callK _ _ _ _ _ _ _ _ _); conv => whnf)
            | ((with_reducible show condK _ _ _ _ _); conv => whnf)
            | ((with_reducible show st1 _ _ _ _ _ _ _ _ _ _ _ _); conv => whnf)
            | ((with_reducible show (Prod.fst _ : Spec) _ _ _); conv => whnf)
            | ((with_reducible show shortK _ _); conv => whnf)
            | exact Nat.le_of_ble_eq_true rfl)
      · have hO := (hW.2.2.2.2.1 o ho).2.1.1
        repeat' (first
            | omega
            | with_reducible apply And.intro
            | (intro c9; (try simp only [mg, mf, colK, stK, clK, mnK, shN] at c9))
            | ((with_reducible show swK _ _ _ _ _); conv => whnf)
            | exact trivial
            | exact hc
            | exact ⟨9, hc.1⟩
            | exact ⟨9, o1⟩
            | exact ⟨9, hO⟩
            | rw [hT]
            | rw [hj]
            | exact hA2 z (by omega)
            | (rw [hj] at c9; cases c9; done)
            | exact (hB z (by omega)).2.1 o (by omega) hj
            | exact (hB z (by omega)).2.2.1 (by omega)
            | exact (hB z (by omega)).2.2.2.1 (by omega)
            | exact (hB z (by omega)).2.2.2.2 (by omega)
            | (simp only [mg, mf, colK, stK, clK, mnK, shN]; omega)
            | refine Exists.intro _ (And.intro rfl ?_)
            | refine Exists.intro _ (And.intro (hT) ?_)
            | refine Exists.intro _ (And.intro (hj) ?_)
            | ((with_reducible show wp _ _ _ _ _ _ _ _ _ _ _ _ _ _); conv => whnf)
            | ((with_reducible show callK _ _ _ _ _ _ _ _ _); conv => whnf)
            | ((with_reducible show condK _ _ _ _ _); conv => whnf)
            | ((with_reducible show st1 _ _ _ _ _ _ _ _ _ _ _ _); conv => whnf)
            | ((with_reducible show (Prod.fst _ : Spec) _ _ _); conv => whnf)
            | ((with_reducible show shortK _ _); conv => whnf)
            | exact Nat.le_of_ble_eq_true rfl)
    · repeat' (first
          | omega
          | with_reducible apply And.intro
          | (intro c9; (try simp only [mg, mf, colK, stK, clK, mnK, shN] at c9))
          | exact hc
          | exact ⟨9, hc.1⟩
          | exact hA (by omega)
          | (simp only [mg, mf, colK, stK, clK, mnK, shN]; omega)
          | refine Exists.intro _ (And.intro rfl ?_)
          | ((with_reducible show wp _ _ _ _ _ _ _ _ _ _ _ _ _ _); conv => whnf)
          | ((with_reducible show callK _ _ _ _ _ _ _ _ _); conv => whnf)
          | ((with_reducible show condK _ _ _ _ _); conv => whnf)
          | ((with_reducible show st1 _ _ _ _ _ _ _ _ _ _ _ _); conv => whnf)
          | ((with_reducible show (Prod.fst _ : Spec) _ _ _); conv => whnf)
          | ((with_reducible show shortK _ _); conv => whnf)
          | exact Nat.le_of_ble_eq_true rfl)
def s_ofOrderI : Spec := fun as S post => match as with
  | [.inr (.inr (some 1)), .inl d, .inl w] => ((0 ≤ d ∧ d < S.2.1 1 7) ∧ 0 ≤ w ∧ w ≤ 6) ∧ s_ofOrderC [vT 1, vI d, vI w] S post
  | _ => False
def spX6_ofOrder_i : Nat → CD := spF mdX6_ofOrder fun i => match i with
  | 1 => (s_orderAtI, 0, 0, 1)
  | _ => noR
set_option maxHeartbeats 4000000 in
set_option maxRecDepth 100000 in
theorem sat_X6_ofOrder_i : Sat mX6_ofOrder s_ofOrderI 0 0 12 := by
  refine sat_of (E := eX6_ofOrder) (sp := spX6_ofOrder_i) (ini := false) (by decide +kernel) (fun h => by cases h) okX6_ofOrder (fun i => match i with
    | 1 => ⟨sat_X6_orderAt_i, Nat.le_of_ble_eq_true rfl⟩
    | i + 2 => ⟨sat_no _, Nat.le_of_ble_eq_true rfl⟩
    | 0 => ⟨sat_no _, Nat.le_of_ble_eq_true rfl⟩) ?_
  intro as S post h
  match as, h with
  | [.inr (.inr (some 1)), .inl d, .inl w], h =>
    obtain ⟨hin, W, hW, hd, hA, hA2, hB⟩ := h
    have hr := hW.r7
    have hc := hW.1
    refine body0 90 rfl ?_
    by_cases z : 0 ≤ d ∧ d < S.2.1 1 7
    · obtain ⟨hT, ⟨o1, o2, o3, o4⟩, og, -, -, -, -, hj⟩ := hW.or z
      have hD := (hW.2.2.1 (W.g d.toNat) og).2.1.1
      rcases hj with hj | ⟨i, hi, hj, -⟩
      · repeat' (first
            | omega
            | with_reducible apply And.intro
            | (intro c9; (try simp only [mg, mf, colK, stK, clK, mnK, shN] at c9))
            | ((with_reducible show swK _ _ _ _ _); conv => whnf)
            | exact trivial
            | exact hc
            | exact ⟨9, hc.1⟩
            | exact ⟨9, o1⟩
            | exact ⟨9, hD⟩
            | rw [hT]
            | rw [hj]
            | exact hA2 z (by omega)
            | exact (hB z (by omega)).1 (by omega) hj
            | (rw [hj] at c9; cases c9; done)
            | exact (hB z (by omega)).2.2.1 (by omega)
            | exact (hB z (by omega)).2.2.2.1 (by omega)
            | exact (hB z (by omega)).2.2.2.2.1 (by omega)
            | exact (hB z (by omega)).2.2.2.2.2.1 (by omega)
            | exact (hB z (by omega)).2.2.2.2.2.2.1 (by omega)
            | exact (hB z (by omega)).2.2.2.2.2.2.2 (by omega)
            | (simp only [mg, mf, colK, stK, clK, mnK, shN]; omega)
            | refine Exists.intro _ (And.intro rfl ?_)
            | refine Exists.intro _ (And.intro (hT) ?_)
            | refine Exists.intro _ (And.intro (hj) ?_)
            | refine Exists.intro _ (And.intro (o4) ?_)
            | ((with_reducible show wp _ _ _ _ _ _ _ _ _ _ _ _ _ _); conv => whnf)
            | ((with_reducible show callK _ _ _ _ _ _ _ _ _); conv => whnf)
            | ((with_reducible show condK _ _ _ _ _); conv => whnf)
            | ((with_reducible show st1 _ _ _ _ _ _ _ _ _ _ _ _); conv => whnf)
            | ((with_reducible show (Prod.fst _ : Spec) _ _ _); conv => whnf)
            | ((with_reducible show shortK _ _); conv => whnf)
            | exact Nat.le_of_ble_eq_true rfl)
      · have hO := (hW.2.2.2.1 i hi).2.1.1
        repeat' (first
            | omega
            | with_reducible apply And.intro
            | (intro c9; (try simp only [mg, mf, colK, stK, clK, mnK, shN] at c9))
            | ((with_reducible show swK _ _ _ _ _); conv => whnf)
            | exact trivial
            | exact hc
            | exact ⟨9, hc.1⟩
            | exact ⟨9, o1⟩
            | exact ⟨9, hD⟩
            | exact ⟨9, hO⟩
            | rw [hT]
            | rw [hj]
            | exact hA2 z (by omega)
            | (rw [hj] at c9; cases c9; done)
            | exact (hB z (by omega)).2.1 i (by omega) hj
            | exact (hB z (by omega)).2.2.1 (by omega)
            | exact (hB z (by omega)).2.2.2.1 (by omega)
            | exact (hB z (by omega)).2.2.2.2.1 (by omega)
            | exact (hB z (by omega)).2.2.2.2.2.1 (by omega)
            | exact (hB z (by omega)).2.2.2.2.2.2.1 (by omega)
            | exact (hB z (by omega)).2.2.2.2.2.2.2 (by omega)
            | (simp only [mg, mf, colK, stK, clK, mnK, shN]; omega)
            | refine Exists.intro _ (And.intro rfl ?_)
            | refine Exists.intro _ (And.intro (hT) ?_)
            | refine Exists.intro _ (And.intro (hj) ?_)
            | refine Exists.intro _ (And.intro (o4) ?_)
            | ((with_reducible show wp _ _ _ _ _ _ _ _ _ _ _ _ _ _); conv => whnf)
            | ((with_reducible show callK _ _ _ _ _ _ _ _ _); conv => whnf)
            | ((with_reducible show condK _ _ _ _ _); conv => whnf)
            | ((with_reducible show st1 _ _ _ _ _ _ _ _ _ _ _ _); conv => whnf)
            | ((with_reducible show (Prod.fst _ : Spec) _ _ _); conv => whnf)
            | ((with_reducible show shortK _ _); conv => whnf)
            | exact Nat.le_of_ble_eq_true rfl)
    · repeat' (first
          | omega
          | with_reducible apply And.intro
          | (intro c9; (try simp only [mg, mf, colK, stK, clK, mnK, shN] at c9))
          | exact hc
          | exact ⟨9, hc.1⟩
          | exact hA (by omega)
          | (simp only [mg, mf, colK, stK, clK, mnK, shN]; omega)
          | refine Exists.intro _ (And.intro rfl ?_)
          | ((with_reducible show wp _ _ _ _ _ _ _ _ _ _ _ _ _ _); conv => whnf)
          | ((with_reducible show callK _ _ _ _ _ _ _ _ _); conv => whnf)
          | ((with_reducible show condK _ _ _ _ _); conv => whnf)
          | ((with_reducible show st1 _ _ _ _ _ _ _ _ _ _ _ _); conv => whnf)
          | ((with_reducible show (Prod.fst _ : Spec) _ _ _); conv => whnf)
          | ((with_reducible show shortK _ _); conv => whnf)
          | exact Nat.le_of_ble_eq_true rfl)

