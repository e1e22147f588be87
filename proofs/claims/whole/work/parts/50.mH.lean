theorem u2 {S : Sto} {k : Int} {j i : Nat} : (updI S 2 0 k).2.1 (mt j) i = S.2.1 (mt j) i := by
  show (if mt j = 2 ∧ _ then _ else _) = _
  rw [if_neg (by rintro ⟨e, -⟩; unfold mt at e; omega)]
def leftR (S : Sto) (c s k v : Int) (S' : Sto) : Prop := k = (if 0 ≤ c ∧ c < 6 ∧ 0 ≤ s ∧ s < 3 then 0 else 1) ∧ S' = thr S k ∧ (k = 0 → v = mg S 22 (3 * c + s))
def s_left : Spec := fun as S post => match as with
  | [.inr (.inr (some 2)), .inl c, .inl s] => (∃ n, MI n S) ∧ (InR c ∧ InR s) ∧ ∀ k v S', leftR S c s k v S' → post (.inl (some (vI v))) S'
  | _ => False
def spX7_left : Nat → CD := spF mdX7_left fun i => match i with
  | 1 => (s_isColour, 0, 0, 2)
  | 2 => (s_isShade, 0, 0, 2)
  | 3 => (s_holds, 0, 0, 1)
  | _ => noR
set_option maxHeartbeats 4000000 in
set_option maxRecDepth 100000 in
theorem sat_X7_left : Sat mX7_left s_left 0 0 3 := by
  refine sat_of (E := eX7_left) (sp := spX7_left) (ini := false) (by decide +kernel) (fun h => by cases h) okX7_left (fun i => match i with
    | 1 => ⟨sat_X7_isColour, Nat.le_of_ble_eq_true rfl⟩
    | 2 => ⟨sat_X7_isShade, Nat.le_of_ble_eq_true rfl⟩
    | 3 => ⟨sat_X7_holds, Nat.le_of_ble_eq_true rfl⟩
    | i + 4 => ⟨sat_no _, Nat.le_of_ble_eq_true rfl⟩
    | 0 => ⟨sat_no _, Nat.le_of_ble_eq_true rfl⟩) ?_
  intro as S post h
  match as, h with
  | [.inr (.inr (some 2)), .inl c, .inl s], h =>
    obtain ⟨⟨n9, hI⟩, hin, h⟩ := h
    have hI2 := hI
    obtain ⟨hM, hN, -, -, -, -, -, hstk⟩ := hI2
    have hr := hM.2.1
    unfold nD nM nO at hN
    unfold leftR at h
    try unfold nD at h
    try unfold nM at h
    try unfold nO at h
    try dsimp only [seqK, sdK] at h
    dsimp only [mg, mf, colK, stK, clK, mnK, shN] at h hN
    refine body0 200 rfl ?_
    repeat' (first
        | omega
        | with_reducible apply And.intro
        | (intro c9; (try simp only [mg, mf, colK, stK, clK, mnK, shN, u2] at c9))
        | exact hM
        | exact ms_o hM
        | (refine ms_r hM rfl rfl ?_ ?_ <;> (try simp only [mLen]) <;> omega)
        | (refine ms_w hM rfl rfl ?_ ?_ <;> (try simp only [mLen]) <;> omega)
        | (simp only [mg, mf, colK, stK, clK, mnK, shN, u2]; omega)
        | refine Exists.intro _ (And.intro rfl ?_)
        | refine Exists.intro _ (And.intro ((congrFun hr _).trans rfl) ?_)
        | ((with_reducible show wp _ _ _ _ _ _ _ _ _ _ _ _ _ _); conv => whnf)
        | ((with_reducible show callK _ _ _ _ _ _ _ _ _); conv => whnf)
        | ((with_reducible show condK _ _ _ _ _); conv => whnf)
        | ((with_reducible show st1 _ _ _ _ _ _ _ _ _ _ _ _); conv => whnf)
        | ((with_reducible show (Prod.fst _ : Spec) _ _ _); conv => whnf)
        | ((with_reducible show shortK _ _); conv => whnf)
        | exact Nat.le_of_ble_eq_true rfl)
    all_goals first
      | exact h _ _ _ ⟨by omega, rfl, fun q => by omega⟩
      | exact h _ _ _ ⟨by omega, rfl, fun q => rfl⟩
      | exact h _ _ _ ⟨by omega, rfl, fun q => by simp only [u2]; omega⟩
      | exact h _ _ _ ⟨by omega, rfl, fun q => (‹_ ∧ _›).1⟩
      | (exfalso; exact (isB1' ‹isB _ True›) ‹_›)
      | trace_state
def shadeOfR (S : Sto) (o c k v : Int) (S' : Sto) : Prop := k = (if 0 ≤ o ∧ o < nO S ∧ 0 ≤ c ∧ c < 6 then 0 else 1) ∧ S' = thr S k ∧ (k = 0 → v = sdK S o c)
def s_shadeOf : Spec := fun as S post => match as with
  | [.inr (.inr (some 2)), .inl o, .inl c] => (∃ n, MI n S) ∧ (InR o ∧ InR c) ∧ ∀ k v S', shadeOfR S o c k v S' → post (.inl (some (vI v))) S'
  | _ => False
def spX7_shadeOf : Nat → CD := spF mdX7_shadeOf fun i => match i with
  | 1 => (s_isNum_23, 0, 0, 2)
  | 2 => (s_isColour, 0, 0, 2)
  | 3 => (s_holds, 0, 0, 1)
  | _ => noR
set_option maxHeartbeats 4000000 in
set_option maxRecDepth 100000 in
theorem sat_X7_shadeOf : Sat mX7_shadeOf s_shadeOf 0 0 3 := by
  refine sat_of (E := eX7_shadeOf) (sp := spX7_shadeOf) (ini := false) (by decide +kernel) (fun h => by cases h) okX7_shadeOf (fun i => match i with
    | 1 => ⟨sat_X7_isOrder, Nat.le_of_ble_eq_true rfl⟩
    | 2 => ⟨sat_X7_isColour, Nat.le_of_ble_eq_true rfl⟩
    | 3 => ⟨sat_X7_holds, Nat.le_of_ble_eq_true rfl⟩
    | i + 4 => ⟨sat_no _, Nat.le_of_ble_eq_true rfl⟩
    | 0 => ⟨sat_no _, Nat.le_of_ble_eq_true rfl⟩) ?_
  intro as S post h
  match as, h with
  | [.inr (.inr (some 2)), .inl o, .inl c], h =>
    obtain ⟨⟨n9, hI⟩, hin, h⟩ := h
    have hI2 := hI
    obtain ⟨hM, hN, -, -, -, -, -, hstk⟩ := hI2
    have hr := hM.2.1
    unfold nD nM nO at hN
    unfold shadeOfR at h
    try unfold nD at h
    try unfold nM at h
    try unfold nO at h
    try dsimp only [seqK, sdK] at h
    dsimp only [mg, mf, colK, stK, clK, mnK, shN] at h hN
    refine body0 200 rfl ?_
    repeat' (first
        | omega
        | with_reducible apply And.intro
        | (intro c9; (try simp only [mg, mf, colK, stK, clK, mnK, shN, u2] at c9))
        | exact hM
        | exact ms_o hM
        | (refine ms_r hM rfl rfl ?_ ?_ <;> (try simp only [mLen]) <;> omega)
        | (refine ms_w hM rfl rfl ?_ ?_ <;> (try simp only [mLen]) <;> omega)
        | (simp only [mg, mf, colK, stK, clK, mnK, shN, u2]; omega)
        | refine Exists.intro _ (And.intro rfl ?_)
        | refine Exists.intro _ (And.intro ((congrFun hr _).trans rfl) ?_)
        | ((with_reducible show wp _ _ _ _ _ _ _ _ _ _ _ _ _ _); conv => whnf)
        | ((with_reducible show callK _ _ _ _ _ _ _ _ _); conv => whnf)
        | ((with_reducible show condK _ _ _ _ _); conv => whnf)
        | ((with_reducible show st1 _ _ _ _ _ _ _ _ _ _ _ _); conv => whnf)
        | ((with_reducible show (Prod.fst _ : Spec) _ _ _); conv => whnf)
        | ((with_reducible show shortK _ _); conv => whnf)
        | exact Nat.le_of_ble_eq_true rfl)
    all_goals first
      | exact h _ _ _ ⟨by omega, rfl, fun q => by omega⟩
      | exact h _ _ _ ⟨by omega, rfl, fun q => rfl⟩
      | exact h _ _ _ ⟨by omega, rfl, fun q => by simp only [u2]; omega⟩
      | exact h _ _ _ ⟨by omega, rfl, fun q => (‹_ ∧ _›).1⟩
      | (exfalso; exact (isB1' ‹isB _ True›) ‹_›)
      | trace_state
def ofOrderR (S : Sto) (o w k v : Int) (S' : Sto) : Prop := k = (if ¬ (0 ≤ o ∧ o < nO S) then 1 else if 0 ≤ w ∧ w ≤ 6 then 0 else 2) ∧ S' = thr S k ∧ (k = 0 → v = if w = 0 then mg S 26 o else if w = 1 then mg S 24 o else if w = 2 then mg S 25 o else if w = 3 then mg S 28 o else if w = 4 then mg S 29 o else if w = 5 then mg S 30 o else mg S 27 o)
def s_ofOrder : Spec := fun as S post => match as with
  | [.inr (.inr (some 2)), .inl o, .inl w] => (∃ n, MI n S) ∧ (InR o ∧ InR w) ∧ ∀ k v S', ofOrderR S o w k v S' → post (.inl (some (vI v))) S'
  | _ => False
def spX7_ofOrder : Nat → CD := spF mdX7_ofOrder fun i => match i with
  | 1 => (s_isNum_23, 0, 0, 2)
  | 2 => (s_isIn, 0, 0, 1)
  | 3 => (s_holds, 0, 0, 1)
  | _ => noR
set_option maxHeartbeats 4000000 in
set_option maxRecDepth 100000 in
theorem sat_X7_ofOrder : Sat mX7_ofOrder s_ofOrder 0 0 3 := by
  refine sat_of (E := eX7_ofOrder) (sp := spX7_ofOrder) (ini := false) (by decide +kernel) (fun h => by cases h) okX7_ofOrder (fun i => match i with
    | 1 => ⟨sat_X7_isOrder, Nat.le_of_ble_eq_true rfl⟩
    | 2 => ⟨sat_X7_isIn, Nat.le_of_ble_eq_true rfl⟩
    | 3 => ⟨sat_X7_holds, Nat.le_of_ble_eq_true rfl⟩
    | i + 4 => ⟨sat_no _, Nat.le_of_ble_eq_true rfl⟩
    | 0 => ⟨sat_no _, Nat.le_of_ble_eq_true rfl⟩) ?_
  intro as S post h
  match as, h with
  | [.inr (.inr (some 2)), .inl o, .inl w], h =>
    obtain ⟨⟨n9, hI⟩, hin, h⟩ := h
    have hI2 := hI
    obtain ⟨hM, hN, -, -, -, -, -, hstk⟩ := hI2
    have hr := hM.2.1
    unfold nD nM nO at hN
    unfold ofOrderR at h
    try unfold nD at h
    try unfold nM at h
    try unfold nO at h
    try dsimp only [seqK, sdK] at h
    dsimp only [mg, mf, colK, stK, clK, mnK, shN] at h hN
    refine body0 200 rfl ?_
    repeat' (first
        | omega
        | with_reducible apply And.intro
        | (intro c9; (try simp only [mg, mf, colK, stK, clK, mnK, shN, u2] at c9))
        | exact hM
        | exact ms_o hM
        | (refine ms_r hM rfl rfl ?_ ?_ <;> (try simp only [mLen]) <;> omega)
        | (refine ms_w hM rfl rfl ?_ ?_ <;> (try simp only [mLen]) <;> omega)
        | (simp only [mg, mf, colK, stK, clK, mnK, shN, u2]; omega)
        | refine Exists.intro _ (And.intro rfl ?_)
        | refine Exists.intro _ (And.intro ((congrFun hr _).trans rfl) ?_)
        | ((with_reducible show wp _ _ _ _ _ _ _ _ _ _ _ _ _ _); conv => whnf)
        | ((with_reducible show callK _ _ _ _ _ _ _ _ _); conv => whnf)
        | ((with_reducible show condK _ _ _ _ _); conv => whnf)
        | ((with_reducible show st1 _ _ _ _ _ _ _ _ _ _ _ _); conv => whnf)
        | ((with_reducible show (Prod.fst _ : Spec) _ _ _); conv => whnf)
        | ((with_reducible show shortK _ _); conv => whnf)
        | exact Nat.le_of_ble_eq_true rfl)
    all_goals first
      | exact h _ _ _ ⟨by omega, rfl, fun q => by omega⟩
      | exact h _ _ _ ⟨by omega, rfl, fun q => rfl⟩
      | exact h _ _ _ ⟨by omega, rfl, fun q => by simp only [u2]; omega⟩
      | exact h _ _ _ ⟨by omega, rfl, fun q => (‹_ ∧ _›).1⟩
      | (exfalso; exact (isB1' ‹isB _ True›) ‹_›)
      | trace_state
def sequenceR (S : Sto) (d p k v : Int) (S' : Sto) : Prop := k = (if 0 ≤ d ∧ d < nD S ∧ 0 ≤ p then 0 else 1) ∧ S' = thr S k ∧ (k = 0 → v = if p < shN S d then seqK S d p else -1)
def s_sequence : Spec := fun as S post => match as with
  | [.inr (.inr (some 2)), .inl d, .inl p] => (∃ n, MI n S) ∧ (InR d ∧ InR p) ∧ ∀ k v S', sequenceR S d p k v S' → post (.inl (some (vI v))) S'
  | _ => False
def spX7_sequence : Nat → CD := spF mdX7_sequence fun i => match i with
  | 1 => (s_isNum_8, 0, 0, 2)
  | 2 => (s_holds, 0, 0, 1)
  | _ => noR
set_option maxHeartbeats 4000000 in
set_option maxRecDepth 100000 in
theorem sat_X7_sequence : Sat mX7_sequence s_sequence 0 0 3 := by
  refine sat_of (E := eX7_sequence) (sp := spX7_sequence) (ini := false) (by decide +kernel) (fun h => by cases h) okX7_sequence (fun i => match i with
    | 1 => ⟨sat_X7_isDesign, Nat.le_of_ble_eq_true rfl⟩
    | 2 => ⟨sat_X7_holds, Nat.le_of_ble_eq_true rfl⟩
    | i + 3 => ⟨sat_no _, Nat.le_of_ble_eq_true rfl⟩
    | 0 => ⟨sat_no _, Nat.le_of_ble_eq_true rfl⟩) ?_
  intro as S post h
  match as, h with
  | [.inr (.inr (some 2)), .inl d, .inl p], h =>
    obtain ⟨⟨n9, hI⟩, hin, h⟩ := h
    have hI2 := hI
    obtain ⟨hM, hN, -, -, -, -, -, hstk⟩ := hI2
    have hr := hM.2.1
    unfold nD nM nO at hN
    unfold sequenceR at h
    try unfold nD at h
    try unfold nM at h
    try unfold nO at h
    have hde : 0 ≤ d → d < nD S → 1 ≤ shN S d ∧ shN S d ≤ 7 := fun h0 h1 => by
      have q := (hI.2.2.2.1 d h0 h1).1
      exact ⟨q.2.2.1, q.2.2.2.1⟩
    unfold nD at hde
    dsimp only [mg, mf, colK, stK, clK, mnK, shN] at hde
    try dsimp only [seqK, sdK] at h
    dsimp only [mg, mf, colK, stK, clK, mnK, shN] at h hN
    refine body0 200 rfl ?_
    repeat' (first
        | omega
        | with_reducible apply And.intro
        | (intro c9; (try simp only [mg, mf, colK, stK, clK, mnK, shN, u2] at c9))
        | exact hM
        | exact ms_o hM
        | (refine ms_r hM rfl rfl ?_ ?_ <;> (try simp only [mLen]) <;> omega)
        | (refine ms_w hM rfl rfl ?_ ?_ <;> (try simp only [mLen]) <;> omega)
        | (simp only [mg, mf, colK, stK, clK, mnK, shN, u2]; omega)
        | refine Exists.intro _ (And.intro rfl ?_)
        | refine Exists.intro _ (And.intro ((congrFun hr _).trans rfl) ?_)
        | ((with_reducible show wp _ _ _ _ _ _ _ _ _ _ _ _ _ _); conv => whnf)
        | ((with_reducible show callK _ _ _ _ _ _ _ _ _); conv => whnf)
        | ((with_reducible show condK _ _ _ _ _); conv => whnf)
        | ((with_reducible show st1 _ _ _ _ _ _ _ _ _ _ _ _); conv => whnf)
        | ((with_reducible show (Prod.fst _ : Spec) _ _ _); conv => whnf)
        | ((with_reducible show shortK _ _); conv => whnf)
        | exact Nat.le_of_ble_eq_true rfl)
    all_goals first
      | exact h _ _ _ ⟨by omega, rfl, fun q => by omega⟩
      | exact h _ _ _ ⟨by omega, rfl, fun q => rfl⟩
      | exact h _ _ _ ⟨by omega, rfl, fun q => by simp only [u2]; omega⟩
      | exact h _ _ _ ⟨by omega, rfl, fun q => (‹_ ∧ _›).1⟩
      | (exfalso; exact (isB1' ‹isB _ True›) ‹_›)
      | trace_state
def stitchR (S : Sto) (d p w k v : Int) (S' : Sto) : Prop := k = (if ¬ (0 ≤ d ∧ d < nD S) ∨ p < 0 then 1 else if 0 ≤ w ∧ w ≤ 2 then 0 else 2) ∧ S' = thr S k ∧ (k = 0 → v = if mnK S d ≤ p then -1 else if w = 0 then stK S d p % 16 else if w = 1 then stK S d p / 16 % 16 else stK S d p / 256)
def s_stitch : Spec := fun as S post => match as with
  | [.inr (.inr (some 2)), .inl d, .inl p, .inl w] => (∃ n, MI n S) ∧ (InR d ∧ InR p ∧ InR w) ∧ ∀ k v S', stitchR S d p w k v S' → post (.inl (some (vI v))) S'
  | _ => False
def spX7_stitch : Nat → CD := spF mdX7_stitch fun i => match i with
  | 1 => (s_isNum_8, 0, 0, 2)
  | 2 => (s_isIn, 0, 0, 1)
  | 3 => (s_holds, 0, 0, 1)
  | _ => noR
set_option maxHeartbeats 4000000 in
set_option maxRecDepth 100000 in
theorem sat_X7_stitch : Sat mX7_stitch s_stitch 0 0 3 := by
  refine sat_of (E := eX7_stitch) (sp := spX7_stitch) (ini := false) (by decide +kernel) (fun h => by cases h) okX7_stitch (fun i => match i with
    | 1 => ⟨sat_X7_isDesign, Nat.le_of_ble_eq_true rfl⟩
    | 2 => ⟨sat_X7_isIn, Nat.le_of_ble_eq_true rfl⟩
    | 3 => ⟨sat_X7_holds, Nat.le_of_ble_eq_true rfl⟩
    | i + 4 => ⟨sat_no _, Nat.le_of_ble_eq_true rfl⟩
    | 0 => ⟨sat_no _, Nat.le_of_ble_eq_true rfl⟩) ?_
  intro as S post h
  match as, h with
  | [.inr (.inr (some 2)), .inl d, .inl p, .inl w], h =>
    obtain ⟨⟨n9, hI⟩, hin, h⟩ := h
    have hI2 := hI
    obtain ⟨hM, hN, -, -, -, -, -, hstk⟩ := hI2
    have hr := hM.2.1
    unfold nD nM nO at hN
    unfold stitchR at h
    try unfold nD at h
    try unfold nM at h
    try unfold nO at h
    have hde : 0 ≤ d → d < nD S → 1 ≤ mnK S d ∧ mnK S d ≤ 2240 := fun h0 h1 => (hI.2.2.2.1 d h0 h1).mn
    have hds : 0 ≤ d → d < nD S → 0 ≤ p → p < mnK S d → 0 ≤ stK S d p ∧ stK S d p < 1792 := fun h0 h1 p0 p1 => by
      have q := ((hI.2.2.2.1 d h0 h1).stR p0 p1).1
      exact ⟨q.2.2.2.2.1, q.2.2.2.2.2⟩
    unfold nD at hde hds
    dsimp only [mg, mf, colK, stK, clK, mnK, shN] at hde hds
    try dsimp only [seqK, sdK] at h
    dsimp only [mg, mf, colK, stK, clK, mnK, shN] at h hN
    refine body0 200 rfl ?_
    repeat' (first
        | omega
        | with_reducible apply And.intro
        | (intro c9; (try simp only [mg, mf, colK, stK, clK, mnK, shN, u2] at c9))
        | exact hM
        | exact ms_o hM
        | (refine ms_r hM rfl rfl ?_ ?_ <;> (try simp only [mLen]) <;> omega)
        | (refine ms_w hM rfl rfl ?_ ?_ <;> (try simp only [mLen]) <;> omega)
        | (simp only [mg, mf, colK, stK, clK, mnK, shN, u2]; omega)
        | refine Exists.intro _ (And.intro rfl ?_)
        | refine Exists.intro _ (And.intro ((congrFun hr _).trans rfl) ?_)
        | ((with_reducible show wp _ _ _ _ _ _ _ _ _ _ _ _ _ _); conv => whnf)
        | ((with_reducible show callK _ _ _ _ _ _ _ _ _); conv => whnf)
        | ((with_reducible show condK _ _ _ _ _); conv => whnf)
        | ((with_reducible show st1 _ _ _ _ _ _ _ _ _ _ _ _); conv => whnf)
        | ((with_reducible show (Prod.fst _ : Spec) _ _ _); conv => whnf)
        | ((with_reducible show shortK _ _); conv => whnf)
        | exact Nat.le_of_ble_eq_true rfl)
    all_goals first
      | exact h _ _ _ ⟨by omega, rfl, fun q => by omega⟩
      | exact h _ _ _ ⟨by omega, rfl, fun q => rfl⟩
      | exact h _ _ _ ⟨by omega, rfl, fun q => by simp only [u2]; omega⟩
      | exact h _ _ _ ⟨by omega, rfl, fun q => (‹_ ∧ _›).1⟩
      | (exfalso; exact (isB1' ‹isB _ True›) ‹_›)
      | trace_state
def stitchesR (S : Sto) (d c k v : Int) (S' : Sto) : Prop := k = (if 0 ≤ d ∧ d < nD S ∧ (c = -1 ∨ 0 ≤ c ∧ c < 6) then 0 else 1) ∧ S' = thr S k ∧ (k = 0 → v = cntC S d c (mnK S d).toNat)
def s_stitches : Spec := fun as S post => match as with
  | [.inr (.inr (some 2)), .inl d, .inl c] => (∃ n, MI n S) ∧ (InR d ∧ InR c) ∧ ∀ k v S', stitchesR S d c k v S' → post (.inl (some (vI v))) S'
  | _ => False
def spX7_stitches : Nat → CD := spF mdX7_stitches fun i => match i with
  | 1 => (s_isNum_8, 0, 0, 2)
  | 2 => (s_isColour, 0, 0, 2)
  | 3 => (s_holds, 0, 0, 1)
  | 4 => (s_manyOf, 0, 0, 2)
  | _ => noR
set_option maxHeartbeats 4000000 in
set_option maxRecDepth 100000 in
theorem sat_X7_stitches : Sat mX7_stitches s_stitches 0 0 3 := by
  refine sat_of (E := eX7_stitches) (sp := spX7_stitches) (ini := false) (by decide +kernel) (fun h => by cases h) okX7_stitches (fun i => match i with
    | 1 => ⟨sat_X7_isDesign, Nat.le_of_ble_eq_true rfl⟩
    | 2 => ⟨sat_X7_isColour, Nat.le_of_ble_eq_true rfl⟩
    | 3 => ⟨sat_X7_holds, Nat.le_of_ble_eq_true rfl⟩
    | 4 => ⟨sat_X7_manyOf, Nat.le_of_ble_eq_true rfl⟩
    | i + 5 => ⟨sat_no _, Nat.le_of_ble_eq_true rfl⟩
    | 0 => ⟨sat_no _, Nat.le_of_ble_eq_true rfl⟩) ?_
  intro as S post h
  match as, h with
  | [.inr (.inr (some 2)), .inl d, .inl c], h =>
    obtain ⟨⟨n9, hI⟩, hin, h⟩ := h
    have hI2 := hI
    obtain ⟨hM, hN, -, -, -, -, -, hstk⟩ := hI2
    have hr := hM.2.1
    unfold nD nM nO at hN
    unfold stitchesR at h
    try unfold nD at h
    try unfold nM at h
    try unfold nO at h
    have hde : 0 ≤ d → d < mf S 8 → dsOK S d := fun h0 h1 => (hI.2.2.2.1 d h0 h1).ds
    dsimp only [mg, mf, colK, stK, clK, mnK, shN] at hde
    try dsimp only [seqK, sdK] at h
    dsimp only [mg, mf, colK, stK, clK, mnK, shN] at h hN
    refine body0 200 rfl ?_
    repeat' (first
        | omega
        | with_reducible apply And.intro
        | (intro c9; (try simp only [mg, mf, colK, stK, clK, mnK, shN, u2] at c9))
        | exact hM
        | exact ms_o hM
        | (refine ms_r hM rfl rfl ?_ ?_ <;> (try simp only [mLen]) <;> omega)
        | (refine ms_w hM rfl rfl ?_ ?_ <;> (try simp only [mLen]) <;> omega)
        | exact hde (by omega) (by omega)
        | exact hin.2
        | (simp only [mg, mf, colK, stK, clK, mnK, shN, u2]; omega)
        | refine Exists.intro _ (And.intro rfl ?_)
        | refine Exists.intro _ (And.intro ((congrFun hr _).trans rfl) ?_)
        | ((with_reducible show wp _ _ _ _ _ _ _ _ _ _ _ _ _ _); conv => whnf)
        | ((with_reducible show callK _ _ _ _ _ _ _ _ _); conv => whnf)
        | ((with_reducible show condK _ _ _ _ _); conv => whnf)
        | ((with_reducible show st1 _ _ _ _ _ _ _ _ _ _ _ _); conv => whnf)
        | ((with_reducible show (Prod.fst _ : Spec) _ _ _); conv => whnf)
        | ((with_reducible show shortK _ _); conv => whnf)
        | exact Nat.le_of_ble_eq_true rfl)
    all_goals first
      | exact h _ _ _ ⟨by omega, rfl, fun q => by omega⟩
      | exact h _ _ _ ⟨by omega, rfl, fun q => rfl⟩
      | exact h _ _ _ ⟨by omega, rfl, fun q => by simp only [u2]; omega⟩
      | exact h _ _ _ ⟨by omega, rfl, fun q => (‹_ ∧ _›).1⟩
      | (exfalso; exact (isB1' ‹isB _ True›) ‹_›)
      | trace_state
