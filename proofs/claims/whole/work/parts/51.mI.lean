theorem mt_a {k : Nat} : (2 = mt k) = False := eq_false (by unfold mt; omega)
theorem mt_b {k : Nat} : (mt k = 2) = False := eq_false (by unfold mt; omega)
theorem mt_c {a b : Nat} : (mt a = mt b) = (a = b) := propext ⟨mt_inj, fun e => by rw [e]⟩
def wipeR (S : Sto) (k v : Int) (S' : Sto) : Prop := k = 0 ∧ v = shN S 6 ∧ S' = updI (thr S 0) (mt 1) 6 0
def s_wipe : Spec := fun as S post => match as with
  | [.inr (.inr (some 2))] => (∃ n, MI n S) ∧ (True) ∧ ∀ k v S', wipeR S  k v S' → post (.inl (some (vI v))) S'
  | _ => False
def spX7_wipe : Nat → CD := spF mdX7_wipe fun i => match i with
  | _ => noR
set_option maxHeartbeats 4000000 in
set_option maxRecDepth 100000 in
theorem sat_X7_wipe : Sat mX7_wipe s_wipe 0 0 3 := by
  refine sat_of (E := eX7_wipe) (sp := spX7_wipe) (ini := false) (by decide +kernel) (fun h => by cases h) okX7_wipe (fun i => match i with
    | _ => ⟨sat_no _, Nat.le_of_ble_eq_true rfl⟩) ?_
  intro as S post h
  match as, h with
  | [.inr (.inr (some 2))], h =>
    obtain ⟨⟨n9, hI⟩, hin, h⟩ := h
    have hI2 := hI
    obtain ⟨hM, hN, hdr, -, -, -, -, hstk⟩ := hI2
    have hr := hM.2.1
    obtain ⟨hdr0, hdr1, -⟩ := hdr
    unfold nD nM nO at hN
    unfold wipeR at h
    try unfold nD at h
    try unfold nM at h
    try unfold nO at h
    try dsimp only [seqK, sdK] at h
    dsimp only [mg, mf, colK, stK, clK, mnK, shN] at h hN hdr0 hdr1
    refine body0 300 rfl ?_
    repeat' (first
        | omega
        | with_reducible apply And.intro
        | (intro c9; (try simp only [mg, mf, colK, stK, clK, mnK, shN, u2] at c9))
        | exact hM
        | exact ms_o hM
        | (refine ms_r hM rfl rfl ?_ ?_ <;> (try simp only [mLen]) <;> omega)
        | (refine ms_w hM rfl rfl ?_ ?_ <;> (try simp only [mLen]) <;> omega)
        | (refine ms_r hM rfl rfl ?_ ?_ <;> (try simp only [mLen, updI_2, mt_a, mt_b, mt_c, false_and, if_false]) <;> omega)
        | (refine ms_w hM rfl rfl ?_ ?_ <;> (try simp only [mLen, updI_2, mt_a, mt_b, mt_c, false_and, if_false]) <;> omega)
        | (simp only [mg, mf, colK, stK, clK, mnK, shN, u2]; omega)
        | refine Exists.intro _ (And.intro rfl ?_)
        | refine Exists.intro _ (And.intro ((congrFun hr _).trans rfl) ?_)
        | ((with_reducible show wp _ _ _ _ _ _ _ _ _ _ _ _ _ _); conv => whnf)
        | ((with_reducible show callK _ _ _ _ _ _ _ _ _); conv => whnf)
        | ((with_reducible show condK _ _ _ _ _); conv => whnf)
        | ((with_reducible show st1 _ _ _ _ _ _ _ _ _ _ _ _); conv => whnf)
        | ((with_reducible show (Prod.fst _ : Spec) _ _ _); conv => whnf)
        | ((with_reducible show shortK _ _); conv => whnf)
        | exact Nat.le_of_ble_eq_true rfl)
    all_goals first
      | exact h _ _ _ ⟨by omega, fun _ => rfl, fun q => by omega⟩
      | exact h _ _ _ ⟨rfl, rfl, rfl⟩
      | (exfalso; exact (isB1' ‹isB _ True›) ‹_›)
      | trace_state
def orderR (S : Sto) (d p k v : Int) (S' : Sto) : Prop := k = (if ¬ (0 ≤ d ∧ d < nD S) then 1 else if ¬ (1 ≤ p ∧ p ≤ 50) then 2 else if nO S = 20 then 3 else 0) ∧ (k ≠ 0 → S' = thr S k) ∧ (k = 0 → v = nO S ∧ S' = updI (updI (updI (updI (thr S 0) (mt 24) (nO S).toNat d) (mt 25) (nO S).toNat p) (mt 27) (nO S).toNat (-1)) 2 23 (nO S + 1))
def s_order : Spec := fun as S post => match as with
  | [.inr (.inr (some 2)), .inl d, .inl p] => (∃ n, MI n S) ∧ (InR d ∧ InR p) ∧ ∀ k v S', orderR S d p k v S' → post (.inl (some (vI v))) S'
  | _ => False
def spX7_order : Nat → CD := spF mdX7_order fun i => match i with
  | 1 => (s_isNum_8, 0, 0, 2)
  | 2 => (s_isIn, 0, 0, 1)
  | 3 => (s_holds, 0, 0, 1)
  | _ => noR
set_option maxHeartbeats 4000000 in
set_option maxRecDepth 100000 in
theorem sat_X7_order : Sat mX7_order s_order 0 0 3 := by
  refine sat_of (E := eX7_order) (sp := spX7_order) (ini := false) (by decide +kernel) (fun h => by cases h) okX7_order (fun i => match i with
    | 1 => ⟨sat_X7_isDesign, Nat.le_of_ble_eq_true rfl⟩
    | 2 => ⟨sat_X7_isIn, Nat.le_of_ble_eq_true rfl⟩
    | 3 => ⟨sat_X7_holds, Nat.le_of_ble_eq_true rfl⟩
    | i + 4 => ⟨sat_no _, Nat.le_of_ble_eq_true rfl⟩
    | 0 => ⟨sat_no _, Nat.le_of_ble_eq_true rfl⟩) ?_
  intro as S post h
  match as, h with
  | [.inr (.inr (some 2)), .inl d, .inl p], h =>
    obtain ⟨⟨n9, hI⟩, hin, h⟩ := h
    have hI2 := hI
    obtain ⟨hM, hN, hdr, -, -, -, -, hstk⟩ := hI2
    have hr := hM.2.1
    obtain ⟨hdr0, hdr1, -⟩ := hdr
    unfold nD nM nO at hN
    unfold orderR at h
    try unfold nD at h
    try unfold nM at h
    try unfold nO at h
    try dsimp only [seqK, sdK] at h
    dsimp only [mg, mf, colK, stK, clK, mnK, shN] at h hN hdr0 hdr1
    refine body0 300 rfl ?_
    repeat' (first
        | omega
        | with_reducible apply And.intro
        | (intro c9; (try simp only [mg, mf, colK, stK, clK, mnK, shN, u2] at c9))
        | exact hM
        | exact ms_o hM
        | (refine ms_r hM rfl rfl ?_ ?_ <;> (try simp only [mLen]) <;> omega)
        | (refine ms_w hM rfl rfl ?_ ?_ <;> (try simp only [mLen]) <;> omega)
        | (refine ms_r hM rfl rfl ?_ ?_ <;> (try simp only [mLen, updI_2, mt_a, mt_b, mt_c, false_and, if_false]) <;> omega)
        | (refine ms_w hM rfl rfl ?_ ?_ <;> (try simp only [mLen, updI_2, mt_a, mt_b, mt_c, false_and, if_false]) <;> omega)
        | (simp only [mg, mf, colK, stK, clK, mnK, shN, u2]; omega)
        | refine Exists.intro _ (And.intro rfl ?_)
        | refine Exists.intro _ (And.intro ((congrFun hr _).trans rfl) ?_)
        | ((with_reducible show wp _ _ _ _ _ _ _ _ _ _ _ _ _ _); conv => whnf)
        | ((with_reducible show callK _ _ _ _ _ _ _ _ _); conv => whnf)
        | ((with_reducible show condK _ _ _ _ _); conv => whnf)
        | ((with_reducible show st1 _ _ _ _ _ _ _ _ _ _ _ _); conv => whnf)
        | ((with_reducible show (Prod.fst _ : Spec) _ _ _); conv => whnf)
        | ((with_reducible show shortK _ _); conv => whnf)
        | exact Nat.le_of_ble_eq_true rfl)
    all_goals first
      | exact h _ _ _ ⟨by omega, fun _ => rfl, fun q => by omega⟩
      | exact h _ _ _ ⟨by omega, fun q => absurd rfl q, fun _ => ⟨by show S.2.1 2 23 + 1 - 1 = _; omega, rfl⟩⟩
      | (exfalso; exact (isB1' ‹isB _ True›) ‹_›)
      | trace_state
def shapeR (S : Sto) (i c x y w g k v : Int) (S' : Sto) : Prop := k = (if ¬ (0 ≤ i ∧ i ≤ 1 ∧ 0 ≤ c ∧ c < 6) then 1 else if ¬ (0 ≤ x ∧ x ≤ 15 ∧ 0 ≤ y ∧ y ≤ 15 ∧ 1 ≤ w ∧ w ≤ 16 - x ∧ 1 ≤ g ∧ g ≤ 16 - y) then 2 else if shN S 6 = 7 then 3 else 0) ∧ (k ≠ 0 → S' = thr S k) ∧ (k = 0 → v = shN S 6 + 1 ∧ S' = updI (updI (updI (updI (updI (updI (updI (thr S 0) (mt 2) (42 + shN S 6).toNat i) (mt 3) (42 + shN S 6).toNat c) (mt 4) (42 + shN S 6).toNat x) (mt 5) (42 + shN S 6).toNat y) (mt 6) (42 + shN S 6).toNat w) (mt 7) (42 + shN S 6).toNat g) (mt 1) 6 (shN S 6 + 1))
def s_shape : Spec := fun as S post => match as with
  | [.inr (.inr (some 2)), .inl i, .inl c, .inl x, .inl y, .inl w, .inl g] => (∃ n, MI n S) ∧ (InR i ∧ InR c ∧ InR x ∧ InR y ∧ InR w ∧ InR g) ∧ ∀ k v S', shapeR S i c x y w g k v S' → post (.inl (some (vI v))) S'
  | _ => False
def spX7_shape : Nat → CD := spF mdX7_shape fun i => match i with
  | 1 => (s_isIn, 0, 0, 1)
  | 2 => (s_isColour, 0, 0, 2)
  | 3 => (s_holds, 0, 0, 1)
  | _ => noR
set_option maxHeartbeats 4000000 in
set_option maxRecDepth 100000 in
theorem sat_X7_shape : Sat mX7_shape s_shape 0 0 3 := by
  refine sat_of (E := eX7_shape) (sp := spX7_shape) (ini := false) (by decide +kernel) (fun h => by cases h) okX7_shape (fun i => match i with
    | 1 => ⟨sat_X7_isIn, Nat.le_of_ble_eq_true rfl⟩
    | 2 => ⟨sat_X7_isColour, Nat.le_of_ble_eq_true rfl⟩
    | 3 => ⟨sat_X7_holds, Nat.le_of_ble_eq_true rfl⟩
    | i + 4 => ⟨sat_no _, Nat.le_of_ble_eq_true rfl⟩
    | 0 => ⟨sat_no _, Nat.le_of_ble_eq_true rfl⟩) ?_
  intro as S post h
  match as, h with
  | [.inr (.inr (some 2)), .inl i, .inl c, .inl x, .inl y, .inl w, .inl g], h =>
    obtain ⟨⟨n9, hI⟩, hin, h⟩ := h
    have hI2 := hI
    obtain ⟨hM, hN, hdr, -, -, -, -, hstk⟩ := hI2
    have hr := hM.2.1
    obtain ⟨hdr0, hdr1, -⟩ := hdr
    unfold nD nM nO at hN
    unfold shapeR at h
    try unfold nD at h
    try unfold nM at h
    try unfold nO at h
    try dsimp only [seqK, sdK] at h
    dsimp only [mg, mf, colK, stK, clK, mnK, shN] at h hN hdr0 hdr1
    refine body0 300 rfl ?_
    repeat' (first
        | omega
        | with_reducible apply And.intro
        | (intro c9; (try simp only [mg, mf, colK, stK, clK, mnK, shN, u2] at c9))
        | exact hM
        | exact ms_o hM
        | (refine ms_r hM rfl rfl ?_ ?_ <;> (try simp only [mLen]) <;> omega)
        | (refine ms_w hM rfl rfl ?_ ?_ <;> (try simp only [mLen]) <;> omega)
        | (refine ms_r hM rfl rfl ?_ ?_ <;> (try simp only [mLen, updI_2, mt_a, mt_b, mt_c, false_and, if_false]) <;> omega)
        | (refine ms_w hM rfl rfl ?_ ?_ <;> (try simp only [mLen, updI_2, mt_a, mt_b, mt_c, false_and, if_false]) <;> omega)
        | (simp only [mg, mf, colK, stK, clK, mnK, shN, u2]; omega)
        | refine Exists.intro _ (And.intro rfl ?_)
        | refine Exists.intro _ (And.intro ((congrFun hr _).trans rfl) ?_)
        | ((with_reducible show wp _ _ _ _ _ _ _ _ _ _ _ _ _ _); conv => whnf)
        | ((with_reducible show callK _ _ _ _ _ _ _ _ _); conv => whnf)
        | ((with_reducible show condK _ _ _ _ _); conv => whnf)
        | ((with_reducible show st1 _ _ _ _ _ _ _ _ _ _ _ _); conv => whnf)
        | ((with_reducible show (Prod.fst _ : Spec) _ _ _); conv => whnf)
        | ((with_reducible show shortK _ _); conv => whnf)
        | exact Nat.le_of_ble_eq_true rfl)
    all_goals first
      | exact h _ _ _ ⟨by omega, fun _ => rfl, fun q => by omega⟩
      | exact h _ _ _ ⟨by omega, fun q => absurd rfl q, fun _ => ⟨rfl, rfl⟩⟩
      | (exfalso; exact (isB1' ‹isB _ True›) ‹_›)
      | trace_state
