/-! THE REFERENCE: its object (tag 2) and its arrays (tag 20 + the field's place) -/
def mRef : Nat → Option Nat := fun k => cond (isR 7 k && Nat.blt k 33) (some (mt k)) none
def mLen : Nat → Nat
  | 1 => 7 | 2 => 49 | 3 => 49 | 4 => 49 | 5 => 49 | 6 => 49 | 7 => 49 | 9 => 42 | 10 => 6 | 11 => 13440 | 12 => 1024 | 14 => 4 | 15 => 4 | 16 => 4 | 17 => 4 | 18 => 4 | 19 => 4 | 20 => 24 | 21 => 24 | 22 => 18
  | 24 => 20 | 25 => 20 | 26 => 20 | 27 => 20 | 28 => 20 | 29 => 20 | 30 => 20 | 31 => 120 | 32 => 7 | _ => 0
def MS (S : Sto) : Prop := S.1 2 = some (7, 33) ∧ S.2.2 2 = mRef ∧ ∀ k, isR 7 k = true → k < 33 → S.1 (mt k) = some (100, mLen k)
theorem ms_o {S : Sto} (h : MS S) : ∃ n, S.1 2 = some (7, n) := ⟨33, h.1⟩
theorem ms_r {S : Sto} (h : MS S) {k : Nat} {i : Int} (hk : isR 7 k = true) (hk2 : Nat.blt k 33 = true) (h0 : 0 ≤ i) (h1 : i < (mLen k : Int)) : ∃ cd n, S.1 (mt k) = some (cd, n) ∧ (cd = 100 ∨ cd = 102) ∧ 0 ≤ i ∧ i < (n : Int) := ⟨100, mLen k, h.2.2 k hk (by simpa using hk2), Or.inl rfl, h0, h1⟩
theorem ms_w {S : Sto} (h : MS S) {k : Nat} {i : Int} (hk : isR 7 k = true) (hk2 : Nat.blt k 33 = true) (h0 : 0 ≤ i) (h1 : i < (mLen k : Int)) : ∃ n, S.1 (mt k) = some (100, n) ∧ 0 ≤ i ∧ i < (n : Int) := ⟨mLen k, h.2.2 k hk (by simpa using hk2), h0, h1⟩
theorem MS.upd {S : Sto} (h : MS S) {t k : Nat} {v : Int} : MS (updI S t k v) := h
def wideF (kd wd row : Int) : Int := if kd = 1 ∧ row + 1 < wd then row + 1 else wd
def hasP (kd lf tp wd hg x y : Int) : Prop := tp ≤ y ∧ y < tp + hg ∧ lf ≤ x ∧ x < lf + wideF kd wd (y - tp)
/-- the data of the shape at place k are in range -/
def shOK (S : Sto) (k : Int) : Prop := 0 ≤ k ∧ k < 49 ∧ (mg S 2 k = 0 ∨ mg S 2 k = 1) ∧ 0 ≤ mg S 3 k ∧ mg S 3 k < 6 ∧ 0 ≤ mg S 4 k ∧ mg S 4 k ≤ 15 ∧ 0 ≤ mg S 5 k ∧ mg S 5 k ≤ 15 ∧ 1 ≤ mg S 6 k ∧ mg S 6 k ≤ 16 - mg S 4 k ∧ 1 ≤ mg S 7 k ∧ mg S 7 k ≤ 16 - mg S 5 k
def hasK (S : Sto) (k x y : Int) : Prop := hasP (mg S 2 k) (mg S 4 k) (mg S 5 k) (mg S 6 k) (mg S 7 k) x y
def s_thrown : Spec := fun as S post => match as with
  | [.inr (.inr (some 2))] => MS S ∧ post (.inl (some (vI (mf S 0)))) S
  | _ => False
def s_holds : Spec := fun as S post => match as with
  | [.inr (.inr (some 2)), .inl p] => MS S ∧ InR p ∧ ∀ r, isB r (p = 0) → post (.inl (some (vI r))) (updI S 2 0 p)
  | _ => False
def s_isIn : Spec := sF3 (fun a b c => InR a ∧ InR b ∧ InR c) fun a b c r => isB r (b ≤ a ∧ a ≤ c)
def s_isNum (k : Nat) : Spec := fun as S post => match as with
  | [.inr (.inr (some 2)), .inl a] => MS S ∧ InR a ∧ (0 ≤ mf S k ∧ mf S k ≤ 20) ∧ ∀ r, isB r (0 ≤ a ∧ a < mf S k) → post (.inl (some (vI r))) S
  | _ => False
def s_wideAt : Spec := fun as S post => match as with
  | [.inr (.inr (some 2)), .inl k, .inl row] => MS S ∧ shOK S k ∧ (0 ≤ row ∧ row ≤ 100) ∧ ∀ r, (r = wideF (mg S 2 k) (mg S 6 k) row ∧ 1 ≤ r ∧ r ≤ mg S 6 k) → post (.inl (some (vI r))) S
  | _ => False
def s_has : Spec := fun as S post => match as with
  | [.inr (.inr (some 2)), .inl k, .inl x, .inl y] => MS S ∧ shOK S k ∧ (-100 ≤ x ∧ x ≤ 100 ∧ -100 ≤ y ∧ y ≤ 100) ∧ ∀ r, isB r (hasK S k x y) → post (.inl (some (vI r))) S
  | _ => False
def s_isNum_8 : Spec := s_isNum 8
def s_isNum_13 : Spec := s_isNum 13
def s_isNum_23 : Spec := s_isNum 23
def spX7_thrown : Nat → CD := spF mdX7_thrown fun i => match i with
  | _ => noR
set_option maxHeartbeats 4000000 in
set_option maxRecDepth 100000 in
theorem sat_X7_thrown : Sat mX7_thrown s_thrown 0 0 1 := by
  refine sat_of (E := eX7_thrown) (sp := spX7_thrown) (ini := false) (by decide +kernel) (fun h => by cases h) okX7_thrown (fun i => match i with
    | _ => ⟨sat_no _, Nat.le_of_ble_eq_true rfl⟩) ?_
  intro as S post h
  match as, h with
  | [.inr (.inr (some 2))], h =>
    obtain ⟨hM, h⟩ := h
    have hr := hM.2.1
    try unfold shOK at *
    try dsimp only [mg, mf, colK, stK, clK, mnK, shN] at *
    refine body0 50 rfl ?_
    repeat' (first
        | omega
        | with_reducible apply And.intro
        | (intro c9; (try simp only [mg, mf, colK, stK, clK, mnK, shN] at c9))
        | exact ms_o hM
        | (exact kr_i h (Nat.le_of_ble_eq_true rfl) (Nat.le_of_ble_eq_true rfl))
        | (simp only [mg, mf, colK, stK, clK, mnK, shN]; omega)
        | refine Exists.intro _ (And.intro rfl ?_)
        | refine Exists.intro _ (And.intro ((congrFun hr _).trans rfl) ?_)
        | ((with_reducible show wp _ _ _ _ _ _ _ _ _ _ _ _ _ _); conv => whnf)
        | ((with_reducible show callK _ _ _ _ _ _ _ _ _); conv => whnf)
        | ((with_reducible show condK _ _ _ _ _); conv => whnf)
        | ((with_reducible show st1 _ _ _ _ _ _ _ _ _ _ _ _); conv => whnf)
        | ((with_reducible show (Prod.fst _ : Spec) _ _ _); conv => whnf)
        | ((with_reducible show shortK _ _); conv => whnf)
        | exact Nat.le_of_ble_eq_true rfl)
def spX7_holds : Nat → CD := spF mdX7_holds fun i => match i with
  | _ => noR
set_option maxHeartbeats 4000000 in
set_option maxRecDepth 100000 in
theorem sat_X7_holds : Sat mX7_holds s_holds 0 0 1 := by
  refine sat_of (E := eX7_holds) (sp := spX7_holds) (ini := false) (by decide +kernel) (fun h => by cases h) okX7_holds (fun i => match i with
    | _ => ⟨sat_no _, Nat.le_of_ble_eq_true rfl⟩) ?_
  intro as S post h
  match as, h with
  | [.inr (.inr (some 2)), .inl p], h =>
    obtain ⟨hM, hp, h⟩ := h
    have hr := hM.2.1
    try unfold shOK at *
    try dsimp only [mg, mf, colK, stK, clK, mnK, shN] at *
    refine body0 50 rfl ?_
    repeat' (first
        | omega
        | with_reducible apply And.intro
        | (intro c9; (try simp only [mg, mf, colK, stK, clK, mnK, shN] at c9))
        | exact ms_o hM
        | (exact kr_i (h _ (by omega)) (Nat.le_of_ble_eq_true rfl) (Nat.le_of_ble_eq_true rfl))
        | (simp only [mg, mf, colK, stK, clK, mnK, shN]; omega)
        | refine Exists.intro _ (And.intro rfl ?_)
        | refine Exists.intro _ (And.intro ((congrFun hr _).trans rfl) ?_)
        | ((with_reducible show wp _ _ _ _ _ _ _ _ _ _ _ _ _ _); conv => whnf)
        | ((with_reducible show callK _ _ _ _ _ _ _ _ _); conv => whnf)
        | ((with_reducible show condK _ _ _ _ _); conv => whnf)
        | ((with_reducible show st1 _ _ _ _ _ _ _ _ _ _ _ _); conv => whnf)
        | ((with_reducible show (Prod.fst _ : Spec) _ _ _); conv => whnf)
        | ((with_reducible show shortK _ _); conv => whnf)
        | exact Nat.le_of_ble_eq_true rfl)
def spX7_isIn : Nat → CD := spF mdX7_isIn fun i => match i with
  | _ => noR
set_option maxHeartbeats 4000000 in
set_option maxRecDepth 100000 in
theorem sat_X7_isIn : Sat mX7_isIn s_isIn 0 0 1 := by
  refine sat_of (E := eX7_isIn) (sp := spX7_isIn) (ini := false) (by decide +kernel) (fun h => by cases h) okX7_isIn (fun i => match i with
    | _ => ⟨sat_no _, Nat.le_of_ble_eq_true rfl⟩) ?_
  intro as S post h
  match as, h with
  | [.inl a, .inl b, .inl d], h =>
    obtain ⟨h1, h⟩ := h
    refine body0 50 rfl ?_
    repeat' (first
        | omega
        | with_reducible apply And.intro
        | (intro c9; (try simp only [mg, mf, colK, stK, clK, mnK, shN] at c9))
        | (exact kr_i (h _ (by omega)) (Nat.le_of_ble_eq_true rfl) (Nat.le_of_ble_eq_true rfl))
        | (simp only [mg, mf, colK, stK, clK, mnK, shN]; omega)
        | refine Exists.intro _ (And.intro rfl ?_)
        | ((with_reducible show wp _ _ _ _ _ _ _ _ _ _ _ _ _ _); conv => whnf)
        | ((with_reducible show callK _ _ _ _ _ _ _ _ _); conv => whnf)
        | ((with_reducible show condK _ _ _ _ _); conv => whnf)
        | ((with_reducible show st1 _ _ _ _ _ _ _ _ _ _ _ _); conv => whnf)
        | ((with_reducible show (Prod.fst _ : Spec) _ _ _); conv => whnf)
        | ((with_reducible show shortK _ _); conv => whnf)
        | exact Nat.le_of_ble_eq_true rfl)
def spX7_isColour : Nat → CD := spF mdX7_isColour fun i => match i with
  | 1 => (s_isIn, 0, 0, 1)
  | _ => noR
set_option maxHeartbeats 4000000 in
set_option maxRecDepth 100000 in
theorem sat_X7_isColour : Sat mX7_isColour s_isColour 0 0 2 := by
  refine sat_of (E := eX7_isColour) (sp := spX7_isColour) (ini := false) (by decide +kernel) (fun h => by cases h) okX7_isColour (fun i => match i with
    | 1 => ⟨sat_X7_isIn, Nat.le_of_ble_eq_true rfl⟩
    | i + 2 => ⟨sat_no _, Nat.le_of_ble_eq_true rfl⟩
    | 0 => ⟨sat_no _, Nat.le_of_ble_eq_true rfl⟩) ?_
  intro as S post h
  match as, h with
  | [.inl a], h =>
    obtain ⟨h1, h⟩ := h
    refine body0 50 rfl ?_
    repeat' (first
        | omega
        | with_reducible apply And.intro
        | (intro c9; (try simp only [mg, mf, colK, stK, clK, mnK, shN] at c9))
        | (exact kr_i (h _ (by omega)) (Nat.le_of_ble_eq_true rfl) (Nat.le_of_ble_eq_true rfl))
        | (simp only [mg, mf, colK, stK, clK, mnK, shN]; omega)
        | refine Exists.intro _ (And.intro rfl ?_)
        | ((with_reducible show wp _ _ _ _ _ _ _ _ _ _ _ _ _ _); conv => whnf)
        | ((with_reducible show callK _ _ _ _ _ _ _ _ _); conv => whnf)
        | ((with_reducible show condK _ _ _ _ _); conv => whnf)
        | ((with_reducible show st1 _ _ _ _ _ _ _ _ _ _ _ _); conv => whnf)
        | ((with_reducible show (Prod.fst _ : Spec) _ _ _); conv => whnf)
        | ((with_reducible show shortK _ _); conv => whnf)
        | exact Nat.le_of_ble_eq_true rfl)
def spX7_isShade : Nat → CD := spF mdX7_isShade fun i => match i with
  | 1 => (s_isIn, 0, 0, 1)
  | _ => noR
set_option maxHeartbeats 4000000 in
set_option maxRecDepth 100000 in
theorem sat_X7_isShade : Sat mX7_isShade s_isShade 0 0 2 := by
  refine sat_of (E := eX7_isShade) (sp := spX7_isShade) (ini := false) (by decide +kernel) (fun h => by cases h) okX7_isShade (fun i => match i with
    | 1 => ⟨sat_X7_isIn, Nat.le_of_ble_eq_true rfl⟩
    | i + 2 => ⟨sat_no _, Nat.le_of_ble_eq_true rfl⟩
    | 0 => ⟨sat_no _, Nat.le_of_ble_eq_true rfl⟩) ?_
  intro as S post h
  match as, h with
  | [.inl a], h =>
    obtain ⟨h1, h⟩ := h
    refine body0 50 rfl ?_
    repeat' (first
        | omega
        | with_reducible apply And.intro
        | (intro c9; (try simp only [mg, mf, colK, stK, clK, mnK, shN] at c9))
        | (exact kr_i (h _ (by omega)) (Nat.le_of_ble_eq_true rfl) (Nat.le_of_ble_eq_true rfl))
        | (simp only [mg, mf, colK, stK, clK, mnK, shN]; omega)
        | refine Exists.intro _ (And.intro rfl ?_)
        | ((with_reducible show wp _ _ _ _ _ _ _ _ _ _ _ _ _ _); conv => whnf)
        | ((with_reducible show callK _ _ _ _ _ _ _ _ _); conv => whnf)
        | ((with_reducible show condK _ _ _ _ _); conv => whnf)
        | ((with_reducible show st1 _ _ _ _ _ _ _ _ _ _ _ _); conv => whnf)
        | ((with_reducible show (Prod.fst _ : Spec) _ _ _); conv => whnf)
        | ((with_reducible show shortK _ _); conv => whnf)
        | exact Nat.le_of_ble_eq_true rfl)
def spX7_isDesign : Nat → CD := spF mdX7_isDesign fun i => match i with
  | 1 => (s_isIn, 0, 0, 1)
  | _ => noR
set_option maxHeartbeats 4000000 in
set_option maxRecDepth 100000 in
theorem sat_X7_isDesign : Sat mX7_isDesign s_isNum_8 0 0 2 := by
  refine sat_of (E := eX7_isDesign) (sp := spX7_isDesign) (ini := false) (by decide +kernel) (fun h => by cases h) okX7_isDesign (fun i => match i with
    | 1 => ⟨sat_X7_isIn, Nat.le_of_ble_eq_true rfl⟩
    | i + 2 => ⟨sat_no _, Nat.le_of_ble_eq_true rfl⟩
    | 0 => ⟨sat_no _, Nat.le_of_ble_eq_true rfl⟩) ?_
  intro as S post h
  match as, h with
  | [.inr (.inr (some 2)), .inl a], h =>
    obtain ⟨hM, hp, hq, h⟩ := h
    have hr := hM.2.1
    try unfold shOK at *
    try dsimp only [mg, mf, colK, stK, clK, mnK, shN] at *
    refine body0 50 rfl ?_
    repeat' (first
        | omega
        | with_reducible apply And.intro
        | (intro c9; (try simp only [mg, mf, colK, stK, clK, mnK, shN] at c9))
        | exact ms_o hM
        | (exact kr_i (h _ (by omega)) (Nat.le_of_ble_eq_true rfl) (Nat.le_of_ble_eq_true rfl))
        | (simp only [mg, mf, colK, stK, clK, mnK, shN]; omega)
        | refine Exists.intro _ (And.intro rfl ?_)
        | refine Exists.intro _ (And.intro ((congrFun hr _).trans rfl) ?_)
        | ((with_reducible show wp _ _ _ _ _ _ _ _ _ _ _ _ _ _); conv => whnf)
        | ((with_reducible show callK _ _ _ _ _ _ _ _ _); conv => whnf)
        | ((with_reducible show condK _ _ _ _ _); conv => whnf)
        | ((with_reducible show st1 _ _ _ _ _ _ _ _ _ _ _ _); conv => whnf)
        | ((with_reducible show (Prod.fst _ : Spec) _ _ _); conv => whnf)
        | ((with_reducible show shortK _ _); conv => whnf)
        | exact Nat.le_of_ble_eq_true rfl)
def spX7_isMachine : Nat → CD := spF mdX7_isMachine fun i => match i with
  | 1 => (s_isIn, 0, 0, 1)
  | _ => noR
set_option maxHeartbeats 4000000 in
set_option maxRecDepth 100000 in
theorem sat_X7_isMachine : Sat mX7_isMachine s_isNum_13 0 0 2 := by
  refine sat_of (E := eX7_isMachine) (sp := spX7_isMachine) (ini := false) (by decide +kernel) (fun h => by cases h) okX7_isMachine (fun i => match i with
    | 1 => ⟨sat_X7_isIn, Nat.le_of_ble_eq_true rfl⟩
    | i + 2 => ⟨sat_no _, Nat.le_of_ble_eq_true rfl⟩
    | 0 => ⟨sat_no _, Nat.le_of_ble_eq_true rfl⟩) ?_
  intro as S post h
  match as, h with
  | [.inr (.inr (some 2)), .inl a], h =>
    obtain ⟨hM, hp, hq, h⟩ := h
    have hr := hM.2.1
    try unfold shOK at *
    try dsimp only [mg, mf, colK, stK, clK, mnK, shN] at *
    refine body0 50 rfl ?_
    repeat' (first
        | omega
        | with_reducible apply And.intro
        | (intro c9; (try simp only [mg, mf, colK, stK, clK, mnK, shN] at c9))
        | exact ms_o hM
        | (exact kr_i (h _ (by omega)) (Nat.le_of_ble_eq_true rfl) (Nat.le_of_ble_eq_true rfl))
        | (simp only [mg, mf, colK, stK, clK, mnK, shN]; omega)
        | refine Exists.intro _ (And.intro rfl ?_)
        | refine Exists.intro _ (And.intro ((congrFun hr _).trans rfl) ?_)
        | ((with_reducible show wp _ _ _ _ _ _ _ _ _ _ _ _ _ _); conv => whnf)
        | ((with_reducible show callK _ _ _ _ _ _ _ _ _); conv => whnf)
        | ((with_reducible show condK _ _ _ _ _); conv => whnf)
        | ((with_reducible show st1 _ _ _ _ _ _ _ _ _ _ _ _); conv => whnf)
        | ((with_reducible show (Prod.fst _ : Spec) _ _ _); conv => whnf)
        | ((with_reducible show shortK _ _); conv => whnf)
        | exact Nat.le_of_ble_eq_true rfl)
def spX7_isOrder : Nat → CD := spF mdX7_isOrder fun i => match i with
  | 1 => (s_isIn, 0, 0, 1)
  | _ => noR
set_option maxHeartbeats 4000000 in
set_option maxRecDepth 100000 in
theorem sat_X7_isOrder : Sat mX7_isOrder s_isNum_23 0 0 2 := by
  refine sat_of (E := eX7_isOrder) (sp := spX7_isOrder) (ini := false) (by decide +kernel) (fun h => by cases h) okX7_isOrder (fun i => match i with
    | 1 => ⟨sat_X7_isIn, Nat.le_of_ble_eq_true rfl⟩
    | i + 2 => ⟨sat_no _, Nat.le_of_ble_eq_true rfl⟩
    | 0 => ⟨sat_no _, Nat.le_of_ble_eq_true rfl⟩) ?_
  intro as S post h
  match as, h with
  | [.inr (.inr (some 2)), .inl a], h =>
    obtain ⟨hM, hp, hq, h⟩ := h
    have hr := hM.2.1
    try unfold shOK at *
    try dsimp only [mg, mf, colK, stK, clK, mnK, shN] at *
    refine body0 50 rfl ?_
    repeat' (first
        | omega
        | with_reducible apply And.intro
        | (intro c9; (try simp only [mg, mf, colK, stK, clK, mnK, shN] at c9))
        | exact ms_o hM
        | (exact kr_i (h _ (by omega)) (Nat.le_of_ble_eq_true rfl) (Nat.le_of_ble_eq_true rfl))
        | (simp only [mg, mf, colK, stK, clK, mnK, shN]; omega)
        | refine Exists.intro _ (And.intro rfl ?_)
        | refine Exists.intro _ (And.intro ((congrFun hr _).trans rfl) ?_)
        | ((with_reducible show wp _ _ _ _ _ _ _ _ _ _ _ _ _ _); conv => whnf)
        | ((with_reducible show callK _ _ _ _ _ _ _ _ _); conv => whnf)
        | ((with_reducible show condK _ _ _ _ _); conv => whnf)
        | ((with_reducible show st1 _ _ _ _ _ _ _ _ _ _ _ _); conv => whnf)
        | ((with_reducible show (Prod.fst _ : Spec) _ _ _); conv => whnf)
        | ((with_reducible show shortK _ _); conv => whnf)
        | exact Nat.le_of_ble_eq_true rfl)
def spX7_wideAt : Nat → CD := spF mdX7_wideAt fun i => match i with
  | _ => noR
set_option maxHeartbeats 4000000 in
set_option maxRecDepth 100000 in
theorem sat_X7_wideAt : Sat mX7_wideAt s_wideAt 0 0 1 := by
  refine sat_of (E := eX7_wideAt) (sp := spX7_wideAt) (ini := false) (by decide +kernel) (fun h => by cases h) okX7_wideAt (fun i => match i with
    | _ => ⟨sat_no _, Nat.le_of_ble_eq_true rfl⟩) ?_
  intro as S post h
  match as, h with
  | [.inr (.inr (some 2)), .inl k, .inl row], h =>
    obtain ⟨hM, hp, hq, h⟩ := h
    have hr := hM.2.1
    try unfold shOK at *
    try dsimp only [mg, mf, colK, stK, clK, mnK, shN] at *

    refine body0 50 rfl ?_
    repeat' (first
        | omega
        | with_reducible apply And.intro
        | (intro c9; (try simp only [mg, mf, colK, stK, clK, mnK, shN] at c9))
        | exact ms_o hM
        | (refine ms_r hM rfl rfl ?_ ?_ <;> (try simp only [mLen]) <;> omega)
        | (exact kr_i (h _ (by unfold wideF; split <;> omega)) (Nat.le_of_ble_eq_true rfl) (Nat.le_of_ble_eq_true rfl))
        | (simp only [mg, mf, colK, stK, clK, mnK, shN]; omega)
        | refine Exists.intro _ (And.intro rfl ?_)
        | refine Exists.intro _ (And.intro ((congrFun hr _).trans rfl) ?_)
        | ((with_reducible show wp _ _ _ _ _ _ _ _ _ _ _ _ _ _); conv => whnf)
        | ((with_reducible show callK _ _ _ _ _ _ _ _ _); conv => whnf)
        | ((with_reducible show condK _ _ _ _ _); conv => whnf)
        | ((with_reducible show st1 _ _ _ _ _ _ _ _ _ _ _ _); conv => whnf)
        | ((with_reducible show (Prod.fst _ : Spec) _ _ _); conv => whnf)
        | ((with_reducible show shortK _ _); conv => whnf)
        | exact Nat.le_of_ble_eq_true rfl)
def spX7_has : Nat → CD := spF mdX7_has fun i => match i with
  | 1 => (s_wideAt, 0, 0, 1)
  | _ => noR
set_option maxHeartbeats 4000000 in
set_option maxRecDepth 100000 in
theorem sat_X7_has : Sat mX7_has s_has 0 0 2 := by
  refine sat_of (E := eX7_has) (sp := spX7_has) (ini := false) (by decide +kernel) (fun h => by cases h) okX7_has (fun i => match i with
    | 1 => ⟨sat_X7_wideAt, Nat.le_of_ble_eq_true rfl⟩
    | i + 2 => ⟨sat_no _, Nat.le_of_ble_eq_true rfl⟩
    | 0 => ⟨sat_no _, Nat.le_of_ble_eq_true rfl⟩) ?_
  intro as S post h
  match as, h with
  | [.inr (.inr (some 2)), .inl k, .inl x, .inl y], h =>
    obtain ⟨hM, hp, hq, h⟩ := h
    have hr := hM.2.1
    have hp2 := hp
    dsimp only [mg, mf, shOK] at hp
    unfold hasK hasP at h
    dsimp only [mg] at h
    refine body0 80 rfl ?_
    repeat' (first
        | omega
        | with_reducible apply And.intro
        | (intro c9; (try simp only [mg, mf, colK, stK, clK, mnK, shN] at c9))
        | exact ms_o hM
        | exact hM
        | exact hp2
        | (refine ms_r hM rfl rfl ?_ ?_ <;> (try simp only [mLen]) <;> omega)
        | (exact kr_i (h _ (by omega)) (Nat.le_of_ble_eq_true rfl) (Nat.le_of_ble_eq_true rfl))
        | (simp only [mg, mf, colK, stK, clK, mnK, shN]; omega)
        | refine Exists.intro _ (And.intro rfl ?_)
        | refine Exists.intro _ (And.intro ((congrFun hr _).trans rfl) ?_)
        | ((with_reducible show wp _ _ _ _ _ _ _ _ _ _ _ _ _ _); conv => whnf)
        | ((with_reducible show callK _ _ _ _ _ _ _ _ _); conv => whnf)
        | ((with_reducible show condK _ _ _ _ _); conv => whnf)
        | ((with_reducible show st1 _ _ _ _ _ _ _ _ _ _ _ _); conv => whnf)
        | ((with_reducible show (Prod.fst _ : Spec) _ _ _); conv => whnf)
        | ((with_reducible show shortK _ _); conv => whnf)
        | exact Nat.le_of_ble_eq_true rfl)
