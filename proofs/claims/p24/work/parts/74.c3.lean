/-! THE CLASS: the stitches of a shape -/
noncomputable def bI (p : Prop) : Int := @ite _ p (Classical.propDecidable p) 1 0
theorem bI_t {p : Prop} (h : p) : bI p = 1 := if_pos h
theorem bI_f {p : Prop} (h : ¬ p) : bI p = 0 := if_neg h
theorem bI_r (p : Prop) : 0 ≤ bI p ∧ bI p ≤ 1 := by unfold bI; split <;> omega
theorem isB_I {r : Int} {p : Prop} (h : isB r p) : bI p = r := by
  rcases h with ⟨a, b⟩ | ⟨a, b⟩
  · rw [bI_t a, b]
  · rw [bI_f a, b]
noncomputable def cntQ (P : Int → Int → Prop) (n : Nat) : Int := sumTo (fun c => bI (P ((c : Int) % 16) ((c : Int) / 16)) + bI (edQ P ((c : Int) % 16) ((c : Int) / 16))) n
theorem cntQ_r (P : Int → Int → Prop) : ∀ n : Nat, 0 ≤ cntQ P n ∧ cntQ P n ≤ 2 * n
  | 0 => ⟨Int.le_refl _, Int.le_refl _⟩
  | n + 1 => by
    have ih := cntQ_r P n
    have a := bI_r (P ((n : Int) % 16) ((n : Int) / 16))
    have b := bI_r (edQ P ((n : Int) % 16) ((n : Int) / 16))
    show 0 ≤ cntQ P n + (bI (P ((n : Int) % 16) ((n : Int) / 16)) + bI (edQ P ((n : Int) % 16) ((n : Int) / 16))) ∧ cntQ P n + (bI (P ((n : Int) % 16) ((n : Int) / 16)) + bI (edQ P ((n : Int) % 16) ((n : Int) / 16))) ≤ 2 * ((n + 1 : Nat) : Int)
    omega
def s_stitchCount : Spec := fun as S post => match as with
  | [.inr (.inr (some u))] => ∃ P, shC S u P ∧ post (.inl (some (vI (cntQ P 256)))) S
  | _ => False
def spX4_stitchCount : Nat → CD := spF mdX4_stitchCount fun i => match i with
  | 1 => (s_xOf, 0, 0, 1)
  | 2 => (s_yOf, 0, 0, 1)
  | 3 => (s_hasCell, 0, 0, 1)
  | 4 => (s_isEdge, 0, 0, 2)
  | _ => noR
set_option maxHeartbeats 4000000 in
set_option maxRecDepth 100000 in
theorem sat_X4_stitchCount : Sat mX4_stitchCount s_stitchCount 0 0 3 := by
  refine sat_of (E := eX4_stitchCount) (sp := spX4_stitchCount) (ini := false) (by decide +kernel) (fun h => by cases h) okX4_stitchCount (fun i => match i with
    | 1 => ⟨sat_X6_xOf, Nat.le_of_ble_eq_true rfl⟩
    | 2 => ⟨sat_X6_yOf, Nat.le_of_ble_eq_true rfl⟩
    | 3 => ⟨sat_X4_hasCell, Nat.le_of_ble_eq_true rfl⟩
    | 4 => ⟨sat_X4_isEdge, Nat.le_of_ble_eq_true rfl⟩
    | i + 5 => ⟨sat_no _, Nat.le_of_ble_eq_true rfl⟩
    | 0 => ⟨sat_no _, Nat.le_of_ble_eq_true rfl⟩) ?_
  intro as S post h
  match as, h with
  | [.inr (.inr (some u))], h =>
    obtain ⟨P, hC, h⟩ := h
    refine bodyL [(4, fun ms L st S' cc => ∃ c : Nat, L = [vT u, vI (cntQ P c), vI c] ∧ st = [] ∧ S' = S ∧ cc = (0, 0) ∧ ms = 2 * (256 - c) + 1 ∧ c ≤ 256),
      (34, fun ms L st S' cc => ∃ c : Nat, L = [vT u, vI (cntQ P c + bI (P ((c : Int) % 16) ((c : Int) / 16))), vI c] ∧ st = [] ∧ S' = S ∧ cc = (0, 0) ∧ ms = 2 * (256 - c) ∧ c < 256)] 600 80 rfl
      (List.forall_mem_cons.mpr ⟨?_, List.forall_mem_cons.mpr ⟨?_, fun q hq => by cases hq⟩⟩) ?_
    · rintro ms L st S' cc ⟨c, rfl, rfl, rfl, rfl, rfl, hc⟩
      repeat' (first
          | omega
          | with_reducible apply And.intro
          | (intro c9; (try simp only [mg, mf, colK, stK, clK, mnK, shN] at c9))
          | exact ⟨5, hC.1⟩
          | (with_reducible (have q9 : _ = (_ : Int) % 16 := c9; clear q9; subst c9))
          | (with_reducible (have q9 : _ = (_ : Int) / 16 := c9; clear q9; subst c9))
          | refine ⟨P, hC, by omega, ?_⟩
          | (simp only [mg, mf, colK, stK, clK, mnK, shN]; omega)
          | refine Exists.intro _ (And.intro rfl ?_)
          | ((with_reducible show wp _ _ _ _ _ _ _ _ _ _ _ _ _ _); conv => whnf)
          | ((with_reducible show callK _ _ _ _ _ _ _ _ _); conv => whnf)
          | ((with_reducible show condK _ _ _ _ _); conv => whnf)
          | ((with_reducible show st1 _ _ _ _ _ _ _ _ _ _ _ _); conv => whnf)
          | ((with_reducible show (Prod.fst _ : Spec) _ _ _); conv => whnf)
          | ((with_reducible show shortK _ _); conv => whnf)
          | exact Nat.le_of_ble_eq_true rfl)
      · rw [show 256 = c by omega] at h
        exact h
      · exact ⟨2 * (256 - c), by omega, c, by rw [bI_f (isB0 ‹isB _ (P ((c : Int) % 16) ((c : Int) / 16))› c9)]; rfl, rfl, rfl, rfl, rfl, by omega⟩
      · exact ⟨2 * (256 - c), by omega, c, by rw [bI_t (isB1 ‹isB _ (P ((c : Int) % 16) ((c : Int) / 16))› c9)]; rfl, rfl, rfl, rfl, rfl, by omega⟩
    · rintro ms L st S' cc ⟨c, rfl, rfl, rfl, rfl, rfl, hc⟩
      have es : cntQ P (c + 1) = cntQ P c + (bI (P ((c : Int) % 16) ((c : Int) / 16)) + bI (edQ P ((c : Int) % 16) ((c : Int) / 16))) := rfl
      repeat' (first
          | omega
          | with_reducible apply And.intro
          | (intro c9; (try simp only [mg, mf, colK, stK, clK, mnK, shN] at c9))
          | exact ⟨5, hC.1⟩
          | (with_reducible (have q9 : _ = (_ : Int) % 16 := c9; clear q9; subst c9))
          | (with_reducible (have q9 : _ = (_ : Int) / 16 := c9; clear q9; subst c9))
          | refine ⟨P, hC, by omega, ?_⟩
          | (simp only [mg, mf, colK, stK, clK, mnK, shN]; omega)
          | refine Exists.intro _ (And.intro rfl ?_)
          | ((with_reducible show wp _ _ _ _ _ _ _ _ _ _ _ _ _ _); conv => whnf)
          | ((with_reducible show callK _ _ _ _ _ _ _ _ _); conv => whnf)
          | ((with_reducible show condK _ _ _ _ _); conv => whnf)
          | ((with_reducible show st1 _ _ _ _ _ _ _ _ _ _ _ _); conv => whnf)
          | ((with_reducible show (Prod.fst _ : Spec) _ _ _); conv => whnf)
          | ((with_reducible show shortK _ _); conv => whnf)
          | exact Nat.le_of_ble_eq_true rfl)
      · rw [bI_f (isB0 ‹isB _ (edQ P ((c : Int) % 16) ((c : Int) / 16))› c9), ← Int.add_assoc] at es
        exact ⟨2 * (256 - (c + 1)) + 1, by omega, c + 1, by rw [es, Int.natCast_add]; rfl, rfl, rfl, rfl, rfl, by omega⟩
      · rw [bI_t (isB1 ‹isB _ (edQ P ((c : Int) % 16) ((c : Int) / 16))› c9), ← Int.add_assoc] at es
        exact ⟨2 * (256 - (c + 1)) + 1, by omega, c + 1, by rw [es, Int.natCast_add]; rfl, rfl, rfl, rfl, rfl, by omega⟩
    · repeat' (first
          | omega
          | with_reducible apply And.intro
          | (intro c9; (try simp only [mg, mf, colK, stK, clK, mnK, shN] at c9))
          | (simp only [mg, mf, colK, stK, clK, mnK, shN]; omega)
          | refine Exists.intro _ (And.intro rfl ?_)
          | ((with_reducible show wp _ _ _ _ _ _ _ _ _ _ _ _ _ _); conv => whnf)
          | ((with_reducible show callK _ _ _ _ _ _ _ _ _); conv => whnf)
          | ((with_reducible show condK _ _ _ _ _); conv => whnf)
          | ((with_reducible show st1 _ _ _ _ _ _ _ _ _ _ _ _); conv => whnf)
          | ((with_reducible show (Prod.fst _ : Spec) _ _ _); conv => whnf)
          | ((with_reducible show shortK _ _); conv => whnf)
          | exact Nat.le_of_ble_eq_true rfl)
      exact ⟨513, by omega, 0, rfl, rfl, rfl, rfl, rfl, by omega⟩
def s_putStitch : Spec := fun as S post => match as with
  | [.inr (.inr (some u)), .inr (.inr (some a)), .inl x, .inl y] => ∃ m : Nat, (S.1 u = some (4, 5) ∧ S.1 a = some (100, m) ∧ a ≠ u ∧ 0 ≤ S.2.1 u 4 ∧ S.2.1 u 4 < m ∧ m ≤ 100000) ∧ post (.inl none) (updI (updI S a (S.2.1 u 4).toNat (y * 16 + x)) u 4 (S.2.1 u 4 + 1))
  | _ => False
def spX4_putStitch : Nat → CD := spF mdX4_putStitch fun i => match i with
  | _ => noR
set_option maxHeartbeats 4000000 in
set_option maxRecDepth 100000 in
theorem sat_X4_putStitch : Sat mX4_putStitch s_putStitch 0 0 1 := by
  refine sat_of (E := eX4_putStitch) (sp := spX4_putStitch) (ini := false) (by decide +kernel) (fun h => by cases h) okX4_putStitch (fun i => match i with
    | _ => ⟨sat_no _, Nat.le_of_ble_eq_true rfl⟩) ?_
  intro as S post h
  match as, h with
  | [.inr (.inr (some u)), .inr (.inr (some a)), .inl x, .inl y], h =>
    obtain ⟨m, ⟨h1, h2, h3, h4, h5, h6⟩, h⟩ := h
    have e4 : (updI S a (S.2.1 u 4).toNat (y * 16 + x)).2.1 u 4 = S.2.1 u 4 := by rw [updI_2, if_neg (by rintro ⟨q, -⟩; exact h3 q.symm)]
    refine body0 60 rfl ?_
    repeat' (first
        | omega
        | with_reducible apply And.intro
        | (intro c9; (try simp only [mg, mf, colK, stK, clK, mnK, shN] at c9))
        | exact ⟨5, h1⟩
        | refine ⟨100, m, h2, by omega, ?_⟩
        | exact ⟨m, h2, by omega, by omega⟩
        | (simp only [mg, mf, colK, stK, clK, mnK, shN]; omega)
        | refine Exists.intro _ (And.intro rfl ?_)
        | ((with_reducible show wp _ _ _ _ _ _ _ _ _ _ _ _ _ _); conv => whnf)
        | ((with_reducible show callK _ _ _ _ _ _ _ _ _); conv => whnf)
        | ((with_reducible show condK _ _ _ _ _); conv => whnf)
        | ((with_reducible show st1 _ _ _ _ _ _ _ _ _ _ _ _); conv => whnf)
        | ((with_reducible show (Prod.fst _ : Spec) _ _ _); conv => whnf)
        | ((with_reducible show shortK _ _); conv => whnf)
        | exact Nat.le_of_ble_eq_true rfl)
    rw [e4]; exact h
/-- the codes of a shape's stitches, as the class puts them -/
def xsF (r : Bool) (k : Nat) : Int := cond r (k : Int) (15 - k)
noncomputable def cRow (P : Int → Int → Prop) (y : Int) (r : Bool) : Nat → List Int
  | 0 => []
  | k + 1 => cRow P y r k ++ @ite _ (P (xsF r k) y) (Classical.propDecidable _) [y * 16 + xsF r k] []
noncomputable def rsB (P : Int → Int → Prop) : Nat → Bool
  | 0 => true
  | y + 1 => @ite _ (∃ x, P x y) (Classical.propDecidable _) (!rsB P y) (rsB P y)
noncomputable def cRows (P : Int → Int → Prop) : Nat → List Int
  | 0 => []
  | y + 1 => cRows P y ++ cRow P y (rsB P y) 16
noncomputable def cEdge (P : Int → Int → Prop) : Nat → List Int
  | 0 => []
  | c + 1 => cEdge P c ++ @ite _ (edQ P ((c : Int) % 16) ((c : Int) / 16)) (Classical.propDecidable _) [(c : Int) / 16 * 16 + (c : Int) % 16] []
noncomputable def clsL (P : Int → Int → Prop) : List Int := cRows P 16 ++ cEdge P 256
theorem cRow_mono {P : Int → Int → Prop} {y : Int} {r : Bool} {a : Nat} : ∀ b, a ≤ b → (cRow P y r a).length ≤ (cRow P y r b).length
  | 0, h => by rw [show a = 0 by omega]; exact Nat.le_refl _
  | b + 1, h => by
    by_cases e : a = b + 1
    · rw [e]; exact Nat.le_refl _
    · have := cRow_mono (P := P) (y := y) (r := r) (a := a) b (by omega)
      rw [show cRow P y r (b + 1) = cRow P y r b ++ @ite _ (P (xsF r b) y) (Classical.propDecidable _) [y * 16 + xsF r b] [] from rfl, List.length_append]; omega
theorem cRows_mono {P : Int → Int → Prop} {a : Nat} : ∀ b, a ≤ b → (cRows P a).length ≤ (cRows P b).length
  | 0, h => by rw [show a = 0 by omega]; exact Nat.le_refl _
  | b + 1, h => by
    by_cases e : a = b + 1
    · rw [e]; exact Nat.le_refl _
    · have := cRows_mono (P := P) (a := a) b (by omega)
      rw [show cRows P (b + 1) = cRows P b ++ cRow P b (rsB P b) 16 from rfl, List.length_append]; omega
theorem cEdge_mono {P : Int → Int → Prop} {a : Nat} : ∀ b, a ≤ b → (cEdge P a).length ≤ (cEdge P b).length
  | 0, h => by rw [show a = 0 by omega]; exact Nat.le_refl _
  | b + 1, h => by
    by_cases e : a = b + 1
    · rw [e]; exact Nat.le_refl _
    · have := cEdge_mono (P := P) (a := a) b (by omega)
      rw [show cEdge P (b + 1) = cEdge P b ++ @ite _ (edQ P ((b : Int) % 16) ((b : Int) / 16)) (Classical.propDecidable _) [(b : Int) / 16 * 16 + (b : Int) % 16] [] from rfl, List.length_append]; omega
/-- S' is S but for the codes l, put into the array a from f on, and the shape's begin and end -/
def wrP (S S' : Sto) (u a : Nat) (f : Int) (l : List Int) : Prop := S'.1 = S.1 ∧ S'.2.2 = S.2.2 ∧ (∀ t, t ≠ u → t ≠ a → S'.2.1 t = S.2.1 t) ∧ (∀ k, k ≠ 3 → k ≠ 4 → S'.2.1 u k = S.2.1 u k) ∧ S'.2.1 u 3 = f ∧ S'.2.1 u 4 = f + l.length ∧
  (∀ (j : Nat) (v : Int), l[j]? = some v → S'.2.1 a (f + j).toNat = v) ∧ ∀ i : Nat, ((i : Int) < f ∨ f + l.length ≤ i) → S'.2.1 a i = S.2.1 a i
theorem wrP.step {S S' : Sto} {u a : Nat} {f : Int} {l : List Int} {v : Int} (h : wrP S S' u a f l) (f0 : 0 ≤ f) (hu : a ≠ u) : wrP S (updI (updI S' a (S'.2.1 u 4).toNat v) u 4 (S'.2.1 u 4 + 1)) u a f (l ++ [v]) := by
  obtain ⟨h1, h2, h3, h4, h5, h6, h7, h8⟩ := h
  have hu2 : ¬ u = a := fun e => hu e.symm
  refine ⟨h1, h2, fun t t1 t2 => ?_, fun k k3 k4 => ?_, ?_, ?_, fun j w hj => ?_, fun i hi => ?_⟩
  · funext j
    simp only [updI_2, t1, t2, false_and, if_false]
    rw [h3 t t1 t2]
  · simp only [updI_2, hu2, k4, and_false, false_and, if_false]
    exact h4 k k3 k4
  · simp only [updI_2, hu2, false_and, if_false, Nat.reduceEqDiff, and_false]
    exact h5
  · simp only [updI_2, true_and, if_true]
    rw [h6, List.length_append]
    show _ = f + ((l.length + 1 : Nat) : Int)
    omega
  · simp only [updI_2, hu, false_and, if_false, true_and]
    rw [h6]
    rw [List.getElem?_append] at hj
    by_cases q : j < l.length
    · rw [if_pos q] at hj
      rw [if_neg (by omega)]
      exact h7 j w hj
    · rw [if_neg q] at hj
      by_cases q2 : j = l.length
      · rw [if_pos (by omega)]
        rw [q2, Nat.sub_self] at hj
        simpa using hj
      · rw [List.getElem?_eq_none (by simp; omega)] at hj
        cases hj
  · simp only [updI_2, hu, false_and, if_false, true_and]
    rw [List.length_append] at hi
    have e1 : ([v] : List Int).length = 1 := rfl
    rw [e1] at hi
    rw [h6, if_neg (by omega)]
    exact h8 i (by omega)
theorem wrP.sh {S S' : Sto} {u a : Nat} {f : Int} {l : List Int} {P : Int → Int → Prop} (h : wrP S S' u a f l) (ha : a ≠ u + 1) (hC : shC S u P) : shC S' u P := by
  obtain ⟨h1, h2, h3, -⟩ := h
  unfold shC at hC ⊢
  rw [h1, h2, h3 (u + 1) (by omega) (fun q => ha q.symm)]
  exact hC
def bN (r : Bool) : Int := cond r 1 0
def s_putStitches : Spec := fun as S post => match as with
  | [.inr (.inr (some u)), .inr (.inr (some a)), .inl f] => ∃ P m, shC S u P ∧ S.1 a = some (100, m) ∧ (0 ≤ f ∧ f + (clsL P).length ≤ m ∧ m ≤ 100000) ∧ a ≠ u ∧ a ≠ u + 1 ∧ ∀ S', wrP S S' u a f (clsL P) → post (.inl none) S'
  | _ => False
def spX4_putStitches : Nat → CD := spF mdX4_putStitches fun i => match i with
  | 1 => (s_hasCell, 0, 0, 1)
  | 2 => (s_putStitch, 0, 0, 1)
  | 3 => (s_xOf, 0, 0, 1)
  | 4 => (s_yOf, 0, 0, 1)
  | 5 => (s_isEdge, 0, 0, 2)
  | _ => noR
set_option maxHeartbeats 4000000 in
set_option maxRecDepth 100000 in
theorem sat_X4_putStitches : Sat mX4_putStitches s_putStitches 0 0 3 := by
  refine sat_of (E := eX4_putStitches) (sp := spX4_putStitches) (ini := false) (by decide +kernel) (fun h => by cases h) okX4_putStitches (fun i => match i with
    | 1 => ⟨sat_X4_hasCell, Nat.le_of_ble_eq_true rfl⟩
    | 2 => ⟨sat_X4_putStitch, Nat.le_of_ble_eq_true rfl⟩
    | 3 => ⟨sat_X6_xOf, Nat.le_of_ble_eq_true rfl⟩
    | 4 => ⟨sat_X6_yOf, Nat.le_of_ble_eq_true rfl⟩
    | 5 => ⟨sat_X4_isEdge, Nat.le_of_ble_eq_true rfl⟩
    | i + 6 => ⟨sat_no _, Nat.le_of_ble_eq_true rfl⟩
    | 0 => ⟨sat_no _, Nat.le_of_ble_eq_true rfl⟩) ?_
  intro as S post h
  match as, h with
  | [.inr (.inr (some u)), .inr (.inr (some a)), .inl f], h =>
    obtain ⟨P, m, hC, hA, ⟨f0, f1, f2⟩, hau, hau1, h⟩ := h
    have hlen : (clsL P).length = (cRows P 16).length + (cEdge P 256).length := by unfold clsL; rw [List.length_append]
    refine bodyL [(15, fun ms L st S' cc => ∃ (y : Nat) (x5 x6 : AV), L = [vT u, vT a, vI f, vI (bN (rsB P y)), vI y, x5, x6] ∧ st = [] ∧ cc = (0, 0) ∧ ms = 1000 + (16 - y) * 50 + 40 ∧ y ≤ 16 ∧ wrP S S' u a f (cRows P y)),
      (28, fun ms L st S' cc => ∃ (y k : Nat) (x6 : AV), L = [vT u, vT a, vI f, vI (bN (rsB P y)), vI y, vI k, x6] ∧ st = [] ∧ cc = (0, 0) ∧ ms = 1000 + (16 - y) * 50 + 2 * (16 - k) ∧ y < 16 ∧ k ≤ 16 ∧ wrP S S' u a f (cRows P y ++ cRow P y (rsB P y) k)),
      (51, fun ms L st S' cc => ∃ (y k : Nat), L = [vT u, vT a, vI f, vI (bN (rsB P y)), vI y, vI k, vI (xsF (rsB P y) k)] ∧ st = [] ∧ cc = (0, 0) ∧ ms = 1000 + (16 - y) * 50 + (2 * (15 - k) + 1) ∧ y < 16 ∧ k < 16 ∧ wrP S S' u a f (cRows P y ++ cRow P y (rsB P y) k)),
      (106, fun ms L st S' cc => ∃ (c : Nat) (x3 x5 x6 : AV), L = [vT u, vT a, vI f, x3, vI c, x5, x6] ∧ st = [] ∧ cc = (0, 0) ∧ ms = 256 - c ∧ c ≤ 256 ∧ wrP S S' u a f (cRows P 16 ++ cEdge P c))] 3000 120 rfl
      (List.forall_mem_cons.mpr ⟨?_, List.forall_mem_cons.mpr ⟨?_, List.forall_mem_cons.mpr ⟨?_, List.forall_mem_cons.mpr ⟨?_, fun q hq => by cases hq⟩⟩⟩⟩) ?_
    · rintro ms L st S' cc ⟨y, x5, x6, rfl, rfl, rfl, rfl, hy, hw⟩
      have hC' := hw.sh hau1 hC
      obtain ⟨c1, c2, c3, c4, c5⟩ := hC'
      repeat' (first
          | omega
          | with_reducible apply And.intro
          | (intro c9; (try simp only [mg, mf, colK, stK, clK, mnK, shN] at c9))
          | exact ⟨5, c1⟩
          | refine ⟨100, 16, c3, by omega, ?_⟩
          | (simp only [mg, mf, colK, stK, clK, mnK, shN]; omega)
          | refine Exists.intro _ (And.intro rfl ?_)
          | refine Exists.intro _ (And.intro (c2) ?_)
          | ((with_reducible show wp _ _ _ _ _ _ _ _ _ _ _ _ _ _); conv => whnf)
          | ((with_reducible show callK _ _ _ _ _ _ _ _ _); conv => whnf)
          | ((with_reducible show condK _ _ _ _ _); conv => whnf)
          | ((with_reducible show st1 _ _ _ _ _ _ _ _ _ _ _ _); conv => whnf)
          | ((with_reducible show (Prod.fst _ : Spec) _ _ _); conv => whnf)
          | ((with_reducible show shortK _ _); conv => whnf)
          | exact Nat.le_of_ble_eq_true rfl)
      · exact ⟨256, by omega, 0, _, _, _, rfl, rfl, rfl, rfl, by omega, by rw [show cEdge P 0 = [] from rfl, List.append_nil]; rw [show y = 16 by omega] at hw; exact hw⟩
      · exact ⟨1000 + (16 - y) * 50 + 2 * (16 - 0), by omega, y, 0, _, rfl, rfl, rfl, rfl, by omega, by omega, by rw [show cRow P y (rsB P y) 0 = [] from rfl, List.append_nil]; exact hw⟩
    · rintro ms L st S' cc ⟨y, k, x6, rfl, rfl, rfl, rfl, hy, hk, hw⟩
      have hC' := hw.sh hau1 hC
      obtain ⟨c1, c2, c3, c4, c5⟩ := hC'
      obtain ⟨g1, g2, g3⟩ := c4 y hy
      have hnz : S'.2.1 (u + 1) y ≠ 0 ↔ ∃ x, P x y := by
        constructor
        · intro q
          obtain ⟨x, hx⟩ := Nat.exists_testBit_of_ne_zero (show (S'.2.1 (u + 1) y).toNat ≠ 0 by omega)
          have h16 : x < 16 := by
            rcases Nat.lt_or_ge x 16 with z | z
            · exact z
            · rw [Nat.testBit_lt_two_pow (Nat.lt_of_lt_of_le (show (S'.2.1 (u + 1) y).toNat < 2 ^ 16 by omega) (Nat.pow_le_pow_right (by omega) z))] at hx; cases hx
          exact ⟨x, (g3 x h16).mp hx⟩
        · rintro ⟨x, hx⟩ q
          have b := c5 x y hx
          have e := (g3 x.toNat (by omega)).mpr (by rw [show ((x.toNat : Nat) : Int) = x by omega]; exact hx)
          rw [q] at e
          simp at e
      have e1 : rsB P (y + 1) = @ite _ (∃ x, P x y) (Classical.propDecidable _) (!rsB P y) (rsB P y) := rfl
      have hrow : k = 16 → wrP S S' u a f (cRows P (y + 1)) := fun e => by rw [e] at hw; exact hw
      cases hr : rsB P y with
      | true =>
        rw [hr] at e1 hw
        rw [show bN true = 1 from rfl]
        repeat' (first
            | omega
            | with_reducible apply And.intro
            | (intro c9; (try simp only [mg, mf, colK, stK, clK, mnK, shN, Int.toNat_natCast] at c9))
            | exact ⟨5, c1⟩
            | exact ⟨100, 16, c3, Or.inl rfl, by omega, by omega⟩
            | (rw [Int.toNat_natCast]; omega)
            | (simp only [mg, mf, colK, stK, clK, mnK, shN, Int.toNat_natCast]; omega)
            | refine Exists.intro _ (And.intro rfl ?_)
            | refine Exists.intro _ (And.intro (c2) ?_)
            | ((with_reducible show wp _ _ _ _ _ _ _ _ _ _ _ _ _ _); conv => whnf)
            | ((with_reducible show callK _ _ _ _ _ _ _ _ _); conv => whnf)
            | ((with_reducible show condK _ _ _ _ _); conv => whnf)
            | ((with_reducible show st1 _ _ _ _ _ _ _ _ _ _ _ _); conv => whnf)
            | ((with_reducible show (Prod.fst _ : Spec) _ _ _); conv => whnf)
            | ((with_reducible show shortK _ _); conv => whnf)
            | exact Nat.le_of_ble_eq_true rfl)
        all_goals first
          | exact ⟨1000 + (16 - (y + 1)) * 50 + 40, by omega, y + 1, _, _, by rw [show rsB P (y + 1) = true from (by rw [e1, if_neg (fun q => (hnz.mpr q) c9)]), Int.natCast_add]; rfl, rfl, rfl, rfl, by omega, hrow (by omega)⟩
          | exact ⟨1000 + (16 - (y + 1)) * 50 + 40, by omega, y + 1, _, _, by rw [show rsB P (y + 1) = false from (by rw [e1, if_pos (hnz.mp (by assumption))]; rfl), Int.natCast_add]; rfl, rfl, rfl, rfl, by omega, hrow (by omega)⟩
          | exact ⟨1000 + (16 - y) * 50 + (2 * (15 - k) + 1), by omega, y, k, by rw [hr]; rfl, rfl, rfl, rfl, by omega, by omega, by rw [hr]; exact hw⟩
      | false =>
        rw [hr] at e1 hw
        rw [show bN false = 0 from rfl]
        repeat' (first
            | omega
            | with_reducible apply And.intro
            | (intro c9; (try simp only [mg, mf, colK, stK, clK, mnK, shN, Int.toNat_natCast] at c9))
            | exact ⟨5, c1⟩
            | exact ⟨100, 16, c3, Or.inl rfl, by omega, by omega⟩
            | (rw [Int.toNat_natCast]; omega)
            | (simp only [mg, mf, colK, stK, clK, mnK, shN, Int.toNat_natCast]; omega)
            | refine Exists.intro _ (And.intro rfl ?_)
            | refine Exists.intro _ (And.intro (c2) ?_)
            | ((with_reducible show wp _ _ _ _ _ _ _ _ _ _ _ _ _ _); conv => whnf)
            | ((with_reducible show callK _ _ _ _ _ _ _ _ _); conv => whnf)
            | ((with_reducible show condK _ _ _ _ _); conv => whnf)
            | ((with_reducible show st1 _ _ _ _ _ _ _ _ _ _ _ _); conv => whnf)
            | ((with_reducible show (Prod.fst _ : Spec) _ _ _); conv => whnf)
            | ((with_reducible show shortK _ _); conv => whnf)
            | exact Nat.le_of_ble_eq_true rfl)
        all_goals first
          | exact ⟨1000 + (16 - (y + 1)) * 50 + 40, by omega, y + 1, _, _, by rw [show rsB P (y + 1) = false from (by rw [e1, if_neg (fun q => (hnz.mpr q) c9)]), Int.natCast_add]; rfl, rfl, rfl, rfl, by omega, hrow (by omega)⟩
          | exact ⟨1000 + (16 - (y + 1)) * 50 + 40, by omega, y + 1, _, _, by rw [show rsB P (y + 1) = true from (by rw [e1, if_pos (hnz.mp (by assumption))]; rfl), Int.natCast_add]; rfl, rfl, rfl, rfl, by omega, hrow (by omega)⟩
          | exact ⟨1000 + (16 - y) * 50 + (2 * (15 - k) + 1), by omega, y, k, by rw [hr]; rfl, rfl, rfl, rfl, by omega, by omega, by rw [hr]; exact hw⟩
    · rintro ms L st S' cc ⟨y, k, rfl, rfl, rfl, rfl, hy, hk, hw⟩
      have hC' := hw.sh hau1 hC
      have hxs : 0 ≤ xsF (rsB P y) k ∧ xsF (rsB P y) k ≤ 15 := by unfold xsF; cases rsB P y <;> simp <;> omega
      have e4 : S'.2.1 u 4 = f + (cRows P y ++ cRow P y (rsB P y) k).length := hw.2.2.2.2.2.1
      have eR : cRow P y (rsB P y) (k + 1) = cRow P y (rsB P y) k ++ @ite _ (P (xsF (rsB P y) k) y) (Classical.propDecidable _) [(y : Int) * 16 + xsF (rsB P y) k] [] := rfl
      have l1 := cRow_mono (P := P) (y := y) (r := rsB P y) (a := k + 1) 16 (by omega)
      have l2 := cRows_mono (P := P) (a := y + 1) 16 (by omega)
      have l3 : (cRows P (y + 1)).length = (cRows P y).length + (cRow P y (rsB P y) 16).length := by rw [show cRows P (y + 1) = cRows P y ++ cRow P y (rsB P y) 16 from rfl, List.length_append]
      have l4 : (cRow P y (rsB P y) (k + 1)).length = (cRow P y (rsB P y) k).length + (@ite _ (P (xsF (rsB P y) k) y) (Classical.propDecidable _) [(y : Int) * 16 + xsF (rsB P y) k] []).length := by rw [eR, List.length_append]
      rw [List.length_append] at e4
      generalize hrr : rsB P y = r at *
      have hA' : S'.1 a = some (100, m) := by rw [hw.1]; exact hA
      repeat' (first
          | omega
          | with_reducible apply And.intro
          | (intro c9; (try simp only [mg, mf, colK, stK, clK, mnK, shN] at c9))
          | exact ⟨5, hC'.1⟩
          | refine ⟨P, hC', by omega, ?_⟩
          | (simp only [mg, mf, colK, stK, clK, mnK, shN]; omega)
          | refine Exists.intro _ (And.intro rfl ?_)
          | ((with_reducible show wp _ _ _ _ _ _ _ _ _ _ _ _ _ _); conv => whnf)
          | ((with_reducible show callK _ _ _ _ _ _ _ _ _); conv => whnf)
          | ((with_reducible show condK _ _ _ _ _); conv => whnf)
          | ((with_reducible show st1 _ _ _ _ _ _ _ _ _ _ _ _); conv => whnf)
          | ((with_reducible show (Prod.fst _ : Spec) _ _ _); conv => whnf)
          | ((with_reducible show shortK _ _); conv => whnf)
          | exact Nat.le_of_ble_eq_true rfl)
      · rw [if_neg (isB0 ‹isB _ (P (xsF r k) y)› c9), List.append_nil] at eR
        exact ⟨1000 + (16 - y) * 50 + 2 * (16 - (k + 1)), by omega, y, k + 1, _, by rw [hrr, Int.natCast_add]; rfl, rfl, rfl, rfl, by omega, by omega, by rw [hrr, eR]; exact hw⟩
      · rw [if_pos (isB1 ‹isB _ (P (xsF r k) y)› c9)] at eR l4
        refine ⟨m, ⟨hC'.1, hA', hau, by omega, ?_, f2⟩, ?_⟩
        · have : ([(y : Int) * 16 + xsF r k] : List Int).length = 1 := rfl
          omega
        · repeat' (first
              | omega
              | with_reducible apply And.intro
              | (intro c9; (try simp only [mg, mf, colK, stK, clK, mnK, shN] at c9))
              | (simp only [mg, mf, colK, stK, clK, mnK, shN]; omega)
              | refine Exists.intro _ (And.intro rfl ?_)
              | ((with_reducible show wp _ _ _ _ _ _ _ _ _ _ _ _ _ _); conv => whnf)
              | ((with_reducible show callK _ _ _ _ _ _ _ _ _); conv => whnf)
              | ((with_reducible show condK _ _ _ _ _); conv => whnf)
              | ((with_reducible show st1 _ _ _ _ _ _ _ _ _ _ _ _); conv => whnf)
              | ((with_reducible show (Prod.fst _ : Spec) _ _ _); conv => whnf)
              | ((with_reducible show shortK _ _); conv => whnf)
              | exact Nat.le_of_ble_eq_true rfl)
          exact ⟨1000 + (16 - y) * 50 + 2 * (16 - (k + 1)), by omega, y, k + 1, _, by rw [hrr, Int.natCast_add]; rfl, rfl, rfl, rfl, by omega, by omega, by rw [hrr, eR, ← List.append_assoc]; exact hw.step f0 hau⟩
    · rintro ms L st S' cc ⟨c, x3, x5, x6, rfl, rfl, rfl, rfl, hc, hw⟩
      have hC' := hw.sh hau1 hC
      have e4 : S'.2.1 u 4 = f + (cRows P 16 ++ cEdge P c).length := hw.2.2.2.2.2.1
      rw [List.length_append] at e4
      repeat' (first
          | omega
          | with_reducible apply And.intro
          | (intro c9; (try simp only [mg, mf, colK, stK, clK, mnK, shN] at c9))
          | exact ⟨5, hC'.1⟩
          | (with_reducible (have q9 : _ = (_ : Int) % 16 := c9; clear q9; subst c9))
          | (with_reducible (have q9 : _ = (_ : Int) / 16 := c9; clear q9; subst c9))
          | refine ⟨P, hC', by omega, ?_⟩
          | (simp only [mg, mf, colK, stK, clK, mnK, shN]; omega)
          | refine Exists.intro _ (And.intro rfl ?_)
          | ((with_reducible show wp _ _ _ _ _ _ _ _ _ _ _ _ _ _); conv => whnf)
          | ((with_reducible show callK _ _ _ _ _ _ _ _ _); conv => whnf)
          | ((with_reducible show condK _ _ _ _ _); conv => whnf)
          | ((with_reducible show st1 _ _ _ _ _ _ _ _ _ _ _ _); conv => whnf)
          | ((with_reducible show (Prod.fst _ : Spec) _ _ _); conv => whnf)
          | ((with_reducible show shortK _ _); conv => whnf)
          | exact Nat.le_of_ble_eq_true rfl)
      · refine h _ ?_
        rw [show c = 256 by omega] at hw
        exact hw
      · exact ⟨256 - (c + 1), by omega, c + 1, _, _, _, by rw [Int.natCast_add]; rfl, rfl, rfl, rfl, by omega, by
          rw [show cEdge P (c + 1) = cEdge P c ++ @ite _ (edQ P ((c : Int) % 16) ((c : Int) / 16)) (Classical.propDecidable _) [(c : Int) / 16 * 16 + (c : Int) % 16] [] from rfl, if_neg (isB0 ‹isB _ (edQ P ((c : Int) % 16) ((c : Int) / 16))› c9), List.append_nil]; exact hw⟩
      · have he := isB1 ‹isB _ (edQ P ((c : Int) % 16) ((c : Int) / 16))› ‹_›
        have eE : cEdge P (c + 1) = cEdge P c ++ [(c : Int) / 16 * 16 + (c : Int) % 16] := by
          rw [show cEdge P (c + 1) = cEdge P c ++ @ite _ (edQ P ((c : Int) % 16) ((c : Int) / 16)) (Classical.propDecidable _) [(c : Int) / 16 * 16 + (c : Int) % 16] [] from rfl, if_pos he]
        have l1 := cEdge_mono (P := P) (a := c + 1) 256 (by omega)
        have l2 : (cEdge P (c + 1)).length = (cEdge P c).length + 1 := by rw [eE, List.length_append]; rfl
        refine ⟨m, ⟨hC'.1, by rw [hw.1]; exact hA, hau, by omega, by omega, f2⟩, ?_⟩
        repeat' (first
            | omega
            | with_reducible apply And.intro
            | (intro c9; (try simp only [mg, mf, colK, stK, clK, mnK, shN] at c9))
            | (simp only [mg, mf, colK, stK, clK, mnK, shN]; omega)
            | refine Exists.intro _ (And.intro rfl ?_)
            | ((with_reducible show wp _ _ _ _ _ _ _ _ _ _ _ _ _ _); conv => whnf)
            | ((with_reducible show callK _ _ _ _ _ _ _ _ _); conv => whnf)
            | ((with_reducible show condK _ _ _ _ _); conv => whnf)
            | ((with_reducible show st1 _ _ _ _ _ _ _ _ _ _ _ _); conv => whnf)
            | ((with_reducible show (Prod.fst _ : Spec) _ _ _); conv => whnf)
            | ((with_reducible show shortK _ _); conv => whnf)
            | exact Nat.le_of_ble_eq_true rfl)
        exact ⟨256 - (c + 1), by omega, c + 1, _, _, _, by rw [Int.natCast_add]; rfl, rfl, rfl, rfl, by omega, by rw [eE, ← List.append_assoc]; exact hw.step f0 hau⟩
    · repeat' (first
          | omega
          | with_reducible apply And.intro
          | (intro c9; (try simp only [mg, mf, colK, stK, clK, mnK, shN] at c9))
          | exact ⟨5, hC.1⟩
          | (simp only [mg, mf, colK, stK, clK, mnK, shN]; omega)
          | refine Exists.intro _ (And.intro rfl ?_)
          | ((with_reducible show wp _ _ _ _ _ _ _ _ _ _ _ _ _ _); conv => whnf)
          | ((with_reducible show callK _ _ _ _ _ _ _ _ _); conv => whnf)
          | ((with_reducible show condK _ _ _ _ _); conv => whnf)
          | ((with_reducible show st1 _ _ _ _ _ _ _ _ _ _ _ _); conv => whnf)
          | ((with_reducible show (Prod.fst _ : Spec) _ _ _); conv => whnf)
          | ((with_reducible show shortK _ _); conv => whnf)
          | exact Nat.le_of_ble_eq_true rfl)
      refine ⟨1000 + (16 - 0) * 50 + 40, by omega, 0, _, _, rfl, rfl, rfl, rfl, by omega, rfl, rfl, fun t t1 t2 => ?_, fun k k3 k4 => ?_, ?_, ?_, fun j v hj => ?_, fun i _ => ?_⟩
      · funext j
        simp only [updI_2, t1, false_and, if_false]
      · simp only [updI_2, k3, k4, and_false, if_false]
      · simp [updI_2]
      · simp [updI_2, cRows]
      · simp [cRows] at hj
      · have hau2 : ¬ a = u := hau
        simp only [updI_2, hau2, false_and, if_false]

