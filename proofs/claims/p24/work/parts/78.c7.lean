/-! THE CLASS: designs are made -/
def sqA (S : Sto) (a n : Nat) (q : Nat → Nat) : Prop := S.1 a = some (114, n) ∧ (1 ≤ n ∧ n ≤ 7) ∧ ∀ p, p < n → S.2.2 a p = some (q p) ∧ S.1 (q p) = some (4, 5) ∧ 0 ≤ S.2.1 (q p) 1 ∧ S.2.1 (q p) 1 < 6
def s_countChanges : Spec := fun as S post => match as with
  | [.inr (.inr (some a))] => ∃ n q, sqA S a n q ∧ post (.inl (some (vI (sumTo (fun p => if S.2.1 (q p) 1 = S.2.1 (q (p + 1)) 1 then 0 else 1) (n - 1))))) S
  | _ => False
def spX0_countChanges : Nat → CD := spF mdX0_countChanges fun i => match i with
  | 1 => (s_isUnlike, 0, 0, 1)
  | _ => noR
set_option maxHeartbeats 4000000 in
set_option maxRecDepth 100000 in
theorem sat_X0_countChanges : Sat mX0_countChanges s_countChanges 0 0 2 := by
  refine sat_of (E := eX0_countChanges) (sp := spX0_countChanges) (ini := false) (by decide +kernel) (fun h => by cases h) okX0_countChanges (fun i => match i with
    | 1 => ⟨sat_X4_isUnlike, Nat.le_of_ble_eq_true rfl⟩
    | i + 2 => ⟨sat_no _, Nat.le_of_ble_eq_true rfl⟩
    | 0 => ⟨sat_no _, Nat.le_of_ble_eq_true rfl⟩) ?_
  intro as S post h
  match as, h with
  | [.inr (.inr (some a))], h =>
    obtain ⟨n, q, ⟨a1, a2, a3⟩, h⟩ := h
    obtain ⟨f, hf⟩ : ∃ f : Nat → Int, f = fun p => if S.2.1 (q p) 1 = S.2.1 (q (p + 1)) 1 then 0 else 1 := ⟨_, rfl⟩
    rw [← hf] at h
    refine bodyL [(4, fun ms L st S' cc => ∃ p : Nat, L = [vT a, vI (sumTo f p), vI ((p : Int) + 1)] ∧ st = [] ∧ S' = S ∧ cc = (0, 0) ∧ ms = n - p ∧ p + 1 ≤ n)] 8 120 rfl
      (List.forall_mem_cons.mpr ⟨?_, fun q hq => by cases hq⟩) ?_
    · rintro ms L st S' cc ⟨p, rfl, rfl, rfl, rfl, rfl, hp⟩
      have h0 := a3 p (by omega)
      have h1 := a3 (p + 1)
      have r0 : S'.2.2 a ((p : Int) + 1 - 1).toNat = some (q p) := by rw [show ((p : Int) + 1 - 1).toNat = p by omega]; exact h0.1
      have r1 : p + 1 < n → S'.2.2 a ((p : Int) + 1).toNat = some (q (p + 1)) := fun z => by rw [show ((p : Int) + 1).toNat = p + 1 by omega]; exact (h1 z).1
      have es : sumTo f (p + 1) = sumTo f p + f p := rfl
      have ef : f p = if S'.2.1 (q p) 1 = S'.2.1 (q (p + 1)) 1 then 0 else 1 := by rw [hf]
      repeat' (first
          | omega
          | with_reducible apply And.intro
          | (intro c9; (try simp only [mg, mf, colK, stK, clK, mnK, shN] at c9))
          | (with_reducible (have q9 : (some _ : Option Nat) = _ := c9; clear q9; cases c9))
          | (rw [r1 (by omega)] at c9; cases c9)
          | refine ⟨114, n, a1, by omega, ?_⟩
          | exact ⟨114, n, a1, rfl, by omega, by omega⟩
          | exact ⟨5, (h1 (by omega)).2.1⟩
          | rw [r0]
          | rw [r1 (by omega)]
          | refine ⟨(h1 (by omega)).2.1, h0.2.1, by have := h1 (by omega); omega, ?_⟩
          | (simp only [mg, mf, colK, stK, clK, mnK, shN]; omega)
          | refine Exists.intro _ (And.intro rfl ?_)
          | refine Exists.intro _ (And.intro ((r1 (by omega))) ?_)
          | ((with_reducible show wp _ _ _ _ _ _ _ _ _ _ _ _ _ _); conv => whnf)
          | ((with_reducible show callK _ _ _ _ _ _ _ _ _); conv => whnf)
          | ((with_reducible show condK _ _ _ _ _); conv => whnf)
          | ((with_reducible show st1 _ _ _ _ _ _ _ _ _ _ _ _); conv => whnf)
          | ((with_reducible show (Prod.fst _ : Spec) _ _ _); conv => whnf)
          | ((with_reducible show shortK _ _); conv => whnf)
          | exact Nat.le_of_ble_eq_true rfl)
      · rw [show n - 1 = p by omega] at h; exact h
      · rw [if_pos (Classical.byContradiction fun z => isB0 ‹isB _ (S'.2.1 (q (p + 1)) 1 ≠ S'.2.1 (q p) 1)› c9 (fun y => z y.symm))] at ef
        exact ⟨n - (p + 1), by omega, p + 1, by rw [es, ef, Int.natCast_add]; rfl, rfl, rfl, rfl, rfl, by omega⟩
      · rw [if_neg (fun z => isB1 ‹isB _ (S'.2.1 (q (p + 1)) 1 ≠ S'.2.1 (q p) 1)› c9 z.symm)] at ef
        exact ⟨n - (p + 1), by omega, p + 1, by rw [es, ef, Int.natCast_add]; rfl, rfl, rfl, rfl, rfl, by omega⟩
    · repeat' (first
          | omega
          | with_reducible apply And.intro
          | (intro c9; (try simp only [mg, mf, colK, stK, clK, mnK, shN] at c9))
          | (simp only [mg, mf, colK, stK, clK, mnK, shN]; omega)
          | refine Exists.intro _ (And.intro rfl ?_)
          | ((with_reducible show wp _ _ _ _ _ _ _ _ _ _ _ _ _ _); conv => whnf)
          | ((with_reducible show callK _ _ _ _ _ _ _ _ _); conv => whnf)
          | ((with_reducible show condK _ _ _ _ _); conv => whnf)
          | ((with_reducible show st1 _ _ _ _ _ _ _ _ _ _ _ _); conv => whnf)
          | ((with_reducible show (Prod.fst _ : Spec) _ _ _); conv => whnf)
          | ((with_reducible show shortK _ _); conv => whnf)
          | exact Nat.le_of_ble_eq_true rfl)
      exact ⟨n, by omega, 0, rfl, rfl, rfl, rfl, rfl, by omega⟩
def farP (a b : Int) : Prop := a % 16 - b % 16 > 1 ∨ b % 16 - a % 16 > 1 ∨ a / 16 - b / 16 > 1 ∨ b / 16 - a / 16 > 1
def s_isFar : Spec := sF2 (fun a b => 0 ≤ a ∧ a < 256 ∧ 0 ≤ b ∧ b < 256) fun a b r => isB r (farP a b)
def spX0_isFar : Nat → CD := spF mdX0_isFar fun i => match i with
  | 1 => (s_xOf, 0, 0, 1)
  | 2 => (s_abs, 0, 0, 1)
  | 3 => (s_yOf, 0, 0, 1)
  | _ => noR
set_option maxHeartbeats 4000000 in
set_option maxRecDepth 100000 in
theorem sat_X0_isFar : Sat mX0_isFar s_isFar 0 0 2 := by
  refine sat_of (E := eX0_isFar) (sp := spX0_isFar) (ini := false) (by decide +kernel) (fun h => by cases h) okX0_isFar (fun i => match i with
    | 1 => ⟨sat_X6_xOf, Nat.le_of_ble_eq_true rfl⟩
    | 2 => ⟨sat_J9_abs_0f7a4, Nat.le_of_ble_eq_true rfl⟩
    | 3 => ⟨sat_X6_yOf, Nat.le_of_ble_eq_true rfl⟩
    | i + 4 => ⟨sat_no _, Nat.le_of_ble_eq_true rfl⟩
    | 0 => ⟨sat_no _, Nat.le_of_ble_eq_true rfl⟩) ?_
  intro as S post h
  match as, h with
  | [.inl a, .inl b], h =>
    obtain ⟨h1, h⟩ := h
    unfold farP at h
    refine body0 80 rfl ?_
    repeat' (first
        | omega
        | with_reducible apply And.intro
        | (intro c9; (try simp only [mg, mf, colK, stK, clK, mnK, shN] at c9))
        | (with_reducible (have q9 : _ = (_ : Int) % 16 := c9; clear q9; subst c9))
        | (with_reducible (have q9 : _ = (_ : Int) / 16 := c9; clear q9; subst c9))
        | (with_reducible (have q9 : _ = @ite Int _ _ _ _ := c9; clear q9; subst c9))
        | (split <;> omega)
        | (simp only [mg, mf, colK, stK, clK, mnK, shN]; omega)
        | refine Exists.intro _ (And.intro rfl ?_)
        | ((with_reducible show wp _ _ _ _ _ _ _ _ _ _ _ _ _ _); conv => whnf)
        | ((with_reducible show callK _ _ _ _ _ _ _ _ _); conv => whnf)
        | ((with_reducible show condK _ _ _ _ _); conv => whnf)
        | ((with_reducible show st1 _ _ _ _ _ _ _ _ _ _ _ _); conv => whnf)
        | ((with_reducible show (Prod.fst _ : Spec) _ _ _); conv => whnf)
        | ((with_reducible show shortK _ _); conv => whnf)
        | exact Nat.le_of_ble_eq_true rfl)
    all_goals exact kr_i ( h _ (by (try split at c9) <;> (try split at *) <;> omega) ) (Nat.le_of_ble_eq_true rfl) (Nat.le_of_ble_eq_true rfl)
def hidP (n : Nat) (P : Nat → Int → Int → Prop) (p : Int) (a b : Int) : Prop := ∃ k : Nat, p < k ∧ k < n ∧ P k ((a % 16 + b % 16) / 2) ((a / 16 + b / 16) / 2)
def s_isHiddenJump : Spec := fun as S post => match as with
  | [.inr (.inr (some t)), .inl p, .inl a, .inl b] => ∃ n q P, sqA S t n q ∧ (∀ k, k < n → shC S (q k) (P k)) ∧ (0 ≤ p ∧ p < n ∧ 0 ≤ a ∧ a < 256 ∧ 0 ≤ b ∧ b < 256) ∧ ∀ r, isB r (hidP n P p a b) → post (.inl (some (vI r))) S
  | _ => False
def spX0_isHiddenJump : Nat → CD := spF mdX0_isHiddenJump fun i => match i with
  | 1 => (s_xOf, 0, 0, 1)
  | 2 => (s_yOf, 0, 0, 1)
  | 3 => (s_max, 0, 0, 1)
  | 4 => (s_hasCell, 0, 0, 1)
  | _ => noR
set_option maxHeartbeats 4000000 in
set_option maxRecDepth 100000 in
theorem sat_X0_isHiddenJump : Sat mX0_isHiddenJump s_isHiddenJump 0 0 2 := by
  refine sat_of (E := eX0_isHiddenJump) (sp := spX0_isHiddenJump) (ini := false) (by decide +kernel) (fun h => by cases h) okX0_isHiddenJump (fun i => match i with
    | 1 => ⟨sat_X6_xOf, Nat.le_of_ble_eq_true rfl⟩
    | 2 => ⟨sat_X6_yOf, Nat.le_of_ble_eq_true rfl⟩
    | 3 => ⟨sat_J9_max_7cf53, Nat.le_of_ble_eq_true rfl⟩
    | 4 => ⟨sat_X4_hasCell, Nat.le_of_ble_eq_true rfl⟩
    | i + 5 => ⟨sat_no _, Nat.le_of_ble_eq_true rfl⟩
    | 0 => ⟨sat_no _, Nat.le_of_ble_eq_true rfl⟩) ?_
  intro as S post h
  match as, h with
  | [.inr (.inr (some t)), .inl p, .inl a, .inl b], h =>
    obtain ⟨n, q, P, ⟨a1, a2, a3⟩, hC, hp, h⟩ := h
    refine bodyL [(35, fun ms L st S' cc => ∃ k : Nat, L = [vT t, vI p, vI a, vI b, vI ((a % 16 + b % 16) / 2), vI ((a / 16 + b / 16) / 2), vI k] ∧ st = [] ∧ S' = S ∧ cc = (0, 0) ∧ ms = n - k ∧ k ≤ n ∧ p < k ∧ ∀ j : Nat, p < j → j < k → ¬ P j ((a % 16 + b % 16) / 2) ((a / 16 + b / 16) / 2))] 8 120 rfl
      (List.forall_mem_cons.mpr ⟨?_, fun q hq => by cases hq⟩) ?_
    · rintro ms L st S' cc ⟨k, rfl, rfl, rfl, rfl, rfl, hk, hpk, hn⟩
      have h0 := a3 k
      have r0 : k < n → S'.2.2 t (k : Int).toNat = some (q k) := fun z => by rw [Int.toNat_natCast]; exact (h0 z).1
      repeat' (first
          | omega
          | with_reducible apply And.intro
          | (intro c9; (try simp only [mg, mf, colK, stK, clK, mnK, shN] at c9))
          | (with_reducible (have q9 : (some _ : Option Nat) = _ := c9; clear q9; cases c9))
          | (rw [r0 (by omega)] at c9; cases c9)
          | refine ⟨114, n, a1, by omega, ?_⟩
          | exact ⟨114, n, a1, rfl, by omega, by omega⟩
          | rw [r0 (by omega)]
          | exact ⟨5, (h0 (by omega)).2.1⟩
          | refine ⟨P k, hC k (by omega), by omega, ?_⟩
          | (simp only [mg, mf, colK, stK, clK, mnK, shN]; omega)
          | refine Exists.intro _ (And.intro rfl ?_)
          | refine Exists.intro _ (And.intro ((r0 (by omega))) ?_)
          | ((with_reducible show wp _ _ _ _ _ _ _ _ _ _ _ _ _ _); conv => whnf)
          | ((with_reducible show callK _ _ _ _ _ _ _ _ _); conv => whnf)
          | ((with_reducible show condK _ _ _ _ _); conv => whnf)
          | ((with_reducible show st1 _ _ _ _ _ _ _ _ _ _ _ _); conv => whnf)
          | ((with_reducible show (Prod.fst _ : Spec) _ _ _); conv => whnf)
          | ((with_reducible show shortK _ _); conv => whnf)
          | exact Nat.le_of_ble_eq_true rfl)
      · exact kr_i ( h _ (isBf (fun ⟨j, j0, j1, j2⟩ => hn j j0 (by omega) j2)) ) (Nat.le_of_ble_eq_true rfl) (Nat.le_of_ble_eq_true rfl)
      · have hk0 := isB0 ‹isB _ (P k _ _)› c9
        exact ⟨n - (k + 1), by omega, k + 1, by rw [Int.natCast_add]; rfl, rfl, rfl, rfl, rfl, by omega, by omega, fun j j0 j1 z => by
          by_cases e : j = k
          · rw [e] at z; exact hk0 z
          · exact hn j j0 (by omega) z⟩
      · exact kr_i ( h _ (isBt ⟨k, hpk, by omega, isB1 ‹isB _ (P k _ _)› c9⟩) ) (Nat.le_of_ble_eq_true rfl) (Nat.le_of_ble_eq_true rfl)
    · repeat' (first
          | omega
          | with_reducible apply And.intro
          | (intro c9; (try simp only [mg, mf, colK, stK, clK, mnK, shN] at c9))
          | (with_reducible (have q9 : _ = (_ : Int) % 16 := c9; clear q9; subst c9))
          | (with_reducible (have q9 : _ = (_ : Int) / 16 := c9; clear q9; subst c9))
          | (simp only [mg, mf, colK, stK, clK, mnK, shN]; omega)
          | refine Exists.intro _ (And.intro rfl ?_)
          | ((with_reducible show wp _ _ _ _ _ _ _ _ _ _ _ _ _ _); conv => whnf)
          | ((with_reducible show callK _ _ _ _ _ _ _ _ _); conv => whnf)
          | ((with_reducible show condK _ _ _ _ _); conv => whnf)
          | ((with_reducible show st1 _ _ _ _ _ _ _ _ _ _ _ _); conv => whnf)
          | ((with_reducible show (Prod.fst _ : Spec) _ _ _); conv => whnf)
          | ((with_reducible show shortK _ _); conv => whnf)
          | exact Nat.le_of_ble_eq_true rfl)
      rename_i r9
      refine ⟨n - (p.toNat + 1), by omega, p.toNat + 1, ?_, rfl, rfl, rfl, rfl, by omega, by omega, fun j j0 j1 => by omega⟩
      rw [c9]
      rw [show (if p ≤ 0 then (0 : Int) else p) = p by split <;> omega, show ((p.toNat + 1 : Nat) : Int) = p + 1 by omega]; rfl
/-- where the stitches of a place begin -/
noncomputable def bgN (P : Nat → Int → Int → Prop) : Nat → Nat
  | 0 => 0
  | p + 1 => bgN P p + (clsL (P p)).length
theorem bgN_mono {P : Nat → Int → Int → Prop} {a : Nat} : ∀ b, a ≤ b → bgN P a ≤ bgN P b
  | 0, h => by rw [show a = 0 by omega]; exact Nat.le_refl _
  | b + 1, h => by
    by_cases e : a = b + 1
    · rw [e]; exact Nat.le_refl _
    · have := bgN_mono (P := P) (a := a) b (by omega)
      show bgN P a ≤ bgN P b + _
      omega
def clOK (P : Int → Int → Prop) : Prop := cntQ P 256 = (clsL P).length ∧ (clsL P).length ≤ 320 ∧ 1 ≤ (clsL P).length
theorem bgN_le {P : Nat → Int → Int → Prop} {n : Nat} (h : ∀ p, p < n → clOK (P p)) : ∀ p, p ≤ n → bgN P p ≤ 320 * p
  | 0, _ => Nat.le_refl _
  | p + 1, hp => by
    have ih := bgN_le h p (by omega)
    have := (h p (by omega)).2.1
    show bgN P p + _ ≤ _
    omega
/-- the stitches of the first p places are laid -/
def cellP (S S' : Sto) (a n : Nat) (q : Nat → Nat) (P : Nat → Int → Int → Prop) (p : Nat) : Prop := (∀ t, S'.1 t = if t = a + 1 then some (100, bgN P n) else S.1 t) ∧ (∀ t, t ≠ a + 1 → S'.2.2 t = S.2.2 t) ∧ (∀ t, t ≠ a + 1 → (∀ i, i < p → t ≠ q i) → S'.2.1 t = S.2.1 t) ∧
  (∀ i, i < p → (∀ k, k ≠ 3 → k ≠ 4 → S'.2.1 (q i) k = S.2.1 (q i) k) ∧ S'.2.1 (q i) 3 = bgN P i ∧ S'.2.1 (q i) 4 = bgN P (i + 1)) ∧ ∀ i, i < p → ∀ (j : Nat) (v : Int), (clsL (P i))[j]? = some v → S'.2.1 (a + 1) (bgN P i + j) = v
def s_cellsOf : Spec := fun as S post => match as with
  | [.inr (.inr (some a))] => ∃ n q P, sqA S a n q ∧ (∀ k, k < n → shC S (q k) (P k) ∧ clOK (P k)) ∧ (∀ i j, i < j → j < n → q i ≠ q j) ∧ S.1 (a + 1) = none ∧ ∀ S', cellP S S' a n q P n → post (.inl (some (vT (a + 1)))) S'
  | _ => False
def spX0_cellsOf : Nat → CD := spF mdX0_cellsOf fun i => match i with
  | 1 => (s_stitchCount, 0, 0, 3)
  | 2 => (s_putStitches, 0, 0, 3)
  | _ => noR
set_option maxHeartbeats 4000000 in
set_option maxRecDepth 100000 in
theorem sat_X0_cellsOf : Sat mX0_cellsOf s_cellsOf 1 2240 4 := by
  refine sat_of (E := eX0_cellsOf) (sp := spX0_cellsOf) (ini := false) (by decide +kernel) (fun h => by cases h) okX0_cellsOf (fun i => match i with
    | 1 => ⟨sat_X4_stitchCount, Nat.le_of_ble_eq_true rfl⟩
    | 2 => ⟨sat_X4_putStitches, Nat.le_of_ble_eq_true rfl⟩
    | i + 3 => ⟨sat_no _, Nat.le_of_ble_eq_true rfl⟩
    | 0 => ⟨sat_no _, Nat.le_of_ble_eq_true rfl⟩) ?_
  intro as S post h
  match as, h with
  | [.inr (.inr (some a))], h =>
    obtain ⟨n, q, P, ⟨a1, a2, a3⟩, hC, hd, hn, h⟩ := h
    have hm : bgN P n ≤ 2240 := Nat.le_trans (bgN_le (fun p hp => (hC p hp).2) n (Nat.le_refl _)) (by omega)
    have n1 : ∀ t y, S.1 t = some y → t ≠ a + 1 := fun t y e z => by rw [z, hn] at e; cases e
    refine bodyL [(4, fun ms L st S' cc => ∃ (p : Nat) (x3 x4 : AV), L = [vT a, vI (bgN P p), vI p, x3, x4] ∧ st = [] ∧ S' = S ∧ cc = (0, 0) ∧ ms = 20 + (n - p) ∧ p ≤ n),
      (44, fun ms L st S' cc => ∃ p : Nat, L = [vT a, vI (bgN P n), vT (a + 1), vI (bgN P p), vI p] ∧ st = [] ∧ cc = (1, bgN P n) ∧ ms = n - p ∧ p ≤ n ∧ cellP S S' a n q P p)] 40 120 rfl
      (List.forall_mem_cons.mpr ⟨?_, List.forall_mem_cons.mpr ⟨?_, fun q hq => by cases hq⟩⟩) ?_
    · rintro ms L st S' cc ⟨p, x3, x4, rfl, rfl, rfl, rfl, rfl, hp⟩
      have h0 := a3 p
      have r0 : p < n → S'.2.2 a (p : Int).toNat = some (q p) := fun z => by rw [Int.toNat_natCast]; exact (h0 z).1
      repeat' (first
          | omega
          | with_reducible apply And.intro
          | (intro c9; (try simp only [mg, mf, colK, stK, clK, mnK, shN] at c9))
          | (with_reducible (have q9 : (some _ : Option Nat) = _ := c9; clear q9; cases c9))
          | (rw [r0 (by omega)] at c9; cases c9)
          | refine ⟨114, n, a1, by omega, ?_⟩
          | exact ⟨114, n, a1, rfl, by omega, by omega⟩
          | rw [r0 (by omega)]
          | exact ⟨5, (h0 (by omega)).2.1⟩
          | refine ⟨P p, (hC p (by omega)).1, ?_⟩
          | (refine Exists.intro (a + 1) (And.intro hn ?_))
          | (rw [show p = n by omega]; omega)
          | (simp only [mg, mf, colK, stK, clK, mnK, shN]; omega)
          | refine Exists.intro _ (And.intro rfl ?_)
          | refine Exists.intro _ (And.intro ((r0 (by omega))) ?_)
          | ((with_reducible show wp _ _ _ _ _ _ _ _ _ _ _ _ _ _); conv => whnf)
          | ((with_reducible show callK _ _ _ _ _ _ _ _ _); conv => whnf)
          | ((with_reducible show condK _ _ _ _ _); conv => whnf)
          | ((with_reducible show st1 _ _ _ _ _ _ _ _ _ _ _ _); conv => whnf)
          | ((with_reducible show (Prod.fst _ : Spec) _ _ _); conv => whnf)
          | ((with_reducible show shortK _ _); conv => whnf)
          | exact Nat.le_of_ble_eq_true rfl)
      · rw [show p = n by omega]
        refine ⟨n, by omega, 0, rfl, rfl, by rw [Int.toNat_natCast]; show (0 + 1, 0 + bgN P n) = _; rw [Nat.zero_add, Nat.zero_add], rfl, by omega, ?_, fun t ht => ?_, fun t ht _ => ?_, fun i hi => absurd hi (by omega), fun i hi => absurd hi (by omega)⟩
        · intro t
          rw [newS_1, Int.toNat_natCast]
        · funext j
          rw [newS_3, if_neg ht]
        · funext j
          rw [newS_2, if_neg ht]
      · have ebg : ((bgN P (p + 1) : Nat) : Int) = (bgN P p : Int) + cntQ (P p) 256 := by rw [(hC p (by omega)).2.1]; exact Int.natCast_add _ _
        exact ⟨20 + (n - (p + 1)), by omega, p + 1, _, _, by rw [ebg, Int.natCast_add]; rfl, rfl, rfl, rfl, rfl, by omega⟩
    · rintro ms L st S' cc ⟨p, rfl, rfl, rfl, rfl, hp, hw⟩
      obtain ⟨w1, w2, w3, w4, w5⟩ := hw
      have h0 := a3 p
      have hA : S'.1 a = some (114, n) := by rw [w1, if_neg (by omega)]; exact a1
      have hT : S'.1 (a + 1) = some (100, bgN P n) := by rw [w1, if_pos rfl]
      have r0 : p < n → S'.2.2 a (p : Int).toNat = some (q p) := fun z => by rw [Int.toNat_natCast, w2 a (by omega)]; exact (h0 z).1
      have hq1 : p < n → S'.1 (q p) = some (4, 5) := fun z => by rw [w1, if_neg (n1 _ _ (h0 z).2.1)]; exact (h0 z).2.1
      have hqn : p < n → ∀ i, i < p → q p ≠ q i := fun z i hi e => hd i p hi z e.symm
      have hq2 : p < n → ∀ i, i < n → q p + 1 ≠ q i := fun z i hi e => by
        have z1 := (hC p z).1.2.2.1
        have z2 := (a3 i hi).2.1
        rw [e, z2] at z1; cases z1
      have hsh : p < n → shC S' (q p) (P p) := fun z => by
        have z1 := (hC p z).1
        exact z1.eq (by rw [w1, if_neg (n1 _ _ z1.1)]) (by rw [w1, if_neg (n1 _ _ z1.2.2.1)]) (w2 _ (n1 _ _ z1.1)) (w3 _ (n1 _ _ z1.2.2.1) (fun i hi => hq2 z i (by omega)))
      have hbm := fun z : p < n => bgN_mono (P := P) (a := p + 1) n z
      have eb : bgN P (p + 1) = bgN P p + (clsL (P p)).length := rfl
      have hne1 : p < n → a + 1 ≠ q p := fun z e => n1 _ _ (h0 z).2.1 e.symm
      have hne2 : p < n → a + 1 ≠ q p + 1 := fun z e => n1 _ _ (hC p z).1.2.2.1 e.symm
      by_cases hpn : p < n
      · repeat' (first
            | omega
            | with_reducible apply And.intro
            | (intro c9; (try simp only [mg, mf, colK, stK, clK, mnK, shN] at c9))
            | (with_reducible (have q9 : (some _ : Option Nat) = _ := c9; clear q9; cases c9))
            | (rw [r0 hpn] at c9; cases c9)
            | refine ⟨114, n, hA, by omega, ?_⟩
            | exact ⟨114, n, hA, rfl, by omega, by omega⟩
            | rw [r0 hpn]
            | exact ⟨5, hq1 hpn⟩
            | refine ⟨P p, bgN P n, hsh hpn, hT, by omega, hne1 hpn, hne2 hpn, ?_⟩
            | (show bgN P n + 0 ≤ 2240; omega)
            | (rw [c9.1]; exact ⟨114, n, hA, rfl, by omega, by omega⟩)
            | (rw [c9.1]; exact ⟨5, hq1 hpn⟩)
            | refine Exists.intro _ (And.intro (by rw [c9.2.1]; exact r0 hpn) ?_)
            | (simp only [mg, mf, colK, stK, clK, mnK, shN]; omega)
            | refine Exists.intro _ (And.intro rfl ?_)
            | refine Exists.intro _ (And.intro ((r0 hpn)) ?_)
            | ((with_reducible show wp _ _ _ _ _ _ _ _ _ _ _ _ _ _); conv => whnf)
            | ((with_reducible show callK _ _ _ _ _ _ _ _ _); conv => whnf)
            | ((with_reducible show condK _ _ _ _ _); conv => whnf)
            | ((with_reducible show st1 _ _ _ _ _ _ _ _ _ _ _ _); conv => whnf)
            | ((with_reducible show (Prod.fst _ : Spec) _ _ _); conv => whnf)
            | ((with_reducible show shortK _ _); conv => whnf)
            | exact Nat.le_of_ble_eq_true rfl)
        rename_i S2
        obtain ⟨v1, v2, v3, v4, v5, v6, v7, v8⟩ := c9
        have e6 : S2.2.1 (q p) 4 = ((bgN P (p + 1) : Nat) : Int) := by rw [v6, eb, Int.natCast_add]
        refine ⟨n - (p + 1), by omega, p + 1, by rw [← e6, Int.natCast_add]; rfl, rfl, rfl, rfl, by omega, fun t => by rw [v1]; exact w1 t, fun t ht => by rw [v2]; exact w2 t ht, fun t ht hi => ?_, fun i hi => ?_, fun i hi j v hj => ?_⟩
        · rw [v3 t (hi p (by omega)) ht]
          exact w3 t ht (fun i z => hi i (by omega))
        · by_cases e : i = p
          · rw [e]
            refine ⟨fun k k3 k4 => (v4 k k3 k4).trans ?_, v5, e6⟩
            rw [w3 (q p) (n1 _ _ (h0 hpn).2.1) (fun i z => hqn hpn i z)]
          · have hne : q i ≠ q p := fun z => hqn hpn i (by omega) z.symm
            rw [v3 (q i) hne (n1 _ _ (a3 i (by omega)).2.1)]
            exact w4 i (by omega)
        · by_cases e : i = p
          · rw [e] at hj ⊢
            have z := v7 j v hj
            rw [show ((bgN P p : Int) + (j : Int)).toNat = bgN P p + j by omega] at z
            exact z
          · have hlt : j < (clsL (P i)).length := by
              rcases Nat.lt_or_ge j (clsL (P i)).length with z | z
              · exact z
              · rw [List.getElem?_eq_none z] at hj; cases hj
            have z1 := bgN_mono (P := P) (a := i + 1) p (by omega)
            have z2 : bgN P (i + 1) = bgN P i + (clsL (P i)).length := rfl
            rw [v8 _ (Or.inl (by omega))]
            exact w5 i (by omega) j v hj
      · repeat' (first
            | omega
            | with_reducible apply And.intro
            | (intro c9; (try simp only [mg, mf, colK, stK, clK, mnK, shN] at c9))
            | refine ⟨114, n, hA, by omega, ?_⟩
            | (simp only [mg, mf, colK, stK, clK, mnK, shN]; omega)
            | refine Exists.intro _ (And.intro rfl ?_)
            | ((with_reducible show wp _ _ _ _ _ _ _ _ _ _ _ _ _ _); conv => whnf)
            | ((with_reducible show callK _ _ _ _ _ _ _ _ _); conv => whnf)
            | ((with_reducible show condK _ _ _ _ _); conv => whnf)
            | ((with_reducible show st1 _ _ _ _ _ _ _ _ _ _ _ _); conv => whnf)
            | ((with_reducible show (Prod.fst _ : Spec) _ _ _); conv => whnf)
            | ((with_reducible show shortK _ _); conv => whnf)
            | exact Nat.le_of_ble_eq_true rfl)
        rw [show p = n by omega] at w3 w4 w5
        exact h S' ⟨w1, w2, w3, w4, w5⟩
    · repeat' (first
          | omega
          | with_reducible apply And.intro
          | (intro c9; (try simp only [mg, mf, colK, stK, clK, mnK, shN] at c9))
          | (simp only [mg, mf, colK, stK, clK, mnK, shN]; omega)
          | refine Exists.intro _ (And.intro rfl ?_)
          | ((with_reducible show wp _ _ _ _ _ _ _ _ _ _ _ _ _ _); conv => whnf)
          | ((with_reducible show callK _ _ _ _ _ _ _ _ _); conv => whnf)
          | ((with_reducible show condK _ _ _ _ _); conv => whnf)
          | ((with_reducible show st1 _ _ _ _ _ _ _ _ _ _ _ _); conv => whnf)
          | ((with_reducible show (Prod.fst _ : Spec) _ _ _); conv => whnf)
          | ((with_reducible show shortK _ _); conv => whnf)
          | exact Nat.le_of_ble_eq_true rfl)
      exact ⟨20 + n, by omega, 0, _, _, rfl, rfl, rfl, rfl, rfl, by omega⟩

