/-! THE CLASS: a design's stretches of stitches -/
theorem gfR {S : Sto} {ci t k : Nat} {r : Option Nat} (h : S.2.2 t k = r) (hr : isR ci k = true) : getF S ci t k = vR r := by
  unfold getF
  rw [hr, ← h]
def dgC (S : Sto) (T n : Nat) (q : Nat → Nat) (b : Nat → Int) (m : Nat) : Prop := S.1 T = some (0, 9) ∧ S.2.2 T 2 = some (T + 4) ∧ S.1 (T + 4) = some (114, n) ∧ S.2.2 T 3 = some (T + 5) ∧ S.1 (T + 5) = some (100, m) ∧ (1 ≤ n ∧ n ≤ 7 ∧ 1 ≤ m ∧ m ≤ 2240) ∧ (b 0 = 0 ∧ b n = m ∧ ∀ p, p < n → b p < b (p + 1)) ∧
  ∀ p, p < n → S.2.2 (T + 4) p = some (q p) ∧ S.1 (q p) = some (4, 5) ∧ S.2.1 (q p) 3 = b p ∧ S.2.1 (q p) 4 = b (p + 1) ∧ 0 ≤ S.2.1 (q p) 1 ∧ S.2.1 (q p) 1 < 6
theorem dgC.mono {S : Sto} {T n : Nat} {q : Nat → Nat} {b : Nat → Int} {m : Nat} (h : dgC S T n q b m) : ∀ k i : Nat, i + k ≤ n → b i + k ≤ b (i + k)
  | 0, i, _ => by simp
  | k + 1, i, hk => by
    have h1 := h.mono k i (by omega)
    have h2 := h.2.2.2.2.2.2.1.2.2 (i + k) (by omega)
    rw [show i + (k + 1) = i + k + 1 by omega]
    omega
theorem dgC.rng {S : Sto} {T n : Nat} {q : Nat → Nat} {b : Nat → Int} {m : Nat} (h : dgC S T n q b m) {p : Nat} (hp : p ≤ n) : 0 ≤ b p ∧ b p ≤ m := by
  have h1 := h.mono p 0 (by omega)
  have h2 := h.mono (n - p) p (by omega)
  rw [h.2.2.2.2.2.2.1.1, Nat.zero_add] at h1
  rw [show p + (n - p) = n by omega, h.2.2.2.2.2.2.1.2.1] at h2
  omega
def inP (n : Nat) (b : Nat → Int) (x : Int) (p : Nat) : Prop := p < n ∧ b p ≤ x ∧ x < b (p + 1)
def s_shapeOf : Spec := fun as S post => match as with
  | [.inr (.inr (some T)), .inl x] => ∃ n q b m, dgC S T n q b m ∧ InR x ∧ ∀ r : Option Nat, ((r = none ∧ ∀ p, ¬ inP n b x p) ∨ ∃ p : Nat, r = some (q p) ∧ inP n b x p) → post (.inl (some (vR r))) S
  | _ => False
def spX0_shapeOf : Nat → CD := spF mdX0_shapeOf fun i => match i with
  | _ => noR
set_option maxHeartbeats 4000000 in
set_option maxRecDepth 100000 in
theorem sat_X0_shapeOf : Sat mX0_shapeOf s_shapeOf 0 0 2 := by
  refine sat_of (E := eX0_shapeOf) (sp := spX0_shapeOf) (ini := false) (by decide +kernel) (fun h => by cases h) okX0_shapeOf (fun i => match i with
    | _ => ⟨sat_no _, Nat.le_of_ble_eq_true rfl⟩) ?_
  intro as S post h
  match as, h with
  | [.inr (.inr (some T)), .inl x], h =>
    obtain ⟨n, q, b, m, hD, hx, h⟩ := h
    have hD2 := hD
    obtain ⟨d1, d2, d3, d4, d5, d6, d7, d8⟩ := hD2
    refine bodyL [(2, fun ms L st S' cc => ∃ (p : Nat) (x3 : AV), L = [vT T, vI x, vI p, x3] ∧ st = [] ∧ S' = S ∧ cc = (0, 0) ∧ ms = n - p ∧ p ≤ n ∧ ∀ j, j < p → ¬ inP n b x j)] 8 120 rfl
      (List.forall_mem_cons.mpr ⟨?_, fun q hq => by cases hq⟩) ?_
    · rintro ms L st S' cc ⟨p, x3, rfl, rfl, rfl, rfl, rfl, hp, hn⟩
      have e8 := d8 p
      have r1 := fun z : p < n => hD.rng (p := p) (by omega)
      have r2 := fun z : p < n => hD.rng (p := p + 1) (by omega)
      have q0 : p < n → S'.2.2 (T + 4) (p : Int).toNat = some (q p) := fun z => (e8 z).1
      have q1 : p < n → S'.2.1 (q p) 3 = b p := fun z => (e8 z).2.2.1
      have q2 : p < n → S'.2.1 (q p) 4 = b (p + 1) := fun z => (e8 z).2.2.2.1
      repeat' (first
          | omega
          | with_reducible apply And.intro
          | (intro c9; (try simp only [mg, mf, colK, stK, clK, mnK, shN] at c9))
          | (rw [q0 (by omega)] at c9; cases c9)
          | exact ⟨9, d1⟩
          | refine ⟨114, n, d3, by omega, ?_⟩
          | exact ⟨114, n, d3, rfl, by omega, by omega⟩
          | exact ⟨5, (e8 (by omega)).2.1⟩
          | (rw [q1 (by omega)]; have := r1 (by omega); omega)
          | (rw [q2 (by omega)]; have := r2 (by omega); omega)
          | (simp only [mg, mf, colK, stK, clK, mnK, shN]; omega)
          | refine Exists.intro _ (And.intro rfl ?_)
          | refine Exists.intro _ (And.intro (d2) ?_)
          | refine Exists.intro _ (And.intro ((q0 (by omega))) ?_)
          | ((with_reducible show wp _ _ _ _ _ _ _ _ _ _ _ _ _ _); conv => whnf)
          | ((with_reducible show callK _ _ _ _ _ _ _ _ _); conv => whnf)
          | ((with_reducible show condK _ _ _ _ _); conv => whnf)
          | ((with_reducible show st1 _ _ _ _ _ _ _ _ _ _ _ _); conv => whnf)
          | ((with_reducible show (Prod.fst _ : Spec) _ _ _); conv => whnf)
          | ((with_reducible show shortK _ _); conv => whnf)
          | exact Nat.le_of_ble_eq_true rfl)
      · refine h _ (Or.inl ⟨rfl, fun j hj => hn j (by have := hj.1; omega) hj⟩)
      · rw [q1 (by omega)] at c9
        exact ⟨n - (p + 1), by omega, p + 1, _, by rw [Int.natCast_add]; rfl, rfl, rfl, rfl, rfl, by omega, fun j hj z => by
          by_cases e : j = p
          · subst e; have := z.2.1; omega
          · exact hn j (by omega) z⟩
      · rw [q2 (by omega)] at c9
        exact ⟨n - (p + 1), by omega, p + 1, _, by rw [Int.natCast_add]; rfl, rfl, rfl, rfl, rfl, by omega, fun j hj z => by
          by_cases e : j = p
          · subst e; have := z.2.2; omega
          · exact hn j (by omega) z⟩
      · rename_i z1 z2
        rw [q1 (by omega)] at z2
        rw [q2 (by omega)] at c9
        exact h _ (Or.inr ⟨p, q0 (by omega), by omega, z2, c9⟩)
    · repeat' (first
          | omega
          | with_reducible apply And.intro
          | (intro c9; (try simp only [mg, mf, colK, stK, clK, mnK, shN] at c9))
          | (simp only [mg, mf, colK, stK, clK, mnK, shN]; omega)
          | refine Exists.intro _ (And.intro rfl ?_)
          | ((with_reducible show wp _ _ _ _ _ _ _ _ _ _ _ _ _ _); conv => whnf)
          | ((with_reducible show callK _ _ _ _ _ _ _ _ _); conv => whnf)
          | ((with_reducible show condK _ _ _ _ _); conv => whnf)
          | ((with_reducible show st1 _ _ _ _ _ _ _ _ _ _ _ _); conv => whnf)
          | ((with_reducible show (Prod.fst _ : Spec) _ _ _); conv => whnf)
          | ((with_reducible show shortK _ _); conv => whnf)
          | exact Nat.le_of_ble_eq_true rfl)
      exact ⟨n, by omega, 0, _, rfl, rfl, rfl, rfl, rfl, by omega, fun j hj => by omega⟩
/-- how many stitches of a colour the shapes at the first k places have -/
def ndS (S : Sto) (q : Nat → Nat) (b : Nat → Int) (c : Int) (k : Nat) : Int := sumTo (fun p => if S.2.1 (q p) 1 = c then b (p + 1) - b p else 0) k
theorem ndS_r {S : Sto} {T n : Nat} {q : Nat → Nat} {b : Nat → Int} {m : Nat} (h : dgC S T n q b m) {c : Int} : ∀ k, k ≤ n → 0 ≤ ndS S q b c k ∧ ndS S q b c k ≤ b k
  | 0, _ => ⟨Int.le_refl _, by rw [h.2.2.2.2.2.2.1.1]; exact Int.le_refl _⟩
  | k + 1, hk => by
    have ih := ndS_r h (c := c) k (by omega)
    have h2 := h.2.2.2.2.2.2.1.2.2 k (by omega)
    show 0 ≤ ndS S q b c k + (if S.2.1 (q k) 1 = c then b (k + 1) - b k else 0) ∧ ndS S q b c k + (if S.2.1 (q k) 1 = c then b (k + 1) - b k else 0) ≤ b (k + 1)
    split <;> omega
def s_dgNeed : Spec := fun as S post => match as with
  | [.inr (.inr (some T)), .inl c] => ∃ n q b m, dgC S T n q b m ∧ InR c ∧ post (.inl (some (vI (ndS S q b c n)))) S
  | _ => False
def spX0_need : Nat → CD := spF mdX0_need fun i => match i with
  | _ => noR
set_option maxHeartbeats 4000000 in
set_option maxRecDepth 100000 in
theorem sat_X0_need : Sat mX0_need s_dgNeed 0 0 1 := by
  refine sat_of (E := eX0_need) (sp := spX0_need) (ini := false) (by decide +kernel) (fun h => by cases h) okX0_need (fun i => match i with
    | _ => ⟨sat_no _, Nat.le_of_ble_eq_true rfl⟩) ?_
  intro as S post h
  match as, h with
  | [.inr (.inr (some T)), .inl c], h =>
    obtain ⟨n, q, b, m, hD, hc, h⟩ := h
    have hD2 := hD
    obtain ⟨d1, d2, d3, d4, d5, d6, d7, d8⟩ := hD2
    refine bodyL [(4, fun ms L st S' cc => ∃ (p : Nat) (x4 : AV), L = [vT T, vI c, vI (ndS S q b c p), vI p, x4] ∧ st = [] ∧ S' = S ∧ cc = (0, 0) ∧ ms = n - p ∧ p ≤ n)] 8 120 rfl
      (List.forall_mem_cons.mpr ⟨?_, fun q hq => by cases hq⟩) ?_
    · rintro ms L st S' cc ⟨p, x4, rfl, rfl, rfl, rfl, rfl, hp⟩
      have e8 := d8 p
      have q0 : p < n → S'.2.2 (T + 4) (p : Int).toNat = some (q p) := fun z => (e8 z).1
      have q1 : p < n → S'.2.1 (q p) 3 = b p := fun z => (e8 z).2.2.1
      have q2 : p < n → S'.2.1 (q p) 4 = b (p + 1) := fun z => (e8 z).2.2.2.1
      have es : ndS S' q b c (p + 1) = ndS S' q b c p + (if S'.2.1 (q p) 1 = c then b (p + 1) - b p else 0) := rfl
      repeat' (first
          | omega
          | with_reducible apply And.intro
          | (intro c9; (try simp only [mg, mf, colK, stK, clK, mnK, shN] at c9))
          | (rw [q0 (by omega)] at c9; cases c9)
          | exact ⟨9, d1⟩
          | refine ⟨114, n, d3, by omega, ?_⟩
          | exact ⟨114, n, d3, rfl, by omega, by omega⟩
          | exact ⟨5, (e8 (by omega)).2.1⟩
          | (have := e8 (by omega); omega)
          | (simp only [mg, mf, colK, stK, clK, mnK, shN]; omega)
          | refine Exists.intro _ (And.intro rfl ?_)
          | refine Exists.intro _ (And.intro (d2) ?_)
          | refine Exists.intro _ (And.intro ((q0 (by omega))) ?_)
          | ((with_reducible show wp _ _ _ _ _ _ _ _ _ _ _ _ _ _); conv => whnf)
          | ((with_reducible show callK _ _ _ _ _ _ _ _ _); conv => whnf)
          | ((with_reducible show condK _ _ _ _ _); conv => whnf)
          | ((with_reducible show st1 _ _ _ _ _ _ _ _ _ _ _ _); conv => whnf)
          | ((with_reducible show (Prod.fst _ : Spec) _ _ _); conv => whnf)
          | ((with_reducible show shortK _ _); conv => whnf)
          | exact Nat.le_of_ble_eq_true rfl)
      · rw [show n = p by omega] at h
        exact h
      · rw [if_neg c9] at es
        exact ⟨n - (p + 1), by omega, p + 1, _, by rw [es, Int.natCast_add, Int.add_zero]; rfl, rfl, rfl, rfl, rfl, by omega⟩
      · rw [if_pos c9, ← q1 (by omega), ← q2 (by omega)] at es
        exact ⟨n - (p + 1), by omega, p + 1, _, by rw [es, Int.natCast_add]; rfl, rfl, rfl, rfl, rfl, by omega⟩
    · repeat' (first
          | omega
          | with_reducible apply And.intro
          | (intro c9; (try simp only [mg, mf, colK, stK, clK, mnK, shN] at c9))
          | (simp only [mg, mf, colK, stK, clK, mnK, shN]; omega)
          | refine Exists.intro _ (And.intro rfl ?_)
          | ((with_reducible show wp _ _ _ _ _ _ _ _ _ _ _ _ _ _); conv => whnf)
          | ((with_reducible show callK _ _ _ _ _ _ _ _ _); conv => whnf)
          | ((with_reducible show condK _ _ _ _ _); conv => whnf)
          | ((with_reducible show st1 _ _ _ _ _ _ _ _ _ _ _ _); conv => whnf)
          | ((with_reducible show (Prod.fst _ : Spec) _ _ _); conv => whnf)
          | ((with_reducible show shortK _ _); conv => whnf)
          | exact Nat.le_of_ble_eq_true rfl)
      exact ⟨n, by omega, 0, _, rfl, rfl, rfl, rfl, rfl, by omega⟩
def s_orNeed : Spec := fun as S post => match as with
  | [.inr (.inr (some u)), .inl c] => ∃ T n q b m, orC S u T ∧ dgC S T n q b m ∧ InR c ∧ post (.inl (some (vI (S.2.1 u 2 * ndS S q b c n)))) S
  | _ => False
def spX2_need : Nat → CD := spF mdX2_need fun i => match i with
  | 1 => (s_dgNeed, 0, 0, 1)
  | _ => noR
set_option maxHeartbeats 4000000 in
set_option maxRecDepth 100000 in
theorem sat_X2_need : Sat mX2_need s_orNeed 0 0 2 := by
  refine sat_of (E := eX2_need) (sp := spX2_need) (ini := false) (by decide +kernel) (fun h => by cases h) okX2_need (fun i => match i with
    | 1 => ⟨sat_X0_need, Nat.le_of_ble_eq_true rfl⟩
    | i + 2 => ⟨sat_no _, Nat.le_of_ble_eq_true rfl⟩
    | 0 => ⟨sat_no _, Nat.le_of_ble_eq_true rfl⟩) ?_
  intro as S post h
  match as, h with
  | [.inr (.inr (some u)), .inl c], h =>
    obtain ⟨T, n, q, b, m, ⟨o1, o2, o3, o4⟩, hD, hc, h⟩ := h
    refine body0 60 rfl ?_
    repeat' (first
        | omega
        | with_reducible apply And.intro
        | (intro c9; (try simp only [mg, mf, colK, stK, clK, mnK, shN] at c9))
        | exact ⟨9, o1⟩
        | exact ⟨9, hD.1⟩
        | rw [gfR (ci := 2) o4 rfl]
        | refine ⟨n, q, b, m, hD, hc, ?_⟩
        | exact h
        | (simp only [mg, mf, colK, stK, clK, mnK, shN]; omega)
        | refine Exists.intro _ (And.intro rfl ?_)
        | refine Exists.intro _ (And.intro (o4) ?_)
        | ((with_reducible show wp _ _ _ _ _ _ _ _ _ _ _ _ _ _); conv => whnf)
        | ((with_reducible show callK _ _ _ _ _ _ _ _ _); conv => whnf)
        | ((with_reducible show condK _ _ _ _ _); conv => whnf)
        | ((with_reducible show st1 _ _ _ _ _ _ _ _ _ _ _ _); conv => whnf)
        | ((with_reducible show (Prod.fst _ : Spec) _ _ _); conv => whnf)
        | ((with_reducible show shortK _ _); conv => whnf)
        | exact Nat.le_of_ble_eq_true rfl)
def s_orSew : Spec := fun as S post => match as with
  | [.inr (.inr (some u)), .inl k] => ∃ T n q b m, orC S u T ∧ dgC S T n q b m ∧ (0 ≤ k ∧ 0 ≤ S.2.1 u 6 ∧ S.2.1 u 6 + k ≤ m) ∧ ∀ S', obj u [5, 6] S S' → S'.2.1 u 6 = (if S.2.1 u 6 + k = m then 0 else S.2.1 u 6 + k) → S'.2.1 u 5 = (if S.2.1 u 6 + k = m then S.2.1 u 5 + 1 else S.2.1 u 5) → post (.inl none) S'
  | _ => False
def spX2_sew : Nat → CD := spF mdX2_sew fun i => match i with
  | _ => noR
set_option maxHeartbeats 4000000 in
set_option maxRecDepth 100000 in
theorem sat_X2_sew : Sat mX2_sew s_orSew 0 0 1 := by
  refine sat_of (E := eX2_sew) (sp := spX2_sew) (ini := false) (by decide +kernel) (fun h => by cases h) okX2_sew (fun i => match i with
    | _ => ⟨sat_no _, Nat.le_of_ble_eq_true rfl⟩) ?_
  intro as S post h
  match as, h with
  | [.inr (.inr (some u)), .inl k], h =>
    obtain ⟨T, n, q, b, m, ⟨o1, o2, o3, o4⟩, hD, hk, h⟩ := h
    obtain ⟨d1, d2, d3, d4, d5, d6, d7, d8⟩ := hD
    have e6 : (updI S u 6 (S.2.1 u 6 + k)).2.1 u 6 = S.2.1 u 6 + k := by rw [updI_2, if_pos ⟨rfl, rfl⟩]
    refine body0 80 rfl ?_
    repeat' (first
        | omega
        | with_reducible apply And.intro
        | (intro c9; (try simp only [mg, mf, colK, stK, clK, mnK, shN, e6] at c9))
        | exact ⟨9, o1⟩
        | exact ⟨9, d1⟩
        | refine ⟨100, m, d5, by omega, ?_⟩
        | (rw [e6]; omega)
        | (simp only [mg, mf, colK, stK, clK, mnK, shN, e6]; omega)
        | refine Exists.intro _ (And.intro rfl ?_)
        | refine Exists.intro _ (And.intro (o4) ?_)
        | refine Exists.intro _ (And.intro (d4) ?_)
        | ((with_reducible show wp _ _ _ _ _ _ _ _ _ _ _ _ _ _); conv => whnf)
        | ((with_reducible show callK _ _ _ _ _ _ _ _ _); conv => whnf)
        | ((with_reducible show condK _ _ _ _ _); conv => whnf)
        | ((with_reducible show st1 _ _ _ _ _ _ _ _ _ _ _ _); conv => whnf)
        | ((with_reducible show (Prod.fst _ : Spec) _ _ _); conv => whnf)
        | ((with_reducible show shortK _ _); conv => whnf)
        | exact Nat.le_of_ble_eq_true rfl)
    · refine h _ (obj.rf.upd (by simp)) ?_ ?_
      · rw [if_neg (by omega)]; exact e6
      · rw [if_neg (by omega)]
        show (if u = u ∧ 5 = 6 then _ else S.2.1 u 5) = _
        rw [if_neg (by omega)]
    · refine h _ (((obj.rf.upd (by simp)).upd (by simp)).upd (by simp)) ?_ ?_
      · rw [if_pos (by omega)]
        show (if u = u ∧ 6 = 5 then _ else if u = u ∧ 6 = 6 then (0 : Int) else _) = _
        rw [if_neg (by omega), if_pos ⟨rfl, rfl⟩]
      · rw [if_pos (by omega)]
        show (if u = u ∧ 5 = 5 then (if u = u ∧ 5 = 6 then (0 : Int) else if u = u ∧ 5 = 6 then S.2.1 u 6 + k else S.2.1 u 5) + 1 else _) = _
        rw [if_pos ⟨rfl, rfl⟩, if_neg (by omega), if_neg (by omega)]
def s_hasSewn : Spec := fun as S post => match as with
  | [.inr (.inr (some u)), .inl c] => ∃ T n q b m, orC S u T ∧ dgC S T n q b m ∧ (InR c ∧ InR (S.2.1 u 5) ∧ InR (S.2.1 u 6)) ∧ ∀ r, isB r (0 < S.2.1 u 5 ∨ ∃ p : Nat, p < n ∧ S.2.1 (q p) 1 = c ∧ b p < S.2.1 u 6) → post (.inl (some (vI r))) S
  | _ => False
def spX2_hasSewn : Nat → CD := spF mdX2_hasSewn fun i => match i with
  | _ => noR
set_option maxHeartbeats 4000000 in
set_option maxRecDepth 100000 in
theorem sat_X2_hasSewn : Sat mX2_hasSewn s_hasSewn 0 0 1 := by
  refine sat_of (E := eX2_hasSewn) (sp := spX2_hasSewn) (ini := false) (by decide +kernel) (fun h => by cases h) okX2_hasSewn (fun i => match i with
    | _ => ⟨sat_no _, Nat.le_of_ble_eq_true rfl⟩) ?_
  intro as S post h
  match as, h with
  | [.inr (.inr (some u)), .inl c], h =>
    obtain ⟨T, n, q, b, m, ⟨o1, o2, o3, o4⟩, hD, ⟨hc, hw, hb⟩, h⟩ := h
    have hD2 := hD
    obtain ⟨d1, d2, d3, d4, d5, d6, d7, d8⟩ := hD2
    refine bodyL [(19, fun ms L st S' cc => ∃ (p : Nat) (x4 : AV), L = [vT u, vI c, vT (T + 4), vI p, x4] ∧ st = [] ∧ S' = S ∧ cc = (0, 0) ∧ ms = n - p ∧ p ≤ n ∧ S.2.1 u 5 ≤ 0 ∧ ∀ j, j < p → ¬ (S.2.1 (q j) 1 = c ∧ b j < S.2.1 u 6))] 8 120 rfl
      (List.forall_mem_cons.mpr ⟨?_, fun q hq => by cases hq⟩) ?_
    · rintro ms L st S' cc ⟨p, x4, rfl, rfl, rfl, rfl, rfl, hp, hw0, hn⟩
      have e8 := d8 p
      have r1 := fun z : p < n => hD.rng (p := p) (by omega)
      have q0 : p < n → S'.2.2 (T + 4) (p : Int).toNat = some (q p) := fun z => (e8 z).1
      have q1 : p < n → S'.2.1 (q p) 3 = b p := fun z => (e8 z).2.2.1
      repeat' (first
          | omega
          | with_reducible apply And.intro
          | (intro c9; (try simp only [mg, mf, colK, stK, clK, mnK, shN] at c9))
          | (rw [q0 (by omega)] at c9; cases c9)
          | exact ⟨9, o1⟩
          | refine ⟨114, n, d3, by omega, ?_⟩
          | exact ⟨114, n, d3, rfl, by omega, by omega⟩
          | exact ⟨5, (e8 (by omega)).2.1⟩
          | (rw [q1 (by omega)]; have := r1 (by omega); omega)
          | (have := e8 (by omega); omega)
          | (simp only [mg, mf, colK, stK, clK, mnK, shN]; omega)
          | refine Exists.intro _ (And.intro rfl ?_)
          | refine Exists.intro _ (And.intro ((q0 (by omega))) ?_)
          | ((with_reducible show wp _ _ _ _ _ _ _ _ _ _ _ _ _ _); conv => whnf)
          | ((with_reducible show callK _ _ _ _ _ _ _ _ _); conv => whnf)
          | ((with_reducible show condK _ _ _ _ _); conv => whnf)
          | ((with_reducible show st1 _ _ _ _ _ _ _ _ _ _ _ _); conv => whnf)
          | ((with_reducible show (Prod.fst _ : Spec) _ _ _); conv => whnf)
          | ((with_reducible show shortK _ _); conv => whnf)
          | exact Nat.le_of_ble_eq_true rfl)
      · exact kr_i ( h _ (isBf (fun z => z.elim (fun a => by omega) (fun ⟨j, j0, j1⟩ => hn j (by omega) j1))) ) (Nat.le_of_ble_eq_true rfl) (Nat.le_of_ble_eq_true rfl)
      · exact ⟨n - (p + 1), by omega, p + 1, _, by rw [Int.natCast_add]; rfl, rfl, rfl, rfl, rfl, by omega, hw0, fun j hj z => by
          by_cases e : j = p
          · subst e; exact c9 z.1
          · exact hn j (by omega) z⟩
      · rw [q1 (by omega)] at c9
        exact ⟨n - (p + 1), by omega, p + 1, _, by rw [Int.natCast_add]; rfl, rfl, rfl, rfl, rfl, by omega, hw0, fun j hj z => by
          by_cases e : j = p
          · subst e; have := z.2; omega
          · exact hn j (by omega) z⟩
      · rename_i z1 z2
        rw [q1 (by omega)] at c9
        exact kr_i ( h _ (isBt (Or.inr ⟨p, by omega, z2, c9⟩)) ) (Nat.le_of_ble_eq_true rfl) (Nat.le_of_ble_eq_true rfl)
    · repeat' (first
          | omega
          | with_reducible apply And.intro
          | (intro c9; (try simp only [mg, mf, colK, stK, clK, mnK, shN] at c9))
          | exact ⟨9, o1⟩
          | exact ⟨9, d1⟩
          | exact hw.1
          | exact hw.2
          | (simp only [mg, mf, colK, stK, clK, mnK, shN]; omega)
          | refine Exists.intro _ (And.intro rfl ?_)
          | refine Exists.intro _ (And.intro (o4) ?_)
          | refine Exists.intro _ (And.intro (d2) ?_)
          | ((with_reducible show wp _ _ _ _ _ _ _ _ _ _ _ _ _ _); conv => whnf)
          | ((with_reducible show callK _ _ _ _ _ _ _ _ _); conv => whnf)
          | ((with_reducible show condK _ _ _ _ _); conv => whnf)
          | ((with_reducible show st1 _ _ _ _ _ _ _ _ _ _ _ _); conv => whnf)
          | ((with_reducible show (Prod.fst _ : Spec) _ _ _); conv => whnf)
          | ((with_reducible show shortK _ _); conv => whnf)
          | exact Nat.le_of_ble_eq_true rfl)
      · exact ⟨n, by omega, 0, _, by rw [d2]; rfl, rfl, rfl, rfl, rfl, by omega, by omega, fun j hj => by omega⟩
      · exact kr_i ( h _ (isBt (Or.inl c9)) ) (Nat.le_of_ble_eq_true rfl) (Nat.le_of_ble_eq_true rfl)
def s_wasteAll : Spec := fun as S post => match as with
  | [.inr (.inr (some u))] => ∃ T n q b m, orC S u T ∧ dgC S T n q b m ∧ ∀ S', obj u [5, 6, 7] S S' → S'.2.1 u 5 = 0 → S'.2.1 u 6 = 0 → S'.2.1 u 7 = S.2.1 u 7 + (S.2.1 u 5 * m + S.2.1 u 6) → post (.inl (some (vI (S.2.1 u 5 * m + S.2.1 u 6)))) S'
  | _ => False
def spX2_wasteAll : Nat → CD := spF mdX2_wasteAll fun i => match i with
  | _ => noR
set_option maxHeartbeats 4000000 in
set_option maxRecDepth 100000 in
theorem sat_X2_wasteAll : Sat mX2_wasteAll s_wasteAll 0 0 1 := by
  refine sat_of (E := eX2_wasteAll) (sp := spX2_wasteAll) (ini := false) (by decide +kernel) (fun h => by cases h) okX2_wasteAll (fun i => match i with
    | _ => ⟨sat_no _, Nat.le_of_ble_eq_true rfl⟩) ?_
  intro as S post h
  match as, h with
  | [.inr (.inr (some u))], h =>
    obtain ⟨T, n, q, b, m, ⟨o1, o2, o3, o4⟩, hD, h⟩ := h
    obtain ⟨d1, d2, d3, d4, d5, d6, d7, d8⟩ := hD
    refine body0 80 rfl ?_
    repeat' (first
        | omega
        | with_reducible apply And.intro
        | (intro c9; (try simp only [mg, mf, colK, stK, clK, mnK, shN] at c9))
        | exact ⟨9, o1⟩
        | exact ⟨9, d1⟩
        | refine ⟨100, m, d5, by omega, ?_⟩
        | (simp only [mg, mf, colK, stK, clK, mnK, shN]; omega)
        | refine Exists.intro _ (And.intro rfl ?_)
        | refine Exists.intro _ (And.intro (o4) ?_)
        | refine Exists.intro _ (And.intro (d4) ?_)
        | ((with_reducible show wp _ _ _ _ _ _ _ _ _ _ _ _ _ _); conv => whnf)
        | ((with_reducible show callK _ _ _ _ _ _ _ _ _); conv => whnf)
        | ((with_reducible show condK _ _ _ _ _); conv => whnf)
        | ((with_reducible show st1 _ _ _ _ _ _ _ _ _ _ _ _); conv => whnf)
        | ((with_reducible show (Prod.fst _ : Spec) _ _ _); conv => whnf)
        | ((with_reducible show shortK _ _); conv => whnf)
        | exact Nat.le_of_ble_eq_true rfl)
    refine h _ (((obj.rf.upd (by simp)).upd (by simp)).upd (by simp)) ?_ ?_ ?_ <;> simp [updI_2]
/-! what the calls share -/
/-- of a row of those that there can be, those that there are and no more are there -/
def nlC (S : Sto) (f a len : Nat) : Prop := ∀ k : Nat, k < len → (S.2.1 1 f ≤ k → S.2.2 a k = none) ∧ ((k : Int) < S.2.1 1 f → S.2.2 a k ≠ none)
def nlA (S : Sto) : Prop := nlC S 3 5 6 ∧ nlC S 5 6 4 ∧ nlC S 7 7 20
theorem nlC.y {S : Sto} {f a len : Nat} (h : nlC S f a len) {d : Int} (h0 : 0 ≤ d) (h1 : d < len) (hn : S.2.2 a d.toNat ≠ none) : d < S.2.1 1 f := Classical.byContradiction fun e => hn ((h d.toNat (by omega)).1 (by omega))
theorem nlC.z {S : Sto} {f a len : Nat} (h : nlC S f a len) {d : Int} (h0 : 0 ≤ d) (h1 : d < len) (hn : S.2.2 a d.toNat = none) : ¬ d < S.2.1 1 f := fun e => (h d.toNat (by omega)).2 (by omega) hn
theorem nlC.fr {S S' : Sto} {f a len : Nat} (h : nlC S f a len) (h1 : S'.2.1 1 f = S.2.1 1 f) (h2 : S'.2.2 a = S.2.2 a) : nlC S' f a len := by
  unfold nlC at h ⊢
  rw [h1, h2]; exact h
theorem nlC.add {S S' : Sto} {f a len : Nat} {u : Nat} (h : nlC S f a len) (h0 : 0 ≤ S.2.1 1 f) (h1 : S'.2.1 1 f = S.2.1 1 f + 1) (h2 : ∀ k : Nat, S'.2.2 a k = if k = (S.2.1 1 f).toNat then some u else S.2.2 a k) : nlC S' f a len := fun k hk => by
  rw [h1, h2 k]
  by_cases e : k = (S.2.1 1 f).toNat
  · rw [if_pos e]; exact ⟨fun z => by omega, fun _ z => by cases z⟩
  · rw [if_neg e]; exact ⟨fun z => (h k hk).1 (by omega), fun z => (h k hk).2 (by omega)⟩
theorem nlA.fr {S S' : Sto} (h : nlA S) (h3 : S'.2.1 1 3 = S.2.1 1 3) (h5 : S'.2.1 1 5 = S.2.1 1 5) (h7 : S'.2.1 1 7 = S.2.1 1 7) (e5 : S'.2.2 5 = S.2.2 5) (e6 : S'.2.2 6 = S.2.2 6) (e7 : S'.2.2 7 = S.2.2 7) : nlA S' :=
  ⟨h.1.fr h3 e5, h.2.1.fr h5 e6, h.2.2.fr h7 e7⟩
def cfC (S : Sto) : Prop := S.1 1 = some (6, 9) ∧ S.2.2 1 0 = some 4 ∧ S.2.2 1 2 = some 5 ∧ S.2.2 1 4 = some 6 ∧ S.2.2 1 6 = some 7 ∧ S.2.2 1 8 = some 8 ∧ S.1 4 = some (114, 7) ∧ S.1 5 = some (110, 6) ∧ S.1 6 = some (111, 4) ∧ S.1 7 = some (112, 20) ∧ spC S 8 ∧ nlA S
theorem cfC.to {S S' : Sto} (h : cfC S) (h1 : S'.1 = S.1) (h2 : S'.2.2 = S.2.2) (h3 : S'.2.1 1 = S.2.1 1) : cfC S' := by
  obtain ⟨a1, a2, a3, a4, a5, a6, a7, a8, a9, a10, ⟨b1, b2, b3⟩, c⟩ := h
  refine ⟨?_, ?_, ?_, ?_, ?_, ?_, ?_, ?_, ?_, ?_, ⟨?_, ?_, ?_⟩, c.fr (by rw [h3]) (by rw [h3]) (by rw [h3]) (by rw [h2]) (by rw [h2]) (by rw [h2])⟩ <;> (first | rw [h1] | rw [h2]) <;> assumption
def s_at (f a len : Nat) : Spec := fun as S post => match as with
  | [.inr (.inr (some 1)), .inl d] => cfC S ∧ InR d ∧ (0 ≤ S.2.1 1 f ∧ S.2.1 1 f ≤ len) ∧ ((0 ≤ d ∧ d < S.2.1 1 f) → post (.inl (some (vR (S.2.2 a d.toNat)))) S) ∧ (¬ (0 ≤ d ∧ d < S.2.1 1 f) → post (.inr 0) S)
  | _ => False
def s_designAt : Spec := s_at 3 5 6
def s_machineAt : Spec := s_at 5 6 4
def s_orderAt : Spec := s_at 7 7 20
def spX6_designAt : Nat → CD := spF mdX6_designAt fun i => match i with
  | _ => noR
set_option maxHeartbeats 4000000 in
set_option maxRecDepth 100000 in
theorem sat_X6_designAt : Sat mX6_designAt s_designAt 1 6 1 := by
  refine sat_of (E := eX6_designAt) (sp := spX6_designAt) (ini := false) (by decide +kernel) (fun h => by cases h) okX6_designAt (fun i => match i with
    | _ => ⟨sat_no _, Nat.le_of_ble_eq_true rfl⟩) ?_
  intro as S post h
  match as, h with
  | [.inr (.inr (some 1)), .inl d], h =>
    obtain ⟨⟨c1, c2, c3, c4, c5, c6, c7, c8, c9', c10, c11, cn⟩, hd, hk, hA, hB⟩ := h
    refine body0 80 rfl ?_
    repeat' (first
        | omega
        | with_reducible apply And.intro
        | (intro c9; (try simp only [mg, mf, colK, stK, clK, mnK, shN] at c9))
        | exact ⟨9, c1⟩
        | refine ⟨110, 6, c8, by omega, ?_⟩
        | exact ⟨110, 6, c8, rfl, by omega, by omega⟩
        | exact hA ⟨by omega, cn.1.y (by omega) (by omega) (by rw [c9]; simp)⟩
        | exact hB (fun e => cn.1.z (by omega) (by omega) c9 e.2)
        | exact hB (by omega)
        | (simp only [mg, mf, colK, stK, clK, mnK, shN]; omega)
        | refine Exists.intro _ (And.intro rfl ?_)
        | refine Exists.intro _ (And.intro (c3) ?_)
        | ((with_reducible show wp _ _ _ _ _ _ _ _ _ _ _ _ _ _); conv => whnf)
        | ((with_reducible show callK _ _ _ _ _ _ _ _ _); conv => whnf)
        | ((with_reducible show condK _ _ _ _ _); conv => whnf)
        | ((with_reducible show st1 _ _ _ _ _ _ _ _ _ _ _ _); conv => whnf)
        | ((with_reducible show (Prod.fst _ : Spec) _ _ _); conv => whnf)
        | ((with_reducible show shortK _ _); conv => whnf)
        | exact Nat.le_of_ble_eq_true rfl)
def spX6_machineAt : Nat → CD := spF mdX6_machineAt fun i => match i with
  | _ => noR
set_option maxHeartbeats 4000000 in
set_option maxRecDepth 100000 in
theorem sat_X6_machineAt : Sat mX6_machineAt s_machineAt 1 6 1 := by
  refine sat_of (E := eX6_machineAt) (sp := spX6_machineAt) (ini := false) (by decide +kernel) (fun h => by cases h) okX6_machineAt (fun i => match i with
    | _ => ⟨sat_no _, Nat.le_of_ble_eq_true rfl⟩) ?_
  intro as S post h
  match as, h with
  | [.inr (.inr (some 1)), .inl d], h =>
    obtain ⟨⟨c1, c2, c3, c4, c5, c6, c7, c8, c9', c10, c11, cn⟩, hd, hk, hA, hB⟩ := h
    refine body0 80 rfl ?_
    repeat' (first
        | omega
        | with_reducible apply And.intro
        | (intro c9; (try simp only [mg, mf, colK, stK, clK, mnK, shN] at c9))
        | exact ⟨9, c1⟩
        | refine ⟨111, 4, c9', by omega, ?_⟩
        | exact ⟨111, 4, c9', rfl, by omega, by omega⟩
        | exact hA ⟨by omega, cn.2.1.y (by omega) (by omega) (by rw [c9]; simp)⟩
        | exact hB (fun e => cn.2.1.z (by omega) (by omega) c9 e.2)
        | exact hB (by omega)
        | (simp only [mg, mf, colK, stK, clK, mnK, shN]; omega)
        | refine Exists.intro _ (And.intro rfl ?_)
        | refine Exists.intro _ (And.intro (c4) ?_)
        | ((with_reducible show wp _ _ _ _ _ _ _ _ _ _ _ _ _ _); conv => whnf)
        | ((with_reducible show callK _ _ _ _ _ _ _ _ _); conv => whnf)
        | ((with_reducible show condK _ _ _ _ _); conv => whnf)
        | ((with_reducible show st1 _ _ _ _ _ _ _ _ _ _ _ _); conv => whnf)
        | ((with_reducible show (Prod.fst _ : Spec) _ _ _); conv => whnf)
        | ((with_reducible show shortK _ _); conv => whnf)
        | exact Nat.le_of_ble_eq_true rfl)
def spX6_orderAt : Nat → CD := spF mdX6_orderAt fun i => match i with
  | _ => noR
set_option maxHeartbeats 4000000 in
set_option maxRecDepth 100000 in
theorem sat_X6_orderAt : Sat mX6_orderAt s_orderAt 1 6 1 := by
  refine sat_of (E := eX6_orderAt) (sp := spX6_orderAt) (ini := false) (by decide +kernel) (fun h => by cases h) okX6_orderAt (fun i => match i with
    | _ => ⟨sat_no _, Nat.le_of_ble_eq_true rfl⟩) ?_
  intro as S post h
  match as, h with
  | [.inr (.inr (some 1)), .inl d], h =>
    obtain ⟨⟨c1, c2, c3, c4, c5, c6, c7, c8, c9', c10, c11, cn⟩, hd, hk, hA, hB⟩ := h
    refine body0 80 rfl ?_
    repeat' (first
        | omega
        | with_reducible apply And.intro
        | (intro c9; (try simp only [mg, mf, colK, stK, clK, mnK, shN] at c9))
        | exact ⟨9, c1⟩
        | refine ⟨112, 20, c10, by omega, ?_⟩
        | exact ⟨112, 20, c10, rfl, by omega, by omega⟩
        | exact hA ⟨by omega, cn.2.2.y (by omega) (by omega) (by rw [c9]; simp)⟩
        | exact hB (fun e => cn.2.2.z (by omega) (by omega) c9 e.2)
        | exact hB (by omega)
        | (simp only [mg, mf, colK, stK, clK, mnK, shN]; omega)
        | refine Exists.intro _ (And.intro rfl ?_)
        | refine Exists.intro _ (And.intro (c5) ?_)
        | ((with_reducible show wp _ _ _ _ _ _ _ _ _ _ _ _ _ _); conv => whnf)
        | ((with_reducible show callK _ _ _ _ _ _ _ _ _); conv => whnf)
        | ((with_reducible show condK _ _ _ _ _); conv => whnf)
        | ((with_reducible show st1 _ _ _ _ _ _ _ _ _ _ _ _); conv => whnf)
        | ((with_reducible show (Prod.fst _ : Spec) _ _ _); conv => whnf)
        | ((with_reducible show shortK _ _); conv => whnf)
        | exact Nat.le_of_ble_eq_true rfl)
def s_shadeForC : Spec := fun as S post => match as with
  | [.inr (.inr (some 1)), .inr (.inr (some u)), .inl c] => ∃ T n q b m, cfC S ∧ orC S u T ∧ dgC S T n q b m ∧ (0 ≤ c ∧ c < 6 ∧ 1 ≤ S.2.1 u 2 ∧ S.2.1 u 2 ≤ 50 ∧ ∀ k : Int, 0 ≤ k → k < 18 → 0 ≤ S.2.1 9 k.toNat ∧ S.2.1 9 k.toNat ≤ 1000000) ∧
    post (.inl (some (vI (if S.2.1 u 2 * ndS S q b c n ≤ spK S 8 c 0 then 0 else if S.2.1 u 2 * ndS S q b c n ≤ spK S 8 c 1 then 1 else if S.2.1 u 2 * ndS S q b c n ≤ spK S 8 c 2 then 2 else -1)))) S
  | _ => False
def spX6_shadeFor : Nat → CD := spF mdX6_shadeFor fun i => match i with
  | 1 => (s_count, 0, 0, 2)
  | 2 => (s_orNeed, 0, 0, 2)
  | _ => noR
set_option maxHeartbeats 4000000 in
set_option maxRecDepth 100000 in
theorem sat_X6_shadeFor : Sat mX6_shadeFor s_shadeForC 0 0 3 := by
  refine sat_of (E := eX6_shadeFor) (sp := spX6_shadeFor) (ini := false) (by decide +kernel) (fun h => by cases h) okX6_shadeFor (fun i => match i with
    | 1 => ⟨sat_X5_count, Nat.le_of_ble_eq_true rfl⟩
    | 2 => ⟨sat_X2_need, Nat.le_of_ble_eq_true rfl⟩
    | i + 3 => ⟨sat_no _, Nat.le_of_ble_eq_true rfl⟩
    | 0 => ⟨sat_no _, Nat.le_of_ble_eq_true rfl⟩) ?_
  intro as S post h
  match as, h with
  | [.inr (.inr (some 1)), .inr (.inr (some u)), .inl c], h =>
    obtain ⟨T, n, q, b, m, hF, hO, hD, ⟨c0, c6, p1, p50, hst⟩, h⟩ := h
    have hr := ndS_r hD (c := c) n (Nat.le_refl _)
    rw [hD.2.2.2.2.2.2.1.2.1] at hr
    have hm := hD.2.2.2.2.2.1.2.2.2
    have hF2 := hF
    obtain ⟨f1, f2, f3, f4, f5, f6, -, -, -, -, f11, -⟩ := hF2
    have hmul : 0 ≤ S.2.1 u 2 * ndS S q b c n ∧ S.2.1 u 2 * ndS S q b c n ≤ 112000 := ⟨Int.mul_nonneg (by omega) hr.1, by
      have := Int.mul_le_mul p50 (show ndS S q b c n ≤ 2240 by omega) hr.1 (by omega : (0 : Int) ≤ 50)
      omega⟩
    generalize hN : S.2.1 u 2 * ndS S q b c n = N at *
    refine bodyL [(2, fun ms L st S' cc => ∃ k : Nat, L = [vT 1, vT u, vI c, vI k] ∧ st = [] ∧ S' = S ∧ cc = (0, 0) ∧ ms = 3 - k ∧ k ≤ 3 ∧ ∀ j : Nat, j < k → spK S 8 c j < N)] 4 120 rfl
      (List.forall_mem_cons.mpr ⟨?_, fun q hq => by cases hq⟩) ?_
    · rintro ms L st S' cc ⟨k, rfl, rfl, rfl, rfl, rfl, hk, hn⟩
      have hs := fun z : k < 3 => hst (3 * c + k) (by omega) (by omega)
      have hsp : k < 3 → 0 ≤ spK S' 8 c k ∧ spK S' 8 c k ≤ 1000000 := hs
      repeat' (first
          | omega
          | with_reducible apply And.intro
          | (intro c9; (try simp only [mg, mf, colK, stK, clK, mnK, shN] at c9))
          | exact ⟨9, f1⟩
          | exact ⟨1, f11.1⟩
          | exact ⟨9, hO.1⟩
          | rw [gfR (ci := 6) f6 rfl]
          | (refine And.intro f11 (And.intro ?_ ?_))
          | rw [if_pos (show 0 ≤ c ∧ c < 6 ∧ 0 ≤ (k : Int) ∧ (k : Int) < 3 by omega)]
          | refine ⟨T, n, q, b, m, hO, hD, ?_, ?_⟩
          | rw [hN]
          | (have := hsp (by omega); omega)
          | (simp only [mg, mf, colK, stK, clK, mnK, shN]; omega)
          | refine Exists.intro _ (And.intro rfl ?_)
          | refine Exists.intro _ (And.intro (f6) ?_)
          | ((with_reducible show wp _ _ _ _ _ _ _ _ _ _ _ _ _ _); conv => whnf)
          | ((with_reducible show callK _ _ _ _ _ _ _ _ _); conv => whnf)
          | ((with_reducible show condK _ _ _ _ _); conv => whnf)
          | ((with_reducible show st1 _ _ _ _ _ _ _ _ _ _ _ _); conv => whnf)
          | ((with_reducible show (Prod.fst _ : Spec) _ _ _); conv => whnf)
          | ((with_reducible show shortK _ _); conv => whnf)
          | exact Nat.le_of_ble_eq_true rfl)
      · have h0 := hn 0 (by omega)
        have h1 := hn 1 (by omega)
        have h2 := hn 2 (by omega)
        simp only [Int.cast_ofNat_Int] at h0 h1 h2
        rw [if_neg (by omega), if_neg (by omega), if_neg (by omega)] at h
        exact h
      · exact ⟨3 - (k + 1), by omega, k + 1, by rw [Int.natCast_add]; rfl, rfl, rfl, rfl, rfl, by omega, fun j hj => by
          by_cases e : j = k
          · subst e; exact c9
          · exact hn j (by omega)⟩
      · rcases (show k = 0 ∨ k = 1 ∨ k = 2 by omega) with rfl | rfl | rfl
        · simp only [Int.cast_ofNat_Int] at c9
          rw [if_pos c9] at h; exact h
        · have h0 := hn 0 (by omega)
          simp only [Int.cast_ofNat_Int] at c9 h0
          rw [if_neg (by omega), if_pos c9] at h; exact h
        · have h0 := hn 0 (by omega)
          have h1 := hn 1 (by omega)
          simp only [Int.cast_ofNat_Int] at c9 h0 h1
          rw [if_neg (by omega), if_neg (by omega), if_pos c9] at h; exact h
    · repeat' (first
          | omega
          | with_reducible apply And.intro
          | (intro c9; (try simp only [mg, mf, colK, stK, clK, mnK, shN] at c9))
          | (simp only [mg, mf, colK, stK, clK, mnK, shN]; omega)
          | refine Exists.intro _ (And.intro rfl ?_)
          | ((with_reducible show wp _ _ _ _ _ _ _ _ _ _ _ _ _ _); conv => whnf)
          | ((with_reducible show callK _ _ _ _ _ _ _ _ _); conv => whnf)
          | ((with_reducible show condK _ _ _ _ _); conv => whnf)
          | ((with_reducible show st1 _ _ _ _ _ _ _ _ _ _ _ _); conv => whnf)
          | ((with_reducible show (Prod.fst _ : Spec) _ _ _); conv => whnf)
          | ((with_reducible show shortK _ _); conv => whnf)
          | exact Nat.le_of_ble_eq_true rfl)
      exact ⟨3, by omega, 0, rfl, rfl, rfl, rfl, rfl, by omega, fun j hj => by omega⟩

