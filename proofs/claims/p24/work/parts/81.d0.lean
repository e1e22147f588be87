/-! THE CLASS: what is asked -/
/-- of what the class's memory consists -/
abbrev GW : Type := (Nat → Nat) × (Nat → Nat → Nat) × (Nat → Nat → Int) × (Nat → Nat) × (Nat → Int) × (Nat → Nat) × (Nat → Nat)
abbrev GW.n (W : GW) : Nat → Nat := W.1
abbrev GW.q (W : GW) : Nat → Nat → Nat := W.2.1
abbrev GW.b (W : GW) : Nat → Nat → Int := W.2.2.1
abbrev GW.m (W : GW) : Nat → Nat := W.2.2.2.1
abbrev GW.v (W : GW) : Nat → Int := W.2.2.2.2.1
abbrev GW.g (W : GW) : Nat → Nat := W.2.2.2.2.2.1
abbrev GW.h (W : GW) : Nat → Nat := W.2.2.2.2.2.2
def dgW (S : Sto) (T n : Nat) (q : Nat → Nat) (b : Nat → Int) (m : Nat) (v : Int) : Prop := dgC S T n q b m ∧ S.2.2 T 1 = some (T + 1) ∧ (∃ a u col nd, sqC S (T + 1) a n u col nd ∧ dpR n col nd 0 (-1) = v) ∧ (∀ j, j < m → 0 ≤ S.2.1 (T + 5) j ∧ S.2.1 (T + 5) j < 256) ∧ (1 ≤ S.2.1 T 7 ∧ S.2.1 T 7 ≤ 16 ∧ 1 ≤ S.2.1 T 8 ∧ S.2.1 T 8 ≤ 16)
def mcW (S : Sto) (u b : Nat) : Prop := mcC S u ∧ hlC S u b ∧ (∀ k : Nat, k < 6 → InR (S.2.1 (u + 1) k)) ∧ (1 ≤ S.2.1 u 1 ∧ S.2.1 u 1 ≤ 6 ∧ 1 ≤ S.2.1 u 2 ∧ S.2.1 u 2 ≤ 16 ∧ 1 ≤ S.2.1 u 3 ∧ S.2.1 u 3 ≤ 16) ∧ (S.2.2 u 4 = none ∨ ∃ o : Nat, (o : Int) < S.2.1 1 7 ∧ S.2.2 u 4 = some (2048 + 16 * o) ∧ S.2.2 (2048 + 16 * o) 8 = some u)
def orW (S : Sto) (u g m : Nat) : Prop := orC S u (4096 + 16 * g) ∧ (g : Int) < S.2.1 1 3 ∧ (1 ≤ S.2.1 u 2 ∧ S.2.1 u 2 ≤ 50 ∧ 0 ≤ S.2.1 u 4 ∧ S.2.1 u 4 ≤ 3) ∧ (0 ≤ S.2.1 u 5 ∧ S.2.1 u 5 ≤ 50) ∧ (0 ≤ S.2.1 u 6 ∧ S.2.1 u 6 < m) ∧ (∀ c : Nat, c < 6 → -1 ≤ S.2.1 (u + 1) c ∧ S.2.1 (u + 1) c < 3) ∧
  (S.2.2 u 8 = none ∨ ∃ i : Nat, (i : Int) < S.2.1 1 5 ∧ S.2.2 u 8 = some (1024 + 16 * i) ∧ S.2.2 (1024 + 16 * i) 4 = some u)
def CW (W : GW) (S : Sto) : Prop := cfC S ∧ (0 ≤ S.2.1 1 1 ∧ S.2.1 1 1 ≤ 7 ∧ 0 ≤ S.2.1 1 3 ∧ S.2.1 1 3 ≤ 6 ∧ 0 ≤ S.2.1 1 5 ∧ S.2.1 1 5 ≤ 4 ∧ 0 ≤ S.2.1 1 7 ∧ S.2.1 1 7 ≤ 20) ∧
  (∀ d : Nat, (d : Int) < S.2.1 1 3 → S.2.2 5 d = some (4096 + 16 * d) ∧ dgW S (4096 + 16 * d) (W.n d) (W.q d) (W.b d) (W.m d) (W.v d)) ∧
  (∀ i : Nat, (i : Int) < S.2.1 1 5 → S.2.2 6 i = some (1024 + 16 * i) ∧ mcW S (1024 + 16 * i) (W.h i)) ∧
  (∀ o : Nat, (o : Int) < S.2.1 1 7 → S.2.2 7 o = some (2048 + 16 * o) ∧ orW S (2048 + 16 * o) (W.g o) (W.m (W.g o))) ∧
  ∀ k : Int, 0 ≤ k → k < 18 → 0 ≤ S.2.1 9 k.toNat ∧ S.2.1 9 k.toNat ≤ 1000000
abbrev nDc (S : Sto) : Int := S.2.1 1 3
abbrev nMc (S : Sto) : Int := S.2.1 1 5
abbrev nOc (S : Sto) : Int := S.2.1 1 7
theorem CW.r3 {W : GW} {S : Sto} (h : CW W S) : 0 ≤ S.2.1 1 3 ∧ S.2.1 1 3 ≤ 6 := by have := h.2.1; omega
theorem CW.r5 {W : GW} {S : Sto} (h : CW W S) : 0 ≤ S.2.1 1 5 ∧ S.2.1 1 5 ≤ 4 := by have := h.2.1; omega
theorem CW.r7 {W : GW} {S : Sto} (h : CW W S) : 0 ≤ S.2.1 1 7 ∧ S.2.1 1 7 ≤ 20 := by have := h.2.1; omega
theorem CW.dg {W : GW} {S : Sto} (h : CW W S) {d : Int} (h0 : 0 ≤ d ∧ d < S.2.1 1 3) : S.2.2 5 d.toNat = some (4096 + 16 * d.toNat) ∧ dgW S (4096 + 16 * d.toNat) (W.n d.toNat) (W.q d.toNat) (W.b d.toNat) (W.m d.toNat) (W.v d.toNat) := h.2.2.1 d.toNat (by omega)
theorem CW.mc {W : GW} {S : Sto} (h : CW W S) {d : Int} (h0 : 0 ≤ d ∧ d < S.2.1 1 5) : S.2.2 6 d.toNat = some (1024 + 16 * d.toNat) ∧ mcW S (1024 + 16 * d.toNat) (W.h d.toNat) := h.2.2.2.1 d.toNat (by omega)
theorem CW.or {W : GW} {S : Sto} (h : CW W S) {d : Int} (h0 : 0 ≤ d ∧ d < S.2.1 1 7) : S.2.2 7 d.toNat = some (2048 + 16 * d.toNat) ∧ orW S (2048 + 16 * d.toNat) (W.g d.toNat) (W.m (W.g d.toNat)) := h.2.2.2.2.1 d.toNat (by omega)
def s_changesC : Spec := fun as S post => match as with
  | [.inr (.inr (some 1)), .inl d] => ∃ W, CW W S ∧ InR d ∧ (¬ (0 ≤ d ∧ d < S.2.1 1 3) → post (.inr 0) S) ∧ ((0 ≤ d ∧ d < S.2.1 1 3) → post (.inl (some (vI (S.2.1 (4096 + 16 * d.toNat) 4)))) S)
  | _ => False
def spX6_changes : Nat → CD := spF mdX6_changes fun i => match i with
  | 1 => (s_designAt, 1, 6, 1)
  | _ => noR
set_option maxHeartbeats 4000000 in
set_option maxRecDepth 100000 in
theorem sat_X6_changes : Sat mX6_changes s_changesC 1 6 12 := by
  refine sat_of (E := eX6_changes) (sp := spX6_changes) (ini := false) (by decide +kernel) (fun h => by cases h) okX6_changes (fun i => match i with
    | 1 => ⟨sat_X6_designAt, Nat.le_of_ble_eq_true rfl⟩
    | i + 2 => ⟨sat_no _, Nat.le_of_ble_eq_true rfl⟩
    | 0 => ⟨sat_no _, Nat.le_of_ble_eq_true rfl⟩) ?_
  intro as S post h
  match as, h with
  | [.inr (.inr (some 1)), .inl d], h =>
    obtain ⟨W, hW, hd, hA, hB⟩ := h
    have hr := hW.r3
    have hc := hW.1
    have hT := fun z => hW.dg (d := d) z
    refine body0 40 rfl ?_
    repeat' (first
        | omega
        | with_reducible apply And.intro
        | (intro c9; (try simp only [mg, mf, colK, stK, clK, mnK, shN] at c9))
        | exact hc
        | exact ⟨9, hc.1⟩
        | exact ⟨9, (hT c9).2.1.1⟩
        | exact hA c9
        | exact hB (by omega)
        | (simp only [mg, mf, colK, stK, clK, mnK, shN]; omega)
        | refine Exists.intro _ (And.intro rfl ?_)
        | refine Exists.intro _ (And.intro (((hT c9).1)) ?_)
        | ((with_reducible show wp _ _ _ _ _ _ _ _ _ _ _ _ _ _); conv => whnf)
        | ((with_reducible show callK _ _ _ _ _ _ _ _ _); conv => whnf)
        | ((with_reducible show condK _ _ _ _ _); conv => whnf)
        | ((with_reducible show st1 _ _ _ _ _ _ _ _ _ _ _ _); conv => whnf)
        | ((with_reducible show (Prod.fst _ : Spec) _ _ _); conv => whnf)
        | ((with_reducible show shortK _ _); conv => whnf)
        | exact Nat.le_of_ble_eq_true rfl)
def s_changesAnewC : Spec := fun as S post => match as with
  | [.inr (.inr (some 1)), .inl d] => ∃ W, CW W S ∧ InR d ∧ (¬ (0 ≤ d ∧ d < S.2.1 1 3) → post (.inr 0) S) ∧ ((0 ≤ d ∧ d < S.2.1 1 3) → post (.inl (some (vI (W.v d.toNat)))) S)
  | _ => False
def spX6_changesAnew : Nat → CD := spF mdX6_changesAnew fun i => match i with
  | 1 => (s_designAt, 1, 6, 1)
  | 2 => (s_fewestOf, 0, 0, 11)
  | _ => noR
set_option maxHeartbeats 4000000 in
set_option maxRecDepth 100000 in
theorem sat_X6_changesAnew : Sat mX6_changesAnew s_changesAnewC 1 6 12 := by
  refine sat_of (E := eX6_changesAnew) (sp := spX6_changesAnew) (ini := false) (by decide +kernel) (fun h => by cases h) okX6_changesAnew (fun i => match i with
    | 1 => ⟨sat_X6_designAt, Nat.le_of_ble_eq_true rfl⟩
    | 2 => ⟨sat_X3_fewestOfAllOrders, Nat.le_of_ble_eq_true rfl⟩
    | i + 3 => ⟨sat_no _, Nat.le_of_ble_eq_true rfl⟩
    | 0 => ⟨sat_no _, Nat.le_of_ble_eq_true rfl⟩) ?_
  intro as S post h
  match as, h with
  | [.inr (.inr (some 1)), .inl d], h =>
    obtain ⟨W, hW, hd, hA, hB⟩ := h
    have hr := hW.r3
    have hc := hW.1
    refine body0 40 rfl ?_
    by_cases z : 0 ≤ d ∧ d < S.2.1 1 3
    · obtain ⟨hT, hD, hT1, ⟨a, u, col, nd, hq, hv⟩, -⟩ := hW.dg z
      have hB' := hB z
      rw [← hv] at hB'
      repeat' (first
          | omega
          | with_reducible apply And.intro
          | (intro c9; (try simp only [mg, mf, colK, stK, clK, mnK, shN] at c9))
          | exact hc
          | exact ⟨9, hc.1⟩
          | exact ⟨9, hD.1⟩
          | rw [gfR (ci := 0) hT1 rfl]
          | exact ⟨3, hq.1.1⟩
          | refine ⟨a, _, u, col, nd, hq, ?_⟩
          | exact hA c9
          | exact hB'
          | (simp only [mg, mf, colK, stK, clK, mnK, shN]; omega)
          | refine Exists.intro _ (And.intro rfl ?_)
          | refine Exists.intro _ (And.intro (hT) ?_)
          | ((with_reducible show wp _ _ _ _ _ _ _ _ _ _ _ _ _ _); conv => whnf)
          | ((with_reducible show callK _ _ _ _ _ _ _ _ _); conv => whnf)
          | ((with_reducible show condK _ _ _ _ _); conv => whnf)
          | ((with_reducible show st1 _ _ _ _ _ _ _ _ _ _ _ _); conv => whnf)
          | ((with_reducible show (Prod.fst _ : Spec) _ _ _); conv => whnf)
          | ((with_reducible show shortK _ _); conv => whnf)
          | exact Nat.le_of_ble_eq_true rfl)
    · repeat' (first
          | omega
          | with_reducible apply And.intro
          | (intro c9; (try simp only [mg, mf, colK, stK, clK, mnK, shN] at c9))
          | exact hc
          | exact ⟨9, hc.1⟩
          | exact hA c9
          | (simp only [mg, mf, colK, stK, clK, mnK, shN]; omega)
          | refine Exists.intro _ (And.intro rfl ?_)
          | ((with_reducible show wp _ _ _ _ _ _ _ _ _ _ _ _ _ _); conv => whnf)
          | ((with_reducible show callK _ _ _ _ _ _ _ _ _); conv => whnf)
          | ((with_reducible show condK _ _ _ _ _); conv => whnf)
          | ((with_reducible show st1 _ _ _ _ _ _ _ _ _ _ _ _); conv => whnf)
          | ((with_reducible show (Prod.fst _ : Spec) _ _ _); conv => whnf)
          | ((with_reducible show shortK _ _); conv => whnf)
          | exact Nat.le_of_ble_eq_true rfl)
def s_jumpsC : Spec := fun as S post => match as with
  | [.inr (.inr (some 1)), .inl d, .inl i] => ∃ W, CW W S ∧ (InR d ∧ (i = 0 ∨ i = 1)) ∧ (¬ (0 ≤ d ∧ d < S.2.1 1 3) → post (.inr 0) S) ∧ ((0 ≤ d ∧ d < S.2.1 1 3) → post (.inl (some (vI (S.2.1 (4096 + 16 * d.toNat) (if i = 0 then 5 else 6))))) S)
  | _ => False
def spX6_jumps : Nat → CD := spF mdX6_jumps fun i => match i with
  | 1 => (s_designAt, 1, 6, 1)
  | _ => noR
set_option maxHeartbeats 4000000 in
set_option maxRecDepth 100000 in
theorem sat_X6_jumps : Sat mX6_jumps s_jumpsC 1 6 12 := by
  refine sat_of (E := eX6_jumps) (sp := spX6_jumps) (ini := false) (by decide +kernel) (fun h => by cases h) okX6_jumps (fun i => match i with
    | 1 => ⟨sat_X6_designAt, Nat.le_of_ble_eq_true rfl⟩
    | i + 2 => ⟨sat_no _, Nat.le_of_ble_eq_true rfl⟩
    | 0 => ⟨sat_no _, Nat.le_of_ble_eq_true rfl⟩) ?_
  intro as S post h
  match as, h with
  | [.inr (.inr (some 1)), .inl d, .inl i], h =>
    obtain ⟨W, hW, hd, hA, hB⟩ := h
    have hr := hW.r3
    have hc := hW.1
    refine body0 40 rfl ?_
    by_cases z : 0 ≤ d ∧ d < S.2.1 1 3
    · have hT := hW.dg z
      have hB' := hB z
      repeat' (first
          | omega
          | with_reducible apply And.intro
          | (intro c9; (try simp only [mg, mf, colK, stK, clK, mnK, shN] at c9))
          | exact hc
          | exact ⟨9, hc.1⟩
          | exact ⟨9, hT.2.1.1⟩
          | exact hA c9
          | (rw [if_pos c9] at hB'; exact hB')
          | (rw [if_neg c9] at hB'; exact hB')
          | (simp only [mg, mf, colK, stK, clK, mnK, shN]; omega)
          | refine Exists.intro _ (And.intro rfl ?_)
          | refine Exists.intro _ (And.intro (hT.1) ?_)
          | ((with_reducible show wp _ _ _ _ _ _ _ _ _ _ _ _ _ _); conv => whnf)
          | ((with_reducible show callK _ _ _ _ _ _ _ _ _); conv => whnf)
          | ((with_reducible show condK _ _ _ _ _); conv => whnf)
          | ((with_reducible show st1 _ _ _ _ _ _ _ _ _ _ _ _); conv => whnf)
          | ((with_reducible show (Prod.fst _ : Spec) _ _ _); conv => whnf)
          | ((with_reducible show shortK _ _); conv => whnf)
          | exact Nat.le_of_ble_eq_true rfl)
    · repeat' (first
          | omega
          | with_reducible apply And.intro
          | (intro c9; (try simp only [mg, mf, colK, stK, clK, mnK, shN] at c9))
          | exact hc
          | exact ⟨9, hc.1⟩
          | exact hA c9
          | (simp only [mg, mf, colK, stK, clK, mnK, shN]; omega)
          | refine Exists.intro _ (And.intro rfl ?_)
          | ((with_reducible show wp _ _ _ _ _ _ _ _ _ _ _ _ _ _); conv => whnf)
          | ((with_reducible show callK _ _ _ _ _ _ _ _ _); conv => whnf)
          | ((with_reducible show condK _ _ _ _ _); conv => whnf)
          | ((with_reducible show st1 _ _ _ _ _ _ _ _ _ _ _ _); conv => whnf)
          | ((with_reducible show (Prod.fst _ : Spec) _ _ _); conv => whnf)
          | ((with_reducible show shortK _ _); conv => whnf)
          | exact Nat.le_of_ble_eq_true rfl)
def s_sequenceC : Spec := fun as S post => match as with
  | [.inr (.inr (some 1)), .inl d, .inl p] => ∃ W, CW W S ∧ (InR d ∧ InR p) ∧ (¬ (0 ≤ d ∧ d < S.2.1 1 3 ∧ 0 ≤ p) → post (.inr 0) S) ∧ ((0 ≤ d ∧ d < S.2.1 1 3 ∧ 0 ≤ p) → post (.inl (some (vI (if p < W.n d.toNat then S.2.1 (W.q d.toNat p.toNat) 0 else -1)))) S)
  | _ => False
def spX6_sequence : Nat → CD := spF mdX6_sequence fun i => match i with
  | 1 => (s_designAt, 1, 6, 1)
  | 2 => (s_shapeAt, 0, 0, 1)
  | _ => noR
set_option maxHeartbeats 4000000 in
set_option maxRecDepth 100000 in
theorem sat_X6_sequence : Sat mX6_sequence s_sequenceC 2 12 12 := by
  refine sat_of (E := eX6_sequence) (sp := spX6_sequence) (ini := false) (by decide +kernel) (fun h => by cases h) okX6_sequence (fun i => match i with
    | 1 => ⟨sat_X6_designAt, Nat.le_of_ble_eq_true rfl⟩
    | 2 => ⟨sat_X6_shapeAt, Nat.le_of_ble_eq_true rfl⟩
    | i + 3 => ⟨sat_no _, Nat.le_of_ble_eq_true rfl⟩
    | 0 => ⟨sat_no _, Nat.le_of_ble_eq_true rfl⟩) ?_
  intro as S post h
  match as, h with
  | [.inr (.inr (some 1)), .inl d, .inl p], h =>
    obtain ⟨W, hW, hd, hA, hB⟩ := h
    have hr := hW.r3
    have hc := hW.1
    refine body0 60 rfl ?_
    by_cases z : 0 ≤ d ∧ d < S.2.1 1 3
    · obtain ⟨hT, ⟨d1, d2, d3, d4, d5, d6, d7, d8⟩, -⟩ := hW.dg z
      have hB' := fun y : 0 ≤ p => hB ⟨z.1, z.2, y⟩
      repeat' (first
          | omega
          | with_reducible apply And.intro
          | (intro c9; (try simp only [mg, mf, colK, stK, clK, mnK, shN] at c9))
          | (with_reducible (have q9 : (none : Option Nat) = _ := c9; clear q9; cases c9))
          | (rw [(d8 p.toNat (by omega)).1] at c9; cases c9)
          | exact hc
          | exact ⟨9, hc.1⟩
          | exact ⟨9, d1⟩
          | refine ⟨W.n d.toNat, d3, d6.2.1, hd.2, ?_⟩
          | rw [gfR (ci := 0) d2 rfl]
          | exact ⟨5, (d8 p.toNat (by omega)).2.1⟩
          | exact hA (by omega)
          | (have y := hB' (by omega); rw [if_pos (by omega)] at y; exact y)
          | (have y := hB' (by omega); rw [if_neg (by omega)] at y; exact y)
          | (simp only [mg, mf, colK, stK, clK, mnK, shN]; omega)
          | refine Exists.intro _ (And.intro rfl ?_)
          | refine Exists.intro _ (And.intro (hT) ?_)
          | refine Exists.intro _ (And.intro (d2) ?_)
          | refine Exists.intro _ (And.intro (((d8 p.toNat (by omega)).1)) ?_)
          | ((with_reducible show wp _ _ _ _ _ _ _ _ _ _ _ _ _ _); conv => whnf)
          | ((with_reducible show callK _ _ _ _ _ _ _ _ _); conv => whnf)
          | ((with_reducible show condK _ _ _ _ _); conv => whnf)
          | ((with_reducible show st1 _ _ _ _ _ _ _ _ _ _ _ _); conv => whnf)
          | ((with_reducible show (Prod.fst _ : Spec) _ _ _); conv => whnf)
          | ((with_reducible show shortK _ _); conv => whnf)
          | exact Nat.le_of_ble_eq_true rfl)
    · repeat' (first
          | omega
          | with_reducible apply And.intro
          | (intro c9; (try simp only [mg, mf, colK, stK, clK, mnK, shN] at c9))
          | exact hc
          | exact ⟨9, hc.1⟩
          | exact hA (by omega)
          | (simp only [mg, mf, colK, stK, clK, mnK, shN]; omega)
          | refine Exists.intro _ (And.intro rfl ?_)
          | ((with_reducible show wp _ _ _ _ _ _ _ _ _ _ _ _ _ _); conv => whnf)
          | ((with_reducible show callK _ _ _ _ _ _ _ _ _); conv => whnf)
          | ((with_reducible show condK _ _ _ _ _); conv => whnf)
          | ((with_reducible show st1 _ _ _ _ _ _ _ _ _ _ _ _); conv => whnf)
          | ((with_reducible show (Prod.fst _ : Spec) _ _ _); conv => whnf)
          | ((with_reducible show shortK _ _); conv => whnf)
          | exact Nat.le_of_ble_eq_true rfl)
def s_stitchesC : Spec := fun as S post => match as with
  | [.inr (.inr (some 1)), .inl d, .inl c] => ∃ W, CW W S ∧ (InR d ∧ InR c) ∧ (¬ (0 ≤ d ∧ d < S.2.1 1 3 ∧ (c = -1 ∨ 0 ≤ c ∧ c < 6)) → post (.inr 0) S) ∧ ((0 ≤ d ∧ d < S.2.1 1 3 ∧ (c = -1 ∨ 0 ≤ c ∧ c < 6)) → post (.inl (some (vI (if c = -1 then (W.m d.toNat : Int) else ndS S (W.q d.toNat) (W.b d.toNat) c (W.n d.toNat))))) S)
  | _ => False
def spX6_stitches : Nat → CD := spF mdX6_stitches fun i => match i with
  | 1 => (s_designAt, 1, 6, 1)
  | 2 => (s_isColour, 0, 0, 1)
  | 3 => (s_dgNeed, 0, 0, 1)
  | _ => noR
set_option maxHeartbeats 4000000 in
set_option maxRecDepth 100000 in
theorem sat_X6_stitches : Sat mX6_stitches s_stitchesC 2 12 12 := by
  refine sat_of (E := eX6_stitches) (sp := spX6_stitches) (ini := false) (by decide +kernel) (fun h => by cases h) okX6_stitches (fun i => match i with
    | 1 => ⟨sat_X6_designAt, Nat.le_of_ble_eq_true rfl⟩
    | 2 => ⟨sat_X6_isColour, Nat.le_of_ble_eq_true rfl⟩
    | 3 => ⟨sat_X0_need, Nat.le_of_ble_eq_true rfl⟩
    | i + 4 => ⟨sat_no _, Nat.le_of_ble_eq_true rfl⟩
    | 0 => ⟨sat_no _, Nat.le_of_ble_eq_true rfl⟩) ?_
  intro as S post h
  match as, h with
  | [.inr (.inr (some 1)), .inl d, .inl c], h =>
    obtain ⟨W, hW, hd, hA, hB⟩ := h
    have hr := hW.r3
    have hc := hW.1
    refine body0 60 rfl ?_
    by_cases z : 0 ≤ d ∧ d < S.2.1 1 3
    · obtain ⟨hT, hD, -⟩ := hW.dg z
      have hD2 := hD
      obtain ⟨d1, d2, d3, d4, d5, d6, d7, d8⟩ := hD2
      repeat' (first
          | omega
          | with_reducible apply And.intro
          | (intro c9; (try simp only [mg, mf, colK, stK, clK, mnK, shN] at c9))
          | exact hc
          | exact ⟨9, hc.1⟩
          | exact ⟨9, d1⟩
          | refine ⟨100, _, d5, by omega, ?_⟩
          | rw [hT]
          | refine ⟨_, _, _, _, hD, ?_, ?_⟩
          | exact hA (by omega)
          | (have y := hB ⟨z.1, z.2, by omega⟩; rw [if_pos (by omega)] at y; exact y)
          | (have y := hB ⟨z.1, z.2, by omega⟩; rw [if_neg (by omega)] at y; exact y)
          | (simp only [mg, mf, colK, stK, clK, mnK, shN]; omega)
          | refine Exists.intro _ (And.intro rfl ?_)
          | refine Exists.intro _ (And.intro (hT) ?_)
          | refine Exists.intro _ (And.intro (d4) ?_)
          | ((with_reducible show wp _ _ _ _ _ _ _ _ _ _ _ _ _ _); conv => whnf)
          | ((with_reducible show callK _ _ _ _ _ _ _ _ _); conv => whnf)
          | ((with_reducible show condK _ _ _ _ _); conv => whnf)
          | ((with_reducible show st1 _ _ _ _ _ _ _ _ _ _ _ _); conv => whnf)
          | ((with_reducible show (Prod.fst _ : Spec) _ _ _); conv => whnf)
          | ((with_reducible show shortK _ _); conv => whnf)
          | exact Nat.le_of_ble_eq_true rfl)
    · repeat' (first
          | omega
          | with_reducible apply And.intro
          | (intro c9; (try simp only [mg, mf, colK, stK, clK, mnK, shN] at c9))
          | exact hc
          | exact ⟨9, hc.1⟩
          | exact hA (by omega)
          | (simp only [mg, mf, colK, stK, clK, mnK, shN]; omega)
          | refine Exists.intro _ (And.intro rfl ?_)
          | ((with_reducible show wp _ _ _ _ _ _ _ _ _ _ _ _ _ _); conv => whnf)
          | ((with_reducible show callK _ _ _ _ _ _ _ _ _); conv => whnf)
          | ((with_reducible show condK _ _ _ _ _); conv => whnf)
          | ((with_reducible show st1 _ _ _ _ _ _ _ _ _ _ _ _); conv => whnf)
          | ((with_reducible show (Prod.fst _ : Spec) _ _ _); conv => whnf)
          | ((with_reducible show shortK _ _); conv => whnf)
          | exact Nat.le_of_ble_eq_true rfl)
def s_stitchC : Spec := fun as S post => match as with
  | [.inr (.inr (some 1)), .inl d, .inl x, .inl w] => ∃ W, CW W S ∧ (InR d ∧ InR x ∧ InR w) ∧ (¬ (0 ≤ d ∧ d < S.2.1 1 3 ∧ 0 ≤ x) → post (.inr 0) S) ∧ ((0 ≤ d ∧ d < S.2.1 1 3 ∧ 0 ≤ x) → ¬ (0 ≤ w ∧ w ≤ 2) → post (.inr 1) S) ∧ ((0 ≤ d ∧ d < S.2.1 1 3 ∧ 0 ≤ x) → (0 ≤ w ∧ w ≤ 2) → ((∀ p, ¬ inP (W.n d.toNat) (W.b d.toNat) x p) → post (.inl (some (vI (-1)))) S) ∧
      ∀ p, inP (W.n d.toNat) (W.b d.toNat) x p → post (.inl (some (vI (if w = 2 then S.2.1 (W.q d.toNat p) 0 else if w = 0 then S.2.1 (4096 + 16 * d.toNat + 5) x.toNat % 16 else S.2.1 (4096 + 16 * d.toNat + 5) x.toNat / 16)))) S)
  | _ => False
def spX6_stitch : Nat → CD := spF mdX6_stitch fun i => match i with
  | 1 => (s_designAt, 1, 6, 1)
  | 2 => (s_shapeOf, 0, 0, 2)
  | 3 => (s_xOf, 0, 0, 1)
  | 4 => (s_yOf, 0, 0, 1)
  | _ => noR
set_option maxHeartbeats 4000000 in
set_option maxRecDepth 100000 in
theorem sat_X6_stitch : Sat mX6_stitch s_stitchC 2 12 12 := by
  refine sat_of (E := eX6_stitch) (sp := spX6_stitch) (ini := false) (by decide +kernel) (fun h => by cases h) okX6_stitch (fun i => match i with
    | 1 => ⟨sat_X6_designAt, Nat.le_of_ble_eq_true rfl⟩
    | 2 => ⟨sat_X0_shapeOf, Nat.le_of_ble_eq_true rfl⟩
    | 3 => ⟨sat_X6_xOf, Nat.le_of_ble_eq_true rfl⟩
    | 4 => ⟨sat_X6_yOf, Nat.le_of_ble_eq_true rfl⟩
    | i + 5 => ⟨sat_no _, Nat.le_of_ble_eq_true rfl⟩
    | 0 => ⟨sat_no _, Nat.le_of_ble_eq_true rfl⟩) ?_
  intro as S post h
  match as, h with
  | [.inr (.inr (some 1)), .inl d, .inl x, .inl w], h =>
    obtain ⟨W, hW, hd, hA, hA2, hB⟩ := h
    have hr := hW.r3
    have hc := hW.1
    refine body0 120 rfl ?_
    by_cases z : 0 ≤ d ∧ d < S.2.1 1 3
    · obtain ⟨hT, hD, -, -, hcl, -⟩ := hW.dg z
      have hD2 := hD
      obtain ⟨d1, d2, d3, d4, d5, d6, d7, d8⟩ := hD2
      have hcx := fun y => hcl x.toNat y
      repeat' (first
          | omega
          | with_reducible apply And.intro
          | (intro c9; (try simp only [mg, mf, colK, stK, clK, mnK, shN] at c9))
          | (with_reducible (have q9 : (_ = none ∧ ∀ p, ¬ inP _ _ x p) ∨ _ := c9; clear q9; rcases c9 with ⟨rfl, c7⟩ | ⟨c6, rfl, c7⟩))
          | (with_reducible (have q9 : (none : Option Nat) = some _ := c9; cases q9))
          | (with_reducible (have q9 : some (_ : Nat) = none := c9; cases q9))
          | (with_reducible (have q9 : _ = (_ : Int) % 16 := c9; clear q9; subst c9))
          | (with_reducible (have q9 : _ = (_ : Int) / 16 := c9; clear q9; subst c9))
          | (have y := c7.2.2; have y2 := hD.rng (p := c6 + 1) c7.1; omega)
          | exact hc
          | exact ⟨9, hc.1⟩
          | exact ⟨9, d1⟩
          | rw [hT]
          | refine ⟨_, _, _, _, hD, ?_, ?_⟩
          | exact hA (by omega)
          | exact hA2 ⟨z.1, z.2, by omega⟩ (by omega)
          | exact (hB ⟨z.1, z.2, by omega⟩ (by omega)).1 c7
          | exact ⟨5, (d8 c6 c7.1).2.1⟩
          | refine ⟨100, _, d5, by omega, ?_⟩
          | exact ⟨100, _, d5, Or.inl rfl, by omega, by omega⟩
          | (have y := hcx (by omega); omega)
          | (have y := (hB ⟨z.1, z.2, by omega⟩ (by omega)).2 c6 c7; rw [if_pos (by omega)] at y; exact y)
          | (have y := (hB ⟨z.1, z.2, by omega⟩ (by omega)).2 c6 c7; rw [if_neg (by omega), if_pos (by omega)] at y; exact y)
          | (have y := (hB ⟨z.1, z.2, by omega⟩ (by omega)).2 c6 c7; rw [if_neg (by omega), if_neg (by omega)] at y; exact y)
          | (simp only [mg, mf, colK, stK, clK, mnK, shN]; omega)
          | refine Exists.intro _ (And.intro rfl ?_)
          | refine Exists.intro _ (And.intro (hT) ?_)
          | refine Exists.intro _ (And.intro (d4) ?_)
          | ((with_reducible show wp _ _ _ _ _ _ _ _ _ _ _ _ _ _); conv => whnf)
          | ((with_reducible show callK _ _ _ _ _ _ _ _ _); conv => whnf)
          | ((with_reducible show condK _ _ _ _ _); conv => whnf)
          | ((with_reducible show st1 _ _ _ _ _ _ _ _ _ _ _ _); conv => whnf)
          | ((with_reducible show (Prod.fst _ : Spec) _ _ _); conv => whnf)
          | ((with_reducible show shortK _ _); conv => whnf)
          | exact Nat.le_of_ble_eq_true rfl)
    · repeat' (first
          | omega
          | with_reducible apply And.intro
          | (intro c9; (try simp only [mg, mf, colK, stK, clK, mnK, shN] at c9))
          | exact hc
          | exact ⟨9, hc.1⟩
          | exact hA (by omega)
          | (simp only [mg, mf, colK, stK, clK, mnK, shN]; omega)
          | refine Exists.intro _ (And.intro rfl ?_)
          | ((with_reducible show wp _ _ _ _ _ _ _ _ _ _ _ _ _ _); conv => whnf)
          | ((with_reducible show callK _ _ _ _ _ _ _ _ _); conv => whnf)
          | ((with_reducible show condK _ _ _ _ _); conv => whnf)
          | ((with_reducible show st1 _ _ _ _ _ _ _ _ _ _ _ _); conv => whnf)
          | ((with_reducible show (Prod.fst _ : Spec) _ _ _); conv => whnf)
          | ((with_reducible show shortK _ _); conv => whnf)
          | exact Nat.le_of_ble_eq_true rfl)
def s_shadeOfC : Spec := fun as S post => match as with
  | [.inr (.inr (some 1)), .inl o, .inl c] => ∃ W, CW W S ∧ (InR o ∧ InR c) ∧ (¬ (0 ≤ o ∧ o < S.2.1 1 7 ∧ 0 ≤ c ∧ c < 6) → post (.inr 0) S) ∧ ((0 ≤ o ∧ o < S.2.1 1 7 ∧ 0 ≤ c ∧ c < 6) → post (.inl (some (vI (S.2.1 (2048 + 16 * o.toNat + 1) c.toNat)))) S)
  | _ => False
def spX6_shadeOf : Nat → CD := spF mdX6_shadeOf fun i => match i with
  | 1 => (s_orderAt, 1, 6, 1)
  | 2 => (s_isColour, 0, 0, 1)
  | 3 => (s_shade, 0, 0, 1)
  | _ => noR
set_option maxHeartbeats 4000000 in
set_option maxRecDepth 100000 in
theorem sat_X6_shadeOf : Sat mX6_shadeOf s_shadeOfC 2 12 12 := by
  refine sat_of (E := eX6_shadeOf) (sp := spX6_shadeOf) (ini := false) (by decide +kernel) (fun h => by cases h) okX6_shadeOf (fun i => match i with
    | 1 => ⟨sat_X6_orderAt, Nat.le_of_ble_eq_true rfl⟩
    | 2 => ⟨sat_X6_isColour, Nat.le_of_ble_eq_true rfl⟩
    | 3 => ⟨sat_X2_shade, Nat.le_of_ble_eq_true rfl⟩
    | i + 4 => ⟨sat_no _, Nat.le_of_ble_eq_true rfl⟩
    | 0 => ⟨sat_no _, Nat.le_of_ble_eq_true rfl⟩) ?_
  intro as S post h
  match as, h with
  | [.inr (.inr (some 1)), .inl d, .inl c], h =>
    obtain ⟨W, hW, hd, hA, hB⟩ := h
    have hr := hW.r7
    have hc := hW.1
    refine body0 60 rfl ?_
    by_cases z : 0 ≤ d ∧ d < S.2.1 1 7
    · obtain ⟨hT, ⟨o1, o2, o3, o4⟩, -⟩ := hW.or z
      repeat' (first
          | omega
          | with_reducible apply And.intro
          | (intro c9; (try simp only [mg, mf, colK, stK, clK, mnK, shN] at c9))
          | exact hc
          | exact ⟨9, hc.1⟩
          | exact ⟨9, o1⟩
          | rw [hT]
          | (refine And.intro ⟨o1, o2, o3⟩ (And.intro hd.2 ?_))
          | exact hA (by omega)
          | (rw [if_pos (by omega)]; exact hB (by omega))
          | (simp only [mg, mf, colK, stK, clK, mnK, shN]; omega)
          | refine Exists.intro _ (And.intro rfl ?_)
          | refine Exists.intro _ (And.intro (hT) ?_)
          | ((with_reducible show wp _ _ _ _ _ _ _ _ _ _ _ _ _ _); conv => whnf)
          | ((with_reducible show callK _ _ _ _ _ _ _ _ _); conv => whnf)
          | ((with_reducible show condK _ _ _ _ _); conv => whnf)
          | ((with_reducible show st1 _ _ _ _ _ _ _ _ _ _ _ _); conv => whnf)
          | ((with_reducible show (Prod.fst _ : Spec) _ _ _); conv => whnf)
          | ((with_reducible show shortK _ _); conv => whnf)
          | exact Nat.le_of_ble_eq_true rfl)
    · repeat' (first
          | omega
          | with_reducible apply And.intro
          | (intro c9; (try simp only [mg, mf, colK, stK, clK, mnK, shN] at c9))
          | exact hc
          | exact ⟨9, hc.1⟩
          | exact hA (by omega)
          | (simp only [mg, mf, colK, stK, clK, mnK, shN]; omega)
          | refine Exists.intro _ (And.intro rfl ?_)
          | ((with_reducible show wp _ _ _ _ _ _ _ _ _ _ _ _ _ _); conv => whnf)
          | ((with_reducible show callK _ _ _ _ _ _ _ _ _); conv => whnf)
          | ((with_reducible show condK _ _ _ _ _); conv => whnf)
          | ((with_reducible show st1 _ _ _ _ _ _ _ _ _ _ _ _); conv => whnf)
          | ((with_reducible show (Prod.fst _ : Spec) _ _ _); conv => whnf)
          | ((with_reducible show shortK _ _); conv => whnf)
          | exact Nat.le_of_ble_eq_true rfl)
def s_leftC : Spec := fun as S post => match as with
  | [.inr (.inr (some 1)), .inl c, .inl s] => ∃ W, CW W S ∧ (InR c ∧ InR s) ∧ (¬ (0 ≤ c ∧ c < 6 ∧ 0 ≤ s ∧ s < 3) → post (.inr 0) S) ∧ ((0 ≤ c ∧ c < 6 ∧ 0 ≤ s ∧ s < 3) → post (.inl (some (vI (spK S 8 c s)))) S)
  | _ => False
def spX6_left : Nat → CD := spF mdX6_left fun i => match i with
  | 1 => (s_isColour, 0, 0, 1)
  | 2 => (s_isShade, 0, 0, 1)
  | 3 => (s_count, 0, 0, 2)
  | _ => noR
set_option maxHeartbeats 4000000 in
set_option maxRecDepth 100000 in
theorem sat_X6_left : Sat mX6_left s_leftC 2 12 12 := by
  refine sat_of (E := eX6_left) (sp := spX6_left) (ini := false) (by decide +kernel) (fun h => by cases h) okX6_left (fun i => match i with
    | 1 => ⟨sat_X6_isColour, Nat.le_of_ble_eq_true rfl⟩
    | 2 => ⟨sat_X6_isShade, Nat.le_of_ble_eq_true rfl⟩
    | 3 => ⟨sat_X5_count, Nat.le_of_ble_eq_true rfl⟩
    | i + 4 => ⟨sat_no _, Nat.le_of_ble_eq_true rfl⟩
    | 0 => ⟨sat_no _, Nat.le_of_ble_eq_true rfl⟩) ?_
  intro as S post h
  match as, h with
  | [.inr (.inr (some 1)), .inl c, .inl s], h =>
    obtain ⟨W, hW, hd, hA, hB⟩ := h
    have hc := hW.1
    obtain ⟨f1, f2, f3, f4, f5, f6, -, -, -, -, f11, fn⟩ := hc
    refine body0 60 rfl ?_
    repeat' (first
        | omega
        | with_reducible apply And.intro
        | (intro c9; (try simp only [mg, mf, colK, stK, clK, mnK, shN] at c9))
        | exact ⟨9, f1⟩
        | exact ⟨1, f11.1⟩
        | rw [gfR (ci := 6) f6 rfl]
        | (refine And.intro f11 (And.intro hd ?_))
        | exact hA (by omega)
        | (rw [if_pos (by omega)]; exact hB (by omega))
        | (simp only [mg, mf, colK, stK, clK, mnK, shN]; omega)
        | refine Exists.intro _ (And.intro rfl ?_)
        | refine Exists.intro _ (And.intro (f6) ?_)
        | ((with_reducible show wp _ _ _ _ _ _ _ _ _ _ _ _ _ _); conv => whnf)
        | ((with_reducible show callK _ _ _ _ _ _ _ _ _); conv => whnf)
        | ((with_reducible show condK _ _ _ _ _); conv => whnf)
        | ((with_reducible show st1 _ _ _ _ _ _ _ _ _ _ _ _); conv => whnf)
        | ((with_reducible show (Prod.fst _ : Spec) _ _ _); conv => whnf)
        | ((with_reducible show shortK _ _); conv => whnf)
        | exact Nat.le_of_ble_eq_true rfl)
def s_ofMachineC : Spec := fun as S post => match as with
  | [.inr (.inr (some 1)), .inl i, .inl w] => ∃ W, CW W S ∧ (InR i ∧ InR w) ∧ (¬ (0 ≤ i ∧ i < S.2.1 1 5) → post (.inr 0) S) ∧ ((0 ≤ i ∧ i < S.2.1 1 5) → ¬ (0 ≤ w ∧ w ≤ 3) → post (.inr 1) S) ∧ ((0 ≤ i ∧ i < S.2.1 1 5) → (0 ≤ w ∧ w ≤ 3) → (w = 0 → S.2.2 (1024 + 16 * i.toNat) 4 = none → post (.inl (some (vI (-1)))) S) ∧
      (∀ o : Nat, w = 0 → S.2.2 (1024 + 16 * i.toNat) 4 = some (2048 + 16 * o) → post (.inl (some (vI (S.2.1 (2048 + 16 * o) 0)))) S) ∧ (w = 1 → post (.inl (some (vI (S.2.1 (1024 + 16 * i.toNat) 5)))) S) ∧ (w = 2 → post (.inl (some (vI (S.2.1 (1024 + 16 * i.toNat) 6)))) S) ∧ (w = 3 → post (.inl (some (vI (S.2.1 (1024 + 16 * i.toNat) 7)))) S))
  | _ => False
def spX6_ofMachine : Nat → CD := spF mdX6_ofMachine fun i => match i with
  | 1 => (s_machineAt, 1, 6, 1)
  | _ => noR
set_option maxHeartbeats 4000000 in
set_option maxRecDepth 100000 in
theorem sat_X6_ofMachine : Sat mX6_ofMachine s_ofMachineC 2 12 12 := by
  refine sat_of (E := eX6_ofMachine) (sp := spX6_ofMachine) (ini := false) (by decide +kernel) (fun h => by cases h) okX6_ofMachine (fun i => match i with
    | 1 => ⟨sat_X6_machineAt, Nat.le_of_ble_eq_true rfl⟩
    | i + 2 => ⟨sat_no _, Nat.le_of_ble_eq_true rfl⟩
    | 0 => ⟨sat_no _, Nat.le_of_ble_eq_true rfl⟩) ?_
  intro as S post h
  match as, h with
  | [.inr (.inr (some 1)), .inl d, .inl w], h =>
    obtain ⟨W, hW, hd, hA, hA2, hB⟩ := h
    have hr := hW.r5
    have hc := hW.1
    refine body0 60 rfl ?_
    by_cases z : 0 ≤ d ∧ d < S.2.1 1 5
    · obtain ⟨hT, ⟨o1, o2, o3⟩, -, -, -, hj⟩ := hW.mc z
      rcases hj with hj | ⟨o, ho, hj, -⟩
      · repeat' (first
            | omega
            | with_reducible apply And.intro
            | (intro c9; (try simp only [mg, mf, colK, stK, clK, mnK, shN] at c9))
            | ((with_reducible show swK _ _ _ _ _); conv => whnf)
            | exact trivial
            | exact hc
            | exact ⟨9, hc.1⟩
            | exact ⟨9, o1⟩
            | rw [hT]
            | rw [hj]
            | exact hA2 z (by omega)
            | exact (hB z (by omega)).1 (by omega) hj
            | (rw [hj] at c9; cases c9; done)
            | exact (hB z (by omega)).2.2.1 (by omega)
            | exact (hB z (by omega)).2.2.2.1 (by omega)
            | exact (hB z (by omega)).2.2.2.2 (by omega)
            | (simp only [mg, mf, colK, stK, clK, mnK, shN]; omega)
            | refine Exists.intro _ (And.intro rfl ?_)
            | refine Exists.intro _ (And.intro (hT) ?_)
            | refine Exists.intro _ (And.intro (hj) ?_)
            | ((with_reducible show wp _ _ _ _ _ _ _ _ _ _ _ _ _ _); conv => whnf)
            | ((with_reducible show callK _ _ _ _ _ _ _ _ _); conv => whnf)
            | ((with_reducible show condK _ _ _ _ _); conv => whnf)
            | ((with_reducible show st1 _ _ _ _ _ _ _ _ _ _ _ _); conv => whnf)
            | ((with_reducible show (Prod.fst _ : Spec) _ _ _); conv => whnf)
            | ((with_reducible show shortK _ _); conv => whnf)
            | exact Nat.le_of_ble_eq_true rfl)
      · have hO := (hW.2.2.2.2.1 o ho).2.1.1
        repeat' (first
            | omega
            | with_reducible apply And.intro
            | (intro c9; (try simp only [mg, mf, colK, stK, clK, mnK, shN] at c9))
            | ((with_reducible show swK _ _ _ _ _); conv => whnf)
            | exact trivial
            | exact hc
            | exact ⟨9, hc.1⟩
            | exact ⟨9, o1⟩
            | exact ⟨9, hO⟩
            | rw [hT]
            | rw [hj]
            | exact hA2 z (by omega)
            | (rw [hj] at c9; cases c9; done)
            | exact (hB z (by omega)).2.1 o (by omega) hj
            | exact (hB z (by omega)).2.2.1 (by omega)
            | exact (hB z (by omega)).2.2.2.1 (by omega)
            | exact (hB z (by omega)).2.2.2.2 (by omega)
            | (simp only [mg, mf, colK, stK, clK, mnK, shN]; omega)
            | refine Exists.intro _ (And.intro rfl ?_)
            | refine Exists.intro _ (And.intro (hT) ?_)
            | refine Exists.intro _ (And.intro (hj) ?_)
            | ((with_reducible show wp _ _ _ _ _ _ _ _ _ _ _ _ _ _); conv => whnf)
            | ((with_reducible show callK _ _ _ _ _ _ _ _ _); conv => whnf)
            | ((with_reducible show condK _ _ _ _ _); conv => whnf)
            | ((with_reducible show st1 _ _ _ _ _ _ _ _ _ _ _ _); conv => whnf)
            | ((with_reducible show (Prod.fst _ : Spec) _ _ _); conv => whnf)
            | ((with_reducible show shortK _ _); conv => whnf)
            | exact Nat.le_of_ble_eq_true rfl)
    · repeat' (first
          | omega
          | with_reducible apply And.intro
          | (intro c9; (try simp only [mg, mf, colK, stK, clK, mnK, shN] at c9))
          | exact hc
          | exact ⟨9, hc.1⟩
          | exact hA (by omega)
          | (simp only [mg, mf, colK, stK, clK, mnK, shN]; omega)
          | refine Exists.intro _ (And.intro rfl ?_)
          | ((with_reducible show wp _ _ _ _ _ _ _ _ _ _ _ _ _ _); conv => whnf)
          | ((with_reducible show callK _ _ _ _ _ _ _ _ _); conv => whnf)
          | ((with_reducible show condK _ _ _ _ _); conv => whnf)
          | ((with_reducible show st1 _ _ _ _ _ _ _ _ _ _ _ _); conv => whnf)
          | ((with_reducible show (Prod.fst _ : Spec) _ _ _); conv => whnf)
          | ((with_reducible show shortK _ _); conv => whnf)
          | exact Nat.le_of_ble_eq_true rfl)
def s_ofOrderC : Spec := fun as S post => match as with
  | [.inr (.inr (some 1)), .inl o, .inl w] => ∃ W, CW W S ∧ (InR o ∧ InR w) ∧ (¬ (0 ≤ o ∧ o < S.2.1 1 7) → post (.inr 0) S) ∧ ((0 ≤ o ∧ o < S.2.1 1 7) → ¬ (0 ≤ w ∧ w ≤ 6) → post (.inr 1) S) ∧ ((0 ≤ o ∧ o < S.2.1 1 7) → (0 ≤ w ∧ w ≤ 6) → (w = 6 → S.2.2 (2048 + 16 * o.toNat) 8 = none → post (.inl (some (vI (-1)))) S) ∧
      (∀ i : Nat, w = 6 → S.2.2 (2048 + 16 * o.toNat) 8 = some (1024 + 16 * i) → post (.inl (some (vI (S.2.1 (1024 + 16 * i) 0)))) S) ∧ (w = 0 → post (.inl (some (vI (S.2.1 (2048 + 16 * o.toNat) 4)))) S) ∧ (w = 1 → post (.inl (some (vI (S.2.1 (4096 + 16 * W.g o.toNat) 0)))) S) ∧ (w = 2 → post (.inl (some (vI (S.2.1 (2048 + 16 * o.toNat) 2)))) S) ∧ (w = 3 → post (.inl (some (vI (S.2.1 (2048 + 16 * o.toNat) 5)))) S) ∧ (w = 4 → post (.inl (some (vI (S.2.1 (2048 + 16 * o.toNat) 6)))) S) ∧ (w = 5 → post (.inl (some (vI (S.2.1 (2048 + 16 * o.toNat) 7)))) S))
  | _ => False
def spX6_ofOrder : Nat → CD := spF mdX6_ofOrder fun i => match i with
  | 1 => (s_orderAt, 1, 6, 1)
  | _ => noR
set_option maxHeartbeats 4000000 in
set_option maxRecDepth 100000 in
theorem sat_X6_ofOrder : Sat mX6_ofOrder s_ofOrderC 2 12 12 := by
  refine sat_of (E := eX6_ofOrder) (sp := spX6_ofOrder) (ini := false) (by decide +kernel) (fun h => by cases h) okX6_ofOrder (fun i => match i with
    | 1 => ⟨sat_X6_orderAt, Nat.le_of_ble_eq_true rfl⟩
    | i + 2 => ⟨sat_no _, Nat.le_of_ble_eq_true rfl⟩
    | 0 => ⟨sat_no _, Nat.le_of_ble_eq_true rfl⟩) ?_
  intro as S post h
  match as, h with
  | [.inr (.inr (some 1)), .inl d, .inl w], h =>
    obtain ⟨W, hW, hd, hA, hA2, hB⟩ := h
    have hr := hW.r7
    have hc := hW.1
    refine body0 90 rfl ?_
    by_cases z : 0 ≤ d ∧ d < S.2.1 1 7
    · obtain ⟨hT, ⟨o1, o2, o3, o4⟩, og, -, -, -, -, hj⟩ := hW.or z
      have hD := (hW.2.2.1 (W.g d.toNat) og).2.1.1
      rcases hj with hj | ⟨i, hi, hj, -⟩
      · repeat' (first
            | omega
            | with_reducible apply And.intro
            | (intro c9; (try simp only [mg, mf, colK, stK, clK, mnK, shN] at c9))
            | ((with_reducible show swK _ _ _ _ _); conv => whnf)
            | exact trivial
            | exact hc
            | exact ⟨9, hc.1⟩
            | exact ⟨9, o1⟩
            | exact ⟨9, hD⟩
            | rw [hT]
            | rw [hj]
            | exact hA2 z (by omega)
            | exact (hB z (by omega)).1 (by omega) hj
            | (rw [hj] at c9; cases c9; done)
            | exact (hB z (by omega)).2.2.1 (by omega)
            | exact (hB z (by omega)).2.2.2.1 (by omega)
            | exact (hB z (by omega)).2.2.2.2.1 (by omega)
            | exact (hB z (by omega)).2.2.2.2.2.1 (by omega)
            | exact (hB z (by omega)).2.2.2.2.2.2.1 (by omega)
            | exact (hB z (by omega)).2.2.2.2.2.2.2 (by omega)
            | (simp only [mg, mf, colK, stK, clK, mnK, shN]; omega)
            | refine Exists.intro _ (And.intro rfl ?_)
            | refine Exists.intro _ (And.intro (hT) ?_)
            | refine Exists.intro _ (And.intro (hj) ?_)
            | refine Exists.intro _ (And.intro (o4) ?_)
            | ((with_reducible show wp _ _ _ _ _ _ _ _ _ _ _ _ _ _); conv => whnf)
            | ((with_reducible show callK _ _ _ _ _ _ _ _ _); conv => whnf)
            | ((with_reducible show condK _ _ _ _ _); conv => whnf)
            | ((with_reducible show st1 _ _ _ _ _ _ _ _ _ _ _ _); conv => whnf)
            | ((with_reducible show (Prod.fst _ : Spec) _ _ _); conv => whnf)
            | ((with_reducible show shortK _ _); conv => whnf)
            | exact Nat.le_of_ble_eq_true rfl)
      · have hO := (hW.2.2.2.1 i hi).2.1.1
        repeat' (first
            | omega
            | with_reducible apply And.intro
            | (intro c9; (try simp only [mg, mf, colK, stK, clK, mnK, shN] at c9))
            | ((with_reducible show swK _ _ _ _ _); conv => whnf)
            | exact trivial
            | exact hc
            | exact ⟨9, hc.1⟩
            | exact ⟨9, o1⟩
            | exact ⟨9, hD⟩
            | exact ⟨9, hO⟩
            | rw [hT]
            | rw [hj]
            | exact hA2 z (by omega)
            | (rw [hj] at c9; cases c9; done)
            | exact (hB z (by omega)).2.1 i (by omega) hj
            | exact (hB z (by omega)).2.2.1 (by omega)
            | exact (hB z (by omega)).2.2.2.1 (by omega)
            | exact (hB z (by omega)).2.2.2.2.1 (by omega)
            | exact (hB z (by omega)).2.2.2.2.2.1 (by omega)
            | exact (hB z (by omega)).2.2.2.2.2.2.1 (by omega)
            | exact (hB z (by omega)).2.2.2.2.2.2.2 (by omega)
            | (simp only [mg, mf, colK, stK, clK, mnK, shN]; omega)
            | refine Exists.intro _ (And.intro rfl ?_)
            | refine Exists.intro _ (And.intro (hT) ?_)
            | refine Exists.intro _ (And.intro (hj) ?_)
            | refine Exists.intro _ (And.intro (o4) ?_)
            | ((with_reducible show wp _ _ _ _ _ _ _ _ _ _ _ _ _ _); conv => whnf)
            | ((with_reducible show callK _ _ _ _ _ _ _ _ _); conv => whnf)
            | ((with_reducible show condK _ _ _ _ _); conv => whnf)
            | ((with_reducible show st1 _ _ _ _ _ _ _ _ _ _ _ _); conv => whnf)
            | ((with_reducible show (Prod.fst _ : Spec) _ _ _); conv => whnf)
            | ((with_reducible show shortK _ _); conv => whnf)
            | exact Nat.le_of_ble_eq_true rfl)
    · repeat' (first
          | omega
          | with_reducible apply And.intro
          | (intro c9; (try simp only [mg, mf, colK, stK, clK, mnK, shN] at c9))
          | exact hc
          | exact ⟨9, hc.1⟩
          | exact hA (by omega)
          | (simp only [mg, mf, colK, stK, clK, mnK, shN]; omega)
          | refine Exists.intro _ (And.intro rfl ?_)
          | ((with_reducible show wp _ _ _ _ _ _ _ _ _ _ _ _ _ _); conv => whnf)
          | ((with_reducible show callK _ _ _ _ _ _ _ _ _); conv => whnf)
          | ((with_reducible show condK _ _ _ _ _); conv => whnf)
          | ((with_reducible show st1 _ _ _ _ _ _ _ _ _ _ _ _); conv => whnf)
          | ((with_reducible show (Prod.fst _ : Spec) _ _ _); conv => whnf)
          | ((with_reducible show shortK _ _); conv => whnf)
          | exact Nat.le_of_ble_eq_true rfl)

