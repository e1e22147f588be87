/-! THE CLASS: what is asked -/
/-- of what the class's memory consists -/
abbrev GW : Type := (Nat → Nat) × (Nat → Nat → Nat) × (Nat → Nat → Int) × (Nat → Nat) × (Nat → Int) × (Nat → Nat) × (Nat → Nat)
abbrev GW.n (W : GW) : Nat → Nat := W.1
abbrev GW.q (W : GW) : Nat → Nat → Nat := W.2.1
abbrev GW.b (W : GW) : Nat → Nat → Int := W.2.2.1
abbrev GW.m (W : GW) : Nat → Nat := W.2.2.2.1
abbrev GW.v (W : GW) : Nat → Int := W.2.2.2.2.1
abbrev GW.g (W : GW) : Nat → Nat := W.2.2.2.2.2.1
abbrev GW.h (W : GW) : Nat → Nat := W.2.2.2.2.2.2
def dgW (S : Sto) (T n : Nat) (q : Nat → Nat) (b : Nat → Int) (m : Nat) (v : Int) : Prop := dgC S T n q b m ∧ S.2.2 T 1 = some (T + 1) ∧ (∃ a u col nd, sqC S (T + 1) a n u col nd ∧ dpR n col nd 0 (-1) = v) ∧ (∀ j, j < m → 0 ≤ S.2.1 (T + 5) j ∧ S.2.1 (T + 5) j < 256) ∧ (1 ≤ S.2.1 T 7 ∧ S.2.1 T 7 ≤ 16 ∧ 1 ≤ S.2.1 T 8 ∧ S.2.1 T 8 ≤ 16)
def mcW (S : Sto) (u b : Nat) : Prop := mcC S u ∧ hlC S u b ∧ (∀ k : Nat, k < 6 → InR (S.2.1 (u + 1) k)) ∧ (1 ≤ S.2.1 u 1 ∧ S.2.1 u 1 ≤ 6 ∧ 1 ≤ S.2.1 u 2 ∧ S.2.1 u 2 ≤ 16 ∧ 1 ≤ S.2.1 u 3 ∧ S.2.1 u 3 ≤ 16) ∧ (S.2.2 u 4 = none ∨ ∃ o : Nat, (o : Int) < S.2.1 1 7 ∧ S.2.2 u 4 = some (2048 + 16 * o) ∧ S.2.2 (2048 + 16 * o) 8 = some u)
def orW (S : Sto) (u g m : Nat) : Prop := orC S u (4096 + 16 * g) ∧ (g : Int) < S.2.1 1 3 ∧ (1 ≤ S.2.1 u 2 ∧ S.2.1 u 2 ≤ 50 ∧ 0 ≤ S.2.1 u 4 ∧ S.2.1 u 4 ≤ 3) ∧ (0 ≤ S.2.1 u 5 ∧ S.2.1 u 5 ≤ 50) ∧ (0 ≤ S.2.1 u 6 ∧ S.2.1 u 6 < m) ∧ (∀ c : Nat, c < 6 → -1 ≤ S.2.1 (u + 1) c ∧ S.2.1 (u + 1) c < 3) ∧
  (S.2.2 u 8 = none ∨ ∃ i : Nat, (i : Int) < S.2.1 1 5 ∧ S.2.2 u 8 = some (1024 + 16 * i) ∧ S.2.2 (1024 + 16 * i) 4 = some u)
def CW (W : GW) (S : Sto) : Prop := cfC S ∧ (0 ≤ S.2.1 1 1 ∧ S.2.1 1 1 ≤ 7 ∧ 0 ≤ S.2.1 1 3 ∧ S.2.1 1 3 ≤ 6 ∧ 0 ≤ S.2.1 1 5 ∧ S.2.1 1 5 ≤ 4 ∧ 0 ≤ S.2.1 1 7 ∧ S.2.1 1 7 ≤ 20) ∧
  (∀ d : Nat, (d : Int) < S.2.1 1 3 → S.2.2 5 d = some (4096 + 16 * d) ∧ dgW S (4096 + 16 * d) (W.n d) (W.q d) (W.b d) (W.m d) (W.v d)) ∧
  (∀ i : Nat, (i : Int) < S.2.1 1 5 → S.2.2 6 i = some (1024 + 16 * i) ∧ mcW S (1024 + 16 * i) (W.h i)) ∧
  (∀ o : Nat, (o : Int) < S.2.1 1 7 → S.2.2 7 o = some (2048 + 16 * o) ∧ orW S (2048 + 16 * o) (W.g o) (W.m (W.g o))) ∧
  ∀ k : Int, 0 ≤ k → k < 18 → 0 ≤ S.2.1 9 k.toNat ∧ S.2.1 9 k.toNat ≤ 1000000
abbrev nDc (S : Sto) : Int := S.2.1 1 3
abbrev nMc (S : Sto) : Int := S.2.1 1 5
abbrev nOc (S : Sto) : Int := S.2.1 1 7
theorem CW.r3 {W : GW} {S : Sto} (h : CW W S) : 0 ≤ S.2.1 1 3 ∧ S.2.1 1 3 ≤ 6 := by have := h.2.1; omega
theorem CW.r5 {W : GW} {S : Sto} (h : CW W S) : 0 ≤ S.2.1 1 5 ∧ S.2.1 1 5 ≤ 4 := by have := h.2.1; omega
theorem CW.r7 {W : GW} {S : Sto} (h : CW W S) : 0 ≤ S.2.1 1 7 ∧ S.2.1 1 7 ≤ 20 := by have := h.2.1; omega
theorem CW.dg {W : GW} {S : Sto} (h : CW W S) {d : Int} (h0 : 0 ≤ d ∧ d < S.2.1 1 3) : S.2.2 5 d.toNat = some (4096 + 16 * d.toNat) ∧ dgW S (4096 + 16 * d.toNat) (W.n d.toNat) (W.q d.toNat) (W.b d.toNat) (W.m d.toNat) (W.v d.toNat) := h.2.2.1 d.toNat (by omega)
theorem CW.mc {W : GW} {S : Sto} (h : CW W S) {d : Int} (h0 : 0 ≤ d ∧ d < S.2.1 1 5) : S.2.2 6 d.toNat = some (1024 + 16 * d.toNat) ∧ mcW S (1024 + 16 * d.toNat) (W.h d.toNat) := h.2.2.2.1 d.toNat (by omega)
theorem CW.or {W : GW} {S : Sto} (h : CW W S) {d : Int} (h0 : 0 ≤ d ∧ d < S.2.1 1 7) : S.2.2 7 d.toNat = some (2048 + 16 * d.toNat) ∧ orW S (2048 + 16 * d.toNat) (W.g d.toNat) (W.m (W.g d.toNat)) := h.2.2.2.2.1 d.toNat (by omega)
def s_changesC : Spec := fun as S post => match as with
  | [.inr (.inr (some 1)), .inl d] => ∃ W, CW W S ∧ InR d ∧ (¬ (0 ≤ d ∧ d < S.2.1 1 3) → post (.inr 0) S) ∧ ((0 ≤ d ∧ d < S.2.1 1 3) → post (.inl (some (vI (S.2.1 (4096 + 16 * d.toNat) 4)))) S)
  | _ => False
def spX6_changes : Nat → CD := spF mdX6_changes fun i => match i with
  | 1 => (s_designAt, 1, 6, 1)
  | _ => noR
set_option maxHeartbeats 4000000 in
set_option maxRecDepth 100000 in
theorem sat_X6_changes : Sat mX6_changes s_changesC 1 6 12 := by
  refine sat_of (E := eX6_changes) (sp := spX6_changes) (ini := false) (by decide +kernel) (fun h => by cases h) okX6_changes (fun i => match i with
    | 1 => ⟨sat_X6_designAt, Nat.le_of_ble_eq_true rfl⟩
    | i + 2 => ⟨sat_no _, Nat.le_of_ble_eq_true rfl⟩
    | 0 => ⟨sat_no _, Nat.le_of_ble_eq_true rfl⟩) ?_
  intro as S post h
  match as, h with
  | [.inr (.inr (some 1)), .inl d], h =>
    obtain ⟨W, hW, hd, hA, hB⟩ := h
    have hr := hW.r3
    have hc := hW.1
    have hT := fun z => hW.dg (d := d) z
    refine body0 40 rfl ?_
    repeat' (first
        | omega
        | with_reducible apply And.intro
        | (intro c9; (try simp only [mg, mf, colK, stK, clK, mnK, shN] at c9))
        | exact hc
        | exact ⟨9, hc.1⟩
        | exact ⟨9, (hT c9).2.1.1⟩
        | exact hA c9
        | exact hB (by omega)
        | (simp only [mg, mf, colK, stK, clK, mnK, shN]; omega)
        | refine Exists.intro _ (And.intro rfl ?_)
        | refine Exists.intro _ (And.intro (((hT c9).1)) ?_)
        | ((with_reducible show wp _ _ _ _ _ _ _ _ _ _ _ _ _ _); conv => whnf)
        | ((with_reducible show callK _ _ _ _ _ _ _ _ _); conv => whnf)
        | ((with_reducible show condK _ _ _ _ _); conv => whnf)
        | ((with_reducible show st1 _ _ _ _ _ _ _ _ _ _ _ _); conv => whnf)
        | ((with_reducible show (Prod.fst _ : Spec) _ _ _); conv => whnf)
        | ((with_reducible show shortK _ _); conv => whnf)
        | exact Nat.le_of_ble_eq_true rfl)
def s_changesAnewC : Spec := fun as S post => match as with
  | [.inr (.inr (some 1)), .inl d] => ∃ W, CW W S ∧ InR d ∧ (¬ (0 ≤ d ∧ d < S.2.1 1 3) → post (.inr 0) S) ∧ ((0 ≤ d ∧ d < S.2.1 1 3) → post (.inl (some (vI (W.v d.toNat)))) S)
  | _ => False
def spX6_changesAnew : Nat → CD := spF mdX6_changesAnew fun i => match i with
  | 1 => (s_designAt, 1, 6, 1)
  | 2 => (s_fewestOf, 0, 0, 11)
  | _ => noR
set_option maxHeartbeats 4000000 in
set_option maxRecDepth 100000 in
theorem sat_X6_changesAnew : Sat mX6_changesAnew s_changesAnewC 1 6 12 := by
  refine sat_of (E := eX6_changesAnew) (sp := spX6_changesAnew) (ini := false) (by decide +kernel) (fun h => by cases h) okX6_changesAnew (fun i => match i with
    | 1 => ⟨sat_X6_designAt, Nat.le_of_ble_eq_true rfl⟩
    | 2 => ⟨sat_X3_fewestOfAllOrders, Nat.le_of_ble_eq_true rfl⟩
    | i + 3 => ⟨sat_no _, Nat.le_of_ble_eq_true rfl⟩
    | 0 => ⟨sat_no _, Nat.le_of_ble_eq_true rfl⟩) ?_
  intro as S post h
  match as, h with
  | [.inr (.inr (some 1)), .inl d], h =>
    obtain ⟨W, hW, hd, hA, hB⟩ := h
    have hr := hW.r3
    have hc := hW.1
    refine body0 40 rfl ?_
    by_cases z : 0 ≤ d ∧ d < S.2.1 1 3
    · obtain ⟨hT, hD, hT1, ⟨a, u, col, nd, hq, hv⟩, -⟩ := hW.dg z
      have hB' := hB z
      rw [← hv] at hB'
      repeat' (first
          | omega
          | with_reducible apply And.intro
          | (intro c9; (try simp only [mg, mf, colK, stK, clK, mnK, shN] at c9))
          | exact hc
          | exact ⟨9, hc.1⟩
          | exact ⟨9, hD.1⟩
          | rw [gfR (ci := 0) hT1 rfl]
          | exact ⟨3, hq.1.1⟩
          | refine ⟨a, _, u, col, nd, hq, ?_⟩
          | exact hA c9
          | exact hB'
          | (simp only [mg, mf, colK, stK, clK, mnK, shN]; omega)
          | refine Exists.intro _ (And.intro rfl ?_)
          | refine Exists.intro _ (And.intro (hT) ?_)
          | ((with_reducible show wp _ _ _ _ _ _ _ _ _ _ _ _ _ _); conv => whnf)
          | ((with_reducible show callK _ _ _ _ _ _ _ _ _); conv => whnf)
          | ((with_reducible show condK _ _ _ _ _); conv => whnf)
          | ((with_reducible show st1 _ _ _ _ _ _ _ _ _ _ _ _); conv => whnf)
          | ((with_reducible show (Prod.fst _ : Spec) _ _ _); conv => whnf)
          | ((with_reducible show shortK _ _); conv => whnf)
          | exact Nat.le_of_ble_eq_true rfl)
    · repeat' (first
          | omega
          | with_reducible apply And.intro
          | (intro c9; (try simp only [mg, mf, colK, stK, clK, mnK, shN] at c9))
          | exact hc
          | exact ⟨9, hc.1⟩
          | exact hA c9
          | (simp only [mg, mf, colK, stK, clK, mnK, shN]; omega)
          | refine Exists.intro _ (And.intro rfl ?_)
          | ((with_reducible show wp _ _ _ _ _ _ _ _ _ _ _ _ _ _); conv => whnf)
          | ((with_reducible show callK _ _ _ _ _ _ _ _ _); conv => whnf)
          | ((with_reducible show condK _ _ _ _ _); conv => whnf)
          | ((with_reducible show st1 _ _ _ _ _ _ _ _ _ _ _ _); conv => whnf)
          | ((with_reducible show (Prod.fst _ : Spec) _ _ _); conv => whnf)
          | ((with_reducible show shortK _ _); conv => whnf)
          | exact Nat.le_of_ble_eq_true rfl)
def s_jumpsC : Spec := fun as S post => match as with
  | [.inr (.inr (some 1)), .inl d, .inl i] => ∃ W, CW W S ∧ (InR d ∧ (i = 0 ∨ i = 1)) ∧ (¬ (0 ≤ d ∧ d < S.2.1 1 3) → post (.inr 0) S) ∧ ((0 ≤ d ∧ d < S.2.1 1 3) → post (.inl (some (vI (S.2.1 (4096 + 16 * d.toNat) (if i = 0 then 5 else 6))))) S)
  | _ => False
def spX6_jumps : Nat → CD := spF mdX6_jumps fun i => match i with
  | 1 => (s_designAt, 1, 6, 1)
  | _ => noR
set_option maxHeartbeats 4000000 in
set_option maxRecDepth 100000 in
theorem sat_X6_jumps : Sat mX6_jumps s_jumpsC 1 6 12 := by
  refine sat_of (E := eX6_jumps) (sp := spX6_jumps) (ini := false) (by decide +kernel) (fun h => by cases h) okX6_jumps (fun i => match i with
    | 1 => ⟨sat_X6_designAt, Nat.le_of_ble_eq_true rfl⟩
    | i + 2 => ⟨sat_no _, Nat.le_of_ble_eq_true rfl⟩
    | 0 => ⟨sat_no _, Nat.le_of_ble_eq_true rfl⟩) ?_
  intro as S post h
  match as, h with
  | [.inr (.inr (some 1)), .inl d, .inl i], h =>
    obtain ⟨W, hW, hd, hA, hB⟩ := h
    have hr := hW.r3
    have hc := hW.1
    refine body0 40 rfl ?_
    by_cases z : 0 ≤ d ∧ d < S.2.1 1 3
    · have hT := hW.dg z
      have hB' := hB z
      repeat' (first
          | omega
          | with_reducible apply And.intro
          | (intro c9; (try simp only [mg, mf, colK, stK, clK, mnK, shN] at c9))
          | exact hc
          | exact ⟨9, hc.1⟩
          | exact ⟨9, hT.2.1.1⟩
          | exact hA c9
          | (rw [if_pos c9] at hB'; exact hB')
          | (rw [if_neg c9] at hB'; exact hB')
          | (simp only [mg, mf, colK, stK, clK, mnK, shN]; omega)
          | refine Exists.intro _ (And.intro rfl ?_)
          | refine Exists.intro _ (And.intro (hT.1) ?_)
          | ((with_reducible show wp _ _ _ _ _ _ _ _ _ _ _ _ _ _); conv => whnf)
          | ((with_reducible show callK _ _ _ _ _ _ _ _ _); conv => whnf)
          | ((with_reducible show condK _ _ _ _ _); conv => whnf)
          | ((with_reducible show st1 _ _ _ _ _ _ _ _ _ _ _ _); conv => whnf)
          | ((with_reducible show (Prod.fst _ : Spec) _ _ _); conv => whnf)
          | ((with_reducible show shortK _ _); conv => whnf)
          | exact Nat.le_of_ble_eq_true rfl)
    · repeat' (first
          | omega
          | with_reducible apply And.intro
          | (intro c9; (try simp only [mg, mf, colK, stK, clK, mnK, shN] at c9))
          | exact hc
          | exact ⟨9, hc.1⟩
          | exact hA c9
          | (simp only [mg, mf, colK, stK, clK, mnK, shN]; omega)
          | refine Exists.intro _ (And.intro rfl ?_)
          | ((with_reducible show wp _ _ _ _ _ _ _ _ _ _ _ _ _ _); conv => whnf)
          | ((with_reducible show callK _ _ _ _ _ _ _ _ _); conv => whnf)
          | ((with_reducible show condK _ _ _ _ _); conv => whnf)
          | ((with_reducible show st1 _ _ _ _ _ _ _ _ _ _ _ _); conv => whnf)
          | ((with_reducible show (Prod.fst _ : Spec) _ _ _); conv => whnf)
          | ((with_reducible show shortK _ _); conv => whnf)
          | exact Nat.le_of_ble_eq_true rfl)
def s_sequenceC : Spec := fun as S post => match as with
  | [.inr (.inr (some 1)), .inl d, .inl p] => ∃ W, CW W S ∧ (InR d ∧ InR p) ∧ (¬ (0 ≤ d ∧ d < S.2.1 1 3 ∧ 0 ≤ p) → post (.inr 0) S) ∧ ((0 ≤ d ∧ d < S.2.1 1 3 ∧ 0 ≤ p) → post (.inl (some (vI (if p < W.n d.toNat then S.2.1 (W.q d.toNat p.toNat) 0 else -1)))) S)
  | _ => False
def spX6_sequence : Nat → CD := spF mdX6_sequence fun i => match i with
  | 1 => (s_designAt, 1, 6, 1)
  | 2 => (s_shapeAt, 0, 0, 1)
  | _ => noR
set_option maxHeartbeats 4000000 in
set_option maxRecDepth 100000 in
theorem sat_X6_sequence : Sat mX6_sequence s_sequenceC 2 12 12 := by
  refine sat_of (E := eX6_sequence) (sp := spX6_sequence) (ini := false) (by decide +kernel) (fun h => by cases h) okX6_sequence (fun i => match i with
    | 1 => ⟨sat_X6_designAt, Nat.le_of_ble_eq_true rfl⟩
    | 2 => ⟨sat_X6_shapeAt, Nat.le_of_ble_eq_true rfl⟩
    | i + 3 => ⟨sat_no _, Nat.le_of_ble_eq_true rfl⟩
    | 0 => ⟨sat_no _, Nat.le_of_ble_eq_true rfl⟩) ?_
  intro as S post h
  match as, h with
  | [.inr (.inr (some 1)), .inl d, .inl p], h =>
    obtain ⟨W, hW, hd, hA, hB⟩ := h
    have hr := hW.r3
    have hc := hW.1
    refine body0 60 rfl ?_
    by_cases z : 0 ≤ d ∧ d < S.2.1 1 3
    · obtain ⟨hT, ⟨d1, d2, d3, d4, d5, d6, d7, d8⟩, -⟩ := hW.dg z
      have hB' := fun y : 0 ≤ p => hB ⟨z.1, z.2, y⟩
      repeat' (first
          | omega
          | with_reducible apply And.intro
          | (intro c9; (try simp only [mg, mf, colK, stK, clK, mnK, shN] at c9))
          | (with_reducible (have q9 : (none : Option Nat) = _ := c9; clear q9; cases c9))
          | (rw [(d8 p.toNat (by omega)).1] at c9; cases c9)
          | exact hc
          | exact ⟨9, hc.1⟩
          | exact ⟨9, d1⟩
          | refine ⟨W.n d.toNat, d3, d6.2.1, hd.2, ?_⟩
          | rw [gfR (ci := 0) d2 rfl]
          | exact ⟨5, (d8 p.toNat (by omega)).2.1⟩
          | exact hA (by omega)
          | (have y := hB' (by omega); rw [if_pos (by omega)] at y; exact y)
          | (have y := hB' (by omega); rw [if_neg (by omega)] at y; exact y)
          | (simp only [mg, mf, colK, stK, clK, mnK, shN]; omega)
          | refine Exists.intro _ (And.intro rfl ?_)
          | refine Exists.intro _ (And.intro (hT) ?_)
          | refine Exists.intro _ (And.intro (d2) ?_)
          | refine Exists.intro _ (And.intro (((d8 p.toNat (by omega)).1)) ?_)
          | ((with_reducible show wp _ _ _ _ _ _ _ _ _ _ _ _ _ _); conv => whnf)
          | ((with_reducible show callK _ _ _ _ _ _ _ _ _); conv => whnf)
          | ((with_reducible show condK _ _ _ _ _); conv => whnf)
          | ((with_reducible show st1 _ _ _ _ _ _ _ _ _ _ _ _); conv => whnf)
          | ((with_reducible show (Prod.fst _ : Spec) _ _ _); conv => whnf)
          | ((with_reducible show shortK _ _); conv => whnf)
          | exact Nat.le_of_ble_eq_true rfl)
    · repeat' (first
          | omega
          | with_reducible apply And.intro
          | (intro c9; (try simp only [mg, mf, colK, stK, clK, mnK, shN] at c9))
          | exact hc
          | exact ⟨9, hc.1⟩
          | exact hA (by omega)
          | (simp only [mg, mf, colK, stK, clK, mnK, shN]; omega)
          | refine Exists.intro _ (And.intro rfl ?_)
          | ((with_reducible show wp _ _ _ _ _ _ _ _ _ _ _ _ _ _); conv => whnf)
          | ((with_reducible show callK _ _ _ _ _ _ _ _ _); conv => whnf)
          | ((with_reducible show condK _ _ _ _ _); conv => whnf)
          | ((with_reducible show st1 _ _ _ _ _ _ _ _ _ _ _ _); conv => whnf)
          | ((with_reducible show (Prod.fst _ : Spec) _ _ _); conv => whnf)
          | ((with_reducible show shortK _ _); conv => whnf)
          | exact Nat.le_of_ble_eq_true rfl)
def s_stitchesC : Spec := fun as S post => match as with
  | [.inr (.inr (some 1)), .inl d, .inl c] => ∃ W, CW W S ∧ (InR d ∧ InR c) ∧ (¬ (0 ≤ d ∧ d < S.2.1 1 3 ∧ (c = -1 ∨ 0 ≤ c ∧ c < 6)) → post (.inr 0) S) ∧ ((0 ≤ d ∧ d < S.2.1 1 3 ∧ (c = -1 ∨ 0 ≤ c ∧ c < 6)) → post (.inl (some (vI (if c = -1 then (W.m d.toNat : Int) else ndS S (W.q d.toNat) (W.b d.toNat) c (W.n d.toNat))))) S)
  | _ => False
def spX6_stitches : Nat → CD := spF mdX6_stitches fun i => match i with
  | 1 => (s_designAt, 1, 6, 1)
  | 2 => (s_isColour, 0, 0, 1)
  | 3 => (s_dgNeed, 0, 0, 1)
  | _ => noR
set_option maxHeartbeats 4000000 in
set_option maxRecDepth 100000 in
theorem sat_X6_stitches : Sat mX6_stitches s_stitchesC 2 12 12 := by
  refine sat_of (E := eX6_stitches) (sp := spX6_stitches) (ini := false) (by decide +kernel) (fun h => by cases h) okX6_stitches (fun i => match i with
    | 1 => ⟨sat_X6_designAt, Nat.le_of_ble_eq_true rfl⟩
    | 2 => ⟨sat_X6_isColour, Nat.le_of_ble_eq_true rfl⟩
    | 3 => ⟨sat_X0_need, Nat.le_of_ble_eq_true rfl⟩
    | i + 4 => ⟨sat_no _, Nat.le_of_ble_eq_true rfl⟩
    | 0 => ⟨sat_no _, Nat.le_of_ble_eq_true rfl⟩) ?_
  intro as S post h
  match as, h with
  | [.inr (.inr (some 1)), .inl d, .inl c], h =>
    obtain ⟨W, hW, hd, hA, hB⟩ := h
    have hr := hW.r3
    have hc := hW.1
    refine body0 60 rfl ?_
    by_cases z : 0 ≤ d ∧ d < S.2.1 1 3
    · obtain ⟨hT, hD, -⟩ := hW.dg z
      have hD2 := hD
      obtain ⟨d1, d2, d3, d4, d5, d6, d7, d8⟩ := hD2
      repeat' (first
          | omega
          | with_reducible apply And.intro
          | (intro c9; (try simp only [mg, mf, colK, stK, clK, mnK, shN] at c9))
          | exact hc
          | exact ⟨9, hc.1⟩
          | exact ⟨9, d1⟩
          | refine ⟨100, _, d5, by omega, ?_⟩
          | rw [hT]
          | refine ⟨_, _, _, _, hD, ?_, ?_⟩
          | exact hA (by omega)
          | (have y := hB ⟨z.1, z.2, by omega⟩; rw [if_pos (by omega)] at y; exact y)
          | (have y := hB ⟨z.1, z.2, by omega⟩; rw [if_neg (by omega)] at y; exact y)
          | (simp only [mg, mf, colK, stK, clK, mnK, shN]; omega)
          | refine Exists.intro _ (And.intro rfl ?_)
          | refine Exists.intro _ (And.intro (hT) ?_)
          | refine Exists.intro _ (And.intro (d4) ?_)
          | ((with_reducible show wp _ _ _ _ _ _ _ _ _ _ _ _ _ _); conv => whnf)
          | ((with_reducible show callK _ _ _ _ _ _ _ _ _); conv => whnf)
          | ((with_reducible show condK _ _ _ _ _); conv => whnf)
          | ((with_reducible show st1 _ _ _ _ _ _ _ _ _ _ _ _); conv => whnf)
          | ((with_reducible show (Prod.fst _ : Spec) _ _ _); conv => whnf)
          | ((with_reducible show shortK _ _); conv => whnf)
          | exact Nat.le_of_ble_eq_true rfl)
    · repeat' (first
          | omega
          | with_reducible apply And.intro
          | (intro c9; (try simp only [mg, mf, colK, stK, clK, mnK, shN] at c9))
          | exact hc
          | exact ⟨9, hc.1⟩
          | exact hA (by omega)
          | (simp only [mg, mf, colK, stK, clK, mnK, shN]; omega)
          | refine Exists.intro _ (And.intro rfl ?_)
          | ((with_reducible show wp _ _ _ _ _ _ _ _ _ _ _ _ _ _); conv => whnf)
          | ((with_reducible show callK _ _ _ _ _ _ _ _ _); conv => whnf)
          | ((with_reducible show condK _ _ _ _ _); conv => whnf)
          | ((with_reducible show st1 _ _ _ _ _ _ _ _ _ _ _ _); conv => whnf)
          | ((with_reducible show (Prod.fst _ : Spec) _ _ _); conv => whnf)
          | ((with_reducible show shortK _ _); conv => whnf)
          | exact Nat.le_of_ble_eq_true rfl)
def s_stitchC : Spec := fun as S post => match as with
  | [.inr (.inr (some 1)), .inl d, .inl x, .inl w] => ∃ W, CW W S ∧ (InR d ∧ InR x ∧ InR w) ∧ (¬ (0 ≤ d ∧ d < S.2.1 1 3 ∧ 0 ≤ x) → post (.inr 0) S) ∧ ((0 ≤ d ∧ d < S.2.1 1 3 ∧ 0 ≤ x) → ¬ (0 ≤ w ∧ w ≤ 2) → post (.inr 1) S) ∧ ((0 ≤ d ∧ d < S.2.1 1 3 ∧ 0 ≤ x) → (0 ≤ w ∧ w ≤ 2) → ((∀ p, ¬ inP (W.n d.toNat) (W.b d.toNat) x p) → post (.inl (some (vI (-1)))) S) ∧
      ∀ p, inP (W.n d.toNat) (W.b d.toNat) x p → post (.inl (some (vI (if w = 2 then S.2.1 (W.q d.toNat p) 0 else if w = 0 then S.2.1 (4096 + 16 * d.toNat + 5) x.toNat % 16 else S.2.1 (4096 + 16 * d.toNat + 5) x.toNat / 16)))) S)
  | _ => False
def spX6_stitch : Nat → CD := spF mdX6_stitch fun i => match i with
  | 1 => (s_designAt, 1, 6, 1)
  | 2 => (s_shapeOf, 0, 0, 2)
  | 3 => (s_xOf, 0, 0, 1)
  | 4 => (s_yOf, 0, 0, 1)
  | _ => noR
set_option maxHeartbeats 4000000 in
set_option maxRecDepth 100000 in
theorem sat_X6_stitch : Sat mX6_stitch s_stitchC 2 12 12 := by
  refine sat_of (E := eX6_stitch) (sp := spX6_stitch) (ini := false) (by decide +kernel) (fun h => by cases h) okX6_stitch (fun i => match i with
    | 1 => ⟨sat_X6_designAt, Nat.le_of_ble_eq_true rfl⟩
    | 2 => ⟨sat_X0_shapeOf, Nat.le_of_ble_eq_true rfl⟩
    | 3 => ⟨sat_X6_xOf, Nat.le_of_ble_eq_true rfl⟩
    | 4 => ⟨sat_X6_yOf, Nat.le_of_ble_eq_true rfl⟩
    | i + 5 => ⟨sat_no _, Nat.le_of_ble_eq_true rfl⟩
    | 0 => ⟨sat_no _, Nat.le_of_ble_eq_true rfl⟩) ?_
  intro as S post h
  match as, h with
  | [.inr (.inr (some 1)), .inl d, .inl x, .inl w], h =>
    obtain ⟨W, hW, hd, hA, hA2, hB⟩ := h
    have hr := hW.r3
    have hc := hW.1
    refine body0 120 rfl ?_
    by_cases z : 0 ≤ d ∧ d < S.2.1 1 3
    · obtain ⟨hT, hD, -, -, hcl, -⟩ := hW.dg z
      have hD2 := hD
      obtain ⟨d1, d2, d3, d4, d5, d6, d7, d8⟩ := hD2
      have hcx := fun y => hcl x.toNat y
      repeat' (first
          | omega
          | with_reducible apply And.intro
          | (intro c9; (try simp only [mg, mf, colK, stK, clK, mnK, shN] at c9))
          | (with_reducible (have q9 : (_ = none ∧ ∀ p, ¬ inP _ _ x p) ∨ _ := c9; clear q9; rcases c9 with ⟨rfl, c7⟩ | ⟨c6, rfl, c7⟩))
          | (with_reducible (have q9 : (none : Option Nat) = some _ := c9; cases q9))
          | (with_reducible (have q9 : some (_ : Nat) = none := c9; cases q9))
          | (with_reducible (have q9 : _ = (_ : Int) % 16 := c9; clear q9; subst c9))
          | (with_reducible (have q9 : _ = (_ : Int) / 16 := c9; clear q9; subst c9))
          | (have y := c7.2.2; have y2 := hD.rng (p := c6 + 1) c7.1; omega)
          | exact hc
          | exact ⟨9, hc.1⟩
          | exact ⟨9, d1⟩
          | rw [hT]
          | refine ⟨_, _, _, _, hD, ?_, ?_⟩
          | exact hA (by omega)
          | exact hA2 ⟨z.1, z.2, by omega⟩ (by omega)
          | exact (hB ⟨z.1, z.2, by omega⟩ (by omega)).1 c7
          | exact ⟨5, (d8 c6 c7.1).2.1⟩
          | refine ⟨100, _, d5, by omega, ?_⟩
          | exact ⟨100, _, d5, Or.inl rfl, by omega, by omega⟩
          | (have y := hcx (by omega); omega)
          | (have y := (hB ⟨z.1, z.2, by omega⟩ (by omega)).2 c6 c7; rw [if_pos (by omega)] at y; exact y)
          | (have y := (hB ⟨z.1, z.2, by omega⟩ (by omega)).2 c6 c7; rw [if_neg (by omega), if_pos (by omega)] at y; exact y)
          | (have y := (hB ⟨z.1, z.2, by omega⟩ (by omega)).2 c6 c7; rw [if_neg (by omega), if_neg (by omega)] at y; exact y)
          | (simp only [mg, mf, colK, stK, clK, mnK, shN]; omega)
          | refine Exists.intro _ (And.intro rfl ?_)
          | refine Exists.intro _ (And.intro (hT) ?_)
          | refine Exists.intro _ (And.intro (d4) ?_)
          | ((with_reducible show wp _ _ _ _ _ _ _ _ _ _ _ _ _ _); conv => whnf)
          | ((with_reducible show callK _ _ _ _ _ _ _ _ _); conv => whnf)
          | ((with_reducible show condK _ _ _ _ _); conv => whnf)
          | ((with_reducible show st1 _ _ _ _ _ _ _ _ _ _ _ _); conv => whnf)
          | ((with_reducible show (Prod.fst _ : Spec) _ _ _); conv => whnf)
          | ((with_reducible show shortK _ _); conv => whnf)
          | exact Nat.le_of_ble_eq_true rfl)
    · repeat' (first
          | omega
          | with_reducible apply And.intro
          | (intro c9; (try simp only [mg, mf, colK, stK, clK, mnK, shN] at c9))
          | exact hc
          | exact ⟨9, hc.1⟩
          | exact hA (by omega)
          | (simp only [mg, mf, colK, stK, clK, mnK, shN]; omega)
          | refine Exists.intro _ (And.intro rfl ?_)
          | ((with_reducible show wp _ _ _ _ _ _ _ _ _ _ _ _ _ _); conv => whnf)
          | ((with_reducible show callK _ _ _ _ _ _ _ _ _); conv => whnf)
          | ((with_reducible show condK _ _ _ _ _); conv => whnf)
          | ((with_reducible show st1 _ _ _ _ _ _ _ _ _ _ _ _); conv => whnf)
          | ((with_reducible show (Prod.fst _ : Spec) _ _ _); conv => whnf)
          | ((with_reducible show shortK _ _); conv => whnf)
          | exact Nat.le_of_ble_eq_true rfl)
def s_shadeOfC : Spec := fun as S post => match as with
  | [.inr (.inr (some 1)), .inl o, .inl c] => ∃ W, CW W S ∧ (InR o ∧ InR c) ∧ (¬ (0 ≤ o ∧ o < S.2.1 1 7 ∧ 0 ≤ c ∧ c < 6) → post (.inr 0) S) ∧ ((0 ≤ o ∧ o < S.2.1 1 7 ∧ 0 ≤ c ∧ c < 6) → post (.inl (some (vI (S.2.1 (2048 + 16 * o.toNat + 1) c.toNat)))) S)
  | _ => False
def spX6_shadeOf : Nat → CD := spF mdX6_shadeOf fun i => match i with
  | 1 => (s_orderAt, 1, 6, 1)
  | 2 => (s_isColour, 0, 0, 1)
  | 3 => (s_shade, 0, 0, 1)
  | _ => noR
set_option maxHeartbeats 4000000 in
set_option maxRecDepth 100000 in
theorem sat_X6_shadeOf : Sat mX6_shadeOf s_shadeOfC 2 12 12 := by
  refine sat_of (E := eX6_shadeOf) (sp := spX6_shadeOf) (ini := false) (by decide +kernel) (fun h => by cases h) okX6_shadeOf (fun i => match i with
    | 1 => ⟨sat_X6_orderAt, Nat.le_of_ble_eq_true rfl⟩
    | 2 => ⟨sat_X6_isColour, Nat.le_of_ble_eq_true rfl⟩
    | 3 => ⟨sat_X2_shade, Nat.le_of_ble_eq_true rfl⟩
    | i + 4 => ⟨sat_no _, Nat.le_of_ble_eq_true rfl⟩
    | 0 => ⟨sat_no _, Nat.le_of_ble_eq_true rfl⟩) ?_
  intro as S post h
  match as, h with
  | [.inr (.inr (some 1)), .inl d, .inl c], h =>
    obtain ⟨W, hW, hd, hA, hB⟩ := h
    have hr := hW.r7
    have hc := hW.1
    refine body0 60 rfl ?_
    by_cases z : 0 ≤ d ∧ d < S.2.1 1 7
    · obtain ⟨hT, ⟨o1, o2, o3, o4⟩, -⟩ := hW.or z
      repeat' (first
          | omega
          | with_reducible apply And.intro
          | (intro c9; (try simp only [mg, mf, colK, stK, clK, mnK, shN] at c9))
          | exact hc
          | exact ⟨9, hc.1⟩
          | exact ⟨9, o1⟩
          | rw [hT]
          | (refine And.intro ⟨o1, o2, o3⟩ (And.intro hd.2 ?_))
          | exact hA (by omega)
          | (rw [if_pos (by omega)]; exact hB (by omega))
          | (simp only [mg, mf, colK, stK, clK, mnK, shN]; omega)
          | refine Exists.intro _ (And.intro rfl ?_)
          | refine Exists.intro _ (And.intro (hT) ?_)
          | ((with_reducible show wp _ _ _ _ _ _ _ _ _ _ _ _ _ _); conv => whnf)
          | ((with_reducible show callK _ _ _ _ _ _ _ _ _); conv => whnf)
          | ((with_reducible show condK _ _ _ _ _); conv => whnf)
          | ((with_reducible show st1 _ _ _ _ _ _ _ _ _ _ _ _); conv => whnf)
          | ((with_reducible show (Prod.fst _ : Spec) _ _ _); conv => whnf)
          | ((with_reducible show shortK _ _); conv => whnf)
          | exact Nat.le_of_ble_eq_true rfl)
    · repeat' (first
          | omega
          | with_reducible apply And.intro
          | (intro c9; (try simp only [mg, mf, colK, stK, clK, mnK, shN] at c9))
          | exact hc
          | exact ⟨9, hc.1⟩
          | exact hA (by omega)
          | (simp only [mg, mf, colK, stK, clK, mnK, shN]; omega)
          | refine Exists.intro _ (And.intro rfl ?_)
          | ((with_reducible show wp _ _ _ _ _ _ _ _ _ _ _ _ _ _); conv => whnf)
          | ((with_reducible show callK _ _ _ _ _ _ _ _ _); conv => whnf)
          | ((with_reducible show condK _ _ _ _ _); conv => whnf)
          | ((with_reducible show st1 _ _ _ _ _ _ _ _ _ _ _ _); conv => whnf)
          | ((with_reducible show (Prod.fst _ : Spec) _ _ _); conv => whnf)
          | ((with_reducible show shortK _ _); conv => whnf)
          | exact Nat.le_of_ble_eq_true rfl)
def s_leftC : Spec := fun as S post => match as with
  | [.inr (.inr (some 1)), .inl c, .inl s] => ∃ W, CW W S ∧ (InR c ∧ InR s) ∧ (¬ (0 ≤ c ∧ c < 6 ∧ 0 ≤ s ∧ s < 3) → post (.inr 0) S) ∧ ((0 ≤ c ∧ c < 6 ∧ 0 ≤ s ∧ s < 3) → post (.inl (some (vI (spK S 8 c s)))) S)
  | _ => False
def spX6_left : Nat → CD := spF mdX6_left fun i => match i with
  | 1 => (s_isColour, 0, 0, 1)
  | 2 => (s_isShade, 0, 0, 1)
  | 3 => (s_count, 0, 0, 2)
  | _ => noR
set_option maxHeartbeats 4000000 in
set_option maxRecDepth 100000 in
theorem sat_X6_left : Sat mX6_left s_leftC 2 12 12 := by
  refine sat_of (E := eX6_left) (sp := spX6_left) (ini := false) (by decide +kernel) (fun h => by cases h) okX6_left (fun i => match i with
    | 1 => ⟨sat_X6_isColour, Nat.le_of_ble_eq_true rfl⟩
    | 2 => ⟨sat_X6_isShade, Nat.le_of_ble_eq_true rfl⟩
    | 3 => ⟨sat_X5_count, Nat.le_of_ble_eq_true rfl⟩
    | i + 4 => ⟨sat_no _, Nat.le_of_ble_eq_true rfl⟩
    | 0 => ⟨sat_no _, Nat.le_of_ble_eq_true rfl⟩) ?_
  intro as S post h
  match as, h with
  | [.inr (.inr (some 1)), .inl c, .inl s], h =>
    obtain ⟨W, hW, hd, hA, hB⟩ := h
    have hc := hW.1
    obtain ⟨f1, f2, f3, f4, f5, f6, -, -, -, -, f11, fn⟩ := hc
    refine body0 60 rfl ?_
    repeat' (first
        | omega
        | with_reducible apply And.intro
        | (intro c9; (try simp only [mg, mf, colK, stK, clK, mnK, shN] at c9))
        | exact ⟨9, f1⟩
        | exact ⟨1, f11.1⟩
        | rw [gfR (ci := 6) f6 rfl]
        | (refine And.intro f11 (And.intro hd ?_))
        | exact hA (by omega)
        | (rw [if_pos (by omega)]; exact hB (by omega))
        | (simp only [mg, mf, colK, stK, clK, mnK, shN]; omega)
        | refine Exists.intro _ (And.intro rfl ?_)
        | refine Exists.intro _ (And.intro (f6) ?_)
        | ((with_reducible show wp _ _ _ _ _ _ _ _ _ _ _ _ _ _); conv => whnf)
        | ((with_reducible show callK _ _ _ _ _ _ _ _ _); conv => whnf)
        | ((with_reducible show condK _ _ _ _ _); conv => whnf)
        | ((with_reducible show st1 _ _ _ _ _ _ _ _ _ _ _ _); conv => whnf)
        | ((with_reducible show (Prod.fst _ : Spec) _ _ _); conv => whnf)
        | ((with_reducible show shortK _ _); conv => whnf)
        | exact Nat.le_of_ble_eq_true rfl)
def s_ofMachineC : Spec := fun as S post => match as with
  | [.inr (.inr (some 1)), .inl i, .inl w] => ∃ W, CW W S ∧ (InR i ∧ InR w) ∧ (¬ (0 ≤ i ∧ i < S.2.1 1 5) → post (.inr 0) S) ∧ ((0 ≤ i ∧ i < S.2.1 1 5) → ¬ (0 ≤ w ∧ w ≤ 3) → post (.inr 1) S) ∧ ((0 ≤ i ∧ i < S.2.1 1 5) → (0 ≤ w ∧ w ≤ 3) → (w = 0 → S.2.2 (1024 + 16 * i.toNat) 4 = none → post (.inl (some (vI (-1)))) S) ∧
      (∀ o : Nat, w = 0 → S.2.2 (1024 + 16 * i.toNat) 4 = some (2048 + 16 * o) → post (.inl (some (vI (S.2.1 (2048 + 16 * o) 0)))) S) ∧ (w = 1 → post (.inl (some (vI (S.2.1 (1024 + 16 * i.toNat) 5)))) S) ∧ (w = 2 → post (.inl (some (vI (S.2.1 (1024 + 16 * i.toNat) 6)))) S) ∧ (w = 3 → post (.inl (some (vI (S.2.1 (1024 + 16 * i.toNat) 7)))) S))
  | _ => False
def spX6_ofMachine : Nat → CD := spF mdX6_ofMachine fun i => match i with
  | 1 => (s_machineAt, 1, 6, 1)
  | _ => noR
set_option maxHeartbeats 4000000 in
set_option maxRecDepth 100000 in
theorem sat_X6_ofMachine : Sat mX6_ofMachine s_ofMachineC 2 12 12 := by
  refine sat_of (E := eX6_ofMachine) (sp := spX6_ofMachine) (ini := false) (by decide +kernel) (fun h => by cases h) okX6_ofMachine (fun i => match i with
    | 1 => ⟨sat_X6_machineAt, Nat.le_of_ble_eq_true rfl⟩
    | i + 2 => ⟨sat_no _, Nat.le_of_ble_eq_true rfl⟩
    | 0 => ⟨sat_no _, Nat.le_of_ble_eq_true rfl⟩) ?_
  intro as S post h
  match as, h with
  | [.inr (.inr (some 1)), .inl d, .inl w], h =>
    obtain ⟨W, hW, hd, hA, hA2, hB⟩ := h
    have hr := hW.r5
    have hc := hW.1
    refine body0 60 rfl ?_
    by_cases z : 0 ≤ d ∧ d < S.2.1 1 5
    · obtain ⟨hT, ⟨o1, o2, o3⟩, -, -, -, hj⟩ := hW.mc z
      rcases hj with hj | ⟨o, ho, hj, -⟩
      · repeat' (first
            | omega
            | with_reducible apply And.intro
            | (intro c9; (try simp only [mg, mf, colK, stK, clK, mnK, shN] at c9))
            | ((with_reducible show swK _ _ _ _ _); conv => whnf)
            | exact trivial
            | exact hc
            | exact ⟨9, hc.1⟩
            | exact ⟨9, o1⟩
            | rw [hT]
            | rw [hj]
            | exact hA2 z (by omega)
            | exact (hB z (by omega)).1 (by omega) hj
            | (rw [hj] at c9; cases c9; done)
            | exact (hB z (by omega)).2.2.1 (by omega)
            | exact (hB z (by omega)).2.2.2.1 (by omega)
            | exact (hB z (by omega)).2.2.2.2 (by omega)
            | (simp only [mg, mf, colK, stK, clK, mnK, shN]; omega)
            | refine Exists.intro _ (And.intro rfl ?_)
            | refine Exists.intro _ (And.intro (hT) ?_)
            | refine Exists.intro _ (And.intro (hj) ?_)
            | ((with_reducible show wp _ _ _ _ _ _ _ _ _ _ _ _ _ _); conv => whnf)
            | ((with_reducible show callK _ _ _ _ _ _ _ _ _); conv => whnf)
            | ((with_reducible show condK _ _ _ _ _); conv => whnf)
            | ((with_reducible show st1 _ _ _ _ _ _ _ _ _ _ _ _); conv => whnf)
            | ((with_reducible show (Prod.fst _ : Spec) _ _ _); conv => whnf)
            | ((with_reducible show shortK _ _); conv => whnf)
            | exact Nat.le_of_ble_eq_true rfl)
      · have hO := (hW.2.2.2.2.1 o ho).2.1.1
        repeat' (first
            | omega
            | with_reducible apply And.intro
            | (intro c9; (try simp only [mg, mf, colK, stK, clK, mnK, shN] at c9))
            | ((with_reducible show swK _ _ _ _ _); conv => whnf)
            | exact trivial
            | exact hc
            | exact ⟨9, hc.1⟩
            | exact ⟨9, o1⟩
            | exact ⟨9, hO⟩
            | rw [hT]
            | rw [hj]
            | exact hA2 z (by omega)
            | (rw [hj] at c9; cases c9; done)
            | exact (hB z (by omega)).2.1 o (by omega) hj
            | exact (hB z (by omega)).2.2.1 (by omega)
            | exact (hB z (by omega)).2.2.2.1 (by omega)
            | exact (hB z (by omega)).2.2.2.2 (by omega)
            | (simp only [mg, mf, colK, stK, clK, mnK, shN]; omega)
            | refine Exists.intro _ (And.intro rfl ?_)
            | refine Exists.intro _ (And.intro (hT) ?_)
            | refine Exists.intro _ (And.intro (hj) ?_)
            | ((with_reducible show wp _ _ _ _ _ _ _ _ _ _ _ _ _ _); conv => whnf)
            | ((with_reducible show callK _ _ _ _ _ _ _ _ _); conv => whnf)
            | ((with_reducible show condK _ _ _ _ _); conv => whnf)
            | ((with_reducible show st1 _ _ _ _ _ _ _ _ _ _ _ _); conv => whnf)
            | ((with_reducible show (Prod.fst _ : Spec) _ _ _); conv => whnf)
            | ((with_reducible show shortK _ _); conv => whnf)
            | exact Nat.le_of_ble_eq_true rfl)
    · repeat' (first
          | omega
          | with_reducible apply And.intro
          | (intro c9; (try simp only [mg, mf, colK, stK, clK, mnK, shN] at c9))
          | exact hc
          | exact ⟨9, hc.1⟩
          | exact hA (by omega)
          | (simp only [mg, mf, colK, stK, clK, mnK, shN]; omega)
          | refine Exists.intro _ (And.intro rfl ?_)
          | ((with_reducible show wp _ _ _ _ _ _ _ _ _ _ _ _ _ _); conv => whnf)
          | ((with_reducible show callK _ _ _ _ _ _ _ _ _); conv => whnf)
          | ((with_reducible show condK _ _ _ _ _); conv => whnf)
          | ((with_reducible show st1 _ _ _ _ _ _ _ _ _ _ _ _); conv => whnf)
          | ((with_reducible show (Prod.fst _ : Spec) _ _ _); conv => whnf)
          | ((with_reducible show shortK _ _); conv => whnf)
          | exact Nat.le_of_ble_eq_true rfl)
def s_ofOrderC : Spec := fun as S post => match as with
  | [.inr (.inr (some 1)), .inl o, .inl w] => ∃ W, CW W S ∧ (InR o ∧ InR w) ∧ (¬ (0 ≤ o ∧ o < S.2.1 1 7) → post (.inr 0) S) ∧ ((0 ≤ o ∧ o < S.2.1 1 7) → ¬ (0 ≤ w ∧ w ≤ 6) → post (.inr 1) S) ∧ ((0 ≤ o ∧ o < S.2.1 1 7) → (0 ≤ w ∧ w ≤ 6) → (w = 6 → S.2.2 (2048 + 16 * o.toNat) 8 = none → post (.inl (some (vI (-1)))) S) ∧
      (∀ i : Nat, w = 6 → S.2.2 (2048 + 16 * o.toNat) 8 = some (1024 + 16 * i) → post (.inl (some (vI (S.2.1 (1024 + 16 * i) 0)))) S) ∧ (w = 0 → post (.inl (some (vI (S.2.1 (2048 + 16 * o.toNat) 4)))) S) ∧ (w = 1 → post (.inl (some (vI (S.2.1 (4096 + 16 * W.g o.toNat) 0)))) S) ∧ (w = 2 → post (.inl (some (vI (S.2.1 (2048 + 16 * o.toNat) 2)))) S) ∧ (w = 3 → post (.inl (some (vI (S.2.1 (2048 + 16 * o.toNat) 5)))) S) ∧ (w = 4 → post (.inl (some (vI (S.2.1 (2048 + 16 * o.toNat) 6)))) S) ∧ (w = 5 → post (.inl (some (vI (S.2.1 (2048 + 16 * o.toNat) 7)))) S))
  | _ => False
def spX6_ofOrder : Nat → CD := spF mdX6_ofOrder fun i => match i with
  | 1 => (s_orderAt, 1, 6, 1)
  | _ => noR
set_option maxHeartbeats 4000000 in
set_option maxRecDepth 100000 in
theorem sat_X6_ofOrder : Sat mX6_ofOrder s_ofOrderC 2 12 12 := by
  refine sat_of (E := eX6_ofOrder) (sp := spX6_ofOrder) (ini := false) (by decide +kernel) (fun h => by cases h) okX6_ofOrder (fun i => match i with
    | 1 => ⟨sat_X6_orderAt, Nat.le_of_ble_eq_true rfl⟩
    | i + 2 => ⟨sat_no _, Nat.le_of_ble_eq_true rfl⟩
    | 0 => ⟨sat_no _, Nat.le_of_ble_eq_true rfl⟩) ?_
  intro as S post h
  match as, h with
  | [.inr (.inr (some 1)), .inl d, .inl w], h =>
    obtain ⟨W, hW, hd, hA, hA2, hB⟩ := h
    have hr := hW.r7
    have hc := hW.1
    refine body0 90 rfl ?_
    by_cases z : 0 ≤ d ∧ d < S.2.1 1 7
    · obtain ⟨hT, ⟨o1, o2, o3, o4⟩, og, -, -, -, -, hj⟩ := hW.or z
      have hD := (hW.2.2.1 (W.g d.toNat) og).2.1.1
      rcases hj with hj | ⟨i, hi, hj, -⟩
      · repeat' (first
            | omega
            | with_reducible apply And.intro
            | (intro c9; (try simp only [mg, mf, colK, stK, clK, mnK, shN] at c9))
            | ((with_reducible show swK _ _ _ _ _); conv => whnf)
            | exact trivial
            | exact hc
            | exact ⟨9, hc.1⟩
            | exact ⟨9, o1⟩
            | exact ⟨9, hD⟩
            | rw [hT]
            | rw [hj]
            | exact hA2 z (by omega)
            | exact (hB z (by omega)).1 (by omega) hj
            | (rw [hj] at c9; cases c9; done)
            | exact (hB z (by omega)).2.2.1 (by omega)
            | exact (hB z (by omega)).2.2.2.1 (by omega)
            | exact (hB z (by omega)).2.2.2.2.1 (by omega)
            | exact (hB z (by omega)).2.2.2.2.2.1 (by omega)
            | exact (hB z (by omega)).2.2.2.2.2.2.1 (by omega)
            | exact (hB z (by omega)).2.2.2.2.2.2.2 (by omega)
            | (simp only [mg, mf, colK, stK, clK, mnK, shN]; omega)
            | refine Exists.intro _ (And.intro rfl ?_)
            | refine Exists.intro _ (And.intro (hT) ?_)
            | refine Exists.intro _ (And.intro (hj) ?_)
            | refine Exists.intro _ (And.intro (o4) ?_)
            | ((with_reducible show wp _ _ _ _ _ _ _ _ _ _ _ _ _ _); conv => whnf)
            | ((with_reducible show callK _ _ _ _ _ _ _ _ _); conv => whnf)
            | ((with_reducible show condK _ _ _ _ _); conv => whnf)
            | ((with_reducible show st1 _ _ _ _ _ _ _ _ _ _ _ _); conv => whnf)
            | ((with_reducible show (Prod.fst _ : Spec) _ _ _); conv => whnf)
            | ((with_reducible show shortK _ _); conv => whnf)
            | exact Nat.le_of_ble_eq_true rfl)
      · have hO := (hW.2.2.2.1 i hi).2.1.1
        repeat' (first
            | omega
            | with_reducible apply And.intro
            | (intro c9; (try simp only [mg, mf, colK, stK, clK, mnK, shN] at c9))
            | ((with_reducible show swK _ _ _ _ _); conv => whnf)
            | exact trivial
            | exact hc
            | exact ⟨9, hc.1⟩
            | exact ⟨9, o1⟩
            | exact ⟨9, hD⟩
            | exact ⟨9, hO⟩
            | rw [hT]
            | rw [hj]
            | exact hA2 z (by omega)
            | (rw [hj] at c9; cases c9; done)
            | exact (hB z (by omega)).2.1 i (by omega) hj
            | exact (hB z (by omega)).2.2.1 (by omega)
            | exact (hB z (by omega)).2.2.2.1 (by omega)
            | exact (hB z (by omega)).2.2.2.2.1 (by omega)
            | exact (hB z (by omega)).2.2.2.2.2.1 (by omega)
            | exact (hB z (by omega)).2.2.2.2.2.2.1 (by omega)
            | exact (hB z (by omega)).2.2.2.2.2.2.2 (by omega)
            | (simp only [mg, mf, colK, stK, clK, mnK, shN]; omega)
            | refine Exists.intro _ (And.intro rfl ?_)
            | refine Exists.intro _ (And.intro (hT) ?_)
            | refine Exists.intro _ (And.intro (hj) ?_)
            | refine Exists.intro _ (And.intro (o4) ?_)
            | ((with_reducible show wp _ _ _ _ _ _ _ _ _ _ _ _ _ _); conv => whnf)
            | ((with_reducible show callK _ _ _ _ _ _ _ _ _); conv => whnf)
            | ((with_reducible show condK _ _ _ _ _); conv => whnf)
            | ((with_reducible show st1 _ _ _ _ _ _ _ _ _ _ _ _); conv => whnf)
            | ((with_reducible show (Prod.fst _ : Spec) _ _ _); conv => whnf)
            | ((with_reducible show shortK _ _); conv => whnf)
            | exact Nat.le_of_ble_eq_true rfl)
    · repeat' (first
          | omega
          | with_reducible apply And.intro
          | (intro c9; (try simp only [mg, mf, colK, stK, clK, mnK, shN] at c9))
          | exact hc
          | exact ⟨9, hc.1⟩
          | exact hA (by omega)
          | (simp only [mg, mf, colK, stK, clK, mnK, shN]; omega)
          | refine Exists.intro _ (And.intro rfl ?_)
          | ((with_reducible show wp _ _ _ _ _ _ _ _ _ _ _ _ _ _); conv => whnf)
          | ((with_reducible show callK _ _ _ _ _ _ _ _ _); conv => whnf)
          | ((with_reducible show condK _ _ _ _ _); conv => whnf)
          | ((with_reducible show st1 _ _ _ _ _ _ _ _ _ _ _ _); conv => whnf)
          | ((with_reducible show (Prod.fst _ : Spec) _ _ _); conv => whnf)
          | ((with_reducible show shortK _ _); conv => whnf)
          | exact Nat.le_of_ble_eq_true rfl)
/-! THE CLASS: calls that change it -/
theorem dgC.fr {S S' : Sto} {T n : Nat} {q : Nat → Nat} {b : Nat → Int} {m : Nat} (h : dgC S T n q b m) (h1 : S'.1 = S.1) (h2 : ∀ t, S.1 t = some (0, 9) ∨ S.1 t = some (114, n) → S'.2.2 t = S.2.2 t) (h3 : ∀ t, S.1 t = some (4, 5) → S'.2.1 t = S.2.1 t) : dgC S' T n q b m := by
  obtain ⟨d1, d2, d3, d4, d5, d6, d7, d8⟩ := h
  refine ⟨by rw [h1]; exact d1, by rw [h2 T (Or.inl d1)]; exact d2, by rw [h1]; exact d3, by rw [h2 T (Or.inl d1)]; exact d4, by rw [h1]; exact d5, d6, d7, fun p hp => ?_⟩
  obtain ⟨a1, a2, a3, a4, a5, a6⟩ := d8 p hp
  rw [h1, h2 _ (Or.inr d3), h3 _ a2]
  exact ⟨a1, a2, a3, a4, a5, a6⟩
theorem dgC.updI {S : Sto} {T n : Nat} {q : Nat → Nat} {b : Nat → Int} {m : Nat} (h : dgC S T n q b m) {t k : Nat} {v : Int} (hne : S.1 t ≠ some (4, 5)) : dgC (updI S t k v) T n q b m := h.fr rfl (fun _ _ => rfl) fun t' ht => by
  funext j
  rw [updI_2, if_neg (fun z => hne (by rw [← z.1]; exact ht))]
theorem dgC.updR {S : Sto} {T n : Nat} {q : Nat → Nat} {b : Nat → Int} {m : Nat} (h : dgC S T n q b m) {t k : Nat} {v : Option Nat} (hne : S.1 t ≠ some (0, 9) ∧ S.1 t ≠ some (114, n)) : dgC (updR S t k v) T n q b m := h.fr rfl (fun t' ht => by
  funext j
  rw [updR_3, if_neg (fun z => by rw [← z.1] at hne; exact ht.elim hne.1 hne.2)]) fun _ _ => rfl
def s_wipeC : Spec := fun as S post => match as with
  | [.inr (.inr (some 1))] => cfC S ∧ post (.inl (some (vI (S.2.1 1 1)))) (updI S 1 1 0)
  | _ => False
def spX6_wipe : Nat → CD := spF mdX6_wipe fun i => match i with
  | _ => noR
set_option maxHeartbeats 4000000 in
set_option maxRecDepth 100000 in
theorem sat_X6_wipe : Sat mX6_wipe s_wipeC 0 0 12 := by
  refine sat_of (E := eX6_wipe) (sp := spX6_wipe) (ini := false) (by decide +kernel) (fun h => by cases h) okX6_wipe (fun i => match i with
    | _ => ⟨sat_no _, Nat.le_of_ble_eq_true rfl⟩) ?_
  intro as S post h
  match as, h with
  | [.inr (.inr (some 1))], h =>
    obtain ⟨hc, h⟩ := h
    refine body0 40 rfl ?_
    repeat' (first
        | omega
        | with_reducible apply And.intro
        | (intro c9; (try simp only [mg, mf, colK, stK, clK, mnK, shN] at c9))
        | exact ⟨9, hc.1⟩
        | exact h
        | (simp only [mg, mf, colK, stK, clK, mnK, shN]; omega)
        | refine Exists.intro _ (And.intro rfl ?_)
        | ((with_reducible show wp _ _ _ _ _ _ _ _ _ _ _ _ _ _); conv => whnf)
        | ((with_reducible show callK _ _ _ _ _ _ _ _ _); conv => whnf)
        | ((with_reducible show condK _ _ _ _ _); conv => whnf)
        | ((with_reducible show st1 _ _ _ _ _ _ _ _ _ _ _ _); conv => whnf)
        | ((with_reducible show (Prod.fst _ : Spec) _ _ _); conv => whnf)
        | ((with_reducible show shortK _ _); conv => whnf)
        | exact Nat.le_of_ble_eq_true rfl)
def s_stockC : Spec := fun as S post => match as with
  | [.inr (.inr (some 1)), .inl c, .inl s, .inl x] => ∃ W, CW W S ∧ (InR c ∧ InR s ∧ InR x) ∧ (¬ (0 ≤ c ∧ c < 6 ∧ 0 ≤ s ∧ s < 3) → post (.inr 0) S) ∧ ((0 ≤ c ∧ c < 6 ∧ 0 ≤ s ∧ s < 3) → ¬ (1 ≤ x ∧ x ≤ 100000) → post (.inr 1) S) ∧ ((0 ≤ c ∧ c < 6 ∧ 0 ≤ s ∧ s < 3) → (1 ≤ x ∧ x ≤ 100000) → 1000000 < spK S 8 c s + x → post (.inr 2) S) ∧
    ((0 ≤ c ∧ c < 6 ∧ 0 ≤ s ∧ s < 3) → (1 ≤ x ∧ x ≤ 100000) → spK S 8 c s + x ≤ 1000000 → post (.inl (some (vI (spK S 8 c s + x)))) (updI S 9 (3 * c + s).toNat (spK S 8 c s + x)))
  | _ => False
def spX6_stock : Nat → CD := spF mdX6_stock fun i => match i with
  | 1 => (s_isColour, 0, 0, 1)
  | 2 => (s_isShade, 0, 0, 1)
  | 3 => (s_isFrom1To, 0, 0, 1)
  | 4 => (s_count, 0, 0, 2)
  | 5 => (s_add, 0, 0, 2)
  | _ => noR
set_option maxHeartbeats 4000000 in
set_option maxRecDepth 100000 in
theorem sat_X6_stock : Sat mX6_stock s_stockC 1 6 12 := by
  refine sat_of (E := eX6_stock) (sp := spX6_stock) (ini := false) (by decide +kernel) (fun h => by cases h) okX6_stock (fun i => match i with
    | 1 => ⟨sat_X6_isColour, Nat.le_of_ble_eq_true rfl⟩
    | 2 => ⟨sat_X6_isShade, Nat.le_of_ble_eq_true rfl⟩
    | 3 => ⟨sat_X6_isFrom1To, Nat.le_of_ble_eq_true rfl⟩
    | 4 => ⟨sat_X5_count, Nat.le_of_ble_eq_true rfl⟩
    | 5 => ⟨sat_X5_add, Nat.le_of_ble_eq_true rfl⟩
    | i + 6 => ⟨sat_no _, Nat.le_of_ble_eq_true rfl⟩
    | 0 => ⟨sat_no _, Nat.le_of_ble_eq_true rfl⟩) ?_
  intro as S post h
  match as, h with
  | [.inr (.inr (some 1)), .inl c, .inl s, .inl x], h =>
    obtain ⟨W, hW, hd, hA, hA2, hA3, hB⟩ := h
    have hst := hW.2.2.2.2.2 (3 * c + s)
    have hsp : 0 ≤ 3 * c + s → 3 * c + s < 18 → 0 ≤ spK S 8 c s ∧ spK S 8 c s ≤ 1000000 := hst
    obtain ⟨f1, f2, f3, f4, f5, f6, -, -, -, -, f11, fn⟩ := hW.1
    have f11' : spC (updI S 9 (3 * c + s).toNat (spK S 8 c s + x)) 8 := f11
    have e : spK (updI S 9 (3 * c + s).toNat (spK S 8 c s + x)) 8 c s = spK S 8 c s + x := by
      unfold spK
      rw [updI_2, if_pos ⟨rfl, rfl⟩]
    have hB2 : (0 ≤ c ∧ c < 6 ∧ 0 ≤ s ∧ s < 3) → (1 ≤ x ∧ x ≤ 100000) → spK S 8 c s + x ≤ 1000000 → post (.inl (some (vI (spK (updI S 9 (3 * c + s).toNat (spK S 8 c s + x)) 8 c s)))) (updI S 9 (3 * c + s).toNat (spK S 8 c s + x)) := fun a1 a2 a3 => by rw [e]; exact hB a1 a2 a3
    refine body0 120 rfl ?_
    repeat' (first
        | omega
        | with_reducible apply And.intro
        | (intro c9; (try simp only [mg, mf, colK, stK, clK, mnK, shN] at c9))
        | exact ⟨9, f1⟩
        | exact ⟨1, f11.1⟩
        | rw [gfR (ci := 6) f6 rfl]
        | rw [gfR (ci := 6) (show (updI S (8 + 1) (3 * c + s).toNat (spK S 8 c s + x)).2.2 1 8 = some 8 from f6) rfl]
        | (refine And.intro f11 (And.intro ⟨hd.1, hd.2.1⟩ ?_))
        | (refine And.intro f11' (And.intro ⟨hd.1, hd.2.1⟩ ?_))
        | (refine And.intro f11 (And.intro (by omega) ?_))
        | rw [if_pos (by omega)]
        | (have y := hsp (by omega) (by omega); omega)
        | exact hA (by omega)
        | exact hA2 (by omega) (by omega)
        | exact hA3 (by omega) (by omega) (by omega)
        | exact hB2 (by omega) (by omega) (by omega)
        | (simp only [mg, mf, colK, stK, clK, mnK, shN]; omega)
        | refine Exists.intro _ (And.intro rfl ?_)
        | refine Exists.intro _ (And.intro (f6) ?_)
        | ((with_reducible show wp _ _ _ _ _ _ _ _ _ _ _ _ _ _); conv => whnf)
        | ((with_reducible show callK _ _ _ _ _ _ _ _ _); conv => whnf)
        | ((with_reducible show condK _ _ _ _ _); conv => whnf)
        | ((with_reducible show st1 _ _ _ _ _ _ _ _ _ _ _ _); conv => whnf)
        | ((with_reducible show (Prod.fst _ : Spec) _ _ _); conv => whnf)
        | ((with_reducible show shortK _ _); conv => whnf)
        | exact Nat.le_of_ble_eq_true rfl)
def mcNew (S : Sto) (u : Nat) (i a w g : Int) : Sto := updI (updI (updI (updI (updR (newS S (u + 1) (100, 6)) u 8 (some (u + 1))) u 0 i) u 1 a) u 2 w) u 3 g
def mcFin (S : Sto) (u : Nat) (i a w g : Int) : Sto := updR (mcNew (newS S u (1, clN 1)) u i a w g) 6 i.toNat (some u)
def s_machineC : Spec := fun as S post => match as with
  | [.inr (.inr (some 1)), .inl a, .inl w, .inl g] => ∃ W, CW W S ∧ (InR a ∧ InR w ∧ InR g) ∧ (¬ (1 ≤ a ∧ a ≤ 6 ∧ 1 ≤ w ∧ w ≤ 16 ∧ 1 ≤ g ∧ g ≤ 16) → post (.inr 1) S) ∧ ((1 ≤ a ∧ a ≤ 6 ∧ 1 ≤ w ∧ w ≤ 16 ∧ 1 ≤ g ∧ g ≤ 16) → S.2.1 1 5 = 4 → post (.inr 2) S) ∧
    ((1 ≤ a ∧ a ≤ 6 ∧ 1 ≤ w ∧ w ≤ 16 ∧ 1 ≤ g ∧ g ≤ 16) → S.2.1 1 5 < 4 → ∃ u, u = 1024 + 16 * (S.2.1 1 5).toNat ∧ S.1 u = none ∧ S.1 (u + 1) = none ∧ post (.inl (some (vI (S.2.1 1 5)))) (updI (mcFin S u (S.2.1 1 5) a w g) 1 5 (S.2.1 1 5 + 1)))
  | _ => False
def spX6_machine : Nat → CD := spF mdX6_machine fun i => match i with
  | 1 => (s_isFrom1To, 0, 0, 1)
  | 2 => (s_mcInit, 1, 6, 1)
  | _ => noR
set_option maxHeartbeats 4000000 in
set_option maxRecDepth 100000 in
theorem sat_X6_machine : Sat mX6_machine s_machineC 2 24 12 := by
  refine sat_of (E := eX6_machine) (sp := spX6_machine) (ini := false) (by decide +kernel) (fun h => by cases h) okX6_machine (fun i => match i with
    | 1 => ⟨sat_X6_isFrom1To, Nat.le_of_ble_eq_true rfl⟩
    | 2 => ⟨sat_X1_init, Nat.le_of_ble_eq_true rfl⟩
    | i + 3 => ⟨sat_no _, Nat.le_of_ble_eq_true rfl⟩
    | 0 => ⟨sat_no _, Nat.le_of_ble_eq_true rfl⟩) ?_
  intro as S post h
  match as, h with
  | [.inr (.inr (some 1)), .inl a, .inl w, .inl g], h =>
    obtain ⟨W, hW, hd, hA, hA2, hB⟩ := h
    have hr := hW.r5
    obtain ⟨f1, f2, f3, f4, f5, f6, f7, f8, f9, f10, f11, fn⟩ := hW.1
    refine body0 120 rfl ?_
    by_cases za : 1 ≤ a ∧ a ≤ 6 ∧ 1 ≤ w ∧ w ≤ 16 ∧ 1 ≤ g ∧ g ≤ 16
    · by_cases z5 : S.2.1 1 5 < 4
      · obtain ⟨u, hu, n1, n2, hB⟩ := hB za z5
        have g1 : (newS S u (1, clN 1)).1 u = some (1, 9) := by rw [newS_1, if_pos rfl]; rfl
        have g2 : (newS S u (1, clN 1)).1 (u + 1) = none := by rw [newS_1, if_neg (by omega)]; exact n2
        have g0 : (newS S u (1, clN 1)).1 1 = some (6, 9) := by rw [newS_1, if_neg (by omega)]; exact f1
        have hi : (newS S u (1, clN 1)).2.1 1 5 = S.2.1 1 5 := by rw [newS_2, if_neg (by omega)]
        have gt : ∀ t, t < u → (mcFin S u (S.2.1 1 5) a w g).1 t = S.1 t := fun t ht => by
          show (newS (newS S u (1, clN 1)) (u + 1) (100, 6)).1 t = _
          rw [newS_1, if_neg (by omega), newS_1, if_neg (by omega)]
        have x1 : (mcFin S u (S.2.1 1 5) a w g).1 1 = some (6, 9) := (gt 1 (by omega)).trans f1
        have x6 : (mcFin S u (S.2.1 1 5) a w g).1 6 = some (111, 4) := (gt 6 (by omega)).trans f9
        have xu : (mcFin S u (S.2.1 1 5) a w g).1 u = some (1, 9) := by
          show (newS (newS S u (1, clN 1)) (u + 1) (100, 6)).1 u = _
          rw [newS_1, if_neg (by omega)]; exact g1
        have x5 : (mcFin S u (S.2.1 1 5) a w g).2.1 1 5 = S.2.1 1 5 := by
          unfold mcFin mcNew
          simp only [updR_2, updI_2, newS_2]
          simp only [show ¬ (1 = u + 1) by omega, show ¬ (1 = u) by omega, false_and, if_false]
        have hB2 : post (.inl (some (vI ((mcFin S u (S.2.1 1 5) a w g).2.1 1 5)))) (updI (mcFin S u (S.2.1 1 5) a w g) 1 5 ((mcFin S u (S.2.1 1 5) a w g).2.1 1 5 + 1)) := by rw [x5]; exact hB
        repeat' (first
            | omega
            | with_reducible apply And.intro
            | (intro c9; (try simp only [mg, mf, colK, stK, clK, mnK, shN] at c9))
            | exact ⟨9, f1⟩
            | refine ⟨111, 4, f9, by omega, ?_⟩
            | exact ⟨1, 4, 9, x6, rfl, xu, by omega, by omega⟩
            | exact hA (by omega)
            | refine Exists.intro u (And.intro n1 ?_)
            | rw [hi]
            | exact ⟨9, g0⟩
            | exact And.intro g1 g2
            | exact ⟨9, x1⟩
            | exact hB2
            | (simp only [mg, mf, colK, stK, clK, mnK, shN]; omega)
            | refine Exists.intro _ (And.intro rfl ?_)
            | refine Exists.intro _ (And.intro (f4) ?_)
            | ((with_reducible show wp _ _ _ _ _ _ _ _ _ _ _ _ _ _); conv => whnf)
            | ((with_reducible show callK _ _ _ _ _ _ _ _ _); conv => whnf)
            | ((with_reducible show condK _ _ _ _ _); conv => whnf)
            | ((with_reducible show st1 _ _ _ _ _ _ _ _ _ _ _ _); conv => whnf)
            | ((with_reducible show (Prod.fst _ : Spec) _ _ _); conv => whnf)
            | ((with_reducible show shortK _ _); conv => whnf)
            | exact Nat.le_of_ble_eq_true rfl)
        all_goals trace_state
      · repeat' (first
            | omega
            | with_reducible apply And.intro
            | (intro c9; (try simp only [mg, mf, colK, stK, clK, mnK, shN] at c9))
            | exact ⟨9, f1⟩
            | refine ⟨111, 4, f9, by omega, ?_⟩
            | exact ⟨111, 4, f9, rfl, by omega, by omega⟩
            | exact hA (by omega)
            | exact hA2 (by omega) (by omega)
            | (simp only [mg, mf, colK, stK, clK, mnK, shN]; omega)
            | refine Exists.intro _ (And.intro rfl ?_)
            | refine Exists.intro _ (And.intro (f4) ?_)
            | ((with_reducible show wp _ _ _ _ _ _ _ _ _ _ _ _ _ _); conv => whnf)
            | ((with_reducible show callK _ _ _ _ _ _ _ _ _); conv => whnf)
            | ((with_reducible show condK _ _ _ _ _); conv => whnf)
            | ((with_reducible show st1 _ _ _ _ _ _ _ _ _ _ _ _); conv => whnf)
            | ((with_reducible show (Prod.fst _ : Spec) _ _ _); conv => whnf)
            | ((with_reducible show shortK _ _); conv => whnf)
            | exact Nat.le_of_ble_eq_true rfl)
    · repeat' (first
          | omega
          | with_reducible apply And.intro
          | (intro c9; (try simp only [mg, mf, colK, stK, clK, mnK, shN] at c9))
          | exact ⟨9, f1⟩
          | exact hA (by omega)
          | (simp only [mg, mf, colK, stK, clK, mnK, shN]; omega)
          | refine Exists.intro _ (And.intro rfl ?_)
          | refine Exists.intro _ (And.intro (f4) ?_)
          | ((with_reducible show wp _ _ _ _ _ _ _ _ _ _ _ _ _ _); conv => whnf)
          | ((with_reducible show callK _ _ _ _ _ _ _ _ _); conv => whnf)
          | ((with_reducible show condK _ _ _ _ _); conv => whnf)
          | ((with_reducible show st1 _ _ _ _ _ _ _ _ _ _ _ _); conv => whnf)
          | ((with_reducible show (Prod.fst _ : Spec) _ _ _); conv => whnf)
          | ((with_reducible show shortK _ _); conv => whnf)
          | exact Nat.le_of_ble_eq_true rfl)
def orFin (S : Sto) (u T : Nat) (i p : Int) : Sto := updR (fillO (orN (newS S u (2, clN 2)) u T i p) u 6) 7 i.toNat (some u)
def s_orderC : Spec := fun as S post => match as with
  | [.inr (.inr (some 1)), .inl d, .inl p] => ∃ W, CW W S ∧ (InR d ∧ InR p) ∧ (¬ (0 ≤ d ∧ d < S.2.1 1 3) → post (.inr 0) S) ∧ ((0 ≤ d ∧ d < S.2.1 1 3) → ¬ (1 ≤ p ∧ p ≤ 50) → post (.inr 1) S) ∧ ((0 ≤ d ∧ d < S.2.1 1 3) → (1 ≤ p ∧ p ≤ 50) → S.2.1 1 7 = 20 → post (.inr 2) S) ∧
    ((0 ≤ d ∧ d < S.2.1 1 3) → (1 ≤ p ∧ p ≤ 50) → S.2.1 1 7 < 20 → ∃ u, u = 2048 + 16 * (S.2.1 1 7).toNat ∧ S.1 u = none ∧ S.1 (u + 1) = none ∧ post (.inl (some (vI (S.2.1 1 7)))) (updI (orFin S u (4096 + 16 * d.toNat) (S.2.1 1 7) p) 1 7 (S.2.1 1 7 + 1)))
  | _ => False
def spX6_order : Nat → CD := spF mdX6_order fun i => match i with
  | 1 => (s_designAt, 1, 6, 1)
  | 2 => (s_isFrom1To, 0, 0, 1)
  | 3 => (s_orInit, 1, 6, 1)
  | _ => noR
set_option maxHeartbeats 4000000 in
set_option maxRecDepth 100000 in
theorem sat_X6_order : Sat mX6_order s_orderC 3 30 12 := by
  refine sat_of (E := eX6_order) (sp := spX6_order) (ini := false) (by decide +kernel) (fun h => by cases h) okX6_order (fun i => match i with
    | 1 => ⟨sat_X6_designAt, Nat.le_of_ble_eq_true rfl⟩
    | 2 => ⟨sat_X6_isFrom1To, Nat.le_of_ble_eq_true rfl⟩
    | 3 => ⟨sat_X2_init, Nat.le_of_ble_eq_true rfl⟩
    | i + 4 => ⟨sat_no _, Nat.le_of_ble_eq_true rfl⟩
    | 0 => ⟨sat_no _, Nat.le_of_ble_eq_true rfl⟩) ?_
  intro as S post h
  match as, h with
  | [.inr (.inr (some 1)), .inl d, .inl p], h =>
    obtain ⟨W, hW, hd, hA, hA2, hA3, hB⟩ := h
    have hr := hW.r7
    have hr3 := hW.r3
    have hc := hW.1
    obtain ⟨f1, f2, f3, f4, f5, f6, f7, f8, f9, f10, f11, fn⟩ := hW.1
    refine body0 120 rfl ?_
    by_cases z : 0 ≤ d ∧ d < S.2.1 1 3
    · have hT := hW.dg z
      have hT1 := hT.1
      have hTt := hT.2.1.1
      by_cases z7 : (1 ≤ p ∧ p ≤ 50) ∧ S.2.1 1 7 < 20
      · obtain ⟨u, hu, n1, n2, hB⟩ := hB z z7.1 z7.2
        have g1 : (newS S u (2, clN 2)).1 u = some (2, 9) := by rw [newS_1, if_pos rfl]; rfl
        have g2 : (newS S u (2, clN 2)).1 (u + 1) = none := by rw [newS_1, if_neg (by omega)]; exact n2
        have g3 : (newS S u (2, clN 2)).1 (4096 + 16 * d.toNat) ≠ none := by rw [newS_1, if_neg (by intro e; rw [e, n1] at hTt; cases hTt), hTt]; simp
        have hf : ∀ k, (fillO (orN (newS S u (2, clN 2)) u (4096 + 16 * d.toNat) (S.2.1 1 7) p) u k).1 = (newS (newS S u (2, clN 2)) (u + 1) (100, 6)).1 := fun k => by
          induction k with
          | zero => rfl
          | succ k ih => exact ih
        have g0 : (newS S u (2, clN 2)).1 1 = some (6, 9) := by rw [newS_1, if_neg (by omega)]; exact f1
        have hi : (newS S u (2, clN 2)).2.1 1 7 = S.2.1 1 7 := by rw [newS_2, if_neg (by omega)]
        have gt : ∀ t, t < u → (orFin S u (4096 + 16 * d.toNat) (S.2.1 1 7) p).1 t = S.1 t := fun t ht => by
          show (fillO (orN (newS S u (2, clN 2)) u (4096 + 16 * d.toNat) (S.2.1 1 7) p) u 6).1 t = _
          rw [hf, newS_1, if_neg (by omega), newS_1, if_neg (by omega)]
        have x1 : (orFin S u (4096 + 16 * d.toNat) (S.2.1 1 7) p).1 1 = some (6, 9) := (gt 1 (by omega)).trans f1
        have x6 : (orFin S u (4096 + 16 * d.toNat) (S.2.1 1 7) p).1 7 = some (112, 20) := (gt 7 (by omega)).trans f10
        have xu : (orFin S u (4096 + 16 * d.toNat) (S.2.1 1 7) p).1 u = some (2, 9) := by
          show (fillO (orN (newS S u (2, clN 2)) u (4096 + 16 * d.toNat) (S.2.1 1 7) p) u 6).1 u = _
          rw [hf, newS_1, if_neg (by omega)]; exact g1
        have x5 : (orFin S u (4096 + 16 * d.toNat) (S.2.1 1 7) p).2.1 1 7 = S.2.1 1 7 := by
          unfold orFin fillO fillO fillO fillO fillO fillO fillO orN
          simp only [updR_2, updI_2, newS_2]
          simp only [show ¬ (1 = u + 1) by omega, show ¬ (1 = u) by omega, false_and, if_false]
        have hB2 : post (.inl (some (vI ((orFin S u (4096 + 16 * d.toNat) (S.2.1 1 7) p).2.1 1 7)))) (updI (orFin S u (4096 + 16 * d.toNat) (S.2.1 1 7) p) 1 7 ((orFin S u (4096 + 16 * d.toNat) (S.2.1 1 7) p).2.1 1 7 + 1)) := by rw [x5]; exact hB
        repeat' (first
            | omega
            | with_reducible apply And.intro
            | (intro c9; (try simp only [mg, mf, colK, stK, clK, mnK, shN] at c9))
            | exact hc
            | exact ⟨9, f1⟩
            | rw [hT1]
            | refine ⟨112, 20, f10, by omega, ?_⟩
            | exact ⟨2, 20, 9, x6, rfl, xu, by omega, by omega⟩
            | exact hA2 (by omega) (by omega)
            | refine Exists.intro u (And.intro n1 ?_)
            | rw [hi]
            | exact ⟨9, g0⟩
            | exact And.intro g1 (And.intro g2 g3)
            | exact g1
            | exact g2
            | exact g3
            | exact ⟨9, x1⟩
            | exact hB2
            | (simp only [mg, mf, colK, stK, clK, mnK, shN]; omega)
            | refine Exists.intro _ (And.intro rfl ?_)
            | refine Exists.intro _ (And.intro (hT1) ?_)
            | refine Exists.intro _ (And.intro (f5) ?_)
            | ((with_reducible show wp _ _ _ _ _ _ _ _ _ _ _ _ _ _); conv => whnf)
            | ((with_reducible show callK _ _ _ _ _ _ _ _ _); conv => whnf)
            | ((with_reducible show condK _ _ _ _ _); conv => whnf)
            | ((with_reducible show st1 _ _ _ _ _ _ _ _ _ _ _ _); conv => whnf)
            | ((with_reducible show (Prod.fst _ : Spec) _ _ _); conv => whnf)
            | ((with_reducible show shortK _ _); conv => whnf)
            | exact Nat.le_of_ble_eq_true rfl)
        all_goals trace_state
      · repeat' (first
            | omega
            | with_reducible apply And.intro
            | (intro c9; (try simp only [mg, mf, colK, stK, clK, mnK, shN] at c9))
            | exact hc
            | exact ⟨9, f1⟩
            | refine ⟨112, 20, f10, by omega, ?_⟩
            | exact ⟨112, 20, f10, rfl, by omega, by omega⟩
            | exact hA2 (by omega) (by omega)
            | exact hA3 (by omega) (by omega) (by omega)
            | (simp only [mg, mf, colK, stK, clK, mnK, shN]; omega)
            | refine Exists.intro _ (And.intro rfl ?_)
            | refine Exists.intro _ (And.intro (hT1) ?_)
            | refine Exists.intro _ (And.intro (f5) ?_)
            | ((with_reducible show wp _ _ _ _ _ _ _ _ _ _ _ _ _ _); conv => whnf)
            | ((with_reducible show callK _ _ _ _ _ _ _ _ _); conv => whnf)
            | ((with_reducible show condK _ _ _ _ _); conv => whnf)
            | ((with_reducible show st1 _ _ _ _ _ _ _ _ _ _ _ _); conv => whnf)
            | ((with_reducible show (Prod.fst _ : Spec) _ _ _); conv => whnf)
            | ((with_reducible show shortK _ _); conv => whnf)
            | exact Nat.le_of_ble_eq_true rfl)
    · repeat' (first
          | omega
          | with_reducible apply And.intro
          | (intro c9; (try simp only [mg, mf, colK, stK, clK, mnK, shN] at c9))
          | exact hc
          | exact ⟨9, hc.1⟩
          | exact hA (by omega)
          | (simp only [mg, mf, colK, stK, clK, mnK, shN]; omega)
          | refine Exists.intro _ (And.intro rfl ?_)
          | ((with_reducible show wp _ _ _ _ _ _ _ _ _ _ _ _ _ _); conv => whnf)
          | ((with_reducible show callK _ _ _ _ _ _ _ _ _); conv => whnf)
          | ((with_reducible show condK _ _ _ _ _); conv => whnf)
          | ((with_reducible show st1 _ _ _ _ _ _ _ _ _ _ _ _); conv => whnf)
          | ((with_reducible show (Prod.fst _ : Spec) _ _ _); conv => whnf)
          | ((with_reducible show shortK _ _); conv => whnf)
          | exact Nat.le_of_ble_eq_true rfl)
def endS (S : Sto) (u : Nat) (s : Int) : Sto := match S.2.2 u 8 with
  | none => updI S u 4 s
  | some v => updR (updR (updI S u 4 s) v 4 none) u 8 none
def s_endC : Spec := fun as S post => match as with
  | [.inr (.inr (some u)), .inl s] => S.1 u = some (2, 9) ∧ (∀ v, S.2.2 u 8 = some v → S.1 v = some (1, 9)) ∧ post (.inl none) (endS S u s)
  | _ => False
def spX6_end : Nat → CD := spF mdX6_end fun i => match i with
  | _ => noR
set_option maxHeartbeats 4000000 in
set_option maxRecDepth 100000 in
theorem sat_X6_end : Sat mX6_end s_endC 0 0 1 := by
  refine sat_of (E := eX6_end) (sp := spX6_end) (ini := false) (by decide +kernel) (fun h => by cases h) okX6_end (fun i => match i with
    | _ => ⟨sat_no _, Nat.le_of_ble_eq_true rfl⟩) ?_
  intro as S post h
  match as, h with
  | [.inr (.inr (some u)), .inl s], h =>
    obtain ⟨h1, h2, h⟩ := h
    refine body0 60 rfl ?_
    cases hv : S.2.2 u 8 with
    | none =>
      unfold endS at h
      rw [hv] at h
      repeat' (first
          | omega
          | with_reducible apply And.intro
          | (intro c9; (try simp only [mg, mf, colK, stK, clK, mnK, shN] at c9))
          | exact ⟨9, h1⟩
          | (have y : S.2.2 u 8 = _ := c9; rw [hv] at y; cases y; done)
          | exact kr_i ( h ) (Nat.le_of_ble_eq_true rfl) (Nat.le_of_ble_eq_true rfl)
          | (simp only [mg, mf, colK, stK, clK, mnK, shN]; omega)
          | refine Exists.intro _ (And.intro rfl ?_)
          | refine Exists.intro _ (And.intro (hv) ?_)
          | ((with_reducible show wp _ _ _ _ _ _ _ _ _ _ _ _ _ _); conv => whnf)
          | ((with_reducible show callK _ _ _ _ _ _ _ _ _); conv => whnf)
          | ((with_reducible show condK _ _ _ _ _); conv => whnf)
          | ((with_reducible show st1 _ _ _ _ _ _ _ _ _ _ _ _); conv => whnf)
          | ((with_reducible show (Prod.fst _ : Spec) _ _ _); conv => whnf)
          | ((with_reducible show shortK _ _); conv => whnf)
          | exact Nat.le_of_ble_eq_true rfl)
      all_goals trace_state
    | some v =>
      have h3 := h2 v hv
      unfold endS at h
      rw [hv] at h
      repeat' (first
          | omega
          | with_reducible apply And.intro
          | (intro c9; (try simp only [mg, mf, colK, stK, clK, mnK, shN] at c9))
          | exact ⟨9, h1⟩
          | exact ⟨9, h3⟩
          | (have y : S.2.2 u 8 = _ := c9; rw [hv] at y; cases y; done)
          | exact kr_i ( h ) (Nat.le_of_ble_eq_true rfl) (Nat.le_of_ble_eq_true rfl)
          | (simp only [mg, mf, colK, stK, clK, mnK, shN]; omega)
          | refine Exists.intro _ (And.intro rfl ?_)
          | refine Exists.intro _ (And.intro (hv) ?_)
          | ((with_reducible show wp _ _ _ _ _ _ _ _ _ _ _ _ _ _); conv => whnf)
          | ((with_reducible show callK _ _ _ _ _ _ _ _ _); conv => whnf)
          | ((with_reducible show condK _ _ _ _ _); conv => whnf)
          | ((with_reducible show st1 _ _ _ _ _ _ _ _ _ _ _ _); conv => whnf)
          | ((with_reducible show (Prod.fst _ : Spec) _ _ _); conv => whnf)
          | ((with_reducible show shortK _ _); conv => whnf)
          | exact Nat.le_of_ble_eq_true rfl)
      all_goals trace_state
theorem endS_1 {S : Sto} {u : Nat} {s : Int} : (endS S u s).1 = S.1 := by unfold endS; split <;> rfl
theorem endS_2 {S : Sto} {u : Nat} {s : Int} {t k : Nat} : (endS S u s).2.1 t k = if t = u ∧ k = 4 then s else S.2.1 t k := by unfold endS; split <;> rfl
theorem endS_3 {S : Sto} {u : Nat} {s : Int} {t k : Nat} : (endS S u s).2.2 t k = if t = u ∧ k = 8 then none else if S.2.2 u 8 = some t ∧ k = 4 then none else S.2.2 t k := by
  unfold endS
  split
  · rename_i e
    rw [updI_3, e]
    by_cases z : t = u ∧ k = 8
    · rw [if_pos z, z.1, z.2, e]
    · rw [if_neg z, if_neg (by rintro ⟨a, -⟩; cases a)]
  · rename_i v e
    rw [updR_3, updR_3, updI_3, e]
    by_cases z : t = u ∧ k = 8
    · rw [if_pos z, if_pos z]
    · rw [if_neg z, if_neg z]
      by_cases y : t = v ∧ k = 4
      · rw [if_pos y, if_pos ⟨by rw [y.1], y.2⟩]
      · rw [if_neg y, if_neg (fun w => y ⟨(Option.some.inj w.1).symm, w.2⟩)]
theorem dgC.endS {S : Sto} {T n : Nat} {q : Nat → Nat} {b : Nat → Int} {m : Nat} (h : dgC S T n q b m) {u : Nat} {s : Int} (hu : S.1 u = some (2, 9)) (hv : ∀ v, S.2.2 u 8 = some v → S.1 v = some (1, 9)) : dgC (endS S u s) T n q b m := h.fr endS_1 (fun t ht => by
  funext k
  rw [endS_3, if_neg (fun z => by rw [z.1, hu] at ht; rcases ht with ht | ht <;> cases ht), if_neg (fun z => by rw [hv t z.1] at ht; rcases ht with ht | ht <;> cases ht)]) fun t ht => by
  funext k
  rw [endS_2, if_neg (fun z => by rw [z.1, hu] at ht; cases ht)]
theorem orC.endS {S : Sto} {u T w : Nat} {s : Int} (h : orC S u T) (hv : ∀ v, S.2.2 w 8 = some v → S.1 v = some (1, 9)) : orC (endS S w s) u T := by
  obtain ⟨o1, o2, o3, o4⟩ := h
  refine ⟨by rw [endS_1]; exact o1, ?_, by rw [endS_1]; exact o3, ?_⟩
  · rw [endS_3, if_neg (by omega), if_neg (by omega)]; exact o2
  · rw [endS_3, if_neg (by omega), if_neg (by omega)]; exact o4
theorem CW.orv {W : GW} {S : Sto} (h : CW W S) {o : Nat} (ho : (o : Int) < S.2.1 1 7) : ∀ v, S.2.2 (2048 + 16 * o) 8 = some v → S.1 v = some (1, 9) := fun v hv => by
  obtain ⟨-, -, -, -, -, -, -, hj⟩ := h.2.2.2.2.1 o ho
  rcases hj with e | ⟨i, i1, i2, -⟩
  · rw [e] at hv; cases hv
  · rw [i2] at hv
    have := Option.some.inj hv
    rw [← this]
    exact (h.2.2.2.1 i i1).2.1.1
def s_cancelC : Spec := fun as S post => match as with
  | [.inr (.inr (some 1)), .inl o] => ∃ W, CW W S ∧ InR o ∧ (¬ (0 ≤ o ∧ o < S.2.1 1 7) → post (.inr 0) S) ∧ ((0 ≤ o ∧ o < S.2.1 1 7) → ∃ u, u = 2048 + 16 * o.toNat ∧ ((S.2.1 u 4 = 2 ∨ S.2.1 u 4 = 3) → post (.inr 2) S) ∧
    ((S.2.1 u 4 ≠ 2 ∧ S.2.1 u 4 ≠ 3) → ∀ S', obj u [5, 6, 7] (endS S u 3) S' → S'.2.1 u 5 = 0 → S'.2.1 u 6 = 0 → S'.2.1 u 7 = S.2.1 u 7 + (S.2.1 u 5 * W.m (W.g o.toNat) + S.2.1 u 6) → post (.inl (some (vI (S.2.1 u 5 * W.m (W.g o.toNat) + S.2.1 u 6)))) S'))
  | _ => False
def spX6_cancel : Nat → CD := spF mdX6_cancel fun i => match i with
  | 1 => (s_orderAt, 1, 6, 1)
  | 2 => (s_endC, 0, 0, 1)
  | 3 => (s_wasteAll, 0, 0, 1)
  | _ => noR
set_option maxHeartbeats 4000000 in
set_option maxRecDepth 100000 in
theorem sat_X6_cancel : Sat mX6_cancel s_cancelC 2 12 12 := by
  refine sat_of (E := eX6_cancel) (sp := spX6_cancel) (ini := false) (by decide +kernel) (fun h => by cases h) okX6_cancel (fun i => match i with
    | 1 => ⟨sat_X6_orderAt, Nat.le_of_ble_eq_true rfl⟩
    | 2 => ⟨sat_X6_end, Nat.le_of_ble_eq_true rfl⟩
    | 3 => ⟨sat_X2_wasteAll, Nat.le_of_ble_eq_true rfl⟩
    | i + 4 => ⟨sat_no _, Nat.le_of_ble_eq_true rfl⟩
    | 0 => ⟨sat_no _, Nat.le_of_ble_eq_true rfl⟩) ?_
  intro as S post h
  match as, h with
  | [.inr (.inr (some 1)), .inl o], h =>
    obtain ⟨W, hW, hd, hA, hB⟩ := h
    have hr := hW.r7
    have hc := hW.1
    refine body0 60 rfl ?_
    by_cases z : 0 ≤ o ∧ o < S.2.1 1 7
    · obtain ⟨u, hu, hB, hB2⟩ := hB z
      obtain ⟨hT, hO, hg, hp, -⟩ := hW.or z
      have hv := hW.orv (o := o.toNat) (by omega)
      have hD := (hW.2.2.1 _ hg).2.1
      rw [← hu] at hT hO hv hp
      have o1 := hO.1
      have hO2 := hO.endS (s := 3) hv
      have hD2 := hD.endS (s := 3) o1 hv
      have e5 : ∀ k, k ≠ 4 → (endS S u 3).2.1 u k = S.2.1 u k := fun k hk => by rw [endS_2, if_neg (fun y => hk y.2)]
      rw [← e5 5 (by omega), ← e5 6 (by omega), ← e5 7 (by omega)] at hB2
      repeat' (first
          | omega
          | with_reducible apply And.intro
          | (intro c9; (try simp only [mg, mf, colK, stK, clK, mnK, shN] at c9))
          | exact hc
          | exact ⟨9, hc.1⟩
          | exact ⟨9, o1⟩
          | rw [hT]
          | exact hB (by omega)
          | exact And.intro o1 (And.intro hv ?_)
          | refine And.intro o1 (And.intro hv ?_)
          | exact ⟨9, by rw [endS_1]; exact o1⟩
          | refine ⟨_, _, _, _, _, hO2, hD2, ?_⟩
          | exact hB2 (by omega) _ (by assumption) (by assumption) (by assumption) (by assumption)
          | (simp only [mg, mf, colK, stK, clK, mnK, shN]; omega)
          | refine Exists.intro _ (And.intro rfl ?_)
          | refine Exists.intro _ (And.intro (hT) ?_)
          | ((with_reducible show wp _ _ _ _ _ _ _ _ _ _ _ _ _ _); conv => whnf)
          | ((with_reducible show callK _ _ _ _ _ _ _ _ _); conv => whnf)
          | ((with_reducible show condK _ _ _ _ _); conv => whnf)
          | ((with_reducible show st1 _ _ _ _ _ _ _ _ _ _ _ _); conv => whnf)
          | ((with_reducible show (Prod.fst _ : Spec) _ _ _); conv => whnf)
          | ((with_reducible show shortK _ _); conv => whnf)
          | exact Nat.le_of_ble_eq_true rfl)
    · repeat' (first
          | omega
          | with_reducible apply And.intro
          | (intro c9; (try simp only [mg, mf, colK, stK, clK, mnK, shN] at c9))
          | exact hc
          | exact ⟨9, hc.1⟩
          | exact hA (by omega)
          | (simp only [mg, mf, colK, stK, clK, mnK, shN]; omega)
          | refine Exists.intro _ (And.intro rfl ?_)
          | ((with_reducible show wp _ _ _ _ _ _ _ _ _ _ _ _ _ _); conv => whnf)
          | ((with_reducible show callK _ _ _ _ _ _ _ _ _); conv => whnf)
          | ((with_reducible show condK _ _ _ _ _); conv => whnf)
          | ((with_reducible show st1 _ _ _ _ _ _ _ _ _ _ _ _); conv => whnf)
          | ((with_reducible show (Prod.fst _ : Spec) _ _ _); conv => whnf)
          | ((with_reducible show shortK _ _); conv => whnf)
          | exact Nat.le_of_ble_eq_true rfl)
def s_snapC : Spec := fun as S post => match as with
  | [.inr (.inr (some 1)), .inl i] => ∃ W, CW W S ∧ InR i ∧ (¬ (0 ≤ i ∧ i < S.2.1 1 5) → post (.inr 0) S) ∧ ((0 ≤ i ∧ i < S.2.1 1 5) → (S.2.2 (1024 + 16 * i.toNat) 4 = none → post (.inr 2) S) ∧
    ∀ o u g, u = 2048 + 16 * o → g = W.g o → (o : Int) < S.2.1 1 7 → S.2.2 (1024 + 16 * i.toNat) 4 = some u → ((∀ p, ¬ inP (W.n g) (W.b g) (S.2.1 u 6 - 1) p) → post (.inr 2) S) ∧
      ∀ p k, inP (W.n g) (W.b g) (S.2.1 u 6 - 1) p → k = (if 5 ≤ S.2.1 u 6 - W.b g p then 5 else S.2.1 u 6 - W.b g p) → post (.inl (some (vI k))) (updI (updI S u 6 (S.2.1 u 6 - k)) u 7 (S.2.1 u 7 + k)))
  | _ => False
def spX6_snap : Nat → CD := spF mdX6_snap fun i => match i with
  | 1 => (s_machineAt, 1, 6, 1)
  | 2 => (s_shapeOf, 0, 0, 2)
  | 3 => (s_min, 0, 0, 1)
  | _ => noR
set_option maxHeartbeats 4000000 in
set_option maxRecDepth 100000 in
theorem sat_X6_snap : Sat mX6_snap s_snapC 2 12 12 := by
  refine sat_of (E := eX6_snap) (sp := spX6_snap) (ini := false) (by decide +kernel) (fun h => by cases h) okX6_snap (fun i => match i with
    | 1 => ⟨sat_X6_machineAt, Nat.le_of_ble_eq_true rfl⟩
    | 2 => ⟨sat_X0_shapeOf, Nat.le_of_ble_eq_true rfl⟩
    | 3 => ⟨sat_J9_min_7cf53, Nat.le_of_ble_eq_true rfl⟩
    | i + 4 => ⟨sat_no _, Nat.le_of_ble_eq_true rfl⟩
    | 0 => ⟨sat_no _, Nat.le_of_ble_eq_true rfl⟩) ?_
  intro as S post h
  match as, h with
  | [.inr (.inr (some 1)), .inl i], h =>
    obtain ⟨W, hW, hd, hA, hB⟩ := h
    have hr := hW.r5
    have hc := hW.1
    refine body0 120 rfl ?_
    by_cases z : 0 ≤ i ∧ i < S.2.1 1 5
    · obtain ⟨hB1, hB2⟩ := hB z
      obtain ⟨hT, ⟨m1, m2, m3⟩, -, -, -, hj⟩ := hW.mc z
      rcases hj with hj | ⟨o, ho, hj, -⟩
      · repeat' (first
            | omega
            | with_reducible apply And.intro
            | (intro c9; (try simp only [mg, mf, colK, stK, clK, mnK, shN] at c9))
            | exact hc
            | exact ⟨9, hc.1⟩
            | exact ⟨9, m1⟩
            | (rw [hj] at c9; cases c9; done)
            | exact hB1 hj
            | (simp only [mg, mf, colK, stK, clK, mnK, shN]; omega)
            | refine Exists.intro _ (And.intro rfl ?_)
            | refine Exists.intro _ (And.intro (hT) ?_)
            | refine Exists.intro _ (And.intro (hj) ?_)
            | ((with_reducible show wp _ _ _ _ _ _ _ _ _ _ _ _ _ _); conv => whnf)
            | ((with_reducible show callK _ _ _ _ _ _ _ _ _); conv => whnf)
            | ((with_reducible show condK _ _ _ _ _); conv => whnf)
            | ((with_reducible show st1 _ _ _ _ _ _ _ _ _ _ _ _); conv => whnf)
            | ((with_reducible show (Prod.fst _ : Spec) _ _ _); conv => whnf)
            | ((with_reducible show shortK _ _); conv => whnf)
            | exact Nat.le_of_ble_eq_true rfl)
      · obtain ⟨hA2, hB3⟩ := hB2 o _ _ rfl rfl ho hj
        obtain ⟨-, ⟨o1, o2, o3, o4⟩, hg, -, -, h6, -⟩ := hW.2.2.2.2.1 o ho
        have hD := (hW.2.2.1 _ hg).2.1
        have hD2 := hD
        obtain ⟨d1, d2, d3, d4, d5, d6, d7, d8⟩ := hD2
        generalize hu : 2048 + 16 * o = u at *
        have e7 : ∀ v, (updI S u 6 v).2.1 u 7 = S.2.1 u 7 := fun v => by rw [updI_2, if_neg (by omega)]
        repeat' (first
            | omega
            | with_reducible apply And.intro
            | (intro c9; (try simp only [mg, mf, colK, stK, clK, mnK, shN, e7] at c9))
            | (with_reducible (have q9 : (_ = none ∧ ∀ p, ¬ inP _ _ _ p) ∨ _ := c9; clear q9; rcases c9 with ⟨rfl, c7⟩ | ⟨c6, rfl, c7⟩))
            | (with_reducible (have q9 : (none : Option Nat) = some _ := c9; cases q9))
            | (with_reducible (have q9 : some (_ : Nat) = none := c9; cases q9))
            | exact hc
            | exact ⟨9, hc.1⟩
            | exact ⟨9, m1⟩
            | exact ⟨9, o1⟩
            | exact ⟨9, d1⟩
            | rw [hj]
            | rw [gfR (ci := 2) o4 rfl]
            | refine ⟨_, _, _, _, hD, ?_, ?_⟩
            | (rw [hj] at c9; cases c9; done)
            | exact hA2 c7
            | exact ⟨5, (d8 c6 c7.1).2.1⟩
            | (have y := hD.rng (p := c6) (Nat.le_of_lt c7.1); rw [(d8 c6 c7.1).2.2.1]; omega)
            | (rw [(d8 c6 c7.1).2.2.1] at c9; rw [e7]; exact hB3 c6 _ c7 c9)
            | (simp only [mg, mf, colK, stK, clK, mnK, shN, e7]; omega)
            | refine Exists.intro _ (And.intro rfl ?_)
            | refine Exists.intro _ (And.intro (hT) ?_)
            | refine Exists.intro _ (And.intro (hj) ?_)
            | refine Exists.intro _ (And.intro (o4) ?_)
            | ((with_reducible show wp _ _ _ _ _ _ _ _ _ _ _ _ _ _); conv => whnf)
            | ((with_reducible show callK _ _ _ _ _ _ _ _ _); conv => whnf)
            | ((with_reducible show condK _ _ _ _ _); conv => whnf)
            | ((with_reducible show st1 _ _ _ _ _ _ _ _ _ _ _ _); conv => whnf)
            | ((with_reducible show (Prod.fst _ : Spec) _ _ _); conv => whnf)
            | ((with_reducible show shortK _ _); conv => whnf)
            | exact Nat.le_of_ble_eq_true rfl)
    · repeat' (first
          | omega
          | with_reducible apply And.intro
          | (intro c9; (try simp only [mg, mf, colK, stK, clK, mnK, shN] at c9))
          | exact hc
          | exact ⟨9, hc.1⟩
          | exact hA (by omega)
          | (simp only [mg, mf, colK, stK, clK, mnK, shN]; omega)
          | refine Exists.intro _ (And.intro rfl ?_)
          | ((with_reducible show wp _ _ _ _ _ _ _ _ _ _ _ _ _ _); conv => whnf)
          | ((with_reducible show callK _ _ _ _ _ _ _ _ _); conv => whnf)
          | ((with_reducible show condK _ _ _ _ _); conv => whnf)
          | ((with_reducible show st1 _ _ _ _ _ _ _ _ _ _ _ _); conv => whnf)
          | ((with_reducible show (Prod.fst _ : Spec) _ _ _); conv => whnf)
          | ((with_reducible show shortK _ _); conv => whnf)
          | exact Nat.le_of_ble_eq_true rfl)
theorem isB_t {r : Int} {P : Prop} (h : isB r P) (hr : r ≠ 0) : P := by
  rcases h with ⟨a, b⟩ | ⟨a, b⟩
  · first | exact b | exact a
  · omega
theorem isB_f {r : Int} {P : Prop} (h : isB r P) (hr : r = 0) : ¬ P := by
  rcases h with ⟨a, b⟩ | ⟨a, b⟩
  · omega
  · first | exact b | exact a
def s_matchC : Spec := fun as S post => match as with
  | [.inr (.inr (some 1)), .inl o, .inl c, .inl s] => ∃ W, CW W S ∧ (InR o ∧ InR c ∧ InR s) ∧ (¬ (0 ≤ o ∧ o < S.2.1 1 7 ∧ 0 ≤ c ∧ c < 6 ∧ 0 ≤ s ∧ s < 3) → post (.inr 0) S) ∧
    ((0 ≤ o ∧ o < S.2.1 1 7 ∧ 0 ≤ c ∧ c < 6 ∧ 0 ≤ s ∧ s < 3) → ∃ u g nd, u = 2048 + 16 * o.toNat ∧ g = W.g o.toNat ∧ nd = S.2.1 u 2 * ndS S (W.q g) (W.b g) c (W.n g) ∧
      (¬ (S.2.1 u 4 = 1 ∧ nd ≠ 0 ∧ S.2.1 (u + 1) c.toNat ≠ s ∧ nd ≤ spK S 8 c s) → post (.inr 2) S) ∧
      ((S.2.1 u 4 = 1 ∧ nd ≠ 0 ∧ S.2.1 (u + 1) c.toNat ≠ s ∧ nd ≤ spK S 8 c s) →
        (¬ (0 < S.2.1 u 5 ∨ ∃ p : Nat, p < W.n g ∧ S.2.1 (W.q g p) 1 = c ∧ W.b g p < S.2.1 u 6) → post (.inl (some (vI 0))) (updI S (u + 1) c.toNat s)) ∧
        ((0 < S.2.1 u 5 ∨ ∃ p : Nat, p < W.n g ∧ S.2.1 (W.q g p) 1 = c ∧ W.b g p < S.2.1 u 6) → ∀ S', obj u [5, 6, 7] (updI S (u + 1) c.toNat s) S' → S'.2.1 u 5 = 0 → S'.2.1 u 6 = 0 → S'.2.1 u 7 = S.2.1 u 7 + (S.2.1 u 5 * W.m g + S.2.1 u 6) → post (.inl (some (vI (S.2.1 u 5 + if 0 < S.2.1 u 6 then 1 else 0)))) S')))
  | _ => False
def spX6_match : Nat → CD := spF mdX6_match fun i => match i with
  | 1 => (s_orderAt, 1, 6, 1)
  | 2 => (s_isColour, 0, 0, 1)
  | 3 => (s_isShade, 0, 0, 1)
  | 4 => (s_orNeed, 0, 0, 2)
  | 5 => (s_shade, 0, 0, 1)
  | 6 => (s_count, 0, 0, 2)
  | 7 => (s_setShade, 0, 0, 1)
  | 8 => (s_hasSewn, 0, 0, 1)
  | 9 => (s_wasteAll, 0, 0, 1)
  | _ => noR
set_option maxHeartbeats 4000000 in
set_option maxRecDepth 100000 in
theorem sat_X6_match : Sat mX6_match s_matchC 2 12 12 := by
  refine sat_of (E := eX6_match) (sp := spX6_match) (ini := false) (by decide +kernel) (fun h => by cases h) okX6_match (fun i => match i with
    | 1 => ⟨sat_X6_orderAt, Nat.le_of_ble_eq_true rfl⟩
    | 2 => ⟨sat_X6_isColour, Nat.le_of_ble_eq_true rfl⟩
    | 3 => ⟨sat_X6_isShade, Nat.le_of_ble_eq_true rfl⟩
    | 4 => ⟨sat_X2_need, Nat.le_of_ble_eq_true rfl⟩
    | 5 => ⟨sat_X2_shade, Nat.le_of_ble_eq_true rfl⟩
    | 6 => ⟨sat_X5_count, Nat.le_of_ble_eq_true rfl⟩
    | 7 => ⟨sat_X2_setShade, Nat.le_of_ble_eq_true rfl⟩
    | 8 => ⟨sat_X2_hasSewn, Nat.le_of_ble_eq_true rfl⟩
    | 9 => ⟨sat_X2_wasteAll, Nat.le_of_ble_eq_true rfl⟩
    | i + 10 => ⟨sat_no _, Nat.le_of_ble_eq_true rfl⟩
    | 0 => ⟨sat_no _, Nat.le_of_ble_eq_true rfl⟩) ?_
  intro as S post h
  match as, h with
  | [.inr (.inr (some 1)), .inl o, .inl c, .inl s], h =>
    obtain ⟨W, hW, hd, hA, hB⟩ := h
    have hr := hW.r7
    have hc := hW.1
    obtain ⟨f1, f2, f3, f4, f5, f6, -, -, -, -, f11, fn⟩ := hW.1
    by_cases z : 0 ≤ o ∧ o < S.2.1 1 7
    · by_cases z2 : 0 ≤ c ∧ c < 6 ∧ 0 ≤ s ∧ s < 3
      · obtain ⟨u, g, nd, hu, hg0, hnd, hB1, hB2⟩ := hB ⟨z.1, z.2, z2.1, z2.2.1, z2.2.2.1, z2.2.2.2⟩
        obtain ⟨hT, hO, hg, hp, h5, h6, hsh, -⟩ := hW.or z
        have hD := (hW.2.2.1 _ hg).2.1
        have hst := hW.2.2.2.2.2 (3 * c + s) (by omega) (by omega)
        have hsp : 0 ≤ spK S 8 c s ∧ spK S 8 c s ≤ 1000000 := hst
        rw [← hg0] at hD h6 hO
        rw [← hu] at hT hO hp h5 h6 hsh
        have hO2 := hO
        obtain ⟨o1, o2, o3, o4⟩ := hO2
        have hnr := ndS_r hD (c := c) (W.n g) (Nat.le_refl _)
        rw [hD.2.2.2.2.2.2.1.2.1] at hnr
        have hm := hD.2.2.2.2.2.1.2.2.2
        have hmul : 0 ≤ nd ∧ nd ≤ 112000 := ⟨by rw [hnd]; exact Int.mul_nonneg (by omega) hnr.1, by
          have := Int.mul_le_mul hp.2.1 (show ndS S (W.q g) (W.b g) c (W.n g) ≤ 2240 by omega) hnr.1 (by omega : (0 : Int) ≤ 50)
          rw [hnd]; omega⟩
        have hsc := hsh c.toNat (by omega)
        have hD3 : dgC (updI S (u + 1) c.toNat s) (4096 + 16 * g) (W.n g) (W.q g) (W.b g) (W.m g) := hD.updI (by rw [o3]; simp)
        have hO3 : orC (updI S (u + 1) c.toNat s) u (4096 + 16 * g) := hO
        have e1 : ∀ k, (updI S (u + 1) c.toNat s).2.1 u k = S.2.1 u k := fun k => by rw [updI_2, if_neg (by omega)]
        have e2 : ∀ p, p < W.n g → (updI S (u + 1) c.toNat s).2.1 (W.q g p) 1 = S.2.1 (W.q g p) 1 := fun p hp => by
          have y := (hD.2.2.2.2.2.2.2 p hp).2.1
          rw [updI_2, if_neg (fun w => by rw [w.1, o3] at y; cases y)]
        have e3 : (0 < S.2.1 u 5 ∨ ∃ p : Nat, p < W.n g ∧ (updI S (u + 1) c.toNat s).2.1 (W.q g p) 1 = c ∧ W.b g p < S.2.1 u 6) = (0 < S.2.1 u 5 ∨ ∃ p : Nat, p < W.n g ∧ S.2.1 (W.q g p) 1 = c ∧ W.b g p < S.2.1 u 6) :=
          propext ⟨fun w => w.imp_right (fun ⟨p, p1, p2, p3⟩ => ⟨p, p1, by rw [← e2 p p1]; exact p2, p3⟩), fun w => w.imp_right (fun ⟨p, p1, p2, p3⟩ => ⟨p, p1, by rw [e2 p p1]; exact p2, p3⟩)⟩
        rw [← e3] at hB2
        have hK : (if 0 ≤ c ∧ c < 6 then S.2.1 (u + 1) c.toNat else -1) = S.2.1 (u + 1) c.toNat := if_pos ⟨z2.1, z2.2.1⟩
        have hK2 : (if 0 ≤ c ∧ c < 6 ∧ 0 ≤ s ∧ s < 3 then spK S 8 c s else 0) = spK S 8 c s := if_pos z2
        refine body0 200 rfl ?_
        repeat' (first
            | omega
            | with_reducible apply And.intro
            | (intro c9; (try simp only [mg, mf, colK, stK, clK, mnK, shN, e1] at c9))
            | exact hc
            | exact ⟨9, f1⟩
            | exact ⟨9, o1⟩
            | exact ⟨1, f11.1⟩
            | rw [hT]
            | rw [gfR (ci := 6) f6 rfl]
            | rw [hK]
            | rw [hK2]
            | rw [← hnd]
            | refine ⟨_, _, _, _, _, hO3, hD3, ⟨hd.2.1, by rw [e1]; exact ⟨by omega, by omega⟩, by rw [e1]; exact ⟨by omega, by omega⟩⟩, ?_⟩
            | refine ⟨_, _, _, _, _, hO, hD, hd.2.1, ?_⟩
            | refine And.intro ⟨o1, o2, o3⟩ (And.intro hd.2.1 ?_)
            | refine And.intro ⟨o1, o2, o3⟩ (And.intro ⟨z2.1, z2.2.1⟩ ?_)
            | refine And.intro f11 (And.intro ⟨hd.2.1, hd.2.2⟩ ?_)
            | exact hB1 (by omega)
            | refine ⟨_, _, _, _, _, hO3, hD3, ?_⟩
            | exact (hB2 (by omega)).1 (isB_f (by assumption) (by omega))
            | rw [e1]
            | (simp only [mg, mf, colK, stK, clK, mnK, shN, e1]; omega)
            | refine Exists.intro _ (And.intro rfl ?_)
            | refine Exists.intro _ (And.intro (hT) ?_)
            | refine Exists.intro _ (And.intro (f6) ?_)
            | ((with_reducible show wp _ _ _ _ _ _ _ _ _ _ _ _ _ _); conv => whnf)
            | ((with_reducible show callK _ _ _ _ _ _ _ _ _); conv => whnf)
            | ((with_reducible show condK _ _ _ _ _); conv => whnf)
            | ((with_reducible show st1 _ _ _ _ _ _ _ _ _ _ _ _); conv => whnf)
            | ((with_reducible show (Prod.fst _ : Spec) _ _ _); conv => whnf)
            | ((with_reducible show shortK _ _); conv => whnf)
            | exact Nat.le_of_ble_eq_true rfl)
        all_goals
          have hP : 0 < S.2.1 u 5 ∨ ∃ p : Nat, p < W.n g ∧ (updI S (u + 1) c.toNat s).2.1 (W.q g p) 1 = c ∧ W.b g p < S.2.1 u 6 := isB_t (by assumption) (by assumption)
          have hQ : S.2.1 u 4 = 1 ∧ nd ≠ 0 ∧ S.2.1 (u + 1) c.toNat ≠ s ∧ nd ≤ spK S 8 c s := ⟨by assumption, by assumption, by assumption, by assumption⟩
          have y := (hB2 hQ).2 hP _ (by assumption) (by assumption) (by assumption) (by assumption)
          clear hK hK2 hP e3
          first
            | (rw [if_pos (by assumption)] at y; exact y)
            | (rw [if_neg (by omega)] at y; exact y)
      · have hO := (hW.or z).2.1.1
        have hT := (hW.or z).1
        refine body0 200 rfl ?_
        repeat' (first
            | omega
            | with_reducible apply And.intro
            | (intro c9; (try simp only [mg, mf, colK, stK, clK, mnK, shN] at c9))
            | exact hc
            | exact ⟨9, f1⟩
            | exact hA (by omega)
            | (simp only [mg, mf, colK, stK, clK, mnK, shN]; omega)
            | refine Exists.intro _ (And.intro rfl ?_)
            | refine Exists.intro _ (And.intro (hT) ?_)
            | ((with_reducible show wp _ _ _ _ _ _ _ _ _ _ _ _ _ _); conv => whnf)
            | ((with_reducible show callK _ _ _ _ _ _ _ _ _); conv => whnf)
            | ((with_reducible show condK _ _ _ _ _); conv => whnf)
            | ((with_reducible show st1 _ _ _ _ _ _ _ _ _ _ _ _); conv => whnf)
            | ((with_reducible show (Prod.fst _ : Spec) _ _ _); conv => whnf)
            | ((with_reducible show shortK _ _); conv => whnf)
            | exact Nat.le_of_ble_eq_true rfl)
    · refine body0 200 rfl ?_
      repeat' (first
          | omega
          | with_reducible apply And.intro
          | (intro c9; (try simp only [mg, mf, colK, stK, clK, mnK, shN] at c9))
          | exact hc
          | exact ⟨9, hc.1⟩
          | exact hA (by omega)
          | (simp only [mg, mf, colK, stK, clK, mnK, shN]; omega)
          | refine Exists.intro _ (And.intro rfl ?_)
          | ((with_reducible show wp _ _ _ _ _ _ _ _ _ _ _ _ _ _); conv => whnf)
          | ((with_reducible show callK _ _ _ _ _ _ _ _ _); conv => whnf)
          | ((with_reducible show condK _ _ _ _ _); conv => whnf)
          | ((with_reducible show st1 _ _ _ _ _ _ _ _ _ _ _ _); conv => whnf)
          | ((with_reducible show (Prod.fst _ : Spec) _ _ _); conv => whnf)
          | ((with_reducible show shortK _ _); conv => whnf)
          | exact Nat.le_of_ble_eq_true rfl)
theorem dgC.cover {S : Sto} {T n : Nat} {q : Nat → Nat} {b : Nat → Int} {m : Nat} (h : dgC S T n q b m) {x : Int} (x0 : 0 ≤ x) : ∀ k, k ≤ n → x < b k → ∃ p, inP n b x p
  | 0, _, hx => by rw [h.2.2.2.2.2.2.1.1] at hx; omega
  | k + 1, hk, hx => by
    by_cases e : x < b k
    · exact h.cover x0 k (by omega) e
    · exact ⟨k, by omega, by omega, hx⟩
def strE (W : GW) (S : Sto) (i o p : Nat) (c s k : Int) (S4 : Sto) : Prop := ∃ S2 S3, sewP (updI S 9 (3 * c + s).toNat (spK S 8 c s + -k)) (1024 + 16 * i) (W.h i) c.toNat k S2 ∧ obj (2048 + 16 * o) [5, 6] S2 S3 ∧
  S3.2.1 (2048 + 16 * o) 6 = (if S.2.1 (2048 + 16 * o) 6 + k = W.m (W.g o) then 0 else S.2.1 (2048 + 16 * o) 6 + k) ∧ S3.2.1 (2048 + 16 * o) 5 = (if S.2.1 (2048 + 16 * o) 6 + k = W.m (W.g o) then S.2.1 (2048 + 16 * o) 5 + 1 else S.2.1 (2048 + 16 * o) 5) ∧
  ((S3.2.1 (2048 + 16 * o) 5 = S.2.1 (2048 + 16 * o) 2 ∧ S4 = endS S3 (2048 + 16 * o) 2) ∨ (S3.2.1 (2048 + 16 * o) 5 ≠ S.2.1 (2048 + 16 * o) 2 ∧ S4 = S3))
/-- the stretch that a machine sews: the place p of its shape, its colour, its shade, how many -/
def strP (W : GW) (S : Sto) (o : Nat) (most : Int) (p : Nat) (c s k : Int) : Prop := inP (W.n (W.g o)) (W.b (W.g o)) (S.2.1 (2048 + 16 * o) 6) p ∧ c = S.2.1 (W.q (W.g o) p) 1 ∧ s = S.2.1 (2048 + 16 * o + 1) c.toNat ∧
  ∃ th r, th = (if 0 ≤ s then spK S 8 c s else 0) ∧ r = (if most ≤ th then most else th) ∧ k = (if r ≤ W.b (W.g o) (p + 1) - S.2.1 (2048 + 16 * o) 6 then r else W.b (W.g o) (p + 1) - S.2.1 (2048 + 16 * o) 6)
def s_sewStretch : Spec := fun as S post => match as with
  | [.inr (.inr (some 1)), .inr (.inr (some v)), .inl most] => ∃ W i, v = 1024 + 16 * i ∧ CW W S ∧ (i : Int) < S.2.1 1 5 ∧ (1 ≤ most ∧ most ≤ 100000) ∧ (S.2.2 v 4 = none → post (.inl (some (vI 0))) S) ∧
    ∀ (o p : Nat) (c s k : Int), (o : Int) < S.2.1 1 7 → S.2.2 v 4 = some (2048 + 16 * o) → strP W S o most p c s k → (k ≤ 0 → post (.inl (some (vI 0))) S) ∧ (0 < k → ∀ S4, strE W S i o p c s k S4 → post (.inl (some (vI k))) S4)
  | _ => False
def spX6_sewStretch : Nat → CD := spF mdX6_sewStretch fun i => match i with
  | 1 => (s_shapeOf, 0, 0, 2)
  | 2 => (s_shade, 0, 0, 1)
  | 3 => (s_count, 0, 0, 2)
  | 4 => (s_min, 0, 0, 1)
  | 5 => (s_add, 0, 0, 2)
  | 6 => (s_mcSew, 0, 0, 3)
  | 7 => (s_orSew, 0, 0, 1)
  | 8 => (s_endC, 0, 0, 1)
  | _ => noR
set_option maxHeartbeats 4000000 in
set_option maxRecDepth 100000 in
theorem sat_X6_sewStretch : Sat mX6_sewStretch s_sewStretch 0 0 4 := by
  refine sat_of (E := eX6_sewStretch) (sp := spX6_sewStretch) (ini := false) (by decide +kernel) (fun h => by cases h) okX6_sewStretch (fun i => match i with
    | 1 => ⟨sat_X0_shapeOf, Nat.le_of_ble_eq_true rfl⟩
    | 2 => ⟨sat_X2_shade, Nat.le_of_ble_eq_true rfl⟩
    | 3 => ⟨sat_X5_count, Nat.le_of_ble_eq_true rfl⟩
    | 4 => ⟨sat_J9_min_7cf53, Nat.le_of_ble_eq_true rfl⟩
    | 5 => ⟨sat_X5_add, Nat.le_of_ble_eq_true rfl⟩
    | 6 => ⟨sat_X1_sew, Nat.le_of_ble_eq_true rfl⟩
    | 7 => ⟨sat_X2_sew, Nat.le_of_ble_eq_true rfl⟩
    | 8 => ⟨sat_X6_end, Nat.le_of_ble_eq_true rfl⟩
    | i + 9 => ⟨sat_no _, Nat.le_of_ble_eq_true rfl⟩
    | 0 => ⟨sat_no _, Nat.le_of_ble_eq_true rfl⟩) ?_
  intro as S post h
  match as, h with
  | [.inr (.inr (some 1)), .inr (.inr (some v)), .inl most], h =>
    obtain ⟨W, i, rfl, hW, hi, hm0, hA, hB⟩ := h
    have hc := hW.1
    obtain ⟨f1, f2, f3, f4, f5, f6, f7, f8, f9, f10, f11, fn⟩ := hW.1
    obtain ⟨hT, ⟨m1, m2, m3⟩, mh, ml, mr, hj⟩ := hW.2.2.2.1 i hi
    rcases hj with hj | ⟨o, ho, hj, -⟩
    · refine body0 200 rfl ?_
      repeat' (first
          | omega
          | with_reducible apply And.intro
          | (intro c9; (try simp only [mg, mf, colK, stK, clK, mnK, shN] at c9))
          | exact ⟨9, m1⟩
          | (rw [hj] at c9; cases c9; done)
          | exact hA hj
          | (simp only [mg, mf, colK, stK, clK, mnK, shN]; omega)
          | refine Exists.intro _ (And.intro rfl ?_)
          | refine Exists.intro _ (And.intro (hj) ?_)
          | ((with_reducible show wp _ _ _ _ _ _ _ _ _ _ _ _ _ _); conv => whnf)
          | ((with_reducible show callK _ _ _ _ _ _ _ _ _); conv => whnf)
          | ((with_reducible show condK _ _ _ _ _); conv => whnf)
          | ((with_reducible show st1 _ _ _ _ _ _ _ _ _ _ _ _); conv => whnf)
          | ((with_reducible show (Prod.fst _ : Spec) _ _ _); conv => whnf)
          | ((with_reducible show shortK _ _); conv => whnf)
          | exact Nat.le_of_ble_eq_true rfl)
    · have hv := hW.orv ho
      obtain ⟨-, hO, hg, hp, h5, h6, hsh, -⟩ := hW.2.2.2.2.1 o ho
      have hD := (hW.2.2.1 _ hg).2.1
      have hO2 := hO
      obtain ⟨o1, o2, o3, o4⟩ := hO2
      have hD2 := hD
      obtain ⟨d1, d2, d3, d4, d5, d6, d7, d8⟩ := hD2
      refine bodyL [(31, fun ms L st S' cc => ∃ p, L = [vT 1, vT (1024 + 16 * i), vI most, vT (2048 + 16 * o), vT (W.q (W.g o) p), uu, uu, uu] ∧ st = [] ∧ S' = S ∧ cc = (0, 0) ∧ ms = 2 ∧ inP (W.n (W.g o)) (W.b (W.g o)) (S.2.1 (2048 + 16 * o) 6) p), (86, fun ms L st S' cc => ∃ p c s th k, L = [vT 1, vT (1024 + 16 * i), vI most, vT (2048 + 16 * o), vT (W.q (W.g o) p), vI s, vI th, vI k] ∧ st = [] ∧ S' = S ∧ cc = (0, 0) ∧ ms = 1 ∧ strP W S o most p c s k ∧ 0 < k ∧ 0 ≤ s), (120, fun ms L st S' cc => ∃ p c s th k S2, L = [vT 1, vT (1024 + 16 * i), vI most, vT (2048 + 16 * o), vT (W.q (W.g o) p), vI s, vI th, vI k] ∧ st = [] ∧ cc = (0, 0) ∧ ms = 0 ∧ strP W S o most p c s k ∧ 0 < k ∧ sewP (updI S 9 (3 * c + s).toNat (spK S 8 c s + -k)) (1024 + 16 * i) (W.h i) c.toNat k S2 ∧ obj (2048 + 16 * o) [5, 6] S2 S' ∧
          S'.2.1 (2048 + 16 * o) 6 = (if S.2.1 (2048 + 16 * o) 6 + k = W.m (W.g o) then 0 else S.2.1 (2048 + 16 * o) 6 + k) ∧ S'.2.1 (2048 + 16 * o) 5 = (if S.2.1 (2048 + 16 * o) 6 + k = W.m (W.g o) then S.2.1 (2048 + 16 * o) 5 + 1 else S.2.1 (2048 + 16 * o) 5))] 3 140 rfl
        (List.forall_mem_cons.mpr ⟨?_, List.forall_mem_cons.mpr ⟨?_, List.forall_mem_cons.mpr ⟨?_, fun q hq => by cases hq⟩⟩⟩) ?_
      · rintro ms L st S' cc ⟨p, rfl, rfl, rfl, rfl, rfl, a1⟩
        obtain ⟨y1, y2, y3, y4, y5, y6⟩ := d8 p a1.1
        have y7 := hD.rng (p := p) (Nat.le_of_lt a1.1)
        have y8 := hD.rng (p := p + 1) a1.1
        obtain ⟨c, hcc⟩ : ∃ c, c = S'.2.1 (W.q (W.g o) p) 1 := ⟨_, rfl⟩
        rw [← hcc] at y5 y6
        have hs3 := hsh c.toNat (by omega)
        obtain ⟨s, hss⟩ : ∃ s, s = S'.2.1 (2048 + 16 * o + 1) c.toNat := ⟨_, rfl⟩
        rw [← hss] at hs3
        obtain ⟨th, hth⟩ : ∃ th, th = (if 0 ≤ s then spK S' 8 c s else 0) := ⟨_, rfl⟩
        have hK : (if 0 ≤ c ∧ c < 6 then s else -1) = s := if_pos ⟨y5, y6⟩
        have hK2 : (if 0 ≤ c ∧ c < 6 ∧ 0 ≤ s ∧ s < 3 then spK S' 8 c s else 0) = th := by
          rw [hth]
          by_cases e : 0 ≤ s
          · rw [if_pos e, if_pos ⟨y5, y6, e, hs3.2⟩]
          · rw [if_neg e, if_neg (fun w => e w.2.2.1)]
        have hst : 0 ≤ th ∧ th ≤ 1000000 ∧ (s < 0 → th = 0) := by
          rw [hth]
          by_cases e : 0 ≤ s
          · rw [if_pos e]
            have z := hW.2.2.2.2.2 (3 * c + s) (by omega) (by omega)
            have z2 : 0 ≤ spK S' 8 c s ∧ spK S' 8 c s ≤ 1000000 := z
            exact ⟨z2.1, z2.2, fun w => by omega⟩
          · rw [if_neg e]; exact ⟨by omega, by omega, fun _ => rfl⟩
        have y9 : S'.2.1 (2048 + 16 * o) 6 < W.b (W.g o) (p + 1) ∧ W.b (W.g o) p ≤ S'.2.1 (2048 + 16 * o) 6 := ⟨a1.2.2, a1.2.1⟩
        repeat' (first
            | omega
            | with_reducible apply And.intro
            | (intro c9; (try simp only [mg, mf, colK, stK, clK, mnK, shN] at c9))
            | exact ⟨9, m1⟩
            | exact ⟨9, o1⟩
            | exact ⟨5, y2⟩
            | exact ⟨9, f1⟩
            | exact ⟨1, f11.1⟩
            | rw [← hcc]
            | rw [← hss]
            | rw [hK]
            | rw [hK2]
            | rw [y4]
            | rw [gfR (ci := 6) f6 rfl]
            | (refine And.intro ⟨o1, o2, o3⟩ (And.intro ⟨by omega, by omega⟩ ?_))
            | (refine And.intro f11 (And.intro ⟨⟨by omega, by omega⟩, ⟨by omega, by omega⟩⟩ ?_))
            | (simp only [mg, mf, colK, stK, clK, mnK, shN]; omega)
            | refine Exists.intro _ (And.intro rfl ?_)
            | refine Exists.intro _ (And.intro (hj) ?_)
            | ((with_reducible show wp _ _ _ _ _ _ _ _ _ _ _ _ _ _); conv => whnf)
            | ((with_reducible show callK _ _ _ _ _ _ _ _ _); conv => whnf)
            | ((with_reducible show condK _ _ _ _ _); conv => whnf)
            | ((with_reducible show st1 _ _ _ _ _ _ _ _ _ _ _ _); conv => whnf)
            | ((with_reducible show (Prod.fst _ : Spec) _ _ _); conv => whnf)
            | ((with_reducible show shortK _ _); conv => whnf)
            | exact Nat.le_of_ble_eq_true rfl)
        · rename_i r hr k hk
          refine ⟨1, by omega, p, c, s, th, k, rfl, rfl, rfl, rfl, rfl, ⟨a1, hcc, hss, th, r, hth, hr, hk⟩, c9, ?_⟩
          by_cases e : 0 ≤ s
          · exact e
          · exfalso
            have t0 := hst.2.2 (by omega)
            have t1 : r ≤ 0 := by rw [hr, t0]; split <;> omega
            have t2 : k ≤ 0 := by rw [hk]; split <;> omega
            omega
        · rename_i r hr k hk
          exact (hB o p c s k ho hj ⟨a1, hcc, hss, th, r, hth, hr, hk⟩).1 c9
      · rintro ms L st S' cc ⟨p, c, s, th, k, rfl, rfl, rfl, rfl, rfl, hP, hk, hs⟩
        have hE := (hB o p c s k ho hj hP).2 hk
        have hP0 := hP
        obtain ⟨a1, a2, a3, th0, r0, a4, a5, a6⟩ := hP
        obtain ⟨y1, y2, y3, y4, y5, y6⟩ := d8 p a1.1
        have y7 := hD.rng (p := p) (Nat.le_of_lt a1.1)
        have y8 := hD.rng (p := p + 1) a1.1
        have hs3 := hsh c.toNat (by rw [← a2] at y5 y6; omega)
        rw [← a3] at hs3
        rw [← a2] at y5 y6
        have hkm : k ≤ W.b (W.g o) (p + 1) - S'.2.1 (2048 + 16 * o) 6 := by rw [a6]; split <;> omega
        clear a4 a5 a6
        have q9 : W.q (W.g o) p ≠ 9 := fun e => by rw [e, f11.2.2] at y2; cases y2
        have a2' : (updI S' 9 (3 * c + s).toNat (spK S' 8 c s + -k)).2.1 (W.q (W.g o) p) 1 = c := by rw [updI_2, if_neg (fun w => q9 w.1)]; exact a2.symm
        have hm1 : mcC (updI S' 9 (3 * c + s).toNat (spK S' 8 c s + -k)) (1024 + 16 * i) := ⟨m1, m2, m3⟩
        have hm2 : hlC (updI S' 9 (3 * c + s).toNat (spK S' 8 c s + -k)) (1024 + 16 * i) (W.h i) := ⟨mh.1, by rw [updI_2, if_neg (by omega)]; exact mh.2⟩
        have hm3 : ∀ j : Nat, j < 6 → InR ((updI S' 9 (3 * c + s).toNat (spK S' 8 c s + -k)).2.1 (1024 + 16 * i + 1) j) := fun j hj => by rw [updI_2, if_neg (by omega)]; exact ml j hj
        have hm4 : (updI S' 9 (3 * c + s).toNat (spK S' 8 c s + -k)).2.1 (1024 + 16 * i) 1 = S'.2.1 (1024 + 16 * i) 1 := by rw [updI_2, if_neg (by omega)]
        have hD1 : dgC (updI S' 9 (3 * c + s).toNat (spK S' 8 c s + -k)) (4096 + 16 * W.g o) (W.n (W.g o)) (W.q (W.g o)) (W.b (W.g o)) (W.m (W.g o)) := hD.updI (by rw [f11.2.2]; simp)
        have hO1 : orC (updI S' 9 (3 * c + s).toNat (spK S' 8 c s + -k)) (2048 + 16 * o) (4096 + 16 * W.g o) := hO
        have hO5 : ∀ j, (updI S' 9 (3 * c + s).toNat (spK S' 8 c s + -k)).2.1 (2048 + 16 * o) j = S'.2.1 (2048 + 16 * o) j := fun j => by rw [updI_2, if_neg (by omega)]
        have hT1 : (updI S' 9 (3 * c + s).toNat (spK S' 8 c s + -k)).1 = S'.1 := rfl
        have hT2 : (updI S' 9 (3 * c + s).toNat (spK S' 8 c s + -k)).2.2 = S'.2.2 := rfl
        have hF : ∀ S2, sewP (updI S' 9 (3 * c + s).toNat (spK S' 8 c s + -k)) (1024 + 16 * i) (W.h i) c.toNat k S2 → orC S2 (2048 + 16 * o) (4096 + 16 * W.g o) ∧ dgC S2 (4096 + 16 * W.g o) (W.n (W.g o)) (W.q (W.g o)) (W.b (W.g o)) (W.m (W.g o)) ∧ (∀ j, S2.2.1 (2048 + 16 * o) j = S'.2.1 (2048 + 16 * o) j) ∧ S2.1 (2048 + 16 * o) = some (2, 9) := fun S2 e => by
          obtain ⟨e1, e2, e3, -⟩ := e
          have t1 : 1024 + 16 * i ≠ 2048 + 16 * o := fun w => by rw [w, o1] at m1; cases m1
          have t2 : 1024 + 16 * i + 1 ≠ 2048 + 16 * o := fun w => by rw [w, o1] at m3; cases m3
          refine ⟨⟨by rw [e1]; exact o1, by rw [e2]; exact o2, by rw [e1]; exact o3, by rw [e2]; exact o4⟩, hD1.fr e1 (fun t _ => by rw [e2]) (fun t ht => e3 t (fun w => ?_) (fun w => ?_)), fun j => by rw [e3 _ (Ne.symm t1) (Ne.symm t2)]; exact hO5 j, by rw [e1]; exact o1⟩
          · rw [w] at ht
            exact absurd (m1.symm.trans ht) (by simp)
          · rw [w] at ht
            exact absurd (m3.symm.trans ht) (by simp)
        clear hE
        have hy2 : (updI S' 9 (3 * c + s).toNat (spK S' 8 c s + -k)).1 (W.q (W.g o) p) = some (4, 5) := y2
        generalize hX : updI S' 9 (3 * c + s).toNat (spK S' 8 c s + -k) = X at *
        repeat' (first
            | omega
            | with_reducible apply And.intro
            | (intro c9; (try simp only [mg, mf, colK, stK, clK, mnK, shN] at c9))
            | exact ⟨9, m1⟩
            | exact ⟨9, hm1.1⟩
            | exact ⟨5, hy2⟩
            | exact ⟨5, y2⟩
            | exact ⟨9, f1⟩
            | exact ⟨1, f11.1⟩
            | rw [← a2]
            | rw [a2']
            | rw [hX]
            | rw [gfR (ci := 6) f6 rfl]
            | (refine And.intro f11 (And.intro (by omega) ?_))
            | refine ⟨_, hm1, hm2, hm3, ⟨y5, y6, by rw [hm4]; omega⟩, ?_⟩
            | exact ⟨9, (hF _ c9).2.2.2⟩
            | (obtain ⟨z1, z2, z3, z4⟩ := hF _ c9; refine ⟨_, _, _, _, _, z1, z2, ⟨by omega, by rw [z3]; omega, by rw [z3]; omega⟩, ?_⟩)
            | (simp only [mg, mf, colK, stK, clK, mnK, shN]; omega)
            | refine Exists.intro _ (And.intro rfl ?_)
            | refine Exists.intro _ (And.intro (hj) ?_)
            | ((with_reducible show wp _ _ _ _ _ _ _ _ _ _ _ _ _ _); conv => whnf)
            | ((with_reducible show callK _ _ _ _ _ _ _ _ _); conv => whnf)
            | ((with_reducible show condK _ _ _ _ _); conv => whnf)
            | ((with_reducible show st1 _ _ _ _ _ _ _ _ _ _ _ _); conv => whnf)
            | ((with_reducible show (Prod.fst _ : Spec) _ _ _); conv => whnf)
            | ((with_reducible show shortK _ _); conv => whnf)
            | exact Nat.le_of_ble_eq_true rfl)
        all_goals
          rename_i S2 hsw S3 hob e6
          rw [z3 6] at e6
          rw [z3 6, z3 5] at c9
          exact ⟨0, by omega, p, c, s, th, k, S2, rfl, rfl, rfl, rfl, hP0, hk, by rw [hX]; exact hsw, hob, e6, c9⟩
      · rintro ms L st S' cc ⟨p, c, s, th, k, S2, rfl, rfl, rfl, rfl, hP, hk, hsw, hob, e6, e5⟩
        have hE := (hB o p c s k ho hj hP).2 hk
        have t1 : 1024 + 16 * i ≠ 2048 + 16 * o := fun w => by rw [w, o1] at m1; cases m1
        have t2 : 1024 + 16 * i + 1 ≠ 2048 + 16 * o := fun w => by rw [w, o1] at m3; cases m3
        have q1 : S'.1 = S.1 := hob.1.trans hsw.1
        have q3 : S'.2.2 = S.2.2 := hob.2.1.trans hsw.2.1
        have qu : S'.1 (2048 + 16 * o) = some (2, 9) := by rw [q1]; exact o1
        have q2 : S'.2.1 (2048 + 16 * o) 2 = S.2.1 (2048 + 16 * o) 2 := by
          rw [hob.2.2.2 2 (by simp), hsw.2.2.1 _ (Ne.symm t1) (Ne.symm t2), updI_2, if_neg (by omega)]
        have q5 : 0 ≤ S'.2.1 (2048 + 16 * o) 5 ∧ S'.2.1 (2048 + 16 * o) 5 ≤ 51 := by rw [e5]; split <;> omega
        have qv : ∀ v, S'.2.2 (2048 + 16 * o) 8 = some v → S'.1 v = some (1, 9) := fun v hv' => by rw [q1]; rw [q3] at hv'; exact hv v hv'
        repeat' (first
            | omega
            | with_reducible apply And.intro
            | (intro c9; (try simp only [mg, mf, colK, stK, clK, mnK, shN] at c9))
            | exact ⟨9, qu⟩
            | rw [q2]
            | refine And.intro qu (And.intro qv ?_)
            | exact hE _ ⟨S2, S', hsw, hob, e6, e5, Or.inl ⟨c9, rfl⟩⟩
            | exact hE _ ⟨S2, S', hsw, hob, e6, e5, Or.inr ⟨c9, rfl⟩⟩
            | (simp only [mg, mf, colK, stK, clK, mnK, shN]; omega)
            | refine Exists.intro _ (And.intro rfl ?_)
            | ((with_reducible show wp _ _ _ _ _ _ _ _ _ _ _ _ _ _); conv => whnf)
            | ((with_reducible show callK _ _ _ _ _ _ _ _ _); conv => whnf)
            | ((with_reducible show condK _ _ _ _ _); conv => whnf)
            | ((with_reducible show st1 _ _ _ _ _ _ _ _ _ _ _ _); conv => whnf)
            | ((with_reducible show (Prod.fst _ : Spec) _ _ _); conv => whnf)
            | ((with_reducible show shortK _ _); conv => whnf)
            | exact Nat.le_of_ble_eq_true rfl)
      · repeat' (first
            | omega
            | with_reducible apply And.intro
            | (intro c9; (try simp only [mg, mf, colK, stK, clK, mnK, shN] at c9))
            | exact ⟨9, m1⟩
            | exact ⟨9, o1⟩
            | exact absurd (hj.symm.trans (c9 : _ = none)) (by simp)
            | rw [hj]
            | rw [gfR (ci := 2) o4 rfl]
            | exact ⟨9, d1⟩
            | refine ⟨_, _, _, _, hD, ?_, ?_⟩
            | (with_reducible (have q9 : (_ = none ∧ ∀ p, ¬ inP _ _ _ p) ∨ _ := c9; clear q9; rcases c9 with ⟨rfl, c7⟩ | ⟨c6, rfl, c7⟩))
            | (with_reducible (have q9 : (none : Option Nat) = some _ := c9; cases q9))
            | (with_reducible (have q9 : some (_ : Nat) = none := c9; cases q9))
            | exact ⟨2, by omega, c6, rfl, rfl, rfl, rfl, rfl, c7⟩
            | (exfalso; obtain ⟨p, hp⟩ := hD.cover h6.1 _ (Nat.le_refl _) (by rw [d7.2.1]; exact h6.2); exact c7 p hp)
            | (simp only [mg, mf, colK, stK, clK, mnK, shN]; omega)
            | refine Exists.intro _ (And.intro rfl ?_)
            | refine Exists.intro _ (And.intro (hj) ?_)
            | ((with_reducible show wp _ _ _ _ _ _ _ _ _ _ _ _ _ _); conv => whnf)
            | ((with_reducible show callK _ _ _ _ _ _ _ _ _); conv => whnf)
            | ((with_reducible show condK _ _ _ _ _); conv => whnf)
            | ((with_reducible show st1 _ _ _ _ _ _ _ _ _ _ _ _); conv => whnf)
            | ((with_reducible show (Prod.fst _ : Spec) _ _ _); conv => whnf)
            | ((with_reducible show shortK _ _); conv => whnf)
            | exact Nat.le_of_ble_eq_true rfl)
/-- J is kept by a machine's stretches: so it holds where it stops -/
def s_runC : Spec := fun as S post => match as with
  | [.inr (.inr (some 1)), .inl m, .inl st] => ∃ W, CW W S ∧ (InR m ∧ InR st) ∧ (¬ (0 ≤ m ∧ m < S.2.1 1 5) → post (.inr 0) S) ∧ ((0 ≤ m ∧ m < S.2.1 1 5) → ¬ (1 ≤ st ∧ st ≤ 100000) → post (.inr 1) S) ∧
    ((0 ≤ m ∧ m < S.2.1 1 5) → (1 ≤ st ∧ st ≤ 100000) → (S.2.2 (1024 + 16 * m.toNat) 4 = none → post (.inr 2) S) ∧
      (S.2.2 (1024 + 16 * m.toNat) 4 ≠ none → ∃ J : Int → Sto → Prop, J 0 S ∧ (∀ S1, J st S1 → post (.inl (some (vI st))) S1) ∧
        ∀ x S1, 0 ≤ x → x < st → J x S1 → ∃ W1, CW W1 S1 ∧ m < S1.2.1 1 5 ∧ (S1.2.2 (1024 + 16 * m.toNat) 4 = none → post (.inl (some (vI x))) S1) ∧
          ∀ (o p : Nat) (c s k : Int), (o : Int) < S1.2.1 1 7 → S1.2.2 (1024 + 16 * m.toNat) 4 = some (2048 + 16 * o) → strP W1 S1 o (st - x) p c s k → (k ≤ 0 → post (.inl (some (vI x))) S1) ∧ (0 < k → k ≤ st - x ∧ ∀ S4, strE W1 S1 m.toNat o p c s k S4 → J (x + k) S4)))
  | _ => False
def spX6_run : Nat → CD := spF mdX6_run fun i => match i with
  | 1 => (s_machineAt, 1, 6, 1)
  | 2 => (s_isFrom1To, 0, 0, 1)
  | 3 => (s_sewStretch, 0, 0, 4)
  | _ => noR
set_option maxHeartbeats 4000000 in
set_option maxRecDepth 100000 in
theorem sat_X6_run : Sat mX6_run s_runC 2 12 12 := by
  refine sat_of (E := eX6_run) (sp := spX6_run) (ini := false) (by decide +kernel) (fun h => by cases h) okX6_run (fun i => match i with
    | 1 => ⟨sat_X6_machineAt, Nat.le_of_ble_eq_true rfl⟩
    | 2 => ⟨sat_X6_isFrom1To, Nat.le_of_ble_eq_true rfl⟩
    | 3 => ⟨sat_X6_sewStretch, Nat.le_of_ble_eq_true rfl⟩
    | i + 4 => ⟨sat_no _, Nat.le_of_ble_eq_true rfl⟩
    | 0 => ⟨sat_no _, Nat.le_of_ble_eq_true rfl⟩) ?_
  intro as S post h
  match as, h with
  | [.inr (.inr (some 1)), .inl m, .inl st], h =>
    obtain ⟨W, hW, hd, hA, hA1, hB⟩ := h
    have hr := hW.r5
    have hc := hW.1
    by_cases z : 0 ≤ m ∧ m < S.2.1 1 5
    · obtain ⟨hT, ⟨m1, m2, m3⟩, -, -, -, hj⟩ := hW.mc z
      by_cases zs : 1 ≤ st ∧ st ≤ 100000
      · obtain ⟨hB1, hB2⟩ := hB z zs
        rcases hj with hj | ⟨o, ho, hj, -⟩
        · refine body0 200 rfl ?_
          repeat' (first
              | omega
              | with_reducible apply And.intro
              | (intro c9; (try simp only [mg, mf, colK, stK, clK, mnK, shN] at c9))
              | exact hc
              | exact ⟨9, hc.1⟩
              | exact ⟨9, m1⟩
              | (rw [hj] at c9; cases c9; done)
              | exact hB1 hj
              | (simp only [mg, mf, colK, stK, clK, mnK, shN]; omega)
              | refine Exists.intro _ (And.intro rfl ?_)
              | refine Exists.intro _ (And.intro (hT) ?_)
              | refine Exists.intro _ (And.intro (hj) ?_)
              | ((with_reducible show wp _ _ _ _ _ _ _ _ _ _ _ _ _ _); conv => whnf)
              | ((with_reducible show callK _ _ _ _ _ _ _ _ _); conv => whnf)
              | ((with_reducible show condK _ _ _ _ _); conv => whnf)
              | ((with_reducible show st1 _ _ _ _ _ _ _ _ _ _ _ _); conv => whnf)
              | ((with_reducible show (Prod.fst _ : Spec) _ _ _); conv => whnf)
              | ((with_reducible show shortK _ _); conv => whnf)
              | exact Nat.le_of_ble_eq_true rfl)
        · obtain ⟨J, hJ0, hJ1, hJ⟩ := hB2 (by rw [hj]; simp)
          refine bodyL [(48, fun ms L st' S' cc => ∃ x j a6, L = [vT 1, vI m, vI st, vT (1024 + 16 * m.toNat), vI x, vI j, a6] ∧ st' = [] ∧ cc = (1, 6) ∧ ms = (st - x).toNat ∧ 0 ≤ j ∧ j ≤ x ∧ x ≤ st ∧ J x S')] 100001 140 rfl
            (List.forall_mem_cons.mpr ⟨?_, fun q hq => by cases hq⟩) ?_
          · rintro ms L st' S' cc ⟨x, j, a6, rfl, rfl, rfl, rfl, j0, jx, xs, hx⟩
            have e1 : x = st → post (.inl (some (vI x))) S' := fun e => by rw [e]; rw [e] at hx; exact hJ1 S' hx
            have e2 := fun a b => hJ x S' a b hx
            repeat' (first
                | omega
                | with_reducible apply And.intro
                | (intro c9; (try simp only [mg, mf, colK, stK, clK, mnK, shN] at c9))
                | exact e1 (by omega)
                | (obtain ⟨W1, w1, -⟩ := e2 (by omega) (by omega); exact ⟨9, w1.1.1⟩)
                | (obtain ⟨W1, w1, w2, w3, w4⟩ := e2 (by omega) (by omega); refine ⟨W1, m.toNat, rfl, w1, by omega, by omega, ?_, ?_⟩)
                | exact w3 ‹_›
                | exact (w4 _ _ _ _ _ ‹(_ : Int) < S'.2.1 1 7› ‹S'.2.2 _ 4 = some _› ‹strP _ _ _ _ _ _ _ _›).1 ‹_›
                | (have q := ((w4 _ _ _ _ _ ‹(_ : Int) < S'.2.1 1 7› ‹S'.2.2 _ 4 = some _› ‹strP _ _ _ _ _ _ _ _›).2 ‹(0 : Int) < _›).1; omega)
                | (simp only [mg, mf, colK, stK, clK, mnK, shN]; omega)
                | refine Exists.intro _ (And.intro rfl ?_)
                | ((with_reducible show wp _ _ _ _ _ _ _ _ _ _ _ _ _ _); conv => whnf)
                | ((with_reducible show callK _ _ _ _ _ _ _ _ _); conv => whnf)
                | ((with_reducible show condK _ _ _ _ _); conv => whnf)
                | ((with_reducible show st1 _ _ _ _ _ _ _ _ _ _ _ _); conv => whnf)
                | ((with_reducible show (Prod.fst _ : Spec) _ _ _); conv => whnf)
                | ((with_reducible show shortK _ _); conv => whnf)
                | exact Nat.le_of_ble_eq_true rfl)
            · obtain ⟨q1, q2⟩ := (w4 _ _ _ _ _ ‹(_ : Int) < S'.2.1 1 7› ‹S'.2.2 _ 4 = some _› ‹strP _ _ _ _ _ _ _ _›).2 ‹(0 : Int) < _›
              refine ⟨_, ?_, _, _, _, rfl, rfl, rfl, rfl, ?_, ?_, ?_, q2 _ ‹_›⟩ <;> omega
          · repeat' (first
                | omega
                | with_reducible apply And.intro
                | (intro c9; (try simp only [mg, mf, colK, stK, clK, mnK, shN] at c9))
                | exact hc
                | exact ⟨9, hc.1⟩
                | exact ⟨9, m1⟩
                | rw [hT]
                | (rw [hj] at c9; cases c9; done)
                | exact ⟨(st - 0).toNat, by omega, 0, 0, _, rfl, rfl, rfl, rfl, by omega, by omega, by omega, hJ0⟩
                | (simp only [mg, mf, colK, stK, clK, mnK, shN]; omega)
                | refine Exists.intro _ (And.intro rfl ?_)
                | refine Exists.intro _ (And.intro (hT) ?_)
                | refine Exists.intro _ (And.intro (hj) ?_)
                | ((with_reducible show wp _ _ _ _ _ _ _ _ _ _ _ _ _ _); conv => whnf)
                | ((with_reducible show callK _ _ _ _ _ _ _ _ _); conv => whnf)
                | ((with_reducible show condK _ _ _ _ _); conv => whnf)
                | ((with_reducible show st1 _ _ _ _ _ _ _ _ _ _ _ _); conv => whnf)
                | ((with_reducible show (Prod.fst _ : Spec) _ _ _); conv => whnf)
                | ((with_reducible show shortK _ _); conv => whnf)
                | exact Nat.le_of_ble_eq_true rfl)
      · refine body0 200 rfl ?_
        repeat' (first
            | omega
            | with_reducible apply And.intro
            | (intro c9; (try simp only [mg, mf, colK, stK, clK, mnK, shN] at c9))
            | exact hc
            | exact ⟨9, hc.1⟩
            | exact hA1 z zs
            | (simp only [mg, mf, colK, stK, clK, mnK, shN]; omega)
            | refine Exists.intro _ (And.intro rfl ?_)
            | refine Exists.intro _ (And.intro (hT) ?_)
            | ((with_reducible show wp _ _ _ _ _ _ _ _ _ _ _ _ _ _); conv => whnf)
            | ((with_reducible show callK _ _ _ _ _ _ _ _ _); conv => whnf)
            | ((with_reducible show condK _ _ _ _ _); conv => whnf)
            | ((with_reducible show st1 _ _ _ _ _ _ _ _ _ _ _ _); conv => whnf)
            | ((with_reducible show (Prod.fst _ : Spec) _ _ _); conv => whnf)
            | ((with_reducible show shortK _ _); conv => whnf)
            | exact Nat.le_of_ble_eq_true rfl)
    · refine body0 200 rfl ?_
      repeat' (first
          | omega
          | with_reducible apply And.intro
          | (intro c9; (try simp only [mg, mf, colK, stK, clK, mnK, shN] at c9))
          | exact hc
          | exact ⟨9, hc.1⟩
          | exact hA z
          | (simp only [mg, mf, colK, stK, clK, mnK, shN]; omega)
          | refine Exists.intro _ (And.intro rfl ?_)
          | ((with_reducible show wp _ _ _ _ _ _ _ _ _ _ _ _ _ _); conv => whnf)
          | ((with_reducible show callK _ _ _ _ _ _ _ _ _); conv => whnf)
          | ((with_reducible show condK _ _ _ _ _); conv => whnf)
          | ((with_reducible show st1 _ _ _ _ _ _ _ _ _ _ _ _); conv => whnf)
          | ((with_reducible show (Prod.fst _ : Spec) _ _ _); conv => whnf)
          | ((with_reducible show shortK _ _); conv => whnf)
          | exact Nat.le_of_ble_eq_true rfl)
def fillG (S : Sto) (u : Nat) (nd sf : Int → Int) : Nat → Sto
  | 0 => S
  | k + 1 => if 0 < nd k then updI (fillG S u nd sf k) (u + 1) (k : Int).toNat (sf k) else fillG S u nd sf k
theorem fillG_ag {S : Sto} {u : Nat} {nd sf : Int → Int} : ∀ k, k ≤ 6 → obj (u + 1) [0, 1, 2, 3, 4, 5] S (fillG S u nd sf k)
  | 0, _ => obj.rf
  | k + 1, hk => by
    have ih := fillG_ag (S := S) (u := u) (nd := nd) (sf := sf) k (by omega)
    unfold fillG
    split
    · refine ih.upd ?_
      rw [Int.toNat_natCast]
      rcases (show k = 0 ∨ k = 1 ∨ k = 2 ∨ k = 3 ∨ k = 4 ∨ k = 5 by omega) with rfl | rfl | rfl | rfl | rfl | rfl <;> simp
    · exact ih
/-- what an order needs of a colour; the lowest shade that is enough -/
def ndO (W : GW) (S : Sto) (o : Nat) (c : Int) : Int := S.2.1 (2048 + 16 * o) 2 * ndS S (W.q (W.g o)) (W.b (W.g o)) c (W.n (W.g o))
def sfO (W : GW) (S : Sto) (o : Nat) (c : Int) : Int := if ndO W S o c ≤ spK S 8 c 0 then 0 else if ndO W S o c ≤ spK S 8 c 1 then 1 else if ndO W S o c ≤ spK S 8 c 2 then 2 else -1
def canC (W : GW) (S : Sto) (o i : Nat) : Prop := S.2.1 (2048 + 16 * o) 4 = 0 ∧ S.2.2 (1024 + 16 * i) 4 = none ∧ S.2.1 (4096 + 16 * W.g o) 7 ≤ S.2.1 (1024 + 16 * i) 2 ∧ S.2.1 (4096 + 16 * W.g o) 8 ≤ S.2.1 (1024 + 16 * i) 3 ∧ ∀ c : Nat, c < 6 → ndO W S o c ≤ 0 ∨ sfO W S o c ≠ -1
def s_startC : Spec := fun as S post => match as with
  | [.inr (.inr (some 1)), .inl o, .inl m] => ∃ W, CW W S ∧ (InR o ∧ InR m) ∧ (¬ (0 ≤ o ∧ o < S.2.1 1 7 ∧ 0 ≤ m ∧ m < S.2.1 1 5) → post (.inr 0) S) ∧ ((0 ≤ o ∧ o < S.2.1 1 7 ∧ 0 ≤ m ∧ m < S.2.1 1 5) → (¬ canC W S o.toNat m.toNat → post (.inr 2) S) ∧
    (canC W S o.toNat m.toNat → post (.inl none) (updR (updR (updI (fillG S (2048 + 16 * o.toNat) (ndO W S o.toNat) (sfO W S o.toNat) 6) (2048 + 16 * o.toNat) 4 1) (2048 + 16 * o.toNat) 8 (some (1024 + 16 * m.toNat))) (1024 + 16 * m.toNat) 4 (some (2048 + 16 * o.toNat)))))
  | _ => False
def spX6_start : Nat → CD := spF mdX6_start fun i => match i with
  | 1 => (s_orderAt, 1, 6, 1)
  | 2 => (s_machineAt, 1, 6, 1)
  | 3 => (s_orNeed, 0, 0, 2)
  | 4 => (s_shadeForC, 0, 0, 3)
  | 5 => (s_setShade, 0, 0, 1)
  | _ => noR
set_option maxHeartbeats 4000000 in
set_option maxRecDepth 100000 in
theorem sat_X6_start : Sat mX6_start s_startC 3 18 12 := by
  refine sat_of (E := eX6_start) (sp := spX6_start) (ini := false) (by decide +kernel) (fun h => by cases h) okX6_start (fun i => match i with
    | 1 => ⟨sat_X6_orderAt, Nat.le_of_ble_eq_true rfl⟩
    | 2 => ⟨sat_X6_machineAt, Nat.le_of_ble_eq_true rfl⟩
    | 3 => ⟨sat_X2_need, Nat.le_of_ble_eq_true rfl⟩
    | 4 => ⟨sat_X6_shadeFor, Nat.le_of_ble_eq_true rfl⟩
    | 5 => ⟨sat_X2_setShade, Nat.le_of_ble_eq_true rfl⟩
    | i + 6 => ⟨sat_no _, Nat.le_of_ble_eq_true rfl⟩
    | 0 => ⟨sat_no _, Nat.le_of_ble_eq_true rfl⟩) ?_
  intro as S post h
  match as, h with
  | [.inr (.inr (some 1)), .inl o, .inl m], h =>
    obtain ⟨W, hW, hd, hA, hB⟩ := h
    have hr5 := hW.r5
    have hr7 := hW.r7
    have hc := hW.1
    by_cases z : 0 ≤ o ∧ o < S.2.1 1 7
    · by_cases z2 : 0 ≤ m ∧ m < S.2.1 1 5
      · obtain ⟨hB1, hB2⟩ := hB ⟨z.1, z.2, z2.1, z2.2⟩
        obtain ⟨hTo, hO, hg, hp, -⟩ := hW.or z
        obtain ⟨hTm, ⟨m1, m2, m3⟩, -, -, mr, hj⟩ := hW.mc z2
        obtain ⟨-, hD, -, -, -, hwd⟩ := hW.2.2.1 _ hg
        obtain ⟨o1, o2, o3, o4⟩ := hO
        have hj2 : S.2.2 (1024 + 16 * m.toNat) 4 ≠ none → ¬ canC W S o.toNat m.toNat := fun e y => e y.2.1
        unfold canC at hB1 hB2 hj2
        have hnd : ∀ c, 0 ≤ ndO W S o.toNat c ∧ ndO W S o.toNat c ≤ 112000 := fun c => by
          have hnr := ndS_r hD (c := c) _ (Nat.le_refl _)
          rw [hD.2.2.2.2.2.2.1.2.1] at hnr
          have hm := hD.2.2.2.2.2.1.2.2.2
          unfold ndO
          exact ⟨Int.mul_nonneg (by omega) hnr.1, by
            have := Int.mul_le_mul hp.2.1 (show ndS S (W.q (W.g o.toNat)) (W.b (W.g o.toNat)) c (W.n (W.g o.toNat)) ≤ 2240 by omega) hnr.1 (by omega : (0 : Int) ≤ 50)
            omega⟩
        generalize hu : 2048 + 16 * o.toNat = u at *
        generalize hv : 1024 + 16 * m.toNat = v at *
        have hF : ∀ S', obj (u + 1) [0, 1, 2, 3, 4, 5] S S' → cfC S' ∧ orC S' u (4096 + 16 * W.g o.toNat) ∧ dgC S' (4096 + 16 * W.g o.toNat) (W.n (W.g o.toNat)) (W.q (W.g o.toNat)) (W.b (W.g o.toNat)) (W.m (W.g o.toNat)) ∧ (∀ c, S'.2.1 u 2 * ndS S' (W.q (W.g o.toNat)) (W.b (W.g o.toNat)) c (W.n (W.g o.toNat)) = ndO W S o.toNat c) ∧ (∀ c s, spK S' 8 c s = spK S 8 c s) ∧ S'.2.1 u 2 = S.2.1 u 2 := fun S' e => by
          obtain ⟨e1, e2, e3, -⟩ := e
          have u2 := e3 u (by omega)
          refine ⟨?_, ⟨by rw [e1]; exact o1, by rw [e2]; exact o2, by rw [e1]; exact o3, by rw [e2]; exact o4⟩, hD.fr e1 (fun t _ => by rw [e2]) (fun t ht => e3 t (fun y => by rw [y, o3] at ht; cases ht)), fun c => ?_, fun c s => ?_, by rw [u2]⟩
          · exact hc.to e1 e2 (e3 1 (by omega))
          · unfold ndO ndS
            rw [u2, hu]
            refine congrArg _ (sumTo_congr _ fun p hp => ?_)
            rw [e3 _ (fun y => by have := (hD.2.2.2.2.2.2.2 p hp).2.1; rw [y, o3] at this; cases this)]
          · unfold spK
            rw [e3 _ (by omega)]
        refine bodyL [(81, fun ms L st S' cc => ∃ k : Nat, L = [vT 1, vI o, vI m, vT u, vT v, vI k] ∧ st = [] ∧ S' = S ∧ cc = (2, 12) ∧ ms = 20 - k ∧ k ≤ 6 ∧ (S.2.1 u 4 = 0 ∧ S.2.2 v 4 = none ∧ S.2.1 (4096 + 16 * W.g o.toNat) 7 ≤ S.2.1 v 2 ∧ S.2.1 (4096 + 16 * W.g o.toNat) 8 ≤ S.2.1 v 3) ∧ ∀ c : Nat, c < k → ndO W S o.toNat c ≤ 0 ∨ sfO W S o.toNat c ≠ -1),
          (127, fun ms L st S' cc => ∃ k : Nat, L = [vT 1, vI o, vI m, vT u, vT v, vI k] ∧ st = [] ∧ S' = fillG S u (ndO W S o.toNat) (sfO W S o.toNat) k ∧ cc = (2, 12) ∧ ms = 10 - k ∧ k ≤ 6 ∧ post (.inl none) (updR (updR (updI (fillG S u (ndO W S o.toNat) (sfO W S o.toNat) 6) u 4 1) u 8 (some v)) v 4 (some u)))] 22 140 rfl
          (List.forall_mem_cons.mpr ⟨?_, List.forall_mem_cons.mpr ⟨?_, fun q hq => by cases hq⟩⟩) ?_
        · rintro ms L st S' cc ⟨k, rfl, rfl, rfl, rfl, rfl, hk, hcan, hall⟩
          obtain ⟨x1, x2, x3, x4, x5, x6⟩ := hF S' obj.rf
          have hsf : ∀ c, (if ndO W S' o.toNat c ≤ spK S' 8 c 0 then (0 : Int) else if ndO W S' o.toNat c ≤ spK S' 8 c 1 then 1 else if ndO W S' o.toNat c ≤ spK S' 8 c 2 then 2 else -1) = sfO W S' o.toNat c := fun c => rfl
          have hk3 : sfO W S' o.toNat k = -1 ∨ 0 ≤ sfO W S' o.toNat k ∧ sfO W S' o.toNat k ≤ 2 := by
            unfold sfO
            split
            · omega
            · split
              · omega
              · split <;> omega
          have hn := hnd k
          repeat' (first
              | omega
              | with_reducible apply And.intro
              | (intro c9; (try simp only [mg, mf, colK, stK, clK, mnK, shN] at c9))
              | exact ⟨9, hc.1⟩
              | exact ⟨9, o1⟩
              | rw [x4]
              | rw [hsf]
              | refine ⟨_, _, _, _, _, x2, x3, by omega, ?_⟩
              | refine ⟨_, _, _, _, _, hc, x2, x3, ⟨by omega, by omega, by omega, by omega, hW.2.2.2.2.2⟩, ?_⟩
              | (simp only [mg, mf, colK, stK, clK, mnK, shN]; omega)
              | refine Exists.intro _ (And.intro rfl ?_)
              | ((with_reducible show wp _ _ _ _ _ _ _ _ _ _ _ _ _ _); conv => whnf)
              | ((with_reducible show callK _ _ _ _ _ _ _ _ _); conv => whnf)
              | ((with_reducible show condK _ _ _ _ _); conv => whnf)
              | ((with_reducible show st1 _ _ _ _ _ _ _ _ _ _ _ _); conv => whnf)
              | ((with_reducible show (Prod.fst _ : Spec) _ _ _); conv => whnf)
              | ((with_reducible show shortK _ _); conv => whnf)
              | exact Nat.le_of_ble_eq_true rfl)
          · exact ⟨10, by omega, 0, rfl, rfl, rfl, rfl, rfl, by omega, hB2 ⟨hcan.1, hcan.2.1, hcan.2.2.1, hcan.2.2.2, fun c hc6 => hall c (by omega)⟩⟩
          · exact ⟨20 - (k + 1), by omega, k + 1, by rw [Int.natCast_add]; rfl, rfl, rfl, rfl, rfl, by omega, hcan, fun c hc' => by
              by_cases e : c = k
              · subst e; exact Or.inl c9
              · exact hall c (by omega)⟩
          · exact ⟨20 - (k + 1), by omega, k + 1, by rw [Int.natCast_add]; rfl, rfl, rfl, rfl, rfl, by omega, hcan, fun c hc' => by
              by_cases e : c = k
              · subst e; exact Or.inr c9
              · exact hall c (by omega)⟩
          · refine hB1 (fun y => ?_)
            have y2 := y.2.2.2.2 k (by omega)
            omega
        · rintro ms L st S' cc ⟨k, rfl, rfl, hS', rfl, rfl, hk, hpost⟩
          obtain ⟨x1, x2, x3, x4, x5, x6⟩ := hF S' (by rw [hS']; exact fillG_ag k hk)
          have hsf : ∀ c, (if ndO W S o.toNat c ≤ spK S' 8 c 0 then (0 : Int) else if ndO W S o.toNat c ≤ spK S' 8 c 1 then 1 else if ndO W S o.toNat c ≤ spK S' 8 c 2 then 2 else -1) = sfO W S o.toNat c := fun c => by unfold sfO; rw [x5, x5, x5]
          have t1 : S'.1 = S.1 := by rw [hS']; exact (fillG_ag k hk).1
          have h9 : S'.2.1 9 = S.2.1 9 := by rw [hS']; exact (fillG_ag k hk).2.2.1 9 (by omega)
          have hst : ∀ k : Int, 0 ≤ k → k < 18 → 0 ≤ S'.2.1 9 k.toNat ∧ S'.2.1 9 k.toNat ≤ 1000000 := fun k k0 k1 => by
            have y : S'.2.1 9 = S.2.1 9 := h9
            rw [y]; exact hW.2.2.2.2.2 k k0 k1
          have hn := hnd k
          repeat' (first
              | omega
              | with_reducible apply And.intro
              | (intro c9; (try simp only [mg, mf, colK, stK, clK, mnK, shN] at c9))
              | exact ⟨9, x1.1⟩
              | exact ⟨9, x2.1⟩
              | rw [x4]
              | rw [hsf]
              | refine ⟨_, _, _, _, _, x2, x3, by omega, ?_⟩
              | refine ⟨_, _, _, _, _, x1, x2, x3, ⟨by omega, by omega, by omega, by omega, hst⟩, ?_⟩
              | exact ⟨9, (show S'.1 v = _ by rw [t1]; exact m1)⟩
              | refine And.intro ⟨x2.1, x2.2.1, x2.2.2.1⟩ (And.intro (by omega) ?_)
              | (simp only [mg, mf, colK, stK, clK, mnK, shN]; omega)
              | refine Exists.intro _ (And.intro rfl ?_)
              | ((with_reducible show wp _ _ _ _ _ _ _ _ _ _ _ _ _ _); conv => whnf)
              | ((with_reducible show callK _ _ _ _ _ _ _ _ _); conv => whnf)
              | ((with_reducible show condK _ _ _ _ _); conv => whnf)
              | ((with_reducible show st1 _ _ _ _ _ _ _ _ _ _ _ _); conv => whnf)
              | ((with_reducible show (Prod.fst _ : Spec) _ _ _); conv => whnf)
              | ((with_reducible show shortK _ _); conv => whnf)
              | exact Nat.le_of_ble_eq_true rfl)
          · have e : k = 6 := by omega
            subst e
            rw [hS']; exact hpost
          · exact ⟨10 - (k + 1), by omega, k + 1, by rw [Int.natCast_add]; rfl, rfl, hS'.trans (show fillG S u (ndO W S o.toNat) (sfO W S o.toNat) (k + 1) = _ from if_neg (by omega)).symm, rfl, rfl, by omega, hpost⟩
          · exact ⟨10 - (k + 1), by omega, k + 1, by rw [Int.natCast_add]; rfl, rfl, by rw [hS']; exact (show fillG S u (ndO W S o.toNat) (sfO W S o.toNat) (k + 1) = _ from if_pos c9).symm, rfl, rfl, by omega, hpost⟩
        · repeat' (first
              | omega
              | with_reducible apply And.intro
              | (intro c9; (try simp only [mg, mf, colK, stK, clK, mnK, shN] at c9))
              | exact hc
              | exact ⟨9, hc.1⟩
              | exact ⟨9, o1⟩
              | exact ⟨9, m1⟩
              | exact ⟨9, hD.1⟩
              | rw [hTo]
              | rw [hTm]
              | rw [gfR (ci := 2) o4 rfl]
              | exact ⟨20, by omega, 0, rfl, rfl, rfl, rfl, rfl, by omega, ⟨‹_›, ‹_›, ‹_›, c9⟩, fun c hc' => by omega⟩
              | exact hB1 (fun ⟨y1, y2, y3, y4, _⟩ => by omega)
              | exact hB1 (fun ⟨y1, y2, y3, y4, _⟩ => absurd (y2.symm.trans c9) (by simp))
              | (simp only [mg, mf, colK, stK, clK, mnK, shN]; omega)
              | refine Exists.intro _ (And.intro rfl ?_)
              | refine Exists.intro _ (And.intro (hTo) ?_)
              | refine Exists.intro _ (And.intro (hTm) ?_)
              | ((with_reducible show wp _ _ _ _ _ _ _ _ _ _ _ _ _ _); conv => whnf)
              | ((with_reducible show callK _ _ _ _ _ _ _ _ _); conv => whnf)
              | ((with_reducible show condK _ _ _ _ _); conv => whnf)
              | ((with_reducible show st1 _ _ _ _ _ _ _ _ _ _ _ _); conv => whnf)
              | ((with_reducible show (Prod.fst _ : Spec) _ _ _); conv => whnf)
              | ((with_reducible show shortK _ _); conv => whnf)
              | exact Nat.le_of_ble_eq_true rfl)

      · have hO := (hW.or z).2.1.1
        have hT := (hW.or z).1
        refine body0 200 rfl ?_
        repeat' (first
            | omega
            | with_reducible apply And.intro
            | (intro c9; (try simp only [mg, mf, colK, stK, clK, mnK, shN] at c9))
            | exact hc
            | exact ⟨9, hc.1⟩
            | exact hA (by omega)
            | (simp only [mg, mf, colK, stK, clK, mnK, shN]; omega)
            | refine Exists.intro _ (And.intro rfl ?_)
            | refine Exists.intro _ (And.intro (hT) ?_)
            | ((with_reducible show wp _ _ _ _ _ _ _ _ _ _ _ _ _ _); conv => whnf)
            | ((with_reducible show callK _ _ _ _ _ _ _ _ _); conv => whnf)
            | ((with_reducible show condK _ _ _ _ _); conv => whnf)
            | ((with_reducible show st1 _ _ _ _ _ _ _ _ _ _ _ _); conv => whnf)
            | ((with_reducible show (Prod.fst _ : Spec) _ _ _); conv => whnf)
            | ((with_reducible show shortK _ _); conv => whnf)
            | exact Nat.le_of_ble_eq_true rfl)
    · refine body0 200 rfl ?_
      repeat' (first
          | omega
          | with_reducible apply And.intro
          | (intro c9; (try simp only [mg, mf, colK, stK, clK, mnK, shN] at c9))
          | exact hc
          | exact ⟨9, hc.1⟩
          | exact hA (by omega)
          | (simp only [mg, mf, colK, stK, clK, mnK, shN]; omega)
          | refine Exists.intro _ (And.intro rfl ?_)
          | ((with_reducible show wp _ _ _ _ _ _ _ _ _ _ _ _ _ _); conv => whnf)
          | ((with_reducible show callK _ _ _ _ _ _ _ _ _); conv => whnf)
          | ((with_reducible show condK _ _ _ _ _); conv => whnf)
          | ((with_reducible show st1 _ _ _ _ _ _ _ _ _ _ _ _); conv => whnf)
          | ((with_reducible show (Prod.fst _ : Spec) _ _ _); conv => whnf)
          | ((with_reducible show shortK _ _); conv => whnf)
          | exact Nat.le_of_ble_eq_true rfl)
def wideC (kd wd i : Int) : Int := if kd = 0 then wd else if i + 1 ≤ wd then i + 1 else wd
def rowE (kd x wd i : Int) : Int := bShl (bShl 1 (wideC kd wd i) - 1) x
def rowsF (kd x y wd k : Int) (j : Nat) : Int := if y ≤ j ∧ (j : Int) < y + k then rowE kd x wd (j - y) else 0
/-- but for the ints of r, which are f, S' is S -/
def rwP (S S' : Sto) (r : Nat) (f : Nat → Int) : Prop := S'.1 = S.1 ∧ S'.2.2 = S.2.2 ∧ (∀ t, t ≠ r → S'.2.1 t = S.2.1 t) ∧ ∀ j, S'.2.1 r j = f j
def shNew (X : Sto) (U : Nat) (i c : Int) : Sto := updR (updR (updI (updI (newS X U (4, clN 4)) U 0 i) U 1 c) U 2 (some (U + 1))) 4 i.toNat (some U)
def s_shapeC : Spec := fun as S post => match as with
  | [.inr (.inr (some 1)), .inl kd, .inl c, .inl x, .inl y, .inl w, .inl g] => ∃ W, CW W S ∧ (InR kd ∧ InR c ∧ InR x ∧ InR y ∧ InR w ∧ InR g) ∧ (¬ ((kd = 0 ∨ kd = 1) ∧ 0 ≤ c ∧ c < 6) → post (.inr 0) S) ∧ (((kd = 0 ∨ kd = 1) ∧ 0 ≤ c ∧ c < 6) →
    (¬ ((0 ≤ x ∧ x < 16 ∧ 1 ≤ w ∧ w ≤ 16 - x) ∧ (0 ≤ y ∧ y < 16 ∧ 1 ≤ g ∧ g ≤ 16 - y)) → post (.inr 1) S) ∧ (((0 ≤ x ∧ x < 16 ∧ 1 ≤ w ∧ w ≤ 16 - x) ∧ (0 ≤ y ∧ y < 16 ∧ 1 ≤ g ∧ g ≤ 16 - y)) → (S.2.1 1 1 = 7 → post (.inr 2) S) ∧
      (S.2.1 1 1 < 7 → ∃ U, 9 < U ∧ S.1 U = none ∧ S.1 (U + 1) = none ∧ ∀ X, rwP (newS S (U + 1) (100, 16)) X (U + 1) (rowsF kd x y w g) → post (.inl (some (vI (S.2.1 1 1 + 1)))) (updI (shNew X U (S.2.1 1 1) c) 1 1 (S.2.1 1 1 + 1)))))
  | _ => False
def spX6_shape : Nat → CD := spF mdX6_shape fun i => match i with
  | 1 => (s_isColour, 0, 0, 1)
  | 2 => (s_isSpan, 0, 0, 2)
  | 3 => (s_min, 0, 0, 1)
  | 4 => (s_shInit, 0, 0, 1)
  | _ => noR
set_option maxHeartbeats 4000000 in
set_option maxRecDepth 100000 in
theorem sat_X6_shape : Sat mX6_shape s_shapeC 2 22 12 := by
  refine sat_of (E := eX6_shape) (sp := spX6_shape) (ini := false) (by decide +kernel) (fun h => by cases h) okX6_shape (fun i => match i with
    | 1 => ⟨sat_X6_isColour, Nat.le_of_ble_eq_true rfl⟩
    | 2 => ⟨sat_X6_isSpan, Nat.le_of_ble_eq_true rfl⟩
    | 3 => ⟨sat_J9_min_7cf53, Nat.le_of_ble_eq_true rfl⟩
    | 4 => ⟨sat_X4_init, Nat.le_of_ble_eq_true rfl⟩
    | i + 5 => ⟨sat_no _, Nat.le_of_ble_eq_true rfl⟩
    | 0 => ⟨sat_no _, Nat.le_of_ble_eq_true rfl⟩) ?_
  intro as S post h
  match as, h with
  | [.inr (.inr (some 1)), .inl kd, .inl c, .inl x, .inl y, .inl w, .inl g], h =>
    obtain ⟨W, hW, hd, hA, hB⟩ := h
    obtain ⟨i0, i1, i2, i3, i4, i5⟩ := hd
    have hr := hW.2.1
    have hc := hW.1
    obtain ⟨f1, f2, f3, f4, f5, f6, f7, f8, f9, f10, f11, fn⟩ := hW.1
    by_cases z1 : (kd = 0 ∨ kd = 1) ∧ 0 ≤ c ∧ c < 6
    · obtain ⟨hA1, hB1⟩ := hB z1
      by_cases z2 : (0 ≤ x ∧ x < 16 ∧ 1 ≤ w ∧ w ≤ 16 - x) ∧ (0 ≤ y ∧ y < 16 ∧ 1 ≤ g ∧ g ≤ 16 - y)
      · obtain ⟨hA2, hB2⟩ := hB1 z2
        by_cases z3 : S.2.1 1 1 < 7
        · obtain ⟨U, hU, n1, n2, hB3⟩ := hB2 z3
          have hz : ∀ j, (newS S (U + 1) (100, 16)).2.1 (U + 1) j = rowsF kd x y w ((0 : Nat) : Int) j := fun j => by
            unfold rowsF
            rw [newS_2, if_pos rfl, if_neg (by omega)]
          refine bodyL [(86, fun ms L st S' cc => ∃ (k : Nat) (a9 : AV), L = [vT 1, vI kd, vI c, vI x, vI y, vI w, vI g, vT (U + 1), vI k, a9] ∧ st = [] ∧ cc = (1, 16) ∧ ms = 20 - k ∧ (k : Int) ≤ g ∧ rwP (newS S (U + 1) (100, 16)) S' (U + 1) (rowsF kd x y w k)),
            (145, fun ms L st S' cc => ∃ (a8 a9 : AV), L = [vT 1, vI kd, vI c, vI x, vI y, vI w, vI g, vT (U + 1), a8, a9] ∧ st = [] ∧ cc = (1, 16) ∧ ms = 0 ∧ rwP (newS S (U + 1) (100, 16)) S' (U + 1) (rowsF kd x y w g))] 22 140 rfl
            (List.forall_mem_cons.mpr ⟨?_, List.forall_mem_cons.mpr ⟨?_, fun q hq => by cases hq⟩⟩) ?_
          · rintro ms L st S' cc ⟨k, a9, rfl, rfl, rfl, rfl, hk, hR⟩
            obtain ⟨r1, r2, r3, r4⟩ := hR
            have t1 : S'.1 (U + 1) = some (100, 16) := by rw [r1, newS_1, if_pos rfl]
            have hstep : ∀ v : Int, v = wideC kd w k → rwP (newS S (U + 1) (100, 16)) (updI S' (U + 1) (y + k).toNat (bShl (bShl 1 v - 1) x)) (U + 1) (rowsF kd x y w (k + 1 : Nat)) := fun v hv => by
              refine ⟨r1, r2, fun t ht => ?_, fun j => ?_⟩
              · funext j
                rw [updI_2, if_neg (fun q => ht q.1), r3 t ht]
              · rw [updI_2]
                by_cases e : j = (y + k).toNat
                · rw [if_pos ⟨rfl, e⟩]
                  unfold rowsF
                  rw [if_pos (by omega), show (j : Int) - y = k by omega, hv]
                  rfl
                · rw [if_neg (fun q => e q.2), r4]
                  unfold rowsF
                  by_cases e2 : y ≤ j ∧ (j : Int) < y + k
                  · rw [if_pos e2, if_pos (by omega)]
                  · rw [if_neg e2, if_neg (by omega)]
            repeat' (first
                | omega
                | with_reducible apply And.intro
                | (intro c9; (try simp only [mg, mf, colK, stK, clK, mnK, shN] at c9))
                | exact ⟨100, 16, t1, by omega⟩
                | exact ⟨16, t1, by omega, by omega⟩
                | (simp only [mg, mf, colK, stK, clK, mnK, shN]; omega)
                | refine Exists.intro _ (And.intro rfl ?_)
                | ((with_reducible show wp _ _ _ _ _ _ _ _ _ _ _ _ _ _); conv => whnf)
                | ((with_reducible show callK _ _ _ _ _ _ _ _ _); conv => whnf)
                | ((with_reducible show condK _ _ _ _ _); conv => whnf)
                | ((with_reducible show st1 _ _ _ _ _ _ _ _ _ _ _ _); conv => whnf)
                | ((with_reducible show (Prod.fst _ : Spec) _ _ _); conv => whnf)
                | ((with_reducible show shortK _ _); conv => whnf)
                | exact Nat.le_of_ble_eq_true rfl)
            · have e : (k : Int) = g := by omega
              exact ⟨0, by omega, vI k, a9, rfl, rfl, rfl, rfl, r1, r2, r3, by rw [← e]; exact r4⟩
            · exact ⟨20 - (k + 1), by omega, k + 1, _, by rw [Int.natCast_add]; rfl, rfl, rfl, rfl, by omega, hstep _ (by unfold wideC; rw [if_neg ‹kd ≠ 0›]; exact c9)⟩
            · exact ⟨20 - (k + 1), by omega, k + 1, _, by rw [Int.natCast_add]; rfl, rfl, rfl, rfl, by omega, hstep _ (by unfold wideC; rw [if_pos c9])⟩
          · rintro ms L st S' cc ⟨a8, a9, rfl, rfl, rfl, rfl, hR⟩
            have hB4 := hB3 S' hR
            obtain ⟨r1, r2, r3, r4⟩ := hR
            have t : ∀ t, t ≠ U + 1 → S'.1 t = S.1 t ∧ S'.2.1 t = S.2.1 t ∧ S'.2.2 t = S.2.2 t := fun t ht => ⟨by rw [r1, newS_1, if_neg ht], by rw [r3 t ht]; funext j; rw [newS_2, if_neg ht], by rw [r2]; funext j; rw [newS_3, if_neg ht]⟩
            have t1 : S'.1 1 = some (6, 9) := by rw [(t 1 (by omega)).1]; exact f1
            have t2 : S'.2.2 1 0 = some 4 := by rw [(t 1 (by omega)).2.2]; exact f2
            have t3 : S'.1 4 = some (114, 7) := by rw [(t 4 (by omega)).1]; exact f7
            have t4 : S'.2.1 1 1 = S.2.1 1 1 := by rw [(t 1 (by omega)).2.1]
            have t5 : S'.1 U = none := by rw [(t U (by omega)).1]; exact n1
            have s1 : (newS S' U (4, clN 4)).1 1 = some (6, 9) := by rw [newS_1, if_neg (by omega)]; exact t1
            have sU : (newS S' U (4, clN 4)).1 U = some (4, 5) := by rw [newS_1, if_pos rfl]; rfl
            have hi : (newS S' U (4, clN 4)).2.1 1 1 = S.2.1 1 1 := by rw [newS_2, if_neg (by omega)]; exact t4
            have y1 : (shNew S' U (S.2.1 1 1) c).1 1 = some (6, 9) := s1
            have y4 : (shNew S' U (S.2.1 1 1) c).1 4 = some (114, 7) := by
              show (newS S' U (4, clN 4)).1 4 = _
              rw [newS_1, if_neg (by omega)]; exact t3
            have yU : (shNew S' U (S.2.1 1 1) c).1 U = some (4, 5) := sU
            have y11 : (shNew S' U (S.2.1 1 1) c).2.1 1 1 = S.2.1 1 1 := by
              unfold shNew
              simp only [updR_2, updI_2, newS_2, show ¬ (1 = U) by omega, false_and, if_false]
              exact t4
            have hB5 : post (.inl (some (vI ((updI (shNew S' U (S.2.1 1 1) c) 1 1 ((shNew S' U (S.2.1 1 1) c).2.1 1 1 + 1)).2.1 1 1)))) (updI (shNew S' U (S.2.1 1 1) c) 1 1 ((shNew S' U (S.2.1 1 1) c).2.1 1 1 + 1)) := by
              rw [updI_2, if_pos ⟨rfl, rfl⟩, y11]; exact hB4
            repeat' (first
                | omega
                | with_reducible apply And.intro
                | (intro c9; (try simp only [mg, mf, colK, stK, clK, mnK, shN] at c9))
                | exact ⟨9, t1⟩
                | exact ⟨9, s1⟩
                | exact ⟨9, y1⟩
                | exact sU
                | rw [t4]
                | rw [hi]
                | refine Exists.intro U (And.intro t5 ?_)
                | exact ⟨4, 7, 5, y4, rfl, yU, by omega, by omega⟩
                | exact hB5
                | (simp only [mg, mf, colK, stK, clK, mnK, shN]; omega)
                | refine Exists.intro _ (And.intro rfl ?_)
                | refine Exists.intro _ (And.intro (t2) ?_)
                | ((with_reducible show wp _ _ _ _ _ _ _ _ _ _ _ _ _ _); conv => whnf)
                | ((with_reducible show callK _ _ _ _ _ _ _ _ _); conv => whnf)
                | ((with_reducible show condK _ _ _ _ _); conv => whnf)
                | ((with_reducible show st1 _ _ _ _ _ _ _ _ _ _ _ _); conv => whnf)
                | ((with_reducible show (Prod.fst _ : Spec) _ _ _); conv => whnf)
                | ((with_reducible show shortK _ _); conv => whnf)
                | exact Nat.le_of_ble_eq_true rfl)
          · repeat' (first
                | omega
                | with_reducible apply And.intro
                | (intro c9; (try simp only [mg, mf, colK, stK, clK, mnK, shN] at c9))
                | exact ⟨9, f1⟩
                | refine ⟨114, 7, f7, by omega, ?_⟩
                | refine Exists.intro (U + 1) (And.intro n2 ?_)
                | exact absurd z1.1 (by omega)
                | exact ⟨20, by omega, 0, _, rfl, rfl, rfl, rfl, by omega, rfl, rfl, fun t _ => rfl, hz⟩
                | (simp only [mg, mf, colK, stK, clK, mnK, shN]; omega)
                | refine Exists.intro _ (And.intro rfl ?_)
                | refine Exists.intro _ (And.intro (f2) ?_)
                | ((with_reducible show wp _ _ _ _ _ _ _ _ _ _ _ _ _ _); conv => whnf)
                | ((with_reducible show callK _ _ _ _ _ _ _ _ _); conv => whnf)
                | ((with_reducible show condK _ _ _ _ _); conv => whnf)
                | ((with_reducible show st1 _ _ _ _ _ _ _ _ _ _ _ _); conv => whnf)
                | ((with_reducible show (Prod.fst _ : Spec) _ _ _); conv => whnf)
                | ((with_reducible show shortK _ _); conv => whnf)
                | exact Nat.le_of_ble_eq_true rfl)
        · refine body0 140 rfl ?_
          repeat' (first
              | omega
              | with_reducible apply And.intro
              | (intro c9; (try simp only [mg, mf, colK, stK, clK, mnK, shN] at c9))
              | exact ⟨9, f1⟩
              | refine ⟨114, 7, f7, by omega, ?_⟩
              | exact absurd z1.1 (by omega)
              | exact hA2 (by omega)
              | (simp only [mg, mf, colK, stK, clK, mnK, shN]; omega)
              | refine Exists.intro _ (And.intro rfl ?_)
              | refine Exists.intro _ (And.intro (f2) ?_)
              | ((with_reducible show wp _ _ _ _ _ _ _ _ _ _ _ _ _ _); conv => whnf)
              | ((with_reducible show callK _ _ _ _ _ _ _ _ _); conv => whnf)
              | ((with_reducible show condK _ _ _ _ _); conv => whnf)
              | ((with_reducible show st1 _ _ _ _ _ _ _ _ _ _ _ _); conv => whnf)
              | ((with_reducible show (Prod.fst _ : Spec) _ _ _); conv => whnf)
              | ((with_reducible show shortK _ _); conv => whnf)
              | exact Nat.le_of_ble_eq_true rfl)
      · refine body0 140 rfl ?_
        repeat' (first
            | omega
            | with_reducible apply And.intro
            | (intro c9; (try simp only [mg, mf, colK, stK, clK, mnK, shN] at c9))
            | exact ⟨9, f1⟩
            | exact absurd z1.1 (by omega)
            | exact hA1 (by omega)
            | (simp only [mg, mf, colK, stK, clK, mnK, shN]; omega)
            | refine Exists.intro _ (And.intro rfl ?_)
            | refine Exists.intro _ (And.intro (f2) ?_)
            | ((with_reducible show wp _ _ _ _ _ _ _ _ _ _ _ _ _ _); conv => whnf)
            | ((with_reducible show callK _ _ _ _ _ _ _ _ _); conv => whnf)
            | ((with_reducible show condK _ _ _ _ _); conv => whnf)
            | ((with_reducible show st1 _ _ _ _ _ _ _ _ _ _ _ _); conv => whnf)
            | ((with_reducible show (Prod.fst _ : Spec) _ _ _); conv => whnf)
            | ((with_reducible show shortK _ _); conv => whnf)
            | exact Nat.le_of_ble_eq_true rfl)
    · refine body0 140 rfl ?_
      repeat' (first
          | omega
          | with_reducible apply And.intro
          | (intro c9; (try simp only [mg, mf, colK, stK, clK, mnK, shN] at c9))
          | exact ⟨9, f1⟩
          | exact hA (by omega)
          | (simp only [mg, mf, colK, stK, clK, mnK, shN]; omega)
          | refine Exists.intro _ (And.intro rfl ?_)
          | refine Exists.intro _ (And.intro (f2) ?_)
          | ((with_reducible show wp _ _ _ _ _ _ _ _ _ _ _ _ _ _); conv => whnf)
          | ((with_reducible show callK _ _ _ _ _ _ _ _ _); conv => whnf)
          | ((with_reducible show condK _ _ _ _ _); conv => whnf)
          | ((with_reducible show st1 _ _ _ _ _ _ _ _ _ _ _ _); conv => whnf)
          | ((with_reducible show (Prod.fst _ : Spec) _ _ _); conv => whnf)
          | ((with_reducible show shortK _ _); conv => whnf)
          | exact Nat.le_of_ble_eq_true rfl)
/-! THE CLASS: its construction -/
def clNew (S : Sto) : Sto := updR (updR (newS (newS (updR (newS (updR (newS (updR (newS (updR (newS S 4 (114, 7)) 1 0 (some 4)) 5 (110, 6)) 1 2 (some 5)) 6 (111, 4)) 1 4 (some 6)) 7 (112, 20)) 1 6 (some 7)) 8 (5, clN 5)) 9 (100, 18)) 8 0 (some 9)) 1 8 (some 8)
def s_initC : Spec := fun as S post => match as with
  | [.inr (.inr (some 1))] => (S.1 1 = some (6, 9) ∧ ∀ k, 4 ≤ k → k ≤ 9 → S.1 k = none) ∧ post (.inl none) (clNew S)
  | _ => False
def spX6_init : Nat → CD := spF mdX6_init fun i => match i with
  | 1 => (s_spInit, 1, 18, 1)
  | _ => noR
set_option maxHeartbeats 4000000 in
set_option maxRecDepth 100000 in
theorem sat_X6_init : Sat mX6_init s_initC 6 56 2 := by
  refine sat_of (E := eX6_init) (sp := spX6_init) (ini := true) (by decide +kernel) (fun h => by rfl) okX6_init (fun i => match i with
    | 1 => ⟨sat_X5_init, Nat.le_of_ble_eq_true rfl⟩
    | i + 2 => ⟨sat_no _, Nat.le_of_ble_eq_true rfl⟩
    | 0 => ⟨sat_no _, Nat.le_of_ble_eq_true rfl⟩) ?_
  intro as S post h
  match as, h with
  | [.inr (.inr (some 1))], h =>
    obtain ⟨⟨h1, hn⟩, h⟩ := h
    have n4 := hn 4 (by omega) (by omega)
    have n5 : (newS S 4 (114, 7)).1 5 = none := by rw [newS_1, if_neg (by omega)]; exact hn 5 (by omega) (by omega)
    have n6 : (newS (newS S 4 (114, 7)) 5 (110, 6)).1 6 = none := by simp only [newS_1]; rw [if_neg (by omega), if_neg (by omega)]; exact hn 6 (by omega) (by omega)
    have n7 : (newS (newS (newS S 4 (114, 7)) 5 (110, 6)) 6 (111, 4)).1 7 = none := by simp only [newS_1]; rw [if_neg (by omega), if_neg (by omega), if_neg (by omega)]; exact hn 7 (by omega) (by omega)
    have n8 : (newS (newS (newS (newS S 4 (114, 7)) 5 (110, 6)) 6 (111, 4)) 7 (112, 20)).1 8 = none := by simp only [newS_1]; rw [if_neg (by omega), if_neg (by omega), if_neg (by omega), if_neg (by omega)]; exact hn 8 (by omega) (by omega)
    have n9 : (newS (newS (newS (newS (newS S 4 (114, 7)) 5 (110, 6)) 6 (111, 4)) 7 (112, 20)) 8 (5, clN 5)).1 9 = none := by simp only [newS_1]; rw [if_neg (by omega), if_neg (by omega), if_neg (by omega), if_neg (by omega), if_neg (by omega)]; exact hn 9 (by omega) (by omega)
    refine body0 120 rfl ?_
    repeat' (first
        | omega
        | with_reducible apply And.intro
        | (intro c9; (try simp only [mg, mf, colK, stK, clK, mnK, shN] at c9))
        | exact ⟨9, h1⟩
        | refine Exists.intro 4 (And.intro n4 ?_)
        | refine Exists.intro 5 (And.intro n5 ?_)
        | refine Exists.intro 6 (And.intro n6 ?_)
        | refine Exists.intro 7 (And.intro n7 ?_)
        | refine Exists.intro 8 (And.intro n8 ?_)
        | exact And.intro rfl n9
        | (refine ⟨9, ?_⟩; simp only [newS_1, updR_1]; exact h1)
        | (refine ⟨9, ?_⟩; exact h1)
        | exact n9
        | rfl
        | exact kr_i ( h ) (Nat.le_of_ble_eq_true rfl) (Nat.le_of_ble_eq_true rfl)
        | (simp only [mg, mf, colK, stK, clK, mnK, shN]; omega)
        | refine Exists.intro _ (And.intro rfl ?_)
        | ((with_reducible show wp _ _ _ _ _ _ _ _ _ _ _ _ _ _); conv => whnf)
        | ((with_reducible show callK _ _ _ _ _ _ _ _ _); conv => whnf)
        | ((with_reducible show condK _ _ _ _ _); conv => whnf)
        | ((with_reducible show st1 _ _ _ _ _ _ _ _ _ _ _ _); conv => whnf)
        | ((with_reducible show (Prod.fst _ : Spec) _ _ _); conv => whnf)
        | ((with_reducible show shortK _ _); conv => whnf)
        | exact Nat.le_of_ble_eq_true rfl)

/-- the first k shapes of the draft are copied -/
def cpP (S S' : Sto) (a n : Nat) (u : Nat → Nat) (k : Nat) : Prop := S'.1 = (newS S a (114, n)).1 ∧ S'.2.1 = (newS S a (114, n)).2.1 ∧ (∀ t, t ≠ a → S'.2.2 t = S.2.2 t) ∧ ∀ j, S'.2.2 a j = if j < k then some (u j) else none
/-- what a design is made from -/
def dfC (S : Sto) (T n : Nat) (u : Nat → Nat) (P : Nat → Int → Int → Prop) (col : Nat → Int) : Prop := (9 < T ∧ (n : Int) = S.2.1 1 1 ∧ 1 ≤ n ∧ n ≤ 7) ∧ (∀ k, k ≤ 7 → S.1 (T + k) = none) ∧ (∀ k, k < n → S.2.2 4 k = some (u k) ∧ shC S (u k) (P k) ∧ S.2.1 (u k) 1 = col k ∧ 0 ≤ col k ∧ col k < 6 ∧ clOK (P k) ∧ cdOK (P k)) ∧ ∀ i j, i < j → j < n → u i ≠ u j
def s_designC : Spec := fun as S post => match as with
  | [.inr (.inr (some 1))] => ∃ W, CW W S ∧ (S.2.1 1 1 = 0 ∨ S.2.1 1 3 = 6 → post (.inr 2) S) ∧ (S.2.1 1 1 ≠ 0 → S.2.1 1 3 ≠ 6 → ∃ T n u P col, T = 4096 + 16 * (S.2.1 1 3).toNat ∧ dfC S T n u P col ∧
      ∀ S1 S2 nd, cpP S S1 (T + 7) n u n → desN (newS (updI S1 1 1 0) T (0, clN 0)) S2 T (T + 7) n u P col (S.2.1 1 3) nd → post (.inl (some (vI (S.2.1 1 3)))) (updI (updR S2 5 (S.2.1 1 3).toNat (some T)) 1 3 (S.2.1 1 3 + 1)))
  | _ => False
def spX6_design : Nat → CD := spF mdX6_design fun i => match i with
  | 1 => (s_dsInit, 6, 3160, 6)
  | _ => noR
set_option maxHeartbeats 4000000 in
set_option maxRecDepth 100000 in
theorem sat_X6_design : Sat mX6_design s_designC 8 3178 12 := by
  refine sat_of (E := eX6_design) (sp := spX6_design) (ini := false) (by decide +kernel) (fun h => by cases h) okX6_design (fun i => match i with
    | 1 => ⟨sat_X0_init, Nat.le_of_ble_eq_true rfl⟩
    | i + 2 => ⟨sat_no _, Nat.le_of_ble_eq_true rfl⟩
    | 0 => ⟨sat_no _, Nat.le_of_ble_eq_true rfl⟩) ?_
  intro as S post h
  match as, h with
  | [.inr (.inr (some 1))], h =>
    obtain ⟨W, hW, hA, hB⟩ := h
    have hr := hW.2.1
    have hc := hW.1
    obtain ⟨f1, f2, f3, f4, f5, f6, f7, f8, f9, f10, f11, fn⟩ := hW.1
    by_cases z : S.2.1 1 1 ≠ 0 ∧ S.2.1 1 3 ≠ 6
    · obtain ⟨T, n, u, P, col, hT, ⟨⟨g1, g2, g3, g4⟩, gn, gs, gu⟩, hB⟩ := hB z.1 z.2
      have n6 : S.1 (T + 7) = none := gn 7 (by omega)
      have nT : S.1 T = none := gn 0 (by omega)
      have hn : (S.2.1 1 1).toNat = n := by omega
      have hcc : ((1, 0 + n) : Nat × Nat) = (1, n) := by rw [Nat.zero_add]
      have hc0 : cpP S (newS S (T + 7) (114, n)) (T + 7) n u 0 := ⟨rfl, rfl, fun t ht => by
        funext j
        rw [newS_3, if_neg ht], fun j => by rw [newS_3, if_pos rfl, if_neg (by omega)]⟩
      refine bodyL [(49, fun ms L st S' cc => ∃ k : Nat, L = [vT 1, vT (T + 7), vI k] ∧ st = [] ∧ cc = (1, n) ∧ ms = 20 - k ∧ k ≤ n ∧ cpP S S' (T + 7) n u k),
        (81, fun ms L st S' cc => ∃ a2, L = [vT 1, vT (T + 7), a2] ∧ st = [] ∧ cc = (1, n) ∧ ms = 0 ∧ cpP S S' (T + 7) n u n)] 22 140 rfl
        (List.forall_mem_cons.mpr ⟨?_, List.forall_mem_cons.mpr ⟨?_, fun q hq => by cases hq⟩⟩) ?_
      · rintro ms L st S' cc ⟨k, rfl, rfl, rfl, rfl, hk, hC⟩
        obtain ⟨q1, q2, q3, q4⟩ := hC
        have t1 : S'.1 1 = some (6, 9) := by rw [q1, newS_1, if_neg (by omega)]; exact f1
        have t2 : S'.2.2 1 0 = some 4 := by rw [q3 1 (by omega)]; exact f2
        have t4 : S'.1 4 = some (114, 7) := by rw [q1, newS_1, if_neg (by omega)]; exact f7
        have t6 : S'.1 (T + 7) = some (114, n) := by rw [q1, newS_1, if_pos rfl]
        have t11 : S'.2.1 1 1 = n := by rw [q2, newS_2, if_neg (by omega)]; exact g2.symm
        have tk : k < n → S'.2.2 4 (k : Int).toNat = some (u k) ∧ S'.1 (u k) = some (4, 5) := fun z => by
          obtain ⟨a1, a2, -⟩ := gs k z
          refine ⟨by rw [Int.toNat_natCast, q3 4 (by omega)]; exact a1, ?_⟩
          rw [q1, newS_1, if_neg (fun e => by rw [← e, a2.1] at n6; cases n6)]; exact a2.1
        repeat' (first
            | omega
            | with_reducible apply And.intro
            | (intro c9; (try simp only [mg, mf, colK, stK, clK, mnK, shN] at c9))
            | exact ⟨9, t1⟩
            | rw [t11]
            | rw [(tk (by omega)).1]
            | refine ⟨114, 7, t4, by omega, ?_⟩
            | exact ⟨114, 7, t4, rfl, by omega, by omega⟩
            | exact ⟨4, n, 5, t6, rfl, (tk (by omega)).2, by omega, by omega⟩
            | (simp only [mg, mf, colK, stK, clK, mnK, shN]; omega)
            | refine Exists.intro _ (And.intro rfl ?_)
            | refine Exists.intro _ (And.intro (t2) ?_)
            | ((with_reducible show wp _ _ _ _ _ _ _ _ _ _ _ _ _ _); conv => whnf)
            | ((with_reducible show callK _ _ _ _ _ _ _ _ _); conv => whnf)
            | ((with_reducible show condK _ _ _ _ _); conv => whnf)
            | ((with_reducible show st1 _ _ _ _ _ _ _ _ _ _ _ _); conv => whnf)
            | ((with_reducible show (Prod.fst _ : Spec) _ _ _); conv => whnf)
            | ((with_reducible show shortK _ _); conv => whnf)
            | exact Nat.le_of_ble_eq_true rfl)
        · have e : k = n := by omega
          subst e
          exact ⟨0, by omega, _, rfl, rfl, rfl, rfl, q1, q2, q3, q4⟩
        · refine ⟨20 - (k + 1), by omega, k + 1, by rw [Int.natCast_add]; rfl, rfl, rfl, rfl, by omega, q1, q2, fun t ht => ?_, fun j => ?_⟩
          · funext j
            rw [updR_3, if_neg (fun e => ht e.1), q3 t ht]
          · rw [updR_3, Int.toNat_natCast]
            by_cases e : j = k
            · rw [if_pos ⟨rfl, e⟩, if_pos (by omega), e]
            · rw [if_neg (fun y => e y.2), q4]
              by_cases e2 : j < k
              · rw [if_pos e2, if_pos (by omega)]
              · rw [if_neg e2, if_neg (by omega)]
      · rintro ms L st S' cc ⟨a2, rfl, rfl, rfl, rfl, hC⟩
        have hB2 := fun S2 nd => hB S' S2 nd hC
        obtain ⟨q1, q2, q3, q4⟩ := hC
        have p1 : ∀ t, t ≠ T + 7 → S'.1 t = S.1 t := fun t ht => by rw [q1, newS_1, if_neg ht]
        have p2 : ∀ t, t ≠ T + 7 → S'.2.1 t = S.2.1 t := fun t ht => by rw [q2]; funext j; rw [newS_2, if_neg ht]
        have t1 : S'.1 1 = some (6, 9) := by rw [p1 1 (by omega)]; exact f1
        have t2 : S'.2.2 1 2 = some 5 := by rw [q3 1 (by omega)]; exact f3
        have t4 : S'.1 5 = some (110, 6) := by rw [p1 5 (by omega)]; exact f8
        have t6 : S'.1 (T + 7) = some (114, n) := by rw [q1, newS_1, if_pos rfl]
        have tT : S'.1 T = none := by rw [p1 T (by omega)]; exact nT
        have t13 : (updI S' 1 1 0).2.1 1 3 = S.2.1 1 3 := by rw [updI_2, if_neg (by omega), p2 1 (by omega)]
        obtain ⟨S1, hS1⟩ : ∃ S1, S1 = newS (updI S' 1 1 0) T (0, clN 0) := ⟨_, rfl⟩
        have s1 : ∀ t, t ≠ T → S1.1 t = S'.1 t ∧ S1.2.2 t = S'.2.2 t := fun t ht => by
          rw [hS1]
          exact ⟨by rw [newS_1, if_neg ht]; rfl, by funext j; rw [newS_3, if_neg ht]; rfl⟩
        have s2 : ∀ t, t ≠ T → t ≠ 1 → S1.2.1 t = S'.2.1 t := fun t ht h1 => by
          rw [hS1]; funext j; rw [newS_2, if_neg ht, updI_2, if_neg (fun e => h1 e.1)]
        have s13 : S1.2.1 1 3 = S.2.1 1 3 := by rw [hS1, newS_2, if_neg (by omega)]; exact t13
        have sT : S1.1 T = some (0, 9) := by rw [hS1, newS_1, if_pos rfl]; rfl
        have s11 : S1.1 1 = some (6, 9) := by rw [(s1 1 (by omega)).1]; exact t1
        have hsh : shpC S1 T (T + 7) n u P col := by
          refine ⟨sT, fun k k1 k5 => ?_, ?_, ⟨g3, g4⟩, fun k hk => ?_, gu⟩
          · rw [(s1 _ (by omega)).1, p1 _ (by omega)]; exact gn k (by omega)
          · rw [(s1 _ (by omega)).1]; exact t6
          · obtain ⟨a1, a2, a3, a4⟩ := gs k hk
            have b1 : u k ≠ T := fun e => by rw [← e, a2.1] at nT; cases nT
            have b2 : u k + 1 ≠ T := fun e => by rw [← e, a2.2.2.1] at nT; cases nT
            have b3 : u k ≠ T + 7 := fun e => by rw [← e, a2.1] at n6; cases n6
            have b4 : u k + 1 ≠ T + 7 := fun e => by rw [← e, a2.2.2.1] at n6; cases n6
            have b5 : u k ≠ 1 := fun e => by have := a2.1; rw [e, f1] at this; cases this
            have b6 : u k + 1 ≠ 1 := fun e => by have := a2.2.2.1; rw [e, f1] at this; cases this
            refine ⟨?_, a2.eq ?_ ?_ ?_ ?_, ?_, a4⟩
            · rw [(s1 _ (by omega)).2, q4, if_pos hk]
            · rw [(s1 _ b1).1, p1 _ b3]
            · rw [(s1 _ b2).1, p1 _ b4]
            · rw [(s1 _ b1).2, q3 _ b3]
            · rw [s2 _ b2 b6, p2 _ b4]
            · rw [s2 _ b1 b5, p2 _ b3]; exact a3
        rw [← hS1] at hB2
        have hF : ∀ S2 nd, desN S1 S2 T (T + 7) n u P col (S.2.1 1 3) nd → S2.1 1 = some (6, 9) ∧ S2.1 5 = some (110, 6) ∧ S2.1 T = some (0, 9) ∧ S2.2.1 1 3 = S.2.1 1 3 := fun S2 nd e => by
          obtain ⟨-, ⟨e1, e2, e3, e4, e5⟩, -⟩ := e
          refine ⟨by rw [(e1 1 (by omega)).1]; exact s11, by rw [(e1 5 (by omega)).1, (s1 5 (by omega)).1]; exact t4, e4, ?_⟩
          rw [e2 1 (by omega) (fun k hk e => by have := (gs k hk).2.1.1; rw [← e, f1] at this; cases this)]; exact s13
        repeat' (first
            | omega
            | with_reducible apply And.intro
            | (intro c9; (try simp only [mg, mf, colK, stK, clK, mnK, shN, s13] at c9))
            | exact ⟨9, t1⟩
            | rw [← hS1]
            | exact ⟨9, s11⟩
            | rw [t13]
            | rw [s13]
            | refine Exists.intro T (And.intro tT ?_)
            | refine ⟨n, u, P, col, hsh, ?_⟩
            | (show n + 9 ≤ 3178; omega)
            | (show n + 9 + 3160 ≤ 3178; omega)
            | exact ⟨0, 6, 9, (hF _ _ c9).2.1, rfl, (hF _ _ c9).2.2.1, by omega, by omega⟩
            | exact ⟨9, (hF _ _ c9).1⟩
            | (rw [updR_2, (hF _ _ c9).2.2.2]; exact hB2 _ _ c9)
            | (simp only [mg, mf, colK, stK, clK, mnK, shN, s13]; omega)
            | refine Exists.intro _ (And.intro rfl ?_)
            | refine Exists.intro _ (And.intro (t2) ?_)
            | ((with_reducible show wp _ _ _ _ _ _ _ _ _ _ _ _ _ _); conv => whnf)
            | ((with_reducible show callK _ _ _ _ _ _ _ _ _); conv => whnf)
            | ((with_reducible show condK _ _ _ _ _); conv => whnf)
            | ((with_reducible show st1 _ _ _ _ _ _ _ _ _ _ _ _); conv => whnf)
            | ((with_reducible show (Prod.fst _ : Spec) _ _ _); conv => whnf)
            | ((with_reducible show shortK _ _); conv => whnf)
            | exact Nat.le_of_ble_eq_true rfl)
      · repeat' (first
            | omega
            | with_reducible apply And.intro
            | (intro c9; (try simp only [mg, mf, colK, stK, clK, mnK, shN] at c9))
            | exact ⟨9, f1⟩
            | refine ⟨110, 6, f8, by omega, ?_⟩
            | refine Exists.intro (T + 7) (And.intro n6 ?_)
            | exact absurd z.1 (by omega)
            | rw [hn]
            | exact ⟨20, by omega, 0, rfl, rfl, hcc, rfl, by omega, hc0⟩
            | (simp only [mg, mf, colK, stK, clK, mnK, shN]; omega)
            | refine Exists.intro _ (And.intro rfl ?_)
            | refine Exists.intro _ (And.intro (f3) ?_)
            | ((with_reducible show wp _ _ _ _ _ _ _ _ _ _ _ _ _ _); conv => whnf)
            | ((with_reducible show callK _ _ _ _ _ _ _ _ _); conv => whnf)
            | ((with_reducible show condK _ _ _ _ _); conv => whnf)
            | ((with_reducible show st1 _ _ _ _ _ _ _ _ _ _ _ _); conv => whnf)
            | ((with_reducible show (Prod.fst _ : Spec) _ _ _); conv => whnf)
            | ((with_reducible show shortK _ _); conv => whnf)
            | exact Nat.le_of_ble_eq_true rfl)
    · refine body0 140 rfl ?_
      repeat' (first
          | omega
          | with_reducible apply And.intro
          | (intro c9; (try simp only [mg, mf, colK, stK, clK, mnK, shN] at c9))
          | exact ⟨9, f1⟩
          | refine ⟨110, 6, f8, by omega, ?_⟩
          | exact hA (by omega)
          | (simp only [mg, mf, colK, stK, clK, mnK, shN]; omega)
          | refine Exists.intro _ (And.intro rfl ?_)
          | refine Exists.intro _ (And.intro (f3) ?_)
          | ((with_reducible show wp _ _ _ _ _ _ _ _ _ _ _ _ _ _); conv => whnf)
          | ((with_reducible show callK _ _ _ _ _ _ _ _ _); conv => whnf)
          | ((with_reducible show condK _ _ _ _ _); conv => whnf)
          | ((with_reducible show st1 _ _ _ _ _ _ _ _ _ _ _ _); conv => whnf)
          | ((with_reducible show (Prod.fst _ : Spec) _ _ _); conv => whnf)
          | ((with_reducible show shortK _ _); conv => whnf)
          | exact Nat.le_of_ble_eq_true rfl)
