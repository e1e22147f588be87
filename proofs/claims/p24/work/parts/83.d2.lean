theorem endS_1 {S : Sto} {u : Nat} {s : Int} : (endS S u s).1 = S.1 := by unfold endS; split <;> rfl
theorem endS_2 {S : Sto} {u : Nat} {s : Int} {t k : Nat} : (endS S u s).2.1 t k = if t = u ∧ k = 4 then s else S.2.1 t k := by unfold endS; split <;> rfl
theorem endS_3 {S : Sto} {u : Nat} {s : Int} {t k : Nat} : (endS S u s).2.2 t k = if t = u ∧ k = 8 then none else if S.2.2 u 8 = some t ∧ k = 4 then none else S.2.2 t k := by
  unfold endS
  split
  · rename_i e
    rw [updI_3, e]
    by_cases z : t = u ∧ k = 8
    · rw [if_pos z, z.1, z.2, e]
    · rw [if_neg z, if_neg (by rintro ⟨a, -⟩; cases a)]
  · rename_i v e
    rw [updR_3, updR_3, updI_3, e]
    by_cases z : t = u ∧ k = 8
    · rw [if_pos z, if_pos z]
    · rw [if_neg z, if_neg z]
      by_cases y : t = v ∧ k = 4
      · rw [if_pos y, if_pos ⟨by rw [y.1], y.2⟩]
      · rw [if_neg y, if_neg (fun w => y ⟨(Option.some.inj w.1).symm, w.2⟩)]
theorem dgC.endS {S : Sto} {T n : Nat} {q : Nat → Nat} {b : Nat → Int} {m : Nat} (h : dgC S T n q b m) {u : Nat} {s : Int} (hu : S.1 u = some (2, 9)) (hv : ∀ v, S.2.2 u 8 = some v → S.1 v = some (1, 9)) : dgC (endS S u s) T n q b m := h.fr endS_1 (fun t ht => by
  funext k
  rw [endS_3, if_neg (fun z => by rw [z.1, hu] at ht; rcases ht with ht | ht <;> cases ht), if_neg (fun z => by rw [hv t z.1] at ht; rcases ht with ht | ht <;> cases ht)]) fun t ht => by
  funext k
  rw [endS_2, if_neg (fun z => by rw [z.1, hu] at ht; cases ht)]
theorem orC.endS {S : Sto} {u T w : Nat} {s : Int} (h : orC S u T) (hv : ∀ v, S.2.2 w 8 = some v → S.1 v = some (1, 9)) : orC (endS S w s) u T := by
  obtain ⟨o1, o2, o3, o4⟩ := h
  refine ⟨by rw [endS_1]; exact o1, ?_, by rw [endS_1]; exact o3, ?_⟩
  · rw [endS_3, if_neg (by omega), if_neg (by omega)]; exact o2
  · rw [endS_3, if_neg (by omega), if_neg (by omega)]; exact o4
theorem CW.orv {W : GW} {S : Sto} (h : CW W S) {o : Nat} (ho : (o : Int) < S.2.1 1 7) : ∀ v, S.2.2 (2048 + 16 * o) 8 = some v → S.1 v = some (1, 9) := fun v hv => by
  obtain ⟨-, -, -, -, -, -, -, hj⟩ := h.2.2.2.2.1 o ho
  rcases hj with e | ⟨i, i1, i2, -⟩
  · rw [e] at hv; cases hv
  · rw [i2] at hv
    have := Option.some.inj hv
    rw [← this]
    exact (h.2.2.2.1 i i1).2.1.1
def s_cancelC : Spec := fun as S post => match as with
  | [.inr (.inr (some 1)), .inl o] => ∃ W, CW W S ∧ InR o ∧ (¬ (0 ≤ o ∧ o < S.2.1 1 7) → post (.inr 0) S) ∧ ((0 ≤ o ∧ o < S.2.1 1 7) → ∃ u, u = 2048 + 16 * o.toNat ∧ ((S.2.1 u 4 = 2 ∨ S.2.1 u 4 = 3) → post (.inr 2) S) ∧
    ((S.2.1 u 4 ≠ 2 ∧ S.2.1 u 4 ≠ 3) → ∀ S', obj u [5, 6, 7] (endS S u 3) S' → S'.2.1 u 5 = 0 → S'.2.1 u 6 = 0 → S'.2.1 u 7 = S.2.1 u 7 + (S.2.1 u 5 * W.m (W.g o.toNat) + S.2.1 u 6) → post (.inl (some (vI (S.2.1 u 5 * W.m (W.g o.toNat) + S.2.1 u 6)))) S'))
  | _ => False
def spX6_cancel : Nat → CD := spF mdX6_cancel fun i => match i with
  | 1 => (s_orderAt, 1, 6, 1)
  | 2 => (s_endC, 0, 0, 1)
  | 3 => (s_wasteAll, 0, 0, 1)
  | _ => noR
set_option maxHeartbeats 4000000 in
set_option maxRecDepth 100000 in
theorem sat_X6_cancel : Sat mX6_cancel s_cancelC 2 12 12 := by
  refine sat_of (E := eX6_cancel) (sp := spX6_cancel) (ini := false) (by decide +kernel) (fun h => by cases h) okX6_cancel (fun i => match i with
    | 1 => ⟨sat_X6_orderAt, Nat.le_of_ble_eq_true rfl⟩
    | 2 => ⟨sat_X6_end, Nat.le_of_ble_eq_true rfl⟩
    | 3 => ⟨sat_X2_wasteAll, Nat.le_of_ble_eq_true rfl⟩
    | i + 4 => ⟨sat_no _, Nat.le_of_ble_eq_true rfl⟩
    | 0 => ⟨sat_no _, Nat.le_of_ble_eq_true rfl⟩) ?_
  intro as S post h
  match as, h with
  | [.inr (.inr (some 1)), .inl o], h =>
    obtain ⟨W, hW, hd, hA, hB⟩ := h
    have hr := hW.r7
    have hc := hW.1
    refine body0 60 rfl ?_
    by_cases z : 0 ≤ o ∧ o < S.2.1 1 7
    · obtain ⟨u, hu, hB, hB2⟩ := hB z
      obtain ⟨hT, hO, hg, hp, -⟩ := hW.or z
      have hv := hW.orv (o := o.toNat) (by omega)
      have hD := (hW.2.2.1 _ hg).2.1
      rw [← hu] at hT hO hv hp
      have o1 := hO.1
      have hO2 := hO.endS (s := 3) hv
      have hD2 := hD.endS (s := 3) o1 hv
      have e5 : ∀ k, k ≠ 4 → (endS S u 3).2.1 u k = S.2.1 u k := fun k hk => by rw [endS_2, if_neg (fun y => hk y.2)]
      rw [← e5 5 (by omega), ← e5 6 (by omega), ← e5 7 (by omega)] at hB2
      repeat' (first
          | omega
          | with_reducible apply And.intro
          | (intro c9; (try simp only [mg, mf, colK, stK, clK, mnK, shN] at c9))
          | exact hc
          | exact ⟨9, hc.1⟩
          | exact ⟨9, o1⟩
          | rw [hT]
          | exact hB (by omega)
          | exact And.intro o1 (And.intro hv ?_)
          | refine And.intro o1 (And.intro hv ?_)
          | exact ⟨9, by rw [endS_1]; exact o1⟩
          | refine ⟨_, _, _, _, _, hO2, hD2, ?_⟩
          | exact hB2 (by omega) _ (by assumption) (by assumption) (by assumption) (by assumption)
          | (simp only [mg, mf, colK, stK, clK, mnK, shN]; omega)
          | refine Exists.intro _ (And.intro rfl ?_)
          | refine Exists.intro _ (And.intro (hT) ?_)
          | ((with_reducible show wp _ _ _ _ _ _ _ _ _ _ _ _ _ _); conv => whnf)
          | ((with_reducible show callK _ _ _ _ _ _ _ _ _); conv => whnf)
          | ((with_reducible show condK _ _ _ _ _); conv => whnf)
          | ((with_reducible show st1 _ _ _ _ _ _ _ _ _ _ _ _); conv => whnf)
          | ((with_reducible show (Prod.fst _ : Spec) _ _ _); conv => whnf)
          | ((with_reducible show shortK _ _); conv => whnf)
          | exact Nat.le_of_ble_eq_true rfl)
    · repeat' (first
          | omega
          | with_reducible apply And.intro
          | (intro c9; (try simp only [mg, mf, colK, stK, clK, mnK, shN] at c9))
          | exact hc
          | exact ⟨9, hc.1⟩
          | exact hA (by omega)
          | (simp only [mg, mf, colK, stK, clK, mnK, shN]; omega)
          | refine Exists.intro _ (And.intro rfl ?_)
          | ((with_reducible show wp _ _ _ _ _ _ _ _ _ _ _ _ _ _); conv => whnf)
          | ((with_reducible show callK _ _ _ _ _ _ _ _ _); conv => whnf)
          | ((with_reducible show condK _ _ _ _ _); conv => whnf)
          | ((with_reducible show st1 _ _ _ _ _ _ _ _ _ _ _ _); conv => whnf)
          | ((with_reducible show (Prod.fst _ : Spec) _ _ _); conv => whnf)
          | ((with_reducible show shortK _ _); conv => whnf)
          | exact Nat.le_of_ble_eq_true rfl)
def s_snapC : Spec := fun as S post => match as with
  | [.inr (.inr (some 1)), .inl i] => ∃ W, CW W S ∧ InR i ∧ (¬ (0 ≤ i ∧ i < S.2.1 1 5) → post (.inr 0) S) ∧ ((0 ≤ i ∧ i < S.2.1 1 5) → (S.2.2 (1024 + 16 * i.toNat) 4 = none → post (.inr 2) S) ∧
    ∀ o u g, u = 2048 + 16 * o → g = W.g o → (o : Int) < S.2.1 1 7 → S.2.2 (1024 + 16 * i.toNat) 4 = some u → ((∀ p, ¬ inP (W.n g) (W.b g) (S.2.1 u 6 - 1) p) → post (.inr 2) S) ∧
      ∀ p k, inP (W.n g) (W.b g) (S.2.1 u 6 - 1) p → k = (if 5 ≤ S.2.1 u 6 - W.b g p then 5 else S.2.1 u 6 - W.b g p) → post (.inl (some (vI k))) (updI (updI S u 6 (S.2.1 u 6 - k)) u 7 (S.2.1 u 7 + k)))
  | _ => False
def spX6_snap : Nat → CD := spF mdX6_snap fun i => match i with
  | 1 => (s_machineAt, 1, 6, 1)
  | 2 => (s_shapeOf, 0, 0, 2)
  | 3 => (s_min, 0, 0, 1)
  | _ => noR
set_option maxHeartbeats 4000000 in
set_option maxRecDepth 100000 in
theorem sat_X6_snap : Sat mX6_snap s_snapC 2 12 12 := by
  refine sat_of (E := eX6_snap) (sp := spX6_snap) (ini := false) (by decide +kernel) (fun h => by cases h) okX6_snap (fun i => match i with
    | 1 => ⟨sat_X6_machineAt, Nat.le_of_ble_eq_true rfl⟩
    | 2 => ⟨sat_X0_shapeOf, Nat.le_of_ble_eq_true rfl⟩
    | 3 => ⟨sat_J9_min_7cf53, Nat.le_of_ble_eq_true rfl⟩
    | i + 4 => ⟨sat_no _, Nat.le_of_ble_eq_true rfl⟩
    | 0 => ⟨sat_no _, Nat.le_of_ble_eq_true rfl⟩) ?_
  intro as S post h
  match as, h with
  | [.inr (.inr (some 1)), .inl i], h =>
    obtain ⟨W, hW, hd, hA, hB⟩ := h
    have hr := hW.r5
    have hc := hW.1
    refine body0 120 rfl ?_
    by_cases z : 0 ≤ i ∧ i < S.2.1 1 5
    · obtain ⟨hB1, hB2⟩ := hB z
      obtain ⟨hT, ⟨m1, m2, m3⟩, -, -, -, hj⟩ := hW.mc z
      rcases hj with hj | ⟨o, ho, hj, -⟩
      · repeat' (first
            | omega
            | with_reducible apply And.intro
            | (intro c9; (try simp only [mg, mf, colK, stK, clK, mnK, shN] at c9))
            | exact hc
            | exact ⟨9, hc.1⟩
            | exact ⟨9, m1⟩
            | (rw [hj] at c9; cases c9; done)
            | exact hB1 hj
            | (simp only [mg, mf, colK, stK, clK, mnK, shN]; omega)
            | refine Exists.intro _ (And.intro rfl ?_)
            | refine Exists.intro _ (And.intro (hT) ?_)
            | refine Exists.intro _ (And.intro (hj) ?_)
            | ((with_reducible show wp _ _ _ _ _ _ _ _ _ _ _ _ _ _); conv => whnf)
            | ((with_reducible show callK _ _ _ _ _ _ _ _ _); conv => whnf)
            | ((with_reducible show condK _ _ _ _ _); conv => whnf)
            | ((with_reducible show st1 _ _ _ _ _ _ _ _ _ _ _ _); conv => whnf)
            | ((with_reducible show (Prod.fst _ : Spec) _ _ _); conv => whnf)
            | ((with_reducible show shortK _ _); conv => whnf)
            | exact Nat.le_of_ble_eq_true rfl)
      · obtain ⟨hA2, hB3⟩ := hB2 o _ _ rfl rfl ho hj
        obtain ⟨-, ⟨o1, o2, o3, o4⟩, hg, -, -, h6, -⟩ := hW.2.2.2.2.1 o ho
        have hD := (hW.2.2.1 _ hg).2.1
        have hD2 := hD
        obtain ⟨d1, d2, d3, d4, d5, d6, d7, d8⟩ := hD2
        generalize hu : 2048 + 16 * o = u at *
        have e7 : ∀ v, (updI S u 6 v).2.1 u 7 = S.2.1 u 7 := fun v => by rw [updI_2, if_neg (by omega)]
        repeat' (first
            | omega
            | with_reducible apply And.intro
            | (intro c9; (try simp only [mg, mf, colK, stK, clK, mnK, shN, e7] at c9))
            | (with_reducible (have q9 : (_ = none ∧ ∀ p, ¬ inP _ _ _ p) ∨ _ := c9; clear q9; rcases c9 with ⟨rfl, c7⟩ | ⟨c6, rfl, c7⟩))
            | (with_reducible (have q9 : (none : Option Nat) = some _ := c9; cases q9))
            | (with_reducible (have q9 : some (_ : Nat) = none := c9; cases q9))
            | exact hc
            | exact ⟨9, hc.1⟩
            | exact ⟨9, m1⟩
            | exact ⟨9, o1⟩
            | exact ⟨9, d1⟩
            | rw [hj]
            | rw [gfR (ci := 2) o4 rfl]
            | refine ⟨_, _, _, _, hD, ?_, ?_⟩
            | (rw [hj] at c9; cases c9; done)
            | exact hA2 c7
            | exact ⟨5, (d8 c6 c7.1).2.1⟩
            | (have y := hD.rng (p := c6) (Nat.le_of_lt c7.1); rw [(d8 c6 c7.1).2.2.1]; omega)
            | (rw [(d8 c6 c7.1).2.2.1] at c9; rw [e7]; exact hB3 c6 _ c7 c9)
            | (simp only [mg, mf, colK, stK, clK, mnK, shN, e7]; omega)
            | refine Exists.intro _ (And.intro rfl ?_)
            | refine Exists.intro _ (And.intro (hT) ?_)
            | refine Exists.intro _ (And.intro (hj) ?_)
            | refine Exists.intro _ (And.intro (o4) ?_)
            | ((with_reducible show wp _ _ _ _ _ _ _ _ _ _ _ _ _ _); conv => whnf)
            | ((with_reducible show callK _ _ _ _ _ _ _ _ _); conv => whnf)
            | ((with_reducible show condK _ _ _ _ _); conv => whnf)
            | ((with_reducible show st1 _ _ _ _ _ _ _ _ _ _ _ _); conv => whnf)
            | ((with_reducible show (Prod.fst _ : Spec) _ _ _); conv => whnf)
            | ((with_reducible show shortK _ _); conv => whnf)
            | exact Nat.le_of_ble_eq_true rfl)
    · repeat' (first
          | omega
          | with_reducible apply And.intro
          | (intro c9; (try simp only [mg, mf, colK, stK, clK, mnK, shN] at c9))
          | exact hc
          | exact ⟨9, hc.1⟩
          | exact hA (by omega)
          | (simp only [mg, mf, colK, stK, clK, mnK, shN]; omega)
          | refine Exists.intro _ (And.intro rfl ?_)
          | ((with_reducible show wp _ _ _ _ _ _ _ _ _ _ _ _ _ _); conv => whnf)
          | ((with_reducible show callK _ _ _ _ _ _ _ _ _); conv => whnf)
          | ((with_reducible show condK _ _ _ _ _); conv => whnf)
          | ((with_reducible show st1 _ _ _ _ _ _ _ _ _ _ _ _); conv => whnf)
          | ((with_reducible show (Prod.fst _ : Spec) _ _ _); conv => whnf)
          | ((with_reducible show shortK _ _); conv => whnf)
          | exact Nat.le_of_ble_eq_true rfl)
theorem isB_t {r : Int} {P : Prop} (h : isB r P) (hr : r ≠ 0) : P := by
  rcases h with ⟨a, b⟩ | ⟨a, b⟩
  · first | exact b | exact a
  · omega
theorem isB_f {r : Int} {P : Prop} (h : isB r P) (hr : r = 0) : ¬ P := by
  rcases h with ⟨a, b⟩ | ⟨a, b⟩
  · omega
  · first | exact b | exact a
def s_matchC : Spec := fun as S post => match as with
  | [.inr (.inr (some 1)), .inl o, .inl c, .inl s] => ∃ W, CW W S ∧ (InR o ∧ InR c ∧ InR s) ∧ (¬ (0 ≤ o ∧ o < S.2.1 1 7 ∧ 0 ≤ c ∧ c < 6 ∧ 0 ≤ s ∧ s < 3) → post (.inr 0) S) ∧
    ((0 ≤ o ∧ o < S.2.1 1 7 ∧ 0 ≤ c ∧ c < 6 ∧ 0 ≤ s ∧ s < 3) → ∃ u g nd, u = 2048 + 16 * o.toNat ∧ g = W.g o.toNat ∧ nd = S.2.1 u 2 * ndS S (W.q g) (W.b g) c (W.n g) ∧
      (¬ (S.2.1 u 4 = 1 ∧ nd ≠ 0 ∧ S.2.1 (u + 1) c.toNat ≠ s ∧ nd ≤ spK S 8 c s) → post (.inr 2) S) ∧
      ((S.2.1 u 4 = 1 ∧ nd ≠ 0 ∧ S.2.1 (u + 1) c.toNat ≠ s ∧ nd ≤ spK S 8 c s) →
        (¬ (0 < S.2.1 u 5 ∨ ∃ p : Nat, p < W.n g ∧ S.2.1 (W.q g p) 1 = c ∧ W.b g p < S.2.1 u 6) → post (.inl (some (vI 0))) (updI S (u + 1) c.toNat s)) ∧
        ((0 < S.2.1 u 5 ∨ ∃ p : Nat, p < W.n g ∧ S.2.1 (W.q g p) 1 = c ∧ W.b g p < S.2.1 u 6) → ∀ S', obj u [5, 6, 7] (updI S (u + 1) c.toNat s) S' → S'.2.1 u 5 = 0 → S'.2.1 u 6 = 0 → S'.2.1 u 7 = S.2.1 u 7 + (S.2.1 u 5 * W.m g + S.2.1 u 6) → post (.inl (some (vI (S.2.1 u 5 + if 0 < S.2.1 u 6 then 1 else 0)))) S')))
  | _ => False
def spX6_match : Nat → CD := spF mdX6_match fun i => match i with
  | 1 => (s_orderAt, 1, 6, 1)
  | 2 => (s_isColour, 0, 0, 1)
  | 3 => (s_isShade, 0, 0, 1)
  | 4 => (s_orNeed, 0, 0, 2)
  | 5 => (s_shade, 0, 0, 1)
  | 6 => (s_count, 0, 0, 2)
  | 7 => (s_setShade, 0, 0, 1)
  | 8 => (s_hasSewn, 0, 0, 1)
  | 9 => (s_wasteAll, 0, 0, 1)
  | _ => noR
set_option maxHeartbeats 4000000 in
set_option maxRecDepth 100000 in
theorem sat_X6_match : Sat mX6_match s_matchC 2 12 12 := by
  refine sat_of (E := eX6_match) (sp := spX6_match) (ini := false) (by decide +kernel) (fun h => by cases h) okX6_match (fun i => match i with
    | 1 => ⟨sat_X6_orderAt, Nat.le_of_ble_eq_true rfl⟩
    | 2 => ⟨sat_X6_isColour, Nat.le_of_ble_eq_true rfl⟩
    | 3 => ⟨sat_X6_isShade, Nat.le_of_ble_eq_true rfl⟩
    | 4 => ⟨sat_X2_need, Nat.le_of_ble_eq_true rfl⟩
    | 5 => ⟨sat_X2_shade, Nat.le_of_ble_eq_true rfl⟩
    | 6 => ⟨sat_X5_count, Nat.le_of_ble_eq_true rfl⟩
    | 7 => ⟨sat_X2_setShade, Nat.le_of_ble_eq_true rfl⟩
    | 8 => ⟨sat_X2_hasSewn, Nat.le_of_ble_eq_true rfl⟩
    | 9 => ⟨sat_X2_wasteAll, Nat.le_of_ble_eq_true rfl⟩
    | i + 10 => ⟨sat_no _, Nat.le_of_ble_eq_true rfl⟩
    | 0 => ⟨sat_no _, Nat.le_of_ble_eq_true rfl⟩) ?_
  intro as S post h
  match as, h with
  | [.inr (.inr (some 1)), .inl o, .inl c, .inl s], h =>
    obtain ⟨W, hW, hd, hA, hB⟩ := h
    have hr := hW.r7
    have hc := hW.1
    obtain ⟨f1, f2, f3, f4, f5, f6, -, -, -, -, f11, fn⟩ := hW.1
    by_cases z : 0 ≤ o ∧ o < S.2.1 1 7
    · by_cases z2 : 0 ≤ c ∧ c < 6 ∧ 0 ≤ s ∧ s < 3
      · obtain ⟨u, g, nd, hu, hg0, hnd, hB1, hB2⟩ := hB ⟨z.1, z.2, z2.1, z2.2.1, z2.2.2.1, z2.2.2.2⟩
        obtain ⟨hT, hO, hg, hp, h5, h6, hsh, -⟩ := hW.or z
        have hD := (hW.2.2.1 _ hg).2.1
        have hst := hW.2.2.2.2.2 (3 * c + s) (by omega) (by omega)
        have hsp : 0 ≤ spK S 8 c s ∧ spK S 8 c s ≤ 1000000 := hst
        rw [← hg0] at hD h6 hO
        rw [← hu] at hT hO hp h5 h6 hsh
        have hO2 := hO
        obtain ⟨o1, o2, o3, o4⟩ := hO2
        have hnr := ndS_r hD (c := c) (W.n g) (Nat.le_refl _)
        rw [hD.2.2.2.2.2.2.1.2.1] at hnr
        have hm := hD.2.2.2.2.2.1.2.2.2
        have hmul : 0 ≤ nd ∧ nd ≤ 112000 := ⟨by rw [hnd]; exact Int.mul_nonneg (by omega) hnr.1, by
          have := Int.mul_le_mul hp.2.1 (show ndS S (W.q g) (W.b g) c (W.n g) ≤ 2240 by omega) hnr.1 (by omega : (0 : Int) ≤ 50)
          rw [hnd]; omega⟩
        have hsc := hsh c.toNat (by omega)
        have hD3 : dgC (updI S (u + 1) c.toNat s) (4096 + 16 * g) (W.n g) (W.q g) (W.b g) (W.m g) := hD.updI (by rw [o3]; simp)
        have hO3 : orC (updI S (u + 1) c.toNat s) u (4096 + 16 * g) := hO
        have e1 : ∀ k, (updI S (u + 1) c.toNat s).2.1 u k = S.2.1 u k := fun k => by rw [updI_2, if_neg (by omega)]
        have e2 : ∀ p, p < W.n g → (updI S (u + 1) c.toNat s).2.1 (W.q g p) 1 = S.2.1 (W.q g p) 1 := fun p hp => by
          have y := (hD.2.2.2.2.2.2.2 p hp).2.1
          rw [updI_2, if_neg (fun w => by rw [w.1, o3] at y; cases y)]
        have e3 : (0 < S.2.1 u 5 ∨ ∃ p : Nat, p < W.n g ∧ (updI S (u + 1) c.toNat s).2.1 (W.q g p) 1 = c ∧ W.b g p < S.2.1 u 6) = (0 < S.2.1 u 5 ∨ ∃ p : Nat, p < W.n g ∧ S.2.1 (W.q g p) 1 = c ∧ W.b g p < S.2.1 u 6) :=
          propext ⟨fun w => w.imp_right (fun ⟨p, p1, p2, p3⟩ => ⟨p, p1, by rw [← e2 p p1]; exact p2, p3⟩), fun w => w.imp_right (fun ⟨p, p1, p2, p3⟩ => ⟨p, p1, by rw [e2 p p1]; exact p2, p3⟩)⟩
        rw [← e3] at hB2
        have hK : (if 0 ≤ c ∧ c < 6 then S.2.1 (u + 1) c.toNat else -1) = S.2.1 (u + 1) c.toNat := if_pos ⟨z2.1, z2.2.1⟩
        have hK2 : (if 0 ≤ c ∧ c < 6 ∧ 0 ≤ s ∧ s < 3 then spK S 8 c s else 0) = spK S 8 c s := if_pos z2
        refine body0 200 rfl ?_
        repeat' (first
            | omega
            | with_reducible apply And.intro
            | (intro c9; (try simp only [mg, mf, colK, stK, clK, mnK, shN, e1] at c9))
            | exact hc
            | exact ⟨9, f1⟩
            | exact ⟨9, o1⟩
            | exact ⟨1, f11.1⟩
            | rw [hT]
            | rw [gfR (ci := 6) f6 rfl]
            | rw [hK]
            | rw [hK2]
            | rw [← hnd]
            | refine ⟨_, _, _, _, _, hO3, hD3, ⟨hd.2.1, by rw [e1]; exact ⟨by omega, by omega⟩, by rw [e1]; exact ⟨by omega, by omega⟩⟩, ?_⟩
            | refine ⟨_, _, _, _, _, hO, hD, hd.2.1, ?_⟩
            | refine And.intro ⟨o1, o2, o3⟩ (And.intro hd.2.1 ?_)
            | refine And.intro ⟨o1, o2, o3⟩ (And.intro ⟨z2.1, z2.2.1⟩ ?_)
            | refine And.intro f11 (And.intro ⟨hd.2.1, hd.2.2⟩ ?_)
            | exact hB1 (by omega)
            | refine ⟨_, _, _, _, _, hO3, hD3, ?_⟩
            | exact (hB2 (by omega)).1 (isB_f (by assumption) (by omega))
            | rw [e1]
            | (simp only [mg, mf, colK, stK, clK, mnK, shN, e1]; omega)
            | refine Exists.intro _ (And.intro rfl ?_)
            | refine Exists.intro _ (And.intro (hT) ?_)
            | refine Exists.intro _ (And.intro (f6) ?_)
            | ((with_reducible show wp _ _ _ _ _ _ _ _ _ _ _ _ _ _); conv => whnf)
            | ((with_reducible show callK _ _ _ _ _ _ _ _ _); conv => whnf)
            | ((with_reducible show condK _ _ _ _ _); conv => whnf)
            | ((with_reducible show st1 _ _ _ _ _ _ _ _ _ _ _ _); conv => whnf)
            | ((with_reducible show (Prod.fst _ : Spec) _ _ _); conv => whnf)
            | ((with_reducible show shortK _ _); conv => whnf)
            | exact Nat.le_of_ble_eq_true rfl)
        all_goals
          have hP : 0 < S.2.1 u 5 ∨ ∃ p : Nat, p < W.n g ∧ (updI S (u + 1) c.toNat s).2.1 (W.q g p) 1 = c ∧ W.b g p < S.2.1 u 6 := isB_t (by assumption) (by assumption)
          have hQ : S.2.1 u 4 = 1 ∧ nd ≠ 0 ∧ S.2.1 (u + 1) c.toNat ≠ s ∧ nd ≤ spK S 8 c s := ⟨by assumption, by assumption, by assumption, by assumption⟩
          have y := (hB2 hQ).2 hP _ (by assumption) (by assumption) (by assumption) (by assumption)
          clear hK hK2 hP e3
          first
            | (rw [if_pos (by assumption)] at y; exact y)
            | (rw [if_neg (by omega)] at y; exact y)
      · have hO := (hW.or z).2.1.1
        have hT := (hW.or z).1
        refine body0 200 rfl ?_
        repeat' (first
            | omega
            | with_reducible apply And.intro
            | (intro c9; (try simp only [mg, mf, colK, stK, clK, mnK, shN] at c9))
            | exact hc
            | exact ⟨9, f1⟩
            | exact hA (by omega)
            | (simp only [mg, mf, colK, stK, clK, mnK, shN]; omega)
            | refine Exists.intro _ (And.intro rfl ?_)
            | refine Exists.intro _ (And.intro (hT) ?_)
            | ((with_reducible show wp _ _ _ _ _ _ _ _ _ _ _ _ _ _); conv => whnf)
            | ((with_reducible show callK _ _ _ _ _ _ _ _ _); conv => whnf)
            | ((with_reducible show condK _ _ _ _ _); conv => whnf)
            | ((with_reducible show st1 _ _ _ _ _ _ _ _ _ _ _ _); conv => whnf)
            | ((with_reducible show (Prod.fst _ : Spec) _ _ _); conv => whnf)
            | ((with_reducible show shortK _ _); conv => whnf)
            | exact Nat.le_of_ble_eq_true rfl)
    · refine body0 200 rfl ?_
      repeat' (first
          | omega
          | with_reducible apply And.intro
          | (intro c9; (try simp only [mg, mf, colK, stK, clK, mnK, shN] at c9))
          | exact hc
          | exact ⟨9, hc.1⟩
          | exact hA (by omega)
          | (simp only [mg, mf, colK, stK, clK, mnK, shN]; omega)
          | refine Exists.intro _ (And.intro rfl ?_)
          | ((with_reducible show wp _ _ _ _ _ _ _ _ _ _ _ _ _ _); conv => whnf)
          | ((with_reducible show callK _ _ _ _ _ _ _ _ _); conv => whnf)
          | ((with_reducible show condK _ _ _ _ _); conv => whnf)
          | ((with_reducible show st1 _ _ _ _ _ _ _ _ _ _ _ _); conv => whnf)
          | ((with_reducible show (Prod.fst _ : Spec) _ _ _); conv => whnf)
          | ((with_reducible show shortK _ _); conv => whnf)
          | exact Nat.le_of_ble_eq_true rfl)

