/-! THE CLASS: calls that change it -/
theorem dgC.fr {S S' : Sto} {T n : Nat} {q : Nat → Nat} {b : Nat → Int} {m : Nat} (h : dgC S T n q b m) (h1 : S'.1 = S.1) (h2 : ∀ t, S.1 t = some (0, 9) ∨ S.1 t = some (114, n) → S'.2.2 t = S.2.2 t) (h3 : ∀ t, S.1 t = some (4, 5) → S'.2.1 t = S.2.1 t) : dgC S' T n q b m := by
  obtain ⟨d1, d2, d3, d4, d5, d6, d7, d8⟩ := h
  refine ⟨by rw [h1]; exact d1, by rw [h2 T (Or.inl d1)]; exact d2, by rw [h1]; exact d3, by rw [h2 T (Or.inl d1)]; exact d4, by rw [h1]; exact d5, d6, d7, fun p hp => ?_⟩
  obtain ⟨a1, a2, a3, a4, a5, a6⟩ := d8 p hp
  rw [h1, h2 _ (Or.inr d3), h3 _ a2]
  exact ⟨a1, a2, a3, a4, a5, a6⟩
theorem dgC.updI {S : Sto} {T n : Nat} {q : Nat → Nat} {b : Nat → Int} {m : Nat} (h : dgC S T n q b m) {t k : Nat} {v : Int} (hne : S.1 t ≠ some (4, 5)) : dgC (updI S t k v) T n q b m := h.fr rfl (fun _ _ => rfl) fun t' ht => by
  funext j
  rw [updI_2, if_neg (fun z => hne (by rw [← z.1]; exact ht))]
theorem dgC.updR {S : Sto} {T n : Nat} {q : Nat → Nat} {b : Nat → Int} {m : Nat} (h : dgC S T n q b m) {t k : Nat} {v : Option Nat} (hne : S.1 t ≠ some (0, 9) ∧ S.1 t ≠ some (114, n)) : dgC (updR S t k v) T n q b m := h.fr rfl (fun t' ht => by
  funext j
  rw [updR_3, if_neg (fun z => by rw [← z.1] at hne; exact ht.elim hne.1 hne.2)]) fun _ _ => rfl
def s_wipeC : Spec := fun as S post => match as with
  | [.inr (.inr (some 1))] => cfC S ∧ post (.inl (some (vI (S.2.1 1 1)))) (updI S 1 1 0)
  | _ => False
def spX6_wipe : Nat → CD := spF mdX6_wipe fun i => match i with
  | _ => noR
set_option maxHeartbeats 4000000 in
set_option maxRecDepth 100000 in
theorem sat_X6_wipe : Sat mX6_wipe s_wipeC 0 0 12 := by
  refine sat_of (E := eX6_wipe) (sp := spX6_wipe) (ini := false) (by decide +kernel) (fun h => by cases h) okX6_wipe (fun i => match i with
    | _ => ⟨sat_no _, Nat.le_of_ble_eq_true rfl⟩) ?_
  intro as S post h
  match as, h with
  | [.inr (.inr (some 1))], h =>
    obtain ⟨hc, h⟩ := h
    refine body0 40 rfl ?_
    repeat' (first
        | omega
        | with_reducible apply And.intro
        | (intro c9; (try simp only [mg, mf, colK, stK, clK, mnK, shN] at c9))
        | exact ⟨9, hc.1⟩
        | exact h
        | (simp only [mg, mf, colK, stK, clK, mnK, shN]; omega)
        | refine Exists.intro _ (And.intro rfl ?_)
        | ((with_reducible show wp _ _ _ _ _ _ _ _ _ _ _ _ _ _); conv => whnf)
        | ((with_reducible show callK _ _ _ _ _ _ _ _ _); conv => whnf)
        | ((with_reducible show condK _ _ _ _ _); conv => whnf)
        | ((with_reducible show st1 _ _ _ _ _ _ _ _ _ _ _ _); conv => whnf)
        | ((with_reducible show (Prod.fst _ : Spec) _ _ _); conv => whnf)
        | ((with_reducible show shortK _ _); conv => whnf)
        | exact Nat.le_of_ble_eq_true rfl)
def s_stockC : Spec := fun as S post => match as with
  | [.inr (.inr (some 1)), .inl c, .inl s, .inl x] => ∃ W, CW W S ∧ (InR c ∧ InR s ∧ InR x) ∧ (¬ (0 ≤ c ∧ c < 6 ∧ 0 ≤ s ∧ s < 3) → post (.inr 0) S) ∧ ((0 ≤ c ∧ c < 6 ∧ 0 ≤ s ∧ s < 3) → ¬ (1 ≤ x ∧ x ≤ 100000) → post (.inr 1) S) ∧ ((0 ≤ c ∧ c < 6 ∧ 0 ≤ s ∧ s < 3) → (1 ≤ x ∧ x ≤ 100000) → 1000000 < spK S 8 c s + x → post (.inr 2) S) ∧
    ((0 ≤ c ∧ c < 6 ∧ 0 ≤ s ∧ s < 3) → (1 ≤ x ∧ x ≤ 100000) → spK S 8 c s + x ≤ 1000000 → post (.inl (some (vI (spK S 8 c s + x)))) (updI S 9 (3 * c + s).toNat (spK S 8 c s + x)))
  | _ => False
def spX6_stock : Nat → CD := spF mdX6_stock fun i => match i with
  | 1 => (s_isColour, 0, 0, 1)
  | 2 => (s_isShade, 0, 0, 1)
  | 3 => (s_isFrom1To, 0, 0, 1)
  | 4 => (s_count, 0, 0, 2)
  | 5 => (s_add, 0, 0, 2)
  | _ => noR
set_option maxHeartbeats 4000000 in
set_option maxRecDepth 100000 in
theorem sat_X6_stock : Sat mX6_stock s_stockC 1 6 12 := by
  refine sat_of (E := eX6_stock) (sp := spX6_stock) (ini := false) (by decide +kernel) (fun h => by cases h) okX6_stock (fun i => match i with
    | 1 => ⟨sat_X6_isColour, Nat.le_of_ble_eq_true rfl⟩
    | 2 => ⟨sat_X6_isShade, Nat.le_of_ble_eq_true rfl⟩
    | 3 => ⟨sat_X6_isFrom1To, Nat.le_of_ble_eq_true rfl⟩
    | 4 => ⟨sat_X5_count, Nat.le_of_ble_eq_true rfl⟩
    | 5 => ⟨sat_X5_add, Nat.le_of_ble_eq_true rfl⟩
    | i + 6 => ⟨sat_no _, Nat.le_of_ble_eq_true rfl⟩
    | 0 => ⟨sat_no _, Nat.le_of_ble_eq_true rfl⟩) ?_
  intro as S post h
  match as, h with
  | [.inr (.inr (some 1)), .inl c, .inl s, .inl x], h =>
    obtain ⟨W, hW, hd, hA, hA2, hA3, hB⟩ := h
    have hst := hW.2.2.2.2.2 (3 * c + s)
    have hsp : 0 ≤ 3 * c + s → 3 * c + s < 18 → 0 ≤ spK S 8 c s ∧ spK S 8 c s ≤ 1000000 := hst
    obtain ⟨f1, f2, f3, f4, f5, f6, -, -, -, -, f11, fn⟩ := hW.1
    have f11' : spC (updI S 9 (3 * c + s).toNat (spK S 8 c s + x)) 8 := f11
    have e : spK (updI S 9 (3 * c + s).toNat (spK S 8 c s + x)) 8 c s = spK S 8 c s + x := by
      unfold spK
      rw [updI_2, if_pos ⟨rfl, rfl⟩]
    have hB2 : (0 ≤ c ∧ c < 6 ∧ 0 ≤ s ∧ s < 3) → (1 ≤ x ∧ x ≤ 100000) → spK S 8 c s + x ≤ 1000000 → post (.inl (some (vI (spK (updI S 9 (3 * c + s).toNat (spK S 8 c s + x)) 8 c s)))) (updI S 9 (3 * c + s).toNat (spK S 8 c s + x)) := fun a1 a2 a3 => by rw [e]; exact hB a1 a2 a3
    refine body0 120 rfl ?_
    repeat' (first
        | omega
        | with_reducible apply And.intro
        | (intro c9; (try simp only [mg, mf, colK, stK, clK, mnK, shN] at c9))
        | exact ⟨9, f1⟩
        | exact ⟨1, f11.1⟩
        | rw [gfR (ci := 6) f6 rfl]
        | rw [gfR (ci := 6) (show (updI S (8 + 1) (3 * c + s).toNat (spK S 8 c s + x)).2.2 1 8 = some 8 from f6) rfl]
        | (refine And.intro f11 (And.intro ⟨hd.1, hd.2.1⟩ ?_))
        | (refine And.intro f11' (And.intro ⟨hd.1, hd.2.1⟩ ?_))
        | (refine And.intro f11 (And.intro (by omega) ?_))
        | rw [if_pos (by omega)]
        | (have y := hsp (by omega) (by omega); omega)
        | exact hA (by omega)
        | exact hA2 (by omega) (by omega)
        | exact hA3 (by omega) (by omega) (by omega)
        | exact hB2 (by omega) (by omega) (by omega)
        | (simp only [mg, mf, colK, stK, clK, mnK, shN]; omega)
        | refine Exists.intro _ (And.intro rfl ?_)
        | refine Exists.intro _ (And.intro (f6) ?_)
        | ((with_reducible show wp _ _ _ _ _ _ _ _ _ _ _ _ _ _); conv => whnf)
        | ((with_reducible show callK _ _ _ _ _ _ _ _ _); conv => whnf)
        | ((with_reducible show condK _ _ _ _ _); conv => whnf)
        | ((with_reducible show st1 _ _ _ _ _ _ _ _ _ _ _ _); conv => whnf)
        | ((with_reducible show (Prod.fst _ : Spec) _ _ _); conv => whnf)
        | ((with_reducible show shortK _ _); conv => whnf)
        | exact Nat.le_of_ble_eq_true rfl)
def mcNew (S : Sto) (u : Nat) (i a w g : Int) : Sto := updI (updI (updI (updI (updR (newS S (u + 1) (100, 6)) u 8 (some (u + 1))) u 0 i) u 1 a) u 2 w) u 3 g
def mcFin (S : Sto) (u : Nat) (i a w g : Int) : Sto := updR (mcNew (newS S u (1, clN 1)) u i a w g) 6 i.toNat (some u)
def s_machineC : Spec := fun as S post => match as with
  | [.inr (.inr (some 1)), .inl a, .inl w, .inl g] => ∃ W, CW W S ∧ (InR a ∧ InR w ∧ InR g) ∧ (¬ (1 ≤ a ∧ a ≤ 6 ∧ 1 ≤ w ∧ w ≤ 16 ∧ 1 ≤ g ∧ g ≤ 16) → post (.inr 1) S) ∧ ((1 ≤ a ∧ a ≤ 6 ∧ 1 ≤ w ∧ w ≤ 16 ∧ 1 ≤ g ∧ g ≤ 16) → S.2.1 1 5 = 4 → post (.inr 2) S) ∧
    ((1 ≤ a ∧ a ≤ 6 ∧ 1 ≤ w ∧ w ≤ 16 ∧ 1 ≤ g ∧ g ≤ 16) → S.2.1 1 5 < 4 → ∃ u, u = 1024 + 16 * (S.2.1 1 5).toNat ∧ S.1 u = none ∧ S.1 (u + 1) = none ∧ post (.inl (some (vI (S.2.1 1 5)))) (updI (mcFin S u (S.2.1 1 5) a w g) 1 5 (S.2.1 1 5 + 1)))
  | _ => False
def spX6_machine : Nat → CD := spF mdX6_machine fun i => match i with
  | 1 => (s_isFrom1To, 0, 0, 1)
  | 2 => (s_mcInit, 1, 6, 1)
  | _ => noR
set_option maxHeartbeats 4000000 in
set_option maxRecDepth 100000 in
theorem sat_X6_machine : Sat mX6_machine s_machineC 2 24 12 := by
  refine sat_of (E := eX6_machine) (sp := spX6_machine) (ini := false) (by decide +kernel) (fun h => by cases h) okX6_machine (fun i => match i with
    | 1 => ⟨sat_X6_isFrom1To, Nat.le_of_ble_eq_true rfl⟩
    | 2 => ⟨sat_X1_init, Nat.le_of_ble_eq_true rfl⟩
    | i + 3 => ⟨sat_no _, Nat.le_of_ble_eq_true rfl⟩
    | 0 => ⟨sat_no _, Nat.le_of_ble_eq_true rfl⟩) ?_
  intro as S post h
  match as, h with
  | [.inr (.inr (some 1)), .inl a, .inl w, .inl g], h =>
    obtain ⟨W, hW, hd, hA, hA2, hB⟩ := h
    have hr := hW.r5
    obtain ⟨f1, f2, f3, f4, f5, f6, f7, f8, f9, f10, f11, fn⟩ := hW.1
    refine body0 120 rfl ?_
    by_cases za : 1 ≤ a ∧ a ≤ 6 ∧ 1 ≤ w ∧ w ≤ 16 ∧ 1 ≤ g ∧ g ≤ 16
    · by_cases z5 : S.2.1 1 5 < 4
      · obtain ⟨u, hu, n1, n2, hB⟩ := hB za z5
        have g1 : (newS S u (1, clN 1)).1 u = some (1, 9) := by rw [newS_1, if_pos rfl]; rfl
        have g2 : (newS S u (1, clN 1)).1 (u + 1) = none := by rw [newS_1, if_neg (by omega)]; exact n2
        have g0 : (newS S u (1, clN 1)).1 1 = some (6, 9) := by rw [newS_1, if_neg (by omega)]; exact f1
        have hi : (newS S u (1, clN 1)).2.1 1 5 = S.2.1 1 5 := by rw [newS_2, if_neg (by omega)]
        have gt : ∀ t, t < u → (mcFin S u (S.2.1 1 5) a w g).1 t = S.1 t := fun t ht => by
          show (newS (newS S u (1, clN 1)) (u + 1) (100, 6)).1 t = _
          rw [newS_1, if_neg (by omega), newS_1, if_neg (by omega)]
        have x1 : (mcFin S u (S.2.1 1 5) a w g).1 1 = some (6, 9) := (gt 1 (by omega)).trans f1
        have x6 : (mcFin S u (S.2.1 1 5) a w g).1 6 = some (111, 4) := (gt 6 (by omega)).trans f9
        have xu : (mcFin S u (S.2.1 1 5) a w g).1 u = some (1, 9) := by
          show (newS (newS S u (1, clN 1)) (u + 1) (100, 6)).1 u = _
          rw [newS_1, if_neg (by omega)]; exact g1
        have x5 : (mcFin S u (S.2.1 1 5) a w g).2.1 1 5 = S.2.1 1 5 := by
          unfold mcFin mcNew
          simp only [updR_2, updI_2, newS_2]
          simp only [show ¬ (1 = u + 1) by omega, show ¬ (1 = u) by omega, false_and, if_false]
        have hB2 : post (.inl (some (vI ((mcFin S u (S.2.1 1 5) a w g).2.1 1 5)))) (updI (mcFin S u (S.2.1 1 5) a w g) 1 5 ((mcFin S u (S.2.1 1 5) a w g).2.1 1 5 + 1)) := by rw [x5]; exact hB
        repeat' (first
            | omega
            | with_reducible apply And.intro
            | (intro c9; (try simp only [mg, mf, colK, stK, clK, mnK, shN] at c9))
            | exact ⟨9, f1⟩
            | refine ⟨111, 4, f9, by omega, ?_⟩
            | exact ⟨1, 4, 9, x6, rfl, xu, by omega, by omega⟩
            | exact hA (by omega)
            | refine Exists.intro u (And.intro n1 ?_)
            | rw [hi]
            | exact ⟨9, g0⟩
            | exact And.intro g1 g2
            | exact ⟨9, x1⟩
            | exact hB2
            | (simp only [mg, mf, colK, stK, clK, mnK, shN]; omega)
            | refine Exists.intro _ (And.intro rfl ?_)
            | refine Exists.intro _ (And.intro (f4) ?_)
            | ((with_reducible show wp _ _ _ _ _ _ _ _ _ _ _ _ _ _); conv => whnf)
            | ((with_reducible show callK _ _ _ _ _ _ _ _ _); conv => whnf)
            | ((with_reducible show condK _ _ _ _ _); conv => whnf)
            | ((with_reducible show st1 _ _ _ _ _ _ _ _ _ _ _ _); conv => whnf)
            | ((with_reducible show (Prod.fst _ : Spec) _ _ _); conv => whnf)
            | ((with_reducible show shortK _ _); conv => whnf)
            | exact Nat.le_of_ble_eq_true rfl)
        all_goals trace_state
      · repeat' (first
            | omega
            | with_reducible apply And.intro
            | (intro c9; (try simp only [mg, mf, colK, stK, clK, mnK, shN] at c9))
            | exact ⟨9, f1⟩
            | refine ⟨111, 4, f9, by omega, ?_⟩
            | exact ⟨111, 4, f9, rfl, by omega, by omega⟩
            | exact hA (by omega)
            | exact hA2 (by omega) (by omega)
            | (simp only [mg, mf, colK, stK, clK, mnK, shN]; omega)
            | refine Exists.intro _ (And.intro rfl ?_)
            | refine Exists.intro _ (And.intro (f4) ?_)
            | ((with_reducible show wp _ _ _ _ _ _ _ _ _ _ _ _ _ _); conv => whnf)
            | ((with_reducible show callK _ _ _ _ _ _ _ _ _); conv => whnf)
            | ((with_reducible show condK _ _ _ _ _); conv => whnf)
            | ((with_reducible show st1 _ _ _ _ _ _ _ _ _ _ _ _); conv => whnf)
            | ((with_reducible show (Prod.fst _ : Spec) _ _ _); conv => whnf)
            | ((with_reducible show shortK _ _); conv => whnf)
            | exact Nat.le_of_ble_eq_true rfl)
    · repeat' (first
          | omega
          | with_reducible apply And.intro
          | (intro c9; (try simp only [mg, mf, colK, stK, clK, mnK, shN] at c9))
          | exact ⟨9, f1⟩
          | exact hA (by omega)
          | (simp only [mg, mf, colK, stK, clK, mnK, shN]; omega)
          | refine Exists.intro _ (And.intro rfl ?_)
          | refine Exists.intro _ (And.intro (f4) ?_)
          | ((with_reducible show wp _ _ _ _ _ _ _ _ _ _ _ _ _ _); conv => whnf)
          | ((with_reducible show callK _ _ _ _ _ _ _ _ _); conv => whnf)
          | ((with_reducible show condK _ _ _ _ _); conv => whnf)
          | ((with_reducible show st1 _ _ _ _ _ _ _ _ _ _ _ _); conv => whnf)
          | ((with_reducible show (Prod.fst _ : Spec) _ _ _); conv => whnf)
          | ((with_reducible show shortK _ _); conv => whnf)
          | exact Nat.le_of_ble_eq_true rfl)
def orFin (S : Sto) (u T : Nat) (i p : Int) : Sto := updR (fillO (orN (newS S u (2, clN 2)) u T i p) u 6) 7 i.toNat (some u)
def s_orderC : Spec := fun as S post => match as with
  | [.inr (.inr (some 1)), .inl d, .inl p] => ∃ W, CW W S ∧ (InR d ∧ InR p) ∧ (¬ (0 ≤ d ∧ d < S.2.1 1 3) → post (.inr 0) S) ∧ ((0 ≤ d ∧ d < S.2.1 1 3) → ¬ (1 ≤ p ∧ p ≤ 50) → post (.inr 1) S) ∧ ((0 ≤ d ∧ d < S.2.1 1 3) → (1 ≤ p ∧ p ≤ 50) → S.2.1 1 7 = 20 → post (.inr 2) S) ∧
    ((0 ≤ d ∧ d < S.2.1 1 3) → (1 ≤ p ∧ p ≤ 50) → S.2.1 1 7 < 20 → ∃ u, u = 2048 + 16 * (S.2.1 1 7).toNat ∧ S.1 u = none ∧ S.1 (u + 1) = none ∧ post (.inl (some (vI (S.2.1 1 7)))) (updI (orFin S u (4096 + 16 * d.toNat) (S.2.1 1 7) p) 1 7 (S.2.1 1 7 + 1)))
  | _ => False
def spX6_order : Nat → CD := spF mdX6_order fun i => match i with
  | 1 => (s_designAt, 1, 6, 1)
  | 2 => (s_isFrom1To, 0, 0, 1)
  | 3 => (s_orInit, 1, 6, 1)
  | _ => noR
set_option maxHeartbeats 4000000 in
set_option maxRecDepth 100000 in
theorem sat_X6_order : Sat mX6_order s_orderC 3 30 12 := by
  refine sat_of (E := eX6_order) (sp := spX6_order) (ini := false) (by decide +kernel) (fun h => by cases h) okX6_order (fun i => match i with
    | 1 => ⟨sat_X6_designAt, Nat.le_of_ble_eq_true rfl⟩
    | 2 => ⟨sat_X6_isFrom1To, Nat.le_of_ble_eq_true rfl⟩
    | 3 => ⟨sat_X2_init, Nat.le_of_ble_eq_true rfl⟩
    | i + 4 => ⟨sat_no _, Nat.le_of_ble_eq_true rfl⟩
    | 0 => ⟨sat_no _, Nat.le_of_ble_eq_true rfl⟩) ?_
  intro as S post h
  match as, h with
  | [.inr (.inr (some 1)), .inl d, .inl p], h =>
    obtain ⟨W, hW, hd, hA, hA2, hA3, hB⟩ := h
    have hr := hW.r7
    have hr3 := hW.r3
    have hc := hW.1
    obtain ⟨f1, f2, f3, f4, f5, f6, f7, f8, f9, f10, f11, fn⟩ := hW.1
    refine body0 120 rfl ?_
    by_cases z : 0 ≤ d ∧ d < S.2.1 1 3
    · have hT := hW.dg z
      have hT1 := hT.1
      have hTt := hT.2.1.1
      by_cases z7 : (1 ≤ p ∧ p ≤ 50) ∧ S.2.1 1 7 < 20
      · obtain ⟨u, hu, n1, n2, hB⟩ := hB z z7.1 z7.2
        have g1 : (newS S u (2, clN 2)).1 u = some (2, 9) := by rw [newS_1, if_pos rfl]; rfl
        have g2 : (newS S u (2, clN 2)).1 (u + 1) = none := by rw [newS_1, if_neg (by omega)]; exact n2
        have g3 : (newS S u (2, clN 2)).1 (4096 + 16 * d.toNat) ≠ none := by rw [newS_1, if_neg (by intro e; rw [e, n1] at hTt; cases hTt), hTt]; simp
        have hf : ∀ k, (fillO (orN (newS S u (2, clN 2)) u (4096 + 16 * d.toNat) (S.2.1 1 7) p) u k).1 = (newS (newS S u (2, clN 2)) (u + 1) (100, 6)).1 := fun k => by
          induction k with
          | zero => rfl
          | succ k ih => exact ih
        have g0 : (newS S u (2, clN 2)).1 1 = some (6, 9) := by rw [newS_1, if_neg (by omega)]; exact f1
        have hi : (newS S u (2, clN 2)).2.1 1 7 = S.2.1 1 7 := by rw [newS_2, if_neg (by omega)]
        have gt : ∀ t, t < u → (orFin S u (4096 + 16 * d.toNat) (S.2.1 1 7) p).1 t = S.1 t := fun t ht => by
          show (fillO (orN (newS S u (2, clN 2)) u (4096 + 16 * d.toNat) (S.2.1 1 7) p) u 6).1 t = _
          rw [hf, newS_1, if_neg (by omega), newS_1, if_neg (by omega)]
        have x1 : (orFin S u (4096 + 16 * d.toNat) (S.2.1 1 7) p).1 1 = some (6, 9) := (gt 1 (by omega)).trans f1
        have x6 : (orFin S u (4096 + 16 * d.toNat) (S.2.1 1 7) p).1 7 = some (112, 20) := (gt 7 (by omega)).trans f10
        have xu : (orFin S u (4096 + 16 * d.toNat) (S.2.1 1 7) p).1 u = some (2, 9) := by
          show (fillO (orN (newS S u (2, clN 2)) u (4096 + 16 * d.toNat) (S.2.1 1 7) p) u 6).1 u = _
          rw [hf, newS_1, if_neg (by omega)]; exact g1
        have x5 : (orFin S u (4096 + 16 * d.toNat) (S.2.1 1 7) p).2.1 1 7 = S.2.1 1 7 := by
          unfold orFin fillO fillO fillO fillO fillO fillO fillO orN
          simp only [updR_2, updI_2, newS_2]
          simp only [show ¬ (1 = u + 1) by omega, show ¬ (1 = u) by omega, false_and, if_false]
        have hB2 : post (.inl (some (vI ((orFin S u (4096 + 16 * d.toNat) (S.2.1 1 7) p).2.1 1 7)))) (updI (orFin S u (4096 + 16 * d.toNat) (S.2.1 1 7) p) 1 7 ((orFin S u (4096 + 16 * d.toNat) (S.2.1 1 7) p).2.1 1 7 + 1)) := by rw [x5]; exact hB
        repeat' (first
            | omega
            | with_reducible apply And.intro
            | (intro c9; (try simp only [mg, mf, colK, stK, clK, mnK, shN] at c9))
            | exact hc
            | exact ⟨9, f1⟩
            | rw [hT1]
            | refine ⟨112, 20, f10, by omega, ?_⟩
            | exact ⟨2, 20, 9, x6, rfl, xu, by omega, by omega⟩
            | exact hA2 (by omega) (by omega)
            | refine Exists.intro u (And.intro n1 ?_)
            | rw [hi]
            | exact ⟨9, g0⟩
            | exact And.intro g1 (And.intro g2 g3)
            | exact g1
            | exact g2
            | exact g3
            | exact ⟨9, x1⟩
            | exact hB2
            | (simp only [mg, mf, colK, stK, clK, mnK, shN]; omega)
            | refine Exists.intro _ (And.intro rfl ?_)
            | refine Exists.intro _ (And.intro (hT1) ?_)
            | refine Exists.intro _ (And.intro (f5) ?_)
            | ((with_reducible show wp _ _ _ _ _ _ _ _ _ _ _ _ _ _); conv => whnf)
            | ((with_reducible show callK _ _ _ _ _ _ _ _ _); conv => whnf)
            | ((with_reducible show condK _ _ _ _ _); conv => whnf)
            | ((with_reducible show st1 _ _ _ _ _ _ _ _ _ _ _ _); conv => whnf)
            | ((with_reducible show (Prod.fst _ : Spec) _ _ _); conv => whnf)
            | ((with_reducible show shortK _ _); conv => whnf)
            | exact Nat.le_of_ble_eq_true rfl)
        all_goals trace_state
      · repeat' (first
            | omega
            | with_reducible apply And.intro
            | (intro c9; (try simp only [mg, mf, colK, stK, clK, mnK, shN] at c9))
            | exact hc
            | exact ⟨9, f1⟩
            | refine ⟨112, 20, f10, by omega, ?_⟩
            | exact ⟨112, 20, f10, rfl, by omega, by omega⟩
            | exact hA2 (by omega) (by omega)
            | exact hA3 (by omega) (by omega) (by omega)
            | (simp only [mg, mf, colK, stK, clK, mnK, shN]; omega)
            | refine Exists.intro _ (And.intro rfl ?_)
            | refine Exists.intro _ (And.intro (hT1) ?_)
            | refine Exists.intro _ (And.intro (f5) ?_)
            | ((with_reducible show wp _ _ _ _ _ _ _ _ _ _ _ _ _ _); conv => whnf)
            | ((with_reducible show callK _ _ _ _ _ _ _ _ _); conv => whnf)
            | ((with_reducible show condK _ _ _ _ _); conv => whnf)
            | ((with_reducible show st1 _ _ _ _ _ _ _ _ _ _ _ _); conv => whnf)
            | ((with_reducible show (Prod.fst _ : Spec) _ _ _); conv => whnf)
            | ((with_reducible show shortK _ _); conv => whnf)
            | exact Nat.le_of_ble_eq_true rfl)
    · repeat' (first
          | omega
          | with_reducible apply And.intro
          | (intro c9; (try simp only [mg, mf, colK, stK, clK, mnK, shN] at c9))
          | exact hc
          | exact ⟨9, hc.1⟩
          | exact hA (by omega)
          | (simp only [mg, mf, colK, stK, clK, mnK, shN]; omega)
          | refine Exists.intro _ (And.intro rfl ?_)
          | ((with_reducible show wp _ _ _ _ _ _ _ _ _ _ _ _ _ _); conv => whnf)
          | ((with_reducible show callK _ _ _ _ _ _ _ _ _); conv => whnf)
          | ((with_reducible show condK _ _ _ _ _); conv => whnf)
          | ((with_reducible show st1 _ _ _ _ _ _ _ _ _ _ _ _); conv => whnf)
          | ((with_reducible show (Prod.fst _ : Spec) _ _ _); conv => whnf)
          | ((with_reducible show shortK _ _); conv => whnf)
          | exact Nat.le_of_ble_eq_true rfl)
def endS (S : Sto) (u : Nat) (s : Int) : Sto := match S.2.2 u 8 with
  | none => updI S u 4 s
  | some v => updR (updR (updI S u 4 s) v 4 none) u 8 none
def s_endC : Spec := fun as S post => match as with
  | [.inr (.inr (some u)), .inl s] => S.1 u = some (2, 9) ∧ (∀ v, S.2.2 u 8 = some v → S.1 v = some (1, 9)) ∧ post (.inl none) (endS S u s)
  | _ => False
def spX6_end : Nat → CD := spF mdX6_end fun i => match i with
  | _ => noR
set_option maxHeartbeats 4000000 in
set_option maxRecDepth 100000 in
theorem sat_X6_end : Sat mX6_end s_endC 0 0 1 := by
  refine sat_of (E := eX6_end) (sp := spX6_end) (ini := false) (by decide +kernel) (fun h => by cases h) okX6_end (fun i => match i with
    | _ => ⟨sat_no _, Nat.le_of_ble_eq_true rfl⟩) ?_
  intro as S post h
  match as, h with
  | [.inr (.inr (some u)), .inl s], h =>
    obtain ⟨h1, h2, h⟩ := h
    refine body0 60 rfl ?_
    cases hv : S.2.2 u 8 with
    | none =>
      unfold endS at h
      rw [hv] at h
      repeat' (first
          | omega
          | with_reducible apply And.intro
          | (intro c9; (try simp only [mg, mf, colK, stK, clK, mnK, shN] at c9))
          | exact ⟨9, h1⟩
          | (have y : S.2.2 u 8 = _ := c9; rw [hv] at y; cases y; done)
          | exact kr_i ( h ) (Nat.le_of_ble_eq_true rfl) (Nat.le_of_ble_eq_true rfl)
          | (simp only [mg, mf, colK, stK, clK, mnK, shN]; omega)
          | refine Exists.intro _ (And.intro rfl ?_)
          | refine Exists.intro _ (And.intro (hv) ?_)
          | ((with_reducible show wp _ _ _ _ _ _ _ _ _ _ _ _ _ _); conv => whnf)
          | ((with_reducible show callK _ _ _ _ _ _ _ _ _); conv => whnf)
          | ((with_reducible show condK _ _ _ _ _); conv => whnf)
          | ((with_reducible show st1 _ _ _ _ _ _ _ _ _ _ _ _); conv => whnf)
          | ((with_reducible show (Prod.fst _ : Spec) _ _ _); conv => whnf)
          | ((with_reducible show shortK _ _); conv => whnf)
          | exact Nat.le_of_ble_eq_true rfl)
      all_goals trace_state
    | some v =>
      have h3 := h2 v hv
      unfold endS at h
      rw [hv] at h
      repeat' (first
          | omega
          | with_reducible apply And.intro
          | (intro c9; (try simp only [mg, mf, colK, stK, clK, mnK, shN] at c9))
          | exact ⟨9, h1⟩
          | exact ⟨9, h3⟩
          | (have y : S.2.2 u 8 = _ := c9; rw [hv] at y; cases y; done)
          | exact kr_i ( h ) (Nat.le_of_ble_eq_true rfl) (Nat.le_of_ble_eq_true rfl)
          | (simp only [mg, mf, colK, stK, clK, mnK, shN]; omega)
          | refine Exists.intro _ (And.intro rfl ?_)
          | refine Exists.intro _ (And.intro (hv) ?_)
          | ((with_reducible show wp _ _ _ _ _ _ _ _ _ _ _ _ _ _); conv => whnf)
          | ((with_reducible show callK _ _ _ _ _ _ _ _ _); conv => whnf)
          | ((with_reducible show condK _ _ _ _ _); conv => whnf)
          | ((with_reducible show st1 _ _ _ _ _ _ _ _ _ _ _ _); conv => whnf)
          | ((with_reducible show (Prod.fst _ : Spec) _ _ _); conv => whnf)
          | ((with_reducible show shortK _ _); conv => whnf)
          | exact Nat.le_of_ble_eq_true rfl)
      all_goals trace_state

