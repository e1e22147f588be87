def wideC (kd wd i : Int) : Int := if kd = 0 then wd else if i + 1 ≤ wd then i + 1 else wd
def rowE (kd x wd i : Int) : Int := bShl (bShl 1 (wideC kd wd i) - 1) x
def rowsF (kd x y wd k : Int) (j : Nat) : Int := if y ≤ j ∧ (j : Int) < y + k then rowE kd x wd (j - y) else 0
/-- but for the ints of r, which are f, S' is S -/
def rwP (S S' : Sto) (r : Nat) (f : Nat → Int) : Prop := S'.1 = S.1 ∧ S'.2.2 = S.2.2 ∧ (∀ t, t ≠ r → S'.2.1 t = S.2.1 t) ∧ ∀ j, S'.2.1 r j = f j
def shNew (X : Sto) (U : Nat) (i c : Int) : Sto := updR (updR (updI (updI (newS X U (4, clN 4)) U 0 i) U 1 c) U 2 (some (U + 1))) 4 i.toNat (some U)
def s_shapeC : Spec := fun as S post => match as with
  | [.inr (.inr (some 1)), .inl kd, .inl c, .inl x, .inl y, .inl w, .inl g] => ∃ W, CW W S ∧ (InR kd ∧ InR c ∧ InR x ∧ InR y ∧ InR w ∧ InR g) ∧ (¬ ((kd = 0 ∨ kd = 1) ∧ 0 ≤ c ∧ c < 6) → post (.inr 0) S) ∧ (((kd = 0 ∨ kd = 1) ∧ 0 ≤ c ∧ c < 6) →
    (¬ ((0 ≤ x ∧ x < 16 ∧ 1 ≤ w ∧ w ≤ 16 - x) ∧ (0 ≤ y ∧ y < 16 ∧ 1 ≤ g ∧ g ≤ 16 - y)) → post (.inr 1) S) ∧ (((0 ≤ x ∧ x < 16 ∧ 1 ≤ w ∧ w ≤ 16 - x) ∧ (0 ≤ y ∧ y < 16 ∧ 1 ≤ g ∧ g ≤ 16 - y)) → (S.2.1 1 1 = 7 → post (.inr 2) S) ∧
      (S.2.1 1 1 < 7 → ∃ U, 9 < U ∧ S.1 U = none ∧ S.1 (U + 1) = none ∧ ∀ X, rwP (newS S (U + 1) (100, 16)) X (U + 1) (rowsF kd x y w g) → post (.inl (some (vI (S.2.1 1 1 + 1)))) (updI (shNew X U (S.2.1 1 1) c) 1 1 (S.2.1 1 1 + 1)))))
  | _ => False
def spX6_shape : Nat → CD := spF mdX6_shape fun i => match i with
  | 1 => (s_isColour, 0, 0, 1)
  | 2 => (s_isSpan, 0, 0, 2)
  | 3 => (s_min, 0, 0, 1)
  | 4 => (s_shInit, 0, 0, 1)
  | _ => noR
set_option maxHeartbeats 4000000 in
set_option maxRecDepth 100000 in
theorem sat_X6_shape : Sat mX6_shape s_shapeC 2 22 12 := by
  refine sat_of (E := eX6_shape) (sp := spX6_shape) (ini := false) (by decide +kernel) (fun h => by cases h) okX6_shape (fun i => match i with
    | 1 => ⟨sat_X6_isColour, Nat.le_of_ble_eq_true rfl⟩
    | 2 => ⟨sat_X6_isSpan, Nat.le_of_ble_eq_true rfl⟩
    | 3 => ⟨sat_J9_min_7cf53, Nat.le_of_ble_eq_true rfl⟩
    | 4 => ⟨sat_X4_init, Nat.le_of_ble_eq_true rfl⟩
    | i + 5 => ⟨sat_no _, Nat.le_of_ble_eq_true rfl⟩
    | 0 => ⟨sat_no _, Nat.le_of_ble_eq_true rfl⟩) ?_
  intro as S post h
  match as, h with
  | [.inr (.inr (some 1)), .inl kd, .inl c, .inl x, .inl y, .inl w, .inl g], h =>
    obtain ⟨W, hW, hd, hA, hB⟩ := h
    obtain ⟨i0, i1, i2, i3, i4, i5⟩ := hd
    have hr := hW.2.1
    have hc := hW.1
    obtain ⟨f1, f2, f3, f4, f5, f6, f7, f8, f9, f10, f11, fn⟩ := hW.1
    by_cases z1 : (kd = 0 ∨ kd = 1) ∧ 0 ≤ c ∧ c < 6
    · obtain ⟨hA1, hB1⟩ := hB z1
      by_cases z2 : (0 ≤ x ∧ x < 16 ∧ 1 ≤ w ∧ w ≤ 16 - x) ∧ (0 ≤ y ∧ y < 16 ∧ 1 ≤ g ∧ g ≤ 16 - y)
      · obtain ⟨hA2, hB2⟩ := hB1 z2
        by_cases z3 : S.2.1 1 1 < 7
        · obtain ⟨U, hU, n1, n2, hB3⟩ := hB2 z3
          have hz : ∀ j, (newS S (U + 1) (100, 16)).2.1 (U + 1) j = rowsF kd x y w ((0 : Nat) : Int) j := fun j => by
            unfold rowsF
            rw [newS_2, if_pos rfl, if_neg (by omega)]
          refine bodyL [(86, fun ms L st S' cc => ∃ (k : Nat) (a9 : AV), L = [vT 1, vI kd, vI c, vI x, vI y, vI w, vI g, vT (U + 1), vI k, a9] ∧ st = [] ∧ cc = (1, 16) ∧ ms = 20 - k ∧ (k : Int) ≤ g ∧ rwP (newS S (U + 1) (100, 16)) S' (U + 1) (rowsF kd x y w k)),
            (145, fun ms L st S' cc => ∃ (a8 a9 : AV), L = [vT 1, vI kd, vI c, vI x, vI y, vI w, vI g, vT (U + 1), a8, a9] ∧ st = [] ∧ cc = (1, 16) ∧ ms = 0 ∧ rwP (newS S (U + 1) (100, 16)) S' (U + 1) (rowsF kd x y w g))] 22 140 rfl
            (List.forall_mem_cons.mpr ⟨?_, List.forall_mem_cons.mpr ⟨?_, fun q hq => by cases hq⟩⟩) ?_
          · rintro ms L st S' cc ⟨k, a9, rfl, rfl, rfl, rfl, hk, hR⟩
            obtain ⟨r1, r2, r3, r4⟩ := hR
            have t1 : S'.1 (U + 1) = some (100, 16) := by rw [r1, newS_1, if_pos rfl]
            have hstep : ∀ v : Int, v = wideC kd w k → rwP (newS S (U + 1) (100, 16)) (updI S' (U + 1) (y + k).toNat (bShl (bShl 1 v - 1) x)) (U + 1) (rowsF kd x y w (k + 1 : Nat)) := fun v hv => by
              refine ⟨r1, r2, fun t ht => ?_, fun j => ?_⟩
              · funext j
                rw [updI_2, if_neg (fun q => ht q.1), r3 t ht]
              · rw [updI_2]
                by_cases e : j = (y + k).toNat
                · rw [if_pos ⟨rfl, e⟩]
                  unfold rowsF
                  rw [if_pos (by omega), show (j : Int) - y = k by omega, hv]
                  rfl
                · rw [if_neg (fun q => e q.2), r4]
                  unfold rowsF
                  by_cases e2 : y ≤ j ∧ (j : Int) < y + k
                  · rw [if_pos e2, if_pos (by omega)]
                  · rw [if_neg e2, if_neg (by omega)]
            repeat' (first
                | omega
                | with_reducible apply And.intro
                | (intro c9; (try simp only [mg, mf, colK, stK, clK, mnK, shN] at c9))
                | exact ⟨100, 16, t1, by omega⟩
                | exact ⟨16, t1, by omega, by omega⟩
                | (simp only [mg, mf, colK, stK, clK, mnK, shN]; omega)
                | refine Exists.intro _ (And.intro rfl ?_)
                | ((with_reducible show wp _ _ _ _ _ _ _ _ _ _ _ _ _ _); conv => whnf)
                | ((with_reducible show callK _ _ _ _ _ _ _ _ _); conv => whnf)
                | ((with_reducible show condK _ _ _ _ _); conv => whnf)
                | ((with_reducible show st1 _ _ _ _ _ _ _ _ _ _ _ _); conv => whnf)
                | ((with_reducible show (Prod.fst _ : Spec) _ _ _); conv => whnf)
                | ((with_reducible show shortK _ _); conv => whnf)
                | exact Nat.le_of_ble_eq_true rfl)
            · have e : (k : Int) = g := by omega
              exact ⟨0, by omega, vI k, a9, rfl, rfl, rfl, rfl, r1, r2, r3, by rw [← e]; exact r4⟩
            · exact ⟨20 - (k + 1), by omega, k + 1, _, by rw [Int.natCast_add]; rfl, rfl, rfl, rfl, by omega, hstep _ (by unfold wideC; rw [if_neg ‹kd ≠ 0›]; exact c9)⟩
            · exact ⟨20 - (k + 1), by omega, k + 1, _, by rw [Int.natCast_add]; rfl, rfl, rfl, rfl, by omega, hstep _ (by unfold wideC; rw [if_pos c9])⟩
          · rintro ms L st S' cc ⟨a8, a9, rfl, rfl, rfl, rfl, hR⟩
            have hB4 := hB3 S' hR
            obtain ⟨r1, r2, r3, r4⟩ := hR
            have t : ∀ t, t ≠ U + 1 → S'.1 t = S.1 t ∧ S'.2.1 t = S.2.1 t ∧ S'.2.2 t = S.2.2 t := fun t ht => ⟨by rw [r1, newS_1, if_neg ht], by rw [r3 t ht]; funext j; rw [newS_2, if_neg ht], by rw [r2]; funext j; rw [newS_3, if_neg ht]⟩
            have t1 : S'.1 1 = some (6, 9) := by rw [(t 1 (by omega)).1]; exact f1
            have t2 : S'.2.2 1 0 = some 4 := by rw [(t 1 (by omega)).2.2]; exact f2
            have t3 : S'.1 4 = some (114, 7) := by rw [(t 4 (by omega)).1]; exact f7
            have t4 : S'.2.1 1 1 = S.2.1 1 1 := by rw [(t 1 (by omega)).2.1]
            have t5 : S'.1 U = none := by rw [(t U (by omega)).1]; exact n1
            have s1 : (newS S' U (4, clN 4)).1 1 = some (6, 9) := by rw [newS_1, if_neg (by omega)]; exact t1
            have sU : (newS S' U (4, clN 4)).1 U = some (4, 5) := by rw [newS_1, if_pos rfl]; rfl
            have hi : (newS S' U (4, clN 4)).2.1 1 1 = S.2.1 1 1 := by rw [newS_2, if_neg (by omega)]; exact t4
            have y1 : (shNew S' U (S.2.1 1 1) c).1 1 = some (6, 9) := s1
            have y4 : (shNew S' U (S.2.1 1 1) c).1 4 = some (114, 7) := by
              show (newS S' U (4, clN 4)).1 4 = _
              rw [newS_1, if_neg (by omega)]; exact t3
            have yU : (shNew S' U (S.2.1 1 1) c).1 U = some (4, 5) := sU
            have y11 : (shNew S' U (S.2.1 1 1) c).2.1 1 1 = S.2.1 1 1 := by
              unfold shNew
              simp only [updR_2, updI_2, newS_2, show ¬ (1 = U) by omega, false_and, if_false]
              exact t4
            have hB5 : post (.inl (some (vI ((updI (shNew S' U (S.2.1 1 1) c) 1 1 ((shNew S' U (S.2.1 1 1) c).2.1 1 1 + 1)).2.1 1 1)))) (updI (shNew S' U (S.2.1 1 1) c) 1 1 ((shNew S' U (S.2.1 1 1) c).2.1 1 1 + 1)) := by
              rw [updI_2, if_pos ⟨rfl, rfl⟩, y11]; exact hB4
            repeat' (first
                | omega
                | with_reducible apply And.intro
                | (intro c9; (try simp only [mg, mf, colK, stK, clK, mnK, shN] at c9))
                | exact ⟨9, t1⟩
                | exact ⟨9, s1⟩
                | exact ⟨9, y1⟩
                | exact sU
                | rw [t4]
                | rw [hi]
                | refine Exists.intro U (And.intro t5 ?_)
                | exact ⟨4, 7, 5, y4, rfl, yU, by omega, by omega⟩
                | exact hB5
                | (simp only [mg, mf, colK, stK, clK, mnK, shN]; omega)
                | refine Exists.intro _ (And.intro rfl ?_)
                | refine Exists.intro _ (And.intro (t2) ?_)
                | ((with_reducible show wp _ _ _ _ _ _ _ _ _ _ _ _ _ _); conv => whnf)
                | ((with_reducible show callK _ _ _ _ _ _ _ _ _); conv => whnf)
                | ((with_reducible show condK _ _ _ _ _); conv => whnf)
                | ((with_reducible show st1 _ _ _ _ _ _ _ _ _ _ _ _); conv => whnf)
                | ((with_reducible show (Prod.fst _ : Spec) _ _ _); conv => whnf)
                | ((with_reducible show shortK _ _); conv => whnf)
                | exact Nat.le_of_ble_eq_true rfl)
          · repeat' (first
                | omega
                | with_reducible apply And.intro
                | (intro c9; (try simp only [mg, mf, colK, stK, clK, mnK, shN] at c9))
                | exact ⟨9, f1⟩
                | refine ⟨114, 7, f7, by omega, ?_⟩
                | refine Exists.intro (U + 1) (And.intro n2 ?_)
                | exact absurd z1.1 (by omega)
                | exact ⟨20, by omega, 0, _, rfl, rfl, rfl, rfl, by omega, rfl, rfl, fun t _ => rfl, hz⟩
                | (simp only [mg, mf, colK, stK, clK, mnK, shN]; omega)
                | refine Exists.intro _ (And.intro rfl ?_)
                | refine Exists.intro _ (And.intro (f2) ?_)
                | ((with_reducible show wp _ _ _ _ _ _ _ _ _ _ _ _ _ _); conv => whnf)
                | ((with_reducible show callK _ _ _ _ _ _ _ _ _); conv => whnf)
                | ((with_reducible show condK _ _ _ _ _); conv => whnf)
                | ((with_reducible show st1 _ _ _ _ _ _ _ _ _ _ _ _); conv => whnf)
                | ((with_reducible show (Prod.fst _ : Spec) _ _ _); conv => whnf)
                | ((with_reducible show shortK _ _); conv => whnf)
                | exact Nat.le_of_ble_eq_true rfl)
        · refine body0 140 rfl ?_
          repeat' (first
              | omega
              | with_reducible apply And.intro
              | (intro c9; (try simp only [mg, mf, colK, stK, clK, mnK, shN] at c9))
              | exact ⟨9, f1⟩
              | refine ⟨114, 7, f7, by omega, ?_⟩
              | exact absurd z1.1 (by omega)
              | exact hA2 (by omega)
              | (simp only [mg, mf, colK, stK, clK, mnK, shN]; omega)
              | refine Exists.intro _ (And.intro rfl ?_)
              | refine Exists.intro _ (And.intro (f2) ?_)
              | ((with_reducible show wp _ _ _ _ _ _ _ _ _ _ _ _ _ _); conv => whnf)
              | ((with_reducible show callK _ _ _ _ _ _ _ _ _); conv => whnf)
              | ((with_reducible show condK _ _ _ _ _); conv => whnf)
              | ((with_reducible show st1 _ _ _ _ _ _ _ _ _ _ _ _); conv => whnf)
              | ((with_reducible show (Prod.fst _ : Spec) _ _ _); conv => whnf)
              | ((with_reducible show shortK _ _); conv => whnf)
              | exact Nat.le_of_ble_eq_true rfl)
      · refine body0 140 rfl ?_
        repeat' (first
            | omega
            | with_reducible apply And.intro
            | (intro c9; (try simp only [mg, mf, colK, stK, clK, mnK, shN] at c9))
            | exact ⟨9, f1⟩
            | exact absurd z1.1 (by omega)
            | exact hA1 (by omega)
            | (simp only [mg, mf, colK, stK, clK, mnK, shN]; omega)
            | refine Exists.intro _ (And.intro rfl ?_)
            | refine Exists.intro _ (And.intro (f2) ?_)
            | ((with_reducible show wp _ _ _ _ _ _ _ _ _ _ _ _ _ _); conv => whnf)
            | ((with_reducible show callK _ _ _ _ _ _ _ _ _); conv => whnf)
            | ((with_reducible show condK _ _ _ _ _); conv => whnf)
            | ((with_reducible show st1 _ _ _ _ _ _ _ _ _ _ _ _); conv => whnf)
            | ((with_reducible show (Prod.fst _ : Spec) _ _ _); conv => whnf)
            | ((with_reducible show shortK _ _); conv => whnf)
            | exact Nat.le_of_ble_eq_true rfl)
    · refine body0 140 rfl ?_
      repeat' (first
          | omega
          | with_reducible apply And.intro
          | (intro c9; (try simp only [mg, mf, colK, stK, clK, mnK, shN] at c9))
          | exact ⟨9, f1⟩
          | exact hA (by omega)
          | (simp only [mg, mf, colK, stK, clK, mnK, shN]; omega)
          | refine Exists.intro _ (And.intro rfl ?_)
          | refine Exists.intro _ (And.intro (f2) ?_)
          | ((with_reducible show wp _ _ _ _ _ _ _ _ _ _ _ _ _ _); conv => whnf)
          | ((with_reducible show callK _ _ _ _ _ _ _ _ _); conv => whnf)
          | ((with_reducible show condK _ _ _ _ _); conv => whnf)
          | ((with_reducible show st1 _ _ _ _ _ _ _ _ _ _ _ _); conv => whnf)
          | ((with_reducible show (Prod.fst _ : Spec) _ _ _); conv => whnf)
          | ((with_reducible show shortK _ _); conv => whnf)
          | exact Nat.le_of_ble_eq_true rfl)

