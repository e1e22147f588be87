/-! THE CLASS: its construction -/
def clNew (S : Sto) : Sto := updR (updR (newS (newS (updR (newS (updR (newS (updR (newS (updR (newS S 4 (114, 7)) 1 0 (some 4)) 5 (110, 6)) 1 2 (some 5)) 6 (111, 4)) 1 4 (some 6)) 7 (112, 20)) 1 6 (some 7)) 8 (5, clN 5)) 9 (100, 18)) 8 0 (some 9)) 1 8 (some 8)
def s_initC : Spec := fun as S post => match as with
  | [.inr (.inr (some 1))] => (S.1 1 = some (6, 9) ∧ ∀ k, 4 ≤ k → k ≤ 9 → S.1 k = none) ∧ post (.inl none) (clNew S)
  | _ => False
def spX6_init : Nat → CD := spF mdX6_init fun i => match i with
  | 1 => (s_spInit, 1, 18, 1)
  | _ => noR
set_option maxHeartbeats 4000000 in
set_option maxRecDepth 100000 in
theorem sat_X6_init : Sat mX6_init s_initC 6 56 2 := by
  refine sat_of (E := eX6_init) (sp := spX6_init) (ini := true) (by decide +kernel) (fun h => by rfl) okX6_init (fun i => match i with
    | 1 => ⟨sat_X5_init, Nat.le_of_ble_eq_true rfl⟩
    | i + 2 => ⟨sat_no _, Nat.le_of_ble_eq_true rfl⟩
    | 0 => ⟨sat_no _, Nat.le_of_ble_eq_true rfl⟩) ?_
  intro as S post h
  match as, h with
  | [.inr (.inr (some 1))], h =>
    obtain ⟨⟨h1, hn⟩, h⟩ := h
    have n4 := hn 4 (by omega) (by omega)
    have n5 : (newS S 4 (114, 7)).1 5 = none := by rw [newS_1, if_neg (by omega)]; exact hn 5 (by omega) (by omega)
    have n6 : (newS (newS S 4 (114, 7)) 5 (110, 6)).1 6 = none := by simp only [newS_1]; rw [if_neg (by omega), if_neg (by omega)]; exact hn 6 (by omega) (by omega)
    have n7 : (newS (newS (newS S 4 (114, 7)) 5 (110, 6)) 6 (111, 4)).1 7 = none := by simp only [newS_1]; rw [if_neg (by omega), if_neg (by omega), if_neg (by omega)]; exact hn 7 (by omega) (by omega)
    have n8 : (newS (newS (newS (newS S 4 (114, 7)) 5 (110, 6)) 6 (111, 4)) 7 (112, 20)).1 8 = none := by simp only [newS_1]; rw [if_neg (by omega), if_neg (by omega), if_neg (by omega), if_neg (by omega)]; exact hn 8 (by omega) (by omega)
    have n9 : (newS (newS (newS (newS (newS S 4 (114, 7)) 5 (110, 6)) 6 (111, 4)) 7 (112, 20)) 8 (5, clN 5)).1 9 = none := by simp only [newS_1]; rw [if_neg (by omega), if_neg (by omega), if_neg (by omega), if_neg (by omega), if_neg (by omega)]; exact hn 9 (by omega) (by omega)
    refine body0 120 rfl ?_
    repeat' (first
        | omega
        | with_reducible apply And.intro
        | (intro c9; (try simp only [mg, mf, colK, stK, clK, mnK, shN] at c9))
        | exact ⟨9, h1⟩
        | refine Exists.intro 4 (And.intro n4 ?_)
        | refine Exists.intro 5 (And.intro n5 ?_)
        | refine Exists.intro 6 (And.intro n6 ?_)
        | refine Exists.intro 7 (And.intro n7 ?_)
        | refine Exists.intro 8 (And.intro n8 ?_)
        | exact And.intro rfl n9
        | (refine ⟨9, ?_⟩; simp only [newS_1, updR_1]; exact h1)
        | (refine ⟨9, ?_⟩; exact h1)
        | exact n9
        | rfl
        | exact kr_i ( h ) (Nat.le_of_ble_eq_true rfl) (Nat.le_of_ble_eq_true rfl)
        | (simp only [mg, mf, colK, stK, clK, mnK, shN]; omega)
        | refine Exists.intro _ (And.intro rfl ?_)
        | ((with_reducible show wp _ _ _ _ _ _ _ _ _ _ _ _ _ _); conv => whnf)
        | ((with_reducible show callK _ _ _ _ _ _ _ _ _); conv => whnf)
        | ((with_reducible show condK _ _ _ _ _); conv => whnf)
        | ((with_reducible show st1 _ _ _ _ _ _ _ _ _ _ _ _); conv => whnf)
        | ((with_reducible show (Prod.fst _ : Spec) _ _ _); conv => whnf)
        | ((with_reducible show shortK _ _); conv => whnf)
        | exact Nat.le_of_ble_eq_true rfl)


