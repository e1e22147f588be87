def s_leaves : Spec := fun as S post => match as with
  | [.inr (.inr (some 2)), .inl o] => MS S ∧ (0 ≤ o ∧ o < 20 ∧ 0 ≤ mg S 27 o ∧ mg S 27 o < 4) ∧ post (.inl none) (updI (updI S (mt 17) (mg S 27 o).toNat (-1)) (mt 27) o.toNat (-1))
  | _ => False
def spX7_leaves : Nat → CD := spF mdX7_leaves fun i => match i with
  | _ => noR
set_option maxHeartbeats 4000000 in
set_option maxRecDepth 100000 in
theorem sat_X7_leaves : Sat mX7_leaves s_leaves 0 0 1 := by
  refine sat_of (E := eX7_leaves) (sp := spX7_leaves) (ini := false) (by decide +kernel) (fun h => by cases h) okX7_leaves (fun i => match i with
    | _ => ⟨sat_no _, Nat.le_of_ble_eq_true rfl⟩) ?_
  intro as S post h
  match as, h with
  | [.inr (.inr (some 2)), .inl o], h =>
    obtain ⟨hM, hp, h⟩ := h
    have hr := hM.2.1
    dsimp only [mg, mf, colK, stK, clK, mnK, shN] at *
    refine body0 80 rfl ?_
    repeat' (first
        | omega
        | with_reducible apply And.intro
        | (intro c9; (try simp only [mg, mf, colK, stK, clK, mnK, shN] at c9))
        | exact ms_o hM
        | (refine ms_r hM rfl rfl ?_ ?_ <;> (try simp only [mLen]) <;> omega)
        | (refine ms_w hM rfl rfl ?_ ?_ <;> (try simp only [mLen]) <;> omega)
        | exact h
        | exact kr_i ( h ) (Nat.le_of_ble_eq_true rfl) (Nat.le_of_ble_eq_true rfl)
        | (simp only [mg, mf, colK, stK, clK, mnK, shN]; omega)
        | refine Exists.intro _ (And.intro rfl ?_)
        | refine Exists.intro _ (And.intro ((congrFun hr _).trans rfl) ?_)
        | ((with_reducible show wp _ _ _ _ _ _ _ _ _ _ _ _ _ _); conv => whnf)
        | ((with_reducible show callK _ _ _ _ _ _ _ _ _); conv => whnf)
        | ((with_reducible show condK _ _ _ _ _); conv => whnf)
        | ((with_reducible show st1 _ _ _ _ _ _ _ _ _ _ _ _); conv => whnf)
        | ((with_reducible show (Prod.fst _ : Spec) _ _ _); conv => whnf)
        | ((with_reducible show shortK _ _); conv => whnf)
        | exact Nat.le_of_ble_eq_true rfl)
def wsN (S : Sto) (o : Int) : Int := mg S 28 o * mg S 10 (mg S 24 o) + mg S 29 o
def s_wastes : Spec := fun as S post => match as with
  | [.inr (.inr (some 2)), .inl o] => MS S ∧ (0 ≤ o ∧ o < 20 ∧ 0 ≤ mg S 24 o ∧ mg S 24 o < 6) ∧ post (.inl (some (vI (wsN S o)))) (updI (updI (updI S (mt 30) o.toNat (mg S 30 o + wsN S o)) (mt 28) o.toNat 0) (mt 29) o.toNat 0)
  | _ => False
def spX7_wastes : Nat → CD := spF mdX7_wastes fun i => match i with
  | _ => noR
set_option maxHeartbeats 4000000 in
set_option maxRecDepth 100000 in
theorem sat_X7_wastes : Sat mX7_wastes s_wastes 0 0 1 := by
  refine sat_of (E := eX7_wastes) (sp := spX7_wastes) (ini := false) (by decide +kernel) (fun h => by cases h) okX7_wastes (fun i => match i with
    | _ => ⟨sat_no _, Nat.le_of_ble_eq_true rfl⟩) ?_
  intro as S post h
  match as, h with
  | [.inr (.inr (some 2)), .inl o], h =>
    obtain ⟨hM, hp, h⟩ := h
    have hr := hM.2.1
    unfold wsN at h
    dsimp only [mg, mf, colK, stK, clK, mnK, shN] at *
    refine body0 80 rfl ?_
    repeat' (first
        | omega
        | with_reducible apply And.intro
        | (intro c9; (try simp only [mg, mf, colK, stK, clK, mnK, shN] at c9))
        | exact ms_o hM
        | (refine ms_r hM rfl rfl ?_ ?_ <;> (try simp only [mLen]) <;> omega)
        | (refine ms_w hM rfl rfl ?_ ?_ <;> (try simp only [mLen]) <;> omega)
        | exact h
        | exact kr_i ( h ) (Nat.le_of_ble_eq_true rfl) (Nat.le_of_ble_eq_true rfl)
        | (simp only [mg, mf, colK, stK, clK, mnK, shN]; omega)
        | refine Exists.intro _ (And.intro rfl ?_)
        | refine Exists.intro _ (And.intro ((congrFun hr _).trans rfl) ?_)
        | ((with_reducible show wp _ _ _ _ _ _ _ _ _ _ _ _ _ _); conv => whnf)
        | ((with_reducible show callK _ _ _ _ _ _ _ _ _); conv => whnf)
        | ((with_reducible show condK _ _ _ _ _); conv => whnf)
        | ((with_reducible show st1 _ _ _ _ _ _ _ _ _ _ _ _); conv => whnf)
        | ((with_reducible show (Prod.fst _ : Spec) _ _ _); conv => whnf)
        | ((with_reducible show shortK _ _); conv => whnf)
        | exact Nat.le_of_ble_eq_true rfl)
def sewU (S : Sto) (d its x y : Int) : Sto := updI (updI S (mt 11) (2240 * d + mnK S d).toNat (x + 16 * y + 256 * its)) (mt 10) d.toNat (mnK S d + 1)
def s_sews : Spec := fun as S post => match as with
  | [.inr (.inr (some 2)), .inl d, .inl its, .inl x, .inl y] => MS S ∧ (0 ≤ d ∧ d < 6 ∧ 0 ≤ mnK S d ∧ mnK S d < 2240) ∧ post (.inl none) (sewU S d its x y)
  | _ => False
def spX7_sews : Nat → CD := spF mdX7_sews fun i => match i with
  | _ => noR
set_option maxHeartbeats 4000000 in
set_option maxRecDepth 100000 in
theorem sat_X7_sews : Sat mX7_sews s_sews 0 0 1 := by
  refine sat_of (E := eX7_sews) (sp := spX7_sews) (ini := false) (by decide +kernel) (fun h => by cases h) okX7_sews (fun i => match i with
    | _ => ⟨sat_no _, Nat.le_of_ble_eq_true rfl⟩) ?_
  intro as S post h
  match as, h with
  | [.inr (.inr (some 2)), .inl d, .inl its, .inl x, .inl y], h =>
    obtain ⟨hM, hp, h⟩ := h
    have hr := hM.2.1
    unfold sewU at h
    dsimp only [mg, mf, colK, stK, clK, mnK, shN] at *
    refine body0 80 rfl ?_
    repeat' (first
        | omega
        | with_reducible apply And.intro
        | (intro c9; (try simp only [mg, mf, colK, stK, clK, mnK, shN] at c9))
        | exact ms_o hM
        | (refine ms_r hM rfl rfl ?_ ?_ <;> (try simp only [mLen]) <;> omega)
        | (refine ms_w hM rfl rfl ?_ ?_ <;> (try simp only [mLen]) <;> omega)
        | (simpa [updI_2, mt] using h)
        | exact kr_i ( h ) (Nat.le_of_ble_eq_true rfl) (Nat.le_of_ble_eq_true rfl)
        | (simp only [mg, mf, colK, stK, clK, mnK, shN]; omega)
        | refine Exists.intro _ (And.intro rfl ?_)
        | refine Exists.intro _ (And.intro ((congrFun hr _).trans rfl) ?_)
        | ((with_reducible show wp _ _ _ _ _ _ _ _ _ _ _ _ _ _); conv => whnf)
        | ((with_reducible show callK _ _ _ _ _ _ _ _ _); conv => whnf)
        | ((with_reducible show condK _ _ _ _ _); conv => whnf)
        | ((with_reducible show st1 _ _ _ _ _ _ _ _ _ _ _ _); conv => whnf)
        | ((with_reducible show (Prod.fst _ : Spec) _ _ _); conv => whnf)
        | ((with_reducible show shortK _ _); conv => whnf)
        | exact Nat.le_of_ble_eq_true rfl)
/-- r is the lowest shade above k that is enough, -1 without -/
def shP (S : Sto) (its need k r : Int) : Prop := (r = -1 ∧ ∀ j, k < j → j ≤ 2 → mg S 22 (3 * its + j) < need) ∨ (k < r ∧ r ≤ 2 ∧ need ≤ mg S 22 (3 * its + r) ∧ ∀ j, k < j → j < r → mg S 22 (3 * its + j) < need)
theorem shP_lo {S : Sto} {its need k r : Int} (h : shP S its need k r) (hk : mg S 22 (3 * its + k) < need) : shP S its need (k + -1) r := by
  rcases h with ⟨h1, h2⟩ | ⟨h1, h2, h3, h4⟩
  · refine Or.inl ⟨h1, fun j q1 q2 => ?_⟩
    by_cases e : j = k
    · rw [e]; exact hk
    · exact h2 j (by omega) q2
  · refine Or.inr ⟨by omega, h2, h3, fun j q1 q2 => ?_⟩
    by_cases e : j = k
    · rw [e]; exact hk
    · exact h4 j (by omega) q2
theorem shP_hi {S : Sto} {its need k : Int} (h2 : k ≤ 2) (hk : need ≤ mg S 22 (3 * its + k)) : shP S its need (k + -1) k := Or.inr ⟨by omega, h2, hk, fun j q1 q2 => by omega⟩
def needK (S : Sto) (o its : Int) : Int := mg S 25 o * cntC S (mg S 24 o) its (mnK S (mg S 24 o)).toNat
def orOK (S : Sto) (o : Int) : Prop := 0 ≤ o ∧ o < 20 ∧ 1 ≤ mg S 25 o ∧ mg S 25 o ≤ 50 ∧ dsOK S (mg S 24 o)
def stkOK (S : Sto) : Prop := ∀ k, 0 ≤ k → k < 18 → 0 ≤ mg S 22 k ∧ mg S 22 k ≤ 1000000
def s_shadeFor : Spec := sP2 (fun S o its => orOK S o ∧ 0 ≤ its ∧ its < 6 ∧ stkOK S) fun S o its r => shP S its (needK S o its) (-1) r
def spX7_shadeFor : Nat → CD := spF mdX7_shadeFor fun i => match i with
  | 1 => (s_manyOf, 0, 0, 2)
  | _ => noR
set_option maxHeartbeats 4000000 in
set_option maxRecDepth 100000 in
theorem sat_X7_shadeFor : Sat mX7_shadeFor s_shadeFor 0 0 3 := by
  refine sat_of (E := eX7_shadeFor) (sp := spX7_shadeFor) (ini := false) (by decide +kernel) (fun h => by cases h) okX7_shadeFor (fun i => match i with
    | 1 => ⟨sat_X7_manyOf, Nat.le_of_ble_eq_true rfl⟩
    | i + 2 => ⟨sat_no _, Nat.le_of_ble_eq_true rfl⟩
    | 0 => ⟨sat_no _, Nat.le_of_ble_eq_true rfl⟩) ?_
  intro as S post h
  match as, h with
  | [.inr (.inr (some 2)), .inl o, .inl its], h =>
    obtain ⟨hM, ⟨⟨o0, o1, o2, o3, hds⟩, i0, i1, hk⟩, h⟩ := h
    have hr := hM.2.1
    have hd2 := hds
    obtain ⟨d0, d1, -⟩ := hd2
    have hmul : ∀ q w : Int, 0 ≤ q → q ≤ 2240 → 1 ≤ w → w ≤ 50 → 0 ≤ w * q ∧ w * q ≤ 112000 := fun q w h1 h2 h3 h4 => ⟨Int.mul_nonneg (by omega) h1, by
      have := Int.mul_le_mul h4 h2 h1 (by omega : (0 : Int) ≤ 50)
      omega⟩
    refine body1 25 (fun n L st S' c => ∃ k r w : Int, L = [vT 2, vI o, vI its, vI w, vI r, vI k] ∧ st = [] ∧ S' = S ∧ c = (0, 0) ∧ n = (k + 1).toNat ∧ -1 ≤ k ∧ k ≤ 2 ∧ w = needK S o its ∧ 0 ≤ w ∧ w ≤ 112000 ∧ -1 ≤ r ∧ r ≤ 2 ∧ shP S its w k r) 10 100 rfl ?_ ?_
    · rintro n L st S' c ⟨k, r, w, rfl, rfl, rfl, rfl, rfl, h0, h1, h2, h3, h4, h5, h6, h7⟩
      have hkk : 0 ≤ k → 0 ≤ mg S' 22 (3 * its + k) ∧ mg S' 22 (3 * its + k) ≤ 1000000 := fun q => hk _ (by omega) (by omega)
      dsimp only [mg, mf, colK, stK, clK, mnK, shN] at *
      repeat' (first
          | omega
          | with_reducible apply And.intro
          | (intro c9; (try simp only [mg, mf, colK, stK, clK, mnK, shN] at c9))
          | exact ms_o hM
          | (refine ms_r hM rfl rfl ?_ ?_ <;> (try simp only [mLen]) <;> omega)
          | (simp only [mg, mf, colK, stK, clK, mnK, shN]; omega)
          | refine Exists.intro _ (And.intro rfl ?_)
          | refine Exists.intro _ (And.intro ((congrFun hr _).trans rfl) ?_)
          | ((with_reducible show wp _ _ _ _ _ _ _ _ _ _ _ _ _ _); conv => whnf)
          | ((with_reducible show callK _ _ _ _ _ _ _ _ _); conv => whnf)
          | ((with_reducible show condK _ _ _ _ _); conv => whnf)
          | ((with_reducible show st1 _ _ _ _ _ _ _ _ _ _ _ _); conv => whnf)
          | ((with_reducible show (Prod.fst _ : Spec) _ _ _); conv => whnf)
          | ((with_reducible show shortK _ _); conv => whnf)
          | exact Nat.le_of_ble_eq_true rfl)
      · have e : k = -1 := by omega
        subst e; subst h2
        exact h _ h7
      · exact ⟨(k + -1 + 1).toNat, by omega, k + -1, r, w, rfl, rfl, rfl, rfl, rfl, by omega, by omega, h2, h3, h4, h5, h6, shP_lo h7 c9⟩
      · exact ⟨(k + -1 + 1).toNat, by omega, k + -1, k, w, rfl, rfl, rfl, rfl, rfl, by omega, by omega, h2, h3, h4, by omega, by omega, shP_hi h1 c9⟩
    · dsimp only [mg, mf, colK, stK, clK, mnK, shN] at *
      repeat' (first
          | omega
          | with_reducible apply And.intro
          | (intro c9; (try simp only [mg, mf, colK, stK, clK, mnK, shN] at c9))
          | exact ms_o hM
          | exact hM
          | exact hds
          | (refine ms_r hM rfl rfl ?_ ?_ <;> (try simp only [mLen]) <;> omega)
          | (simp only [mg, mf, colK, stK, clK, mnK, shN]; omega)
          | refine Exists.intro _ (And.intro rfl ?_)
          | refine Exists.intro _ (And.intro ((congrFun hr _).trans rfl) ?_)
          | ((with_reducible show wp _ _ _ _ _ _ _ _ _ _ _ _ _ _); conv => whnf)
          | ((with_reducible show callK _ _ _ _ _ _ _ _ _); conv => whnf)
          | ((with_reducible show condK _ _ _ _ _); conv => whnf)
          | ((with_reducible show st1 _ _ _ _ _ _ _ _ _ _ _ _); conv => whnf)
          | ((with_reducible show (Prod.fst _ : Spec) _ _ _); conv => whnf)
          | ((with_reducible show shortK _ _); conv => whnf)
          | exact Nat.le_of_ble_eq_true rfl)
      rename_i r9
      have hw := hmul r9 _ c9.2.1 c9.2.2 o2 o3
      exact ⟨3, by omega, 2, -1, _, rfl, rfl, rfl, rfl, rfl, by omega, by omega, by rw [c9.1]; rfl, hw.1, hw.2, by omega, by omega, Or.inl ⟨rfl, fun j q1 q2 => by omega⟩⟩
def s_aheadOf : Spec := sP2 (fun S d its => 0 ≤ d ∧ d < 6 ∧ 0 ≤ its ∧ its < 7 ∧ ∀ k, 0 ≤ k → k ≤ its → shOK S (7 * d + k)) fun S d its r => ∃ A : Nat, r = A ∧ A < 128 ∧ ∀ k : Nat, A.testBit k = true ↔ (k : Int) < its ∧ metP S (7 * d + k) (7 * d + its)
def spX7_aheadOf : Nat → CD := spF mdX7_aheadOf fun i => match i with
  | 1 => (s_areMet, 0, 0, 3)
  | _ => noR
set_option maxHeartbeats 4000000 in
set_option maxRecDepth 100000 in
theorem sat_X7_aheadOf : Sat mX7_aheadOf s_aheadOf 0 0 4 := by
  refine sat_of (E := eX7_aheadOf) (sp := spX7_aheadOf) (ini := false) (by decide +kernel) (fun h => by cases h) okX7_aheadOf (fun i => match i with
    | 1 => ⟨sat_X7_areMet, Nat.le_of_ble_eq_true rfl⟩
    | i + 2 => ⟨sat_no _, Nat.le_of_ble_eq_true rfl⟩
    | 0 => ⟨sat_no _, Nat.le_of_ble_eq_true rfl⟩) ?_
  intro as S post h
  match as, h with
  | [.inr (.inr (some 2)), .inl d, .inl its], h =>
    obtain ⟨hM, ⟨d0, d1, i0, i1, hs⟩, h⟩ := h
    refine body1 5 (fun n L st S' c => ∃ (k : Int) (A : Nat), L = [vT 2, vI d, vI its, vI A, vI k] ∧ st = [] ∧ S' = S ∧ c = (0, 0) ∧ n = (7 - k).toNat ∧ 0 ≤ k ∧ k ≤ its ∧ A < 128 ∧ ∀ q : Nat, A.testBit q = true ↔ (q : Int) < k ∧ metP S (7 * d + q) (7 * d + its)) 10 100 rfl ?_ ?_
    · rintro n L st S' c ⟨k, A, rfl, rfl, rfl, rfl, rfl, h0, h1, h2, h3⟩
      have hsi := hs its i0 (Int.le_refl _)
      have hsk := hs k h0 h1
      repeat' (first
          | omega
          | with_reducible apply And.intro
          | (intro c9; (try simp only [mg, mf, colK, stK, clK, mnK, shN] at c9))
          | exact hM
          | exact ms_o hM
          | exact hsi
          | exact hsk
          | (simp only [mg, mf, colK, stK, clK, mnK, shN]; omega)
          | refine Exists.intro _ (And.intro rfl ?_)
          | ((with_reducible show wp _ _ _ _ _ _ _ _ _ _ _ _ _ _); conv => whnf)
          | ((with_reducible show callK _ _ _ _ _ _ _ _ _); conv => whnf)
          | ((with_reducible show condK _ _ _ _ _); conv => whnf)
          | ((with_reducible show st1 _ _ _ _ _ _ _ _ _ _ _ _); conv => whnf)
          | ((with_reducible show (Prod.fst _ : Spec) _ _ _); conv => whnf)
          | ((with_reducible show shortK _ _); conv => whnf)
          | exact Nat.le_of_ble_eq_true rfl)
      · have e : k = its := by omega
        subst e
        exact h _ ⟨A, rfl, h2, h3⟩
      · rename_i r9 hr9
        refine ⟨(7 - (k + 1)).toNat, by omega, k + 1, A, ?_, rfl, rfl, rfl, rfl, by omega, by omega, h2, fun q => ?_⟩
        · show [vT 2, vI d, vI its, vI (bOr A 0), vI (k + 1)] = _
          rw [bz_or0 A ⟨by omega, by omega⟩]
        · rw [h3 q]
          constructor
          · rintro ⟨q1, q2⟩; exact ⟨by omega, q2⟩
          · rintro ⟨q1, q2⟩
            refine ⟨?_, q2⟩
            by_cases e : (q : Int) = k
            · rw [e] at q2; exact absurd q2 (isB0 hr9 c9)
            · omega
      · rename_i r9 hr9
        have hmet := isB1 hr9 c9
        obtain ⟨kn, rfl⟩ : ∃ kn : Nat, k = kn := ⟨k.toNat, by omega⟩
        refine ⟨(7 - ((kn : Int) + 1)).toNat, by omega, kn + 1, A ||| 2 ^ kn, ?_, rfl, rfl, rfl, rfl, by omega, by omega, Nat.or_lt_two_pow (n := 7) h2 (Nat.pow_lt_pow_right (by omega) (by omega)), fun q => ?_⟩
        · show [vT 2, vI d, vI its, vI (bOr A (bShl 1 kn)), vI ((kn : Int) + 1)] = _
          rw [bz_or A kn h2 (by omega)]
        · rw [Nat.testBit_or, Nat.testBit_two_pow, Bool.or_eq_true, decide_eq_true_eq, h3 q]
          constructor
          · rintro (⟨q1, q2⟩ | q1)
            · exact ⟨by omega, q2⟩
            · subst q1; exact ⟨by omega, hmet⟩
          · rintro ⟨q1, q2⟩
            by_cases e : kn = q
            · exact Or.inr e
            · exact Or.inl ⟨by omega, q2⟩
    · repeat' (first
          | omega
          | with_reducible apply And.intro
          | (intro c9; (try simp only [mg, mf, colK, stK, clK, mnK, shN] at c9))
          | (simp only [mg, mf, colK, stK, clK, mnK, shN]; omega)
          | refine Exists.intro _ (And.intro rfl ?_)
          | ((with_reducible show wp _ _ _ _ _ _ _ _ _ _ _ _ _ _); conv => whnf)
          | ((with_reducible show callK _ _ _ _ _ _ _ _ _); conv => whnf)
          | ((with_reducible show condK _ _ _ _ _); conv => whnf)
          | ((with_reducible show st1 _ _ _ _ _ _ _ _ _ _ _ _); conv => whnf)
          | ((with_reducible show (Prod.fst _ : Spec) _ _ _); conv => whnf)
          | ((with_reducible show shortK _ _); conv => whnf)
          | exact Nat.le_of_ble_eq_true rfl)
      exact ⟨7, by omega, 0, 0, rfl, rfl, rfl, rfl, rfl, by omega, by omega, by omega, fun q => by simp; omega⟩
