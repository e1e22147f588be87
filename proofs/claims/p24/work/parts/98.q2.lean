/-! THE LAW'S SMALL METHODS -/
def s_off : Spec := fun as S post => match as with
  | [.inl x] => InR x ∧ ∀ r, isB r (x > 1 ∨ x < -1) → post (.inl (some (vI r))) S
  | _ => False
def spL_off : Nat → CD := spF mdL_off fun i => match i with
  | _ => noR
set_option maxHeartbeats 40000000 in
set_option maxRecDepth 100000 in
theorem sat_L_off : Sat mL_off s_off 0 0 1 := by
  refine sat_of (E := eL_off) (sp := spL_off) (ini := false) (by decide +kernel) (fun h => by cases h) okL_off (fun i => match i with
    | _ => ⟨sat_no _, Nat.le_of_ble_eq_true rfl⟩) ?_
  intro as S post h
  match as, h with
  | [.inl x], h =>
    obtain ⟨hx, h⟩ := h
    refine body0 40 rfl ?_
    repeat' (first
        | omega
        | with_reducible apply And.intro
        | intro c9
        | exact hx.1
        | exact hx.2
        | refine Exists.intro _ (And.intro rfl ?_)
        | ((with_reducible show wp _ _ _ _ _ _ _ _ _ _ _ _ _ _); conv => whnf)
        | ((with_reducible show callK _ _ _ _ _ _ _ _ _); conv => whnf)
        | ((with_reducible show condK _ _ _ _ _); conv => whnf)
        | ((with_reducible show st1 _ _ _ _ _ _ _ _ _ _ _ _); conv => whnf)
        | ((with_reducible show (Prod.fst _ : Spec) _ _ _); conv => whnf)
        | ((with_reducible show shortK _ _); conv => whnf)
        | exact Nat.le_of_ble_eq_true rfl)
    all_goals first
      | exact kr_i ( h _ (isBt (by omega)) ) (Nat.le_of_ble_eq_true rfl) (Nat.le_of_ble_eq_true rfl)
      | exact kr_i ( h _ (isBf (by omega)) ) (Nat.le_of_ble_eq_true rfl) (Nat.le_of_ble_eq_true rfl)
theorem bAnd_pos (a : Int) : 0 ≤ bAnd a 2147483647 ∧ bAnd a 2147483647 ≤ 2147483647 := by
  have h1 : (Int32.ofInt a &&& Int32.ofInt 2147483647).toBitVec.toNat ≤ 2147483647 := by
    rw [Int32.toBitVec_and, BitVec.toNat_and]
    have e := bn_nat (a := 2147483647) (by omega)
    have e' : (Int32.ofInt 2147483647).toBitVec.toNat = 2147483647 := e
    rw [e']
    exact Nat.and_le_right
  unfold bAnd
  rw [bn_int (by omega)]
  omega
def s_draw : Spec := fun as S post => match as with
  | [.inr (.inr (some 10)), .inl k] => ∃ Ln : Nat, S.1 10 = some (102, Ln) ∧ (0 ≤ k ∧ k < Ln ∧ Ln ≤ 1000) ∧ ∀ v, 0 ≤ v ∧ v ≤ 2147483647 → post (.inl (some (vI v))) S
  | _ => False
def spL_draw : Nat → CD := spF mdL_draw fun i => match i with
  | _ => noR
set_option maxHeartbeats 40000000 in
set_option maxRecDepth 100000 in
theorem sat_L_draw : Sat mL_draw s_draw 0 0 1 := by
  refine sat_of (E := eL_draw) (sp := spL_draw) (ini := false) (by decide +kernel) (fun h => by cases h) okL_draw (fun i => match i with
    | _ => ⟨sat_no _, Nat.le_of_ble_eq_true rfl⟩) ?_
  intro as S post h
  match as, h with
  | [.inr (.inr (some 10)), .inl k], h =>
    obtain ⟨Ln, h1, hk, h⟩ := h
    refine body0 40 rfl ?_
    repeat' (first
        | omega
        | with_reducible apply And.intro
        | intro c9
        | refine ⟨102, Ln, h1, by omega, ?_⟩
        | exact ⟨102, Ln, h1, Or.inr rfl, by omega, by omega⟩
        | exact h _ (bAnd_pos _)
        | refine Exists.intro _ (And.intro rfl ?_)
        | ((with_reducible show wp _ _ _ _ _ _ _ _ _ _ _ _ _ _); conv => whnf)
        | ((with_reducible show callK _ _ _ _ _ _ _ _ _); conv => whnf)
        | ((with_reducible show condK _ _ _ _ _); conv => whnf)
        | ((with_reducible show st1 _ _ _ _ _ _ _ _ _ _ _ _); conv => whnf)
        | ((with_reducible show (Prod.fst _ : Spec) _ _ _); conv => whnf)
        | ((with_reducible show shortK _ _); conv => whnf)
        | exact Nat.le_of_ble_eq_true rfl)
def s_areShades : Spec := fun as S post => match as with
  | [.inr (.inr (some 1)), .inl o] => ∃ xs Ln n R, PI xs Ln n R S ∧ (0 ≤ o ∧ o < nO R) ∧ (∀ c, 0 ≤ c → c < 6 → shdP R o c) ∧ post (.inl (some (vI 1))) S
  | _ => False
def spL_areShades : Nat → CD := spF mdL_areShades fun i => match i with
  | 1 => ((frS s_ofOrderI), 0, 0, 12)
  | 2 => ((frS s_shadeOfI), 0, 0, 12)
  | 3 => ((frS s_stitchesI), 0, 0, 12)
  | 4 => ((frS s_leftI), 0, 0, 12)
  | _ => noR
set_option maxHeartbeats 40000000 in
set_option maxRecDepth 100000 in
theorem sat_L_areShades : Sat mL_areShades s_areShades 0 0 13 := by
  refine sat_of (E := eL_areShades) (sp := spL_areShades) (ini := false) (by decide +kernel) (fun h => by cases h) okL_areShades (fun i => match i with
    | 1 => ⟨frS_sat sat_X6_ofOrder_i, Nat.le_of_ble_eq_true rfl⟩
    | 2 => ⟨frS_sat sat_X6_shadeOf_i, Nat.le_of_ble_eq_true rfl⟩
    | 3 => ⟨frS_sat sat_X6_stitches_i, Nat.le_of_ble_eq_true rfl⟩
    | 4 => ⟨frS_sat sat_X6_left_i, Nat.le_of_ble_eq_true rfl⟩
    | i + 5 => ⟨sat_no _, Nat.le_of_ble_eq_true rfl⟩
    | 0 => ⟨sat_no _, Nat.le_of_ble_eq_true rfl⟩) ?_
  intro as S post h
  match as, h with
  | [.inr (.inr (some 1)), .inl o], h =>
    obtain ⟨xs, Ln, n9, R, hP, ho, hsh, h⟩ := h
    have hI := hP.mi
    have hN := hI.2.1
    have hor := hI.2.2.2.2.2.1 o ho.1 ho.2
    have hd := hor.1
    have h25 := hor.2.1
    have hmn := (hI.2.2.2.1 _ hd.1 hd.2).mn
    have t1 : ∃ n, S.1 1 = some (6, n) := ⟨9, hP.t1⟩
    refine bodyL [(12, fun ms L st S' c => ∃ (k : Nat) (x5 x6 : AV), L = [vT 1, vI o, vI (mg R 24 o), vI 1, vI k, x5, x6] ∧ st = [] ∧ S' = S ∧ c = (0, 0) ∧ ms = 6 - k ∧ k ≤ 6)] 8 160 rfl
      (List.forall_mem_cons.mpr ⟨?_, fun q hq => by cases hq⟩) ?_
    · rintro ms L st S' c ⟨k, x5, x6, rfl, rfl, rfl, rfl, rfl, hk⟩
      by_cases hk6 : k < 6
      · have hs := hsh k (by omega) (by omega)
        have hcr := cnt_r (R := R) (d := mg R 24 o) (c := (k : Int)) (mnK R (mg R 24 o)).toNat
        have hN1 : 0 ≤ cntC R (mg R 24 o) k (mnK R (mg R 24 o)).toNat * mg R 25 o := Int.mul_nonneg hcr.1 (by omega)
        have hN2 : cntC R (mg R 24 o) k (mnK R (mg R 24 o)).toNat * mg R 25 o ≤ 112000 := by
          have := Int.mul_le_mul (show cntC R (mg R 24 o) k (mnK R (mg R 24 o)).toNat ≤ 2240 by omega) h25.2 (by omega) (by omega : (0 : Int) ≤ 2240)
          omega
        unfold shdP at hs
        generalize hNN : cntC R (mg R 24 o) k (mnK R (mg R 24 o)).toNat * mg R 25 o = NN at *
        by_cases z : NN = 0
        · have hs1 := hs.1 z
          clear hs
          repeat' (first
              | omega
              | with_reducible apply And.intro
              | intro c9
              | exact t1
              | refine gg_shadeOf hP ⟨ho, by omega, by omega⟩ ?_
              | refine gg_stitches hP ⟨hd, by omega, by omega⟩ ?_
              | refine gg_ord2 hP ⟨ho, rfl⟩ ?_
              | rw [hNN]
              | exact ⟨6 - (k + 1), by omega, k + 1, _, _, by rw [Int.natCast_add]; rfl, rfl, rfl, rfl, rfl, by omega⟩
              | refine Exists.intro _ (And.intro rfl ?_)
              | ((with_reducible show wp _ _ _ _ _ _ _ _ _ _ _ _ _ _); conv => whnf)
              | ((with_reducible show callK _ _ _ _ _ _ _ _ _); conv => whnf)
              | ((with_reducible show condK _ _ _ _ _); conv => whnf)
              | ((with_reducible show st1 _ _ _ _ _ _ _ _ _ _ _ _); conv => whnf)
              | ((with_reducible show (Prod.fst _ : Spec) _ _ _); conv => whnf)
              | ((with_reducible show shortK _ _); conv => whnf)
              | exact Nat.le_of_ble_eq_true rfl)
        · obtain ⟨s1, s2, s3⟩ := hs.2 z
          clear hs
          repeat' (first
              | omega
              | with_reducible apply And.intro
              | intro c9
              | exact t1
              | refine gg_shadeOf hP ⟨ho, by omega, by omega⟩ ?_
              | refine gg_stitches hP ⟨hd, by omega, by omega⟩ ?_
              | refine gg_ord2 hP ⟨ho, rfl⟩ ?_
              | refine gg_left hP ⟨by omega, by omega, by omega, by omega⟩ ?_
              | rw [hNN]
              | (have q := hI.2.2.2.2.2.2.2 (3 * (k : Int) + sdK R o k) (by omega) (by omega); omega)
              | (have q := hI.2.2.2.2.2.2.2 (3 * (k : Int) + (sdK R o k - 1)) (by omega) (by omega); omega)
              | exact ⟨6 - (k + 1), by omega, k + 1, _, _, by rw [Int.natCast_add]; rfl, rfl, rfl, rfl, rfl, by omega⟩
              | refine Exists.intro _ (And.intro rfl ?_)
              | ((with_reducible show wp _ _ _ _ _ _ _ _ _ _ _ _ _ _); conv => whnf)
              | ((with_reducible show callK _ _ _ _ _ _ _ _ _); conv => whnf)
              | ((with_reducible show condK _ _ _ _ _); conv => whnf)
              | ((with_reducible show st1 _ _ _ _ _ _ _ _ _ _ _ _); conv => whnf)
              | ((with_reducible show (Prod.fst _ : Spec) _ _ _); conv => whnf)
              | ((with_reducible show shortK _ _); conv => whnf)
              | exact Nat.le_of_ble_eq_true rfl)
      · repeat' (first
            | omega
            | with_reducible apply And.intro
            | intro c9
            | exact kr_i ( h ) (Nat.le_of_ble_eq_true rfl) (Nat.le_of_ble_eq_true rfl)
            | refine Exists.intro _ (And.intro rfl ?_)
            | ((with_reducible show wp _ _ _ _ _ _ _ _ _ _ _ _ _ _); conv => whnf)
            | ((with_reducible show callK _ _ _ _ _ _ _ _ _); conv => whnf)
            | ((with_reducible show condK _ _ _ _ _); conv => whnf)
            | ((with_reducible show st1 _ _ _ _ _ _ _ _ _ _ _ _); conv => whnf)
            | ((with_reducible show (Prod.fst _ : Spec) _ _ _); conv => whnf)
            | ((with_reducible show shortK _ _); conv => whnf)
            | exact Nat.le_of_ble_eq_true rfl)
    · repeat' (first
          | omega
          | with_reducible apply And.intro
          | intro c9
          | exact t1
          | refine gg_ord1 hP ⟨ho, rfl⟩ ?_
          | exact ⟨6, by omega, 0, _, _, rfl, rfl, rfl, rfl, rfl, by omega⟩
          | refine Exists.intro _ (And.intro rfl ?_)
          | ((with_reducible show wp _ _ _ _ _ _ _ _ _ _ _ _ _ _); conv => whnf)
          | ((with_reducible show callK _ _ _ _ _ _ _ _ _); conv => whnf)
          | ((with_reducible show condK _ _ _ _ _); conv => whnf)
          | ((with_reducible show st1 _ _ _ _ _ _ _ _ _ _ _ _); conv => whnf)
          | ((with_reducible show (Prod.fst _ : Spec) _ _ _); conv => whnf)
          | ((with_reducible show shortK _ _); conv => whnf)
          | exact Nat.le_of_ble_eq_true rfl)

