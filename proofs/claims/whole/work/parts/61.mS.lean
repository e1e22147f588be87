def canMa (S : Sto) (o c s : Int) : Prop := mg S 26 o = 1 ∧ 0 < needK S o c ∧ sdK S o c ≠ s ∧ needK S o c ≤ mg S 22 (3 * c + s)
def sewnP (S : Sto) (o c : Int) (n : Int) : Prop := 0 < mg S 28 o ∨ ∃ j, 0 ≤ j ∧ j < n ∧ clK S (mg S 24 o) j = c
def wsU (S : Sto) (o : Int) : Sto := updI (updI (updI S (mt 30) o.toNat (mg S 30 o + wsN S o)) (mt 28) o.toNat 0) (mt 29) o.toNat 0
def matchR (S : Sto) (o c s k v : Int) (S' : Sto) : Prop := ((¬ (0 ≤ o ∧ o < nO S ∧ 0 ≤ c ∧ c < 6 ∧ 0 ≤ s ∧ s < 3) ∧ k = 1) ∨ ((0 ≤ o ∧ o < nO S ∧ 0 ≤ c ∧ c < 6 ∧ 0 ≤ s ∧ s < 3) ∧ canMa S o c s ∧ k = 0) ∨ ((0 ≤ o ∧ o < nO S ∧ 0 ≤ c ∧ c < 6 ∧ 0 ≤ s ∧ s < 3) ∧ ¬ canMa S o c s ∧ k = 2)) ∧ (k ≠ 0 → S' = thr S k) ∧
  (k = 0 → (¬ sewnP S o c (mg S 29 o) ∧ v = 0 ∧ S' = updI (thr S 0) (mt 31) (6 * o + c).toNat s) ∨ (sewnP S o c (mg S 29 o) ∧ v = mg S 28 o + (if 0 < mg S 29 o then 1 else 0) ∧ S' = wsU (updI (thr S 0) (mt 31) (6 * o + c).toNat s) o))
def s_match : Spec := fun as S post => match as with
  | [.inr (.inr (some 2)), .inl o, .inl c, .inl s] => (∃ n, MI n S) ∧ (InR o ∧ InR c ∧ InR s) ∧ ∀ k v S', matchR S o c s k v S' → post (.inl (some (vI v))) S'
  | _ => False
def spX7_match : Nat → CD := spF mdX7_match fun i => match i with
  | 1 => (s_isNum_23, 0, 0, 2)
  | 2 => (s_isColour, 0, 0, 2)
  | 3 => (s_isShade, 0, 0, 2)
  | 4 => (s_manyOf, 0, 0, 2)
  | 5 => (s_holds, 0, 0, 1)
  | 6 => (s_colourAt, 0, 0, 1)
  | 7 => (s_wastes, 0, 0, 1)
  | _ => noR
set_option maxHeartbeats 4000000 in
set_option maxRecDepth 100000 in
theorem sat_X7_match : Sat mX7_match s_match 0 0 4 := by
  refine sat_of (E := eX7_match) (sp := spX7_match) (ini := false) (by decide +kernel) (fun h => by cases h) okX7_match (fun i => match i with
    | 1 => ⟨sat_X7_isOrder, Nat.le_of_ble_eq_true rfl⟩
    | 2 => ⟨sat_X7_isColour, Nat.le_of_ble_eq_true rfl⟩
    | 3 => ⟨sat_X7_isShade, Nat.le_of_ble_eq_true rfl⟩
    | 4 => ⟨sat_X7_manyOf, Nat.le_of_ble_eq_true rfl⟩
    | 5 => ⟨sat_X7_holds, Nat.le_of_ble_eq_true rfl⟩
    | 6 => ⟨sat_X7_colourAt, Nat.le_of_ble_eq_true rfl⟩
    | 7 => ⟨sat_X7_wastes, Nat.le_of_ble_eq_true rfl⟩
    | i + 8 => ⟨sat_no _, Nat.le_of_ble_eq_true rfl⟩
    | 0 => ⟨sat_no _, Nat.le_of_ble_eq_true rfl⟩) ?_
  intro as S post h
  match as, h with
  | [.inr (.inr (some 2)), .inl o, .inl c, .inl s], h =>
    obtain ⟨⟨n9, hI⟩, hin, h⟩ := h
    have hI2 := hI
    obtain ⟨hM, hN, -, -, -, -, -, hstk⟩ := hI2
    have hr := hM.2.1
    unfold nD nM nO at hN
    unfold matchR nO at h
    have hoi : 0 ≤ o → o < mf S 23 → ordI n9 S o := fun h0 h1 => hI.2.2.2.2.2.1 o h0 h1
    have hor : 0 ≤ o → o < mf S 23 → orOK S o := fun h0 h1 => hI.or h0 h1
    have hq : 0 ≤ o → o < mf S 23 → (0 ≤ mg S 26 o ∧ mg S 26 o ≤ 3) ∧ (0 ≤ mg S 24 o ∧ mg S 24 o < 6) ∧ (1 ≤ mg S 25 o ∧ mg S 25 o ≤ 50) ∧ (0 ≤ mg S 28 o ∧ mg S 28 o ≤ 50 ∧ 0 ≤ mg S 29 o ∧ mg S 29 o < 2240) ∧ (0 ≤ mg S 30 o ∧ mg S 30 o ≤ 1800000000) := fun h0 h1 => by
      have q := hoi h0 h1
      have q2 := (hor h0 h1).2.2.2.2.2.2.2.1
      have q3 := (hor h0 h1).2.2.2.2.2.1
      have q4 := (hor h0 h1).2.2.2.2.1
      unfold ordI nD nM at q
      obtain ⟨q1, q2', q3', -, q5, q6, -⟩ := q
      exact ⟨q3', ⟨q4, q3⟩, q2', ⟨q5.1, by omega, q5.2.2.1, Int.lt_of_lt_of_le q5.2.2.2.1 q2⟩, ⟨q6.1, by omega⟩⟩
    have hsd : 0 ≤ o → o < mf S 23 → 0 ≤ c → c < 6 → -1 ≤ sdK S o c ∧ sdK S o c < 3 := fun h0 h1 c0 c1 => by
      have q := (hoi h0 h1).2.2.2.2.2.2 c c0 c1
      exact ⟨q.1, q.2.1⟩
    have hst : 0 ≤ o → o < mf S 23 → ∀ j, 0 ≤ j → j < mg S 29 o → stOK S (mg S 24 o) j ∧ 0 ≤ clK S (mg S 24 o) j ∧ clK S (mg S 24 o) j < 6 := fun h0 h1 j j0 j1 => (hor h0 h1).2.2.2.2.2.2.2.2 j j0 (Int.lt_trans j1 (hoi h0 h1).2.2.2.2.1.2.2.2.1)
    have hmul : ∀ q w : Int, 0 ≤ q → q ≤ 2240 → 0 ≤ w → w ≤ 50 → 0 ≤ w * q ∧ w * q ≤ 112000 := fun q w h1 h2 h3 h4 => ⟨Int.mul_nonneg (by omega) h1, by
      have := Int.mul_le_mul h4 h2 h1 (by omega : (0 : Int) ≤ 50)
      omega⟩
    refine bodyL [(174, fun ms L st S' c' => ∃ (j is : Int) (x4 x5 x6 x9 : AV), L = [vT 2, vI o, vI c, vI s, x4, x5, x6, vI is, vI j, x9] ∧ st = [] ∧ c' = (0, 0) ∧ ms = (2240 - j).toNat ∧ (0 ≤ o ∧ o < mf S 23 ∧ 0 ≤ c ∧ c < 6 ∧ 0 ≤ s ∧ s < 3) ∧ canMa S o c s ∧ 0 ≤ j ∧ j ≤ mg S 29 o ∧ isB is (sewnP S o c j) ∧ S' = updI (thr S 0) (mt 31) (6 * o + c).toNat s)] 3000 300 rfl
      (List.forall_mem_cons.mpr ⟨?_, fun q hq => by cases hq⟩) ?_
    · rintro ms L st S' c' ⟨j, is, x4, x5, x6, x9, rfl, rfl, rfl, rfl, ho, hcan, j0, j1, his, hS⟩
      have his01 := isB01 his
      have hag : agr [31] (thr S 0) S' := by rw [hS]; exact agr.rf.upd (by simp)
      have hM : MS S' := hag.ms hM
      have hr := hM.2.1
      have hq := hq ho.1 ho.2.1
      have hst := hst ho.1 ho.2.1 j j0
      have e9 : ∀ k : Nat, k ≠ 31 → ∀ i, S'.2.1 (mt k) i = S.2.1 (mt k) i := fun k hk i => by
        have q := hag.mg (k := k) (i := i) (by simp; exact hk)
        exact q.trans u2
      have e24 := e9 24 (by omega)
      have e28 := e9 28 (by omega)
      have e29 := e9 29 (by omega)
      have e10 := e9 10 (by omega)
      have hws : wsN S' o = wsN S o := by
        have a1 : mg S' 28 o = mg S 28 o := e28 _
        have a2 : mg S' 24 o = mg S 24 o := e24 _
        have a3 : mg S' 29 o = mg S 29 o := e29 _
        have a4 : mg S' 10 (mg S 24 o) = mg S 10 (mg S 24 o) := e10 _
        unfold wsN
        rw [a1, a2, a3, a4]
      have hmn : 1 ≤ mnK S (mg S 24 o) ∧ mnK S (mg S 24 o) ≤ 2240 := by
        have q := hoi ho.1 ho.2.1
        exact (hI.2.2.2.1 _ q.1.1 q.1.2).mn
      have hwr : 0 ≤ wsN S o ∧ wsN S o ≤ 120000 ∧ (0 < mg S 28 o → 0 < wsN S o) ∧ mg S 29 o ≤ wsN S o := by
        have q1 := hmul (mnK S (mg S 24 o)) (mg S 28 o) (by omega) (by omega) (by omega) (by omega)
        have q2 : 0 < mg S 28 o → 0 < mg S 28 o * mnK S (mg S 24 o) := fun a => Int.mul_pos a (by omega)
        unfold wsN
        show 0 ≤ mg S 28 o * mnK S (mg S 24 o) + mg S 29 o ∧ mg S 28 o * mnK S (mg S 24 o) + mg S 29 o ≤ 120000 ∧ (0 < mg S 28 o → 0 < mg S 28 o * mnK S (mg S 24 o) + mg S 29 o) ∧ mg S 29 o ≤ mg S 28 o * mnK S (mg S 24 o) + mg S 29 o
        refine ⟨by omega, by omega, fun a => ?_, by omega⟩
        have := q2 a
        omega
      have hso : ∀ _ : Unit, sewnP S o c j → 0 < wsN S o := fun _ q => by
        rcases q with a | ⟨q, q0, q1, -⟩
        · exact hwr.2.2.1 a
        · have := hwr.2.2.2; omega
      have hstS : ∀ _ : Unit, j < mg S 29 o → stOK S' (S'.2.1 (mt 24) o.toNat) j := fun _ q => by
        rw [e24]; exact (hag.st (by simp)).mpr (hst q).1
      have hcl : ∀ _ : Unit, S'.2.1 (mt 3) (7 * S.2.1 (mt 24) o.toNat + S'.2.1 (mt 11) (2240 * S.2.1 (mt 24) o.toNat + j).toNat / 256).toNat = clK S (mg S 24 o) j := fun _ => hag.cl (by simp) (by simp) (d := mg S 24 o) (j := j)
      have hse : ∀ _ : Unit, sewnP S o c (j + 1) ↔ sewnP S o c j ∨ clK S (mg S 24 o) j = c := fun _ => by
        unfold sewnP
        rw [exS j0]
        exact or_assoc.symm
      have fin1 : ∀ (_ : Unit) (v : Int), j = mg S 29 o → is ≠ 0 → v = mg S 28 o + (if 0 < mg S 29 o then 1 else 0) → post (.inl (some (vI v))) (wsU S' o) := fun _ v e hi hv => by
        refine h 0 v _ ⟨Or.inr (Or.inl ⟨ho, hcan, rfl⟩), fun q => absurd rfl q, fun _ => Or.inr ⟨by rw [← e]; exact isB1 his hi, hv, by rw [hS]⟩⟩
      dsimp only [mg, mf, colK, stK, clK, mnK, shN] at hq
      have j2 : j ≤ S.2.1 (mt 29) o.toNat := j1
      have hwr2 : -2147483648 ≤ wsN S' o ∧ wsN S' o ≤ 2147483647 := by rw [hws]; omega
      repeat' (first
          | omega
          | with_reducible apply And.intro
          | (intro c9; (try simp only [mg, mf, colK, stK, clK, mnK, shN, e24, e28, e29, e10] at c9))
          | exact hM
          | exact ms_o hM
          | (refine ms_r hM rfl rfl ?_ ?_ <;> (try simp only [mLen]) <;> omega)
          | (refine ms_w hM rfl rfl ?_ ?_ <;> (try simp only [mLen]) <;> omega)
          | exact hwr2.1
          | exact hwr2.2
          | exact hstS () ‹_›
          | (simp only [mg, mf, colK, stK, clK, mnK, shN, e24, e28, e29, e10]; omega)
          | refine Exists.intro _ (And.intro rfl ?_)
          | refine Exists.intro _ (And.intro ((congrFun hr _).trans rfl) ?_)
          | ((with_reducible show wp _ _ _ _ _ _ _ _ _ _ _ _ _ _); conv => whnf)
          | ((with_reducible show callK _ _ _ _ _ _ _ _ _); conv => whnf)
          | ((with_reducible show condK _ _ _ _ _); conv => whnf)
          | ((with_reducible show st1 _ _ _ _ _ _ _ _ _ _ _ _); conv => whnf)
          | ((with_reducible show (Prod.fst _ : Spec) _ _ _); conv => whnf)
          | ((with_reducible show shortK _ _); conv => whnf)
          | exact Nat.le_of_ble_eq_true rfl)
      · exact absurd c9 (by rw [hws]; have := hso () (isB1 his ‹is ≠ 0›); omega)
      · refine fin1 () _ (by simp only [mg, mf, colK, stK, clK, mnK, shN]; omega) ‹is ≠ 0› ?_
        rw [e28, if_neg (by simp only [mg, mf, colK, stK, clK, mnK, shN]; omega)]
      · refine fin1 () _ (by simp only [mg, mf, colK, stK, clK, mnK, shN]; omega) ‹is ≠ 0› ?_
        rw [e28, if_pos (by simp only [mg, mf, colK, stK, clK, mnK, shN]; omega)]
      · refine h 0 0 _ ⟨Or.inr (Or.inl ⟨ho, hcan, rfl⟩), fun q => absurd rfl q, fun _ => Or.inl ⟨by rw [← (show j = mg S 29 o by simp only [mg, mf, colK, stK, clK, mnK, shN]; omega)]; exact isB0 his c9, rfl, hS⟩⟩
      · exact ⟨(2240 - (j + 1)).toNat, by omega, j + 1, 1, x4, x5, x6, x9, rfl, rfl, rfl, rfl, ho, hcan, by omega, by simp only [mg, mf, colK, stK, clK, mnK, shN]; omega, isBt ((hse ()).mpr (Or.inl (isB1 his ‹is ≠ 0›))), hS⟩
      · have q := hst (by simp only [mg, mf, colK, stK, clK, mnK, shN]; omega)
        rw [c9, hcl ()]; omega
      · have q := hst (by simp only [mg, mf, colK, stK, clK, mnK, shN]; omega)
        rw [c9, hcl ()]; omega
      · rename_i hcc
        exact ⟨(2240 - (j + 1)).toNat, by omega, j + 1, 0, x4, x5, x6, x9, rfl, rfl, rfl, rfl, ho, hcan, by omega, by simp only [mg, mf, colK, stK, clK, mnK, shN]; omega, isBf (fun q => ((hse ()).mp q).elim (isB0 his ‹is = 0›) (fun a => c9 (hcc.trans ((hcl ()).trans a)))), hS⟩
      · rename_i hcc
        exact ⟨(2240 - (j + 1)).toNat, by omega, j + 1, 1, x4, x5, x6, x9, rfl, rfl, rfl, rfl, ho, hcan, by omega, by simp only [mg, mf, colK, stK, clK, mnK, shN]; omega, isBt ((hse ()).mpr (Or.inr ((hcl ()).symm.trans (hcc.symm.trans c9)))), hS⟩
    · have hnd : 0 ≤ o → o < mf S 23 → 0 ≤ needK S o c ∧ needK S o c ≤ 112000 := fun h0 h1 => by
        have q := hor h0 h1
        have q2 := cntC_0 (S := S) (d := mg S 24 o) (its := c) (mnK S (mg S 24 o)).toNat
        have q3 := q.2.2.2.2.2.2.2.1
        have q4 := q.2.2.2.2.2.2.1
        exact hmul _ _ q2.1 (by omega) (by have := q.2.2.1; omega) q.2.2.2.1
      have hkk : 0 ≤ c → c < 6 → 0 ≤ s → s < 3 → 0 ≤ mg S 22 (3 * c + s) ∧ mg S 22 (3 * c + s) ≤ 1000000 := fun _ _ _ _ => hstk _ (by omega) (by omega)
      have hne : ∀ (_ : Unit) (r : Int), r = cntC S (S.2.1 (mt 24) o.toNat) c (S.2.1 (mt 10) (S.2.1 (mt 24) o.toNat).toNat).toNat → S.2.1 (mt 25) o.toNat * r = needK S o c := fun _ r e => by rw [e]; rfl
      dsimp only [mg, mf, colK, stK, clK, mnK, shN] at h hN hq hor hnd hkk
      dsimp only [sdK, mg, mf, colK, stK, clK, mnK, shN] at hsd
      repeat' (first
          | omega
          | with_reducible apply And.intro
          | (intro c9; (try simp only [mg, mf, colK, stK, clK, mnK, shN, u2] at c9))
          | exact hM
          | exact ms_o hM
          | exact (hor (by omega) (by omega)).2.2.2.2
          | (rw [hne () _ (‹_ ∧ _›).1]; omega)
          | (have q := hsd (by omega) (by omega) (by omega) (by omega); omega)
          | (refine ms_r hM rfl rfl ?_ ?_ <;> (try simp only [mLen]) <;> omega)
          | (refine ms_w hM rfl rfl ?_ ?_ <;> (try simp only [mLen]) <;> omega)
          | (refine ms_r hM rfl rfl ?_ ?_ <;> (try simp only [mLen, updI_2, mt_a, mt_b, mt_c, false_and, if_false]) <;> omega)
          | (refine ms_w hM rfl rfl ?_ ?_ <;> (try simp only [mLen, updI_2, mt_a, mt_b, mt_c, false_and, if_false]) <;> omega)
          | (simp only [mg, mf, colK, stK, clK, mnK, shN, u2]; omega)
          | (simp only [mg, mf, colK, stK, clK, mnK, shN, u2]; omega)
          | refine Exists.intro _ (And.intro rfl ?_)
          | refine Exists.intro _ (And.intro ((congrFun hr _).trans rfl) ?_)
          | ((with_reducible show wp _ _ _ _ _ _ _ _ _ _ _ _ _ _); conv => whnf)
          | ((with_reducible show callK _ _ _ _ _ _ _ _ _); conv => whnf)
          | ((with_reducible show condK _ _ _ _ _); conv => whnf)
          | ((with_reducible show st1 _ _ _ _ _ _ _ _ _ _ _ _); conv => whnf)
          | ((with_reducible show (Prod.fst _ : Spec) _ _ _); conv => whnf)
          | ((with_reducible show shortK _ _); conv => whnf)
          | exact Nat.le_of_ble_eq_true rfl)
      all_goals first
        | exact h 1 _ _ ⟨Or.inl ⟨by omega, rfl⟩, fun _ => rfl, fun q => by omega⟩
        | exact h 2 _ _ ⟨Or.inr (Or.inr ⟨by omega, fun q => ‹S.2.1 (mt 26) o.toNat ≠ 1› q.1, rfl⟩), fun _ => rfl, fun q => by omega⟩
        | exact h 2 _ _ ⟨Or.inr (Or.inr ⟨by omega, fun q => ‹S.2.1 (mt 31) (6 * o + c).toNat = s› |> q.2.2.1, rfl⟩), fun _ => rfl, fun q => by omega⟩
        | exact h 2 _ _ ⟨Or.inr (Or.inr ⟨by omega, fun q => by have q2 := q.2.1; have q4 := q.2.2.2; have e := hne () _ (‹_ = cntC _ _ _ _ ∧ _›).1; dsimp only [mg, mf, colK, stK, clK, mnK, shN] at q4; omega, rfl⟩), fun _ => rfl, fun q => by omega⟩
        | (exfalso; exact (isB1' ‹isB _ True›) ‹_›)
        | (simp only [updI_2, mt_a, mt_b, mt_c, false_and, if_false]; omega)
        | exact ⟨2240, by omega, 0, 0, _, _, _, _, rfl, rfl, rfl, rfl, by simp only [mg, mf, colK, stK, clK, mnK, shN]; omega, ⟨‹_›, by have e := hne () _ (‹_ = cntC _ _ _ _ ∧ _›).1; omega, ‹_›, by have e := hne () _ (‹_ = cntC _ _ _ _ ∧ _›).1; simp only [mg, mf, colK, stK, clK, mnK, shN]; omega⟩, by omega, by have q := (hq (by omega) (by omega)).2.2.2.1.2.2.1; exact q, isBf (fun q => q.elim (fun a => by have z := c9; simp only [mg, mf, colK, stK, clK, mnK, shN, u2, updI_2, mt_a, mt_b, mt_c, Nat.reduceEqDiff, false_and, if_false] at z a; omega) (fun ⟨q, q0, q1, _⟩ => by omega)), rfl⟩
        | exact ⟨2240, by omega, 0, 1, _, _, _, _, rfl, rfl, rfl, rfl, by simp only [mg, mf, colK, stK, clK, mnK, shN]; omega, ⟨‹_›, by have e := hne () _ (‹_ = cntC _ _ _ _ ∧ _›).1; omega, ‹_›, by have e := hne () _ (‹_ = cntC _ _ _ _ ∧ _›).1; simp only [mg, mf, colK, stK, clK, mnK, shN]; omega⟩, by omega, by have q := (hq (by omega) (by omega)).2.2.2.1.2.2.1; exact q, isBt (Or.inl (by have z := c9; simp only [mg, mf, colK, stK, clK, mnK, shN, u2, updI_2, mt_a, mt_b, mt_c, Nat.reduceEqDiff, false_and, if_false] at z ⊢; omega)), rfl⟩
      done
