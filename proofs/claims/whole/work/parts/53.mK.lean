/-- the changes along the first places of a design -/
def chgN (S : Sto) (d : Int) (n : Nat) : Int := sumTo (fun p => if colK S d (seqK S d p) = colK S d (seqK S d (p + 1)) then 0 else 1) (n - 1)
theorem chgN_0 {S : Sto} {d : Int} (n : Nat) : 0 ≤ chgN S d n ∧ chgN S d n ≤ n :=
  ⟨sumTo_0n (fun j => by split <;> omega) _, by
    have := sumTo_le (f := fun p : Nat => if colK S d (seqK S d p) = colK S d (seqK S d ((p : Int) + 1)) then 0 else 1) (fun j => by split <;> omega) (n - 1)
    unfold chgN
    omega⟩
def changesR (S : Sto) (d k v : Int) (S' : Sto) : Prop := k = (if 0 ≤ d ∧ d < nD S then 0 else 1) ∧ S' = thr S k ∧ (k = 0 → v = chgN S d (shN S d).toNat)
def s_changes : Spec := fun as S post => match as with
  | [.inr (.inr (some 2)), .inl d] => (∃ n, MI n S) ∧ InR d ∧ ∀ k v S', changesR S d k v S' → post (.inl (some (vI v))) S'
  | _ => False
def spX7_changes : Nat → CD := spF mdX7_changes fun i => match i with
  | 1 => (s_isNum_8, 0, 0, 2)
  | 2 => (s_holds, 0, 0, 1)
  | 3 => (s_change, 0, 0, 1)
  | _ => noR
set_option maxHeartbeats 4000000 in
set_option maxRecDepth 100000 in
theorem sat_X7_changes : Sat mX7_changes s_changes 0 0 3 := by
  refine sat_of (E := eX7_changes) (sp := spX7_changes) (ini := false) (by decide +kernel) (fun h => by cases h) okX7_changes (fun i => match i with
    | 1 => ⟨sat_X7_isDesign, Nat.le_of_ble_eq_true rfl⟩
    | 2 => ⟨sat_X7_holds, Nat.le_of_ble_eq_true rfl⟩
    | 3 => ⟨sat_X7_change, Nat.le_of_ble_eq_true rfl⟩
    | i + 4 => ⟨sat_no _, Nat.le_of_ble_eq_true rfl⟩
    | 0 => ⟨sat_no _, Nat.le_of_ble_eq_true rfl⟩) ?_
  intro as S post h
  match as, h with
  | [.inr (.inr (some 2)), .inl d], h =>
    obtain ⟨⟨n9, hI⟩, hin, h⟩ := h
    have hI2 := hI
    obtain ⟨hM, hN, hdr, -, -, -, -, hstk⟩ := hI2
    have hr := hM.2.1
    unfold changesR at h
    unfold nD nM nO at hN
    unfold nD at h
    have hsh : 0 ≤ d → d < mf S 8 → dshOK S d := fun h0 h1 => (hI.2.2.2.1 d h0 h1).1
    have hsq : 0 ≤ d → d < mf S 8 → ∀ p, 0 ≤ p → p < shN S d → 0 ≤ seqK S d p ∧ seqK S d p < shN S d := fun h0 h1 p p0 p1 => (hI.2.2.2.1 d h0 h1).seq p0 p1
    refine bodyL [(26, fun ms L st S' c => ∃ (p : Nat), L = [vT 2, vI d, vI (chgN S d (p + 1)), vI ((p : Int) + 1)] ∧ st = [] ∧ c = (0, 0) ∧ ms = 7 - p ∧ 0 ≤ d ∧ d < mf S 8 ∧ (p : Int) + 1 ≤ shN S d ∧ S' = thr S 0)] 20 200 rfl
      (List.forall_mem_cons.mpr ⟨?_, fun q hq => by cases hq⟩) ?_
    · rintro ms L st S' c ⟨p, rfl, rfl, rfl, rfl, d0, d1, hp, hS⟩
      have e9 : ∀ j i, S'.2.1 (mt j) i = S.2.1 (mt j) i := fun j i => by rw [hS]; exact u2
      have hM : MS S' := by rw [hS]; exact hM
      have hr := hM.2.1
      have hb := chgN_0 (S := S) (d := d) (p + 1)
      obtain ⟨-, -, n1, n7, hs⟩ := hsh d0 d1
      have hs1 := hsq d0 d1 p (by omega) (by omega)
      have hc1 := hs _ hs1.1 hs1.2
      have hs2 : (p : Int) + 1 < shN S d → 0 ≤ seqK S d (p + 1) ∧ seqK S d (p + 1) < shN S d := fun q => hsq d0 d1 (p + 1) (by omega) q
      have hc2 : (p : Int) + 1 < shN S d → shOK S (7 * d + seqK S d (p + 1)) := fun q => hs _ (hs2 q).1 (hs2 q).2
      unfold shOK at hc1 hc2
      have ei : 7 * d + ((p : Int) + 1) - 1 = 7 * d + p := by omega
      have es : chgN S d (p + 1 + 1) = chgN S d (p + 1) + (if colK S d (seqK S d p) = colK S d (seqK S d ((p : Int) + 1)) then 0 else 1) := rfl
      dsimp only [seqK, mg, mf, colK, stK, clK, mnK, shN] at *
      repeat' (first
          | omega
          | with_reducible apply And.intro
          | (intro c9; (try simp only [mg, mf, colK, stK, clK, mnK, shN, e9, ei] at c9))
          | exact hM
          | exact ms_o hM
          | (refine ms_r hM rfl rfl ?_ ?_ <;> (try simp only [mLen, e9, ei]) <;> omega)
          | (simp only [mg, mf, colK, stK, clK, mnK, shN, e9, ei]; omega)
          | (simp only [mg, mf, colK, stK, clK, mnK, shN, e9, ei]; omega)
          | refine Exists.intro _ (And.intro rfl ?_)
          | refine Exists.intro _ (And.intro ((congrFun hr _).trans rfl) ?_)
          | ((with_reducible show wp _ _ _ _ _ _ _ _ _ _ _ _ _ _); conv => whnf)
          | ((with_reducible show callK _ _ _ _ _ _ _ _ _); conv => whnf)
          | ((with_reducible show condK _ _ _ _ _); conv => whnf)
          | ((with_reducible show st1 _ _ _ _ _ _ _ _ _ _ _ _); conv => whnf)
          | ((with_reducible show (Prod.fst _ : Spec) _ _ _); conv => whnf)
          | ((with_reducible show shortK _ _); conv => whnf)
          | exact Nat.le_of_ble_eq_true rfl)
      · have e : (S.2.1 (mt 1) d.toNat).toNat = p + 1 := by omega
        refine h 0 _ _ ⟨by omega, hS, fun _ => ?_⟩
        rw [e]
      · rename_i r9
        refine ⟨7 - (p + 1), by omega, p + 1, ?_, rfl, rfl, rfl, d0, d1, by omega, hS⟩
        rw [es, Int.natCast_add]
        have e : r9 = (if S.2.1 (mt 3) (7 * d + S.2.1 (mt 9) (7 * d + (p : Int)).toNat).toNat = S.2.1 (mt 3) (7 * d + S.2.1 (mt 9) (7 * d + ((p : Int) + 1)).toNat).toNat then 0 else 1) := by omega
        rw [← e]; rfl
    · dsimp only [mg, mf, colK, stK, clK, mnK, shN] at h hN hsh hsq
      repeat' (first
          | omega
          | with_reducible apply And.intro
          | (intro c9; (try simp only [mg, mf, colK, stK, clK, mnK, shN, u2] at c9))
          | exact hM
          | exact ms_o hM
          | (refine ms_r hM rfl rfl ?_ ?_ <;> (try simp only [mLen]) <;> omega)
          | (refine ms_w hM rfl rfl ?_ ?_ <;> (try simp only [mLen]) <;> omega)
          | (refine ms_r hM rfl rfl ?_ ?_ <;> (try simp only [mLen, updI_2, mt_a, mt_b, mt_c, false_and, if_false]) <;> omega)
          | (refine ms_w hM rfl rfl ?_ ?_ <;> (try simp only [mLen, updI_2, mt_a, mt_b, mt_c, false_and, if_false]) <;> omega)
          | (simp only [mg, mf, colK, stK, clK, mnK, shN, u2]; omega)
          | refine Exists.intro _ (And.intro rfl ?_)
          | refine Exists.intro _ (And.intro ((congrFun hr _).trans rfl) ?_)
          | ((with_reducible show wp _ _ _ _ _ _ _ _ _ _ _ _ _ _); conv => whnf)
          | ((with_reducible show callK _ _ _ _ _ _ _ _ _); conv => whnf)
          | ((with_reducible show condK _ _ _ _ _); conv => whnf)
          | ((with_reducible show st1 _ _ _ _ _ _ _ _ _ _ _ _); conv => whnf)
          | ((with_reducible show (Prod.fst _ : Spec) _ _ _); conv => whnf)
          | ((with_reducible show shortK _ _); conv => whnf)
          | exact Nat.le_of_ble_eq_true rfl)
      all_goals first
        | exact h _ _ _ ⟨by omega, rfl, fun q => by omega⟩
        | exact ⟨7, by omega, 0, rfl, rfl, rfl, rfl, by omega, by simp only [mg, mf, colK, stK, clK, mnK, shN]; omega, by have q := (hsh (by omega) (by omega)).2.2.1; exact q, rfl⟩
        | (exfalso; exact (isB1' ‹isB _ True›) ‹_›)
def s_changesAnew : Spec := s_changes
def spX7_changesAnew : Nat → CD := spF mdX7_changesAnew fun i => match i with
  | 1 => (s_changes, 0, 0, 3)
  | _ => noR
set_option maxHeartbeats 4000000 in
set_option maxRecDepth 100000 in
theorem sat_X7_changesAnew : Sat mX7_changesAnew s_changesAnew 0 0 4 := by
  refine sat_of (E := eX7_changesAnew) (sp := spX7_changesAnew) (ini := false) (by decide +kernel) (fun h => by cases h) okX7_changesAnew (fun i => match i with
    | 1 => ⟨sat_X7_changes, Nat.le_of_ble_eq_true rfl⟩
    | i + 2 => ⟨sat_no _, Nat.le_of_ble_eq_true rfl⟩
    | 0 => ⟨sat_no _, Nat.le_of_ble_eq_true rfl⟩) ?_
  intro as S post h
  match as, h with
  | [.inr (.inr (some 2)), .inl d], h =>
    obtain ⟨⟨n9, hI⟩, hin, h⟩ := h
    refine body0 50 rfl ?_
    repeat' (first
        | omega
        | with_reducible apply And.intro
        | (intro c9; (try simp only [mg, mf, colK, stK, clK, mnK, shN] at c9))
        | exact ⟨n9, hI⟩
        | exact hin
        | exact ms_o hI.1
        | (simp only [mg, mf, colK, stK, clK, mnK, shN]; omega)
        | refine Exists.intro _ (And.intro rfl ?_)
        | ((with_reducible show wp _ _ _ _ _ _ _ _ _ _ _ _ _ _); conv => whnf)
        | ((with_reducible show callK _ _ _ _ _ _ _ _ _); conv => whnf)
        | ((with_reducible show condK _ _ _ _ _); conv => whnf)
        | ((with_reducible show st1 _ _ _ _ _ _ _ _ _ _ _ _); conv => whnf)
        | ((with_reducible show (Prod.fst _ : Spec) _ _ _); conv => whnf)
        | ((with_reducible show shortK _ _); conv => whnf)
        | exact Nat.le_of_ble_eq_true rfl)
    exact h _ _ _ c9
