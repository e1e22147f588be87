def hdOK (S : Sto) (m : Int) : Prop := 0 ≤ m ∧ m < 4 ∧ 1 ≤ mg S 14 m ∧ mg S 14 m ≤ 6 ∧ ∀ k, 0 ≤ k → k < 6 → -1 ≤ hdK S m k ∧ hdK S m k < 6 ∧ InR (ltK S m k)
def hadP (S : Sto) (m c r : Int) : Prop := 0 ≤ r ∧ r < mg S 14 m ∧ hdK S m r = c
def newP (S : Sto) (m c r : Int) : Prop := (∀ k, 0 ≤ k → k < mg S 14 m → hdK S m k ≠ c) ∧ 0 ≤ r ∧ r < mg S 14 m ∧
  ((hdK S m r = -1 ∧ ∀ k, 0 ≤ k → k < r → hdK S m k ≠ -1) ∨ ((∀ k, 0 ≤ k → k < mg S 14 m → hdK S m k ≠ -1) ∧ ∀ k, 0 ≤ k → k < mg S 14 m → ltK S m r ≤ ltK S m k))
def headU (S : Sto) (m c r : Int) : Sto := updI (updI S (mt 20) (6 * m + r).toNat c) (mt 18) m.toNat (mg S 18 m + 1)
def s_head : Spec := fun as S post => match as with
  | [.inr (.inr (some 2)), .inl m, .inl c] => MS S ∧ (hdOK S m ∧ 0 ≤ c ∧ c < 6) ∧ (∀ r, hadP S m c r → post (.inl (some (vI r))) S) ∧ (∀ r, newP S m c r → post (.inl (some (vI r))) (headU S m c r))
  | _ => False
def spX7_head : Nat → CD := spF mdX7_head fun i => match i with
  | _ => noR
set_option maxHeartbeats 4000000 in
set_option maxRecDepth 100000 in
theorem sat_X7_head : Sat mX7_head s_head 0 0 1 := by
  refine sat_of (E := eX7_head) (sp := spX7_head) (ini := false) (by decide +kernel) (fun h => by cases h) okX7_head (fun i => match i with
    | _ => ⟨sat_no _, Nat.le_of_ble_eq_true rfl⟩) ?_
  intro as S post h
  match as, h with
  | [.inr (.inr (some 2)), .inl m, .inl c], h =>
    obtain ⟨hM, ⟨⟨m0, m1, h0, h1, hh⟩, c0, c1⟩, hA, hB⟩ := h
    have hr := hM.2.1
    refine bodyL [(5, fun ms L st S' c' => ∃ (k f : Int), L = [vT 2, vI m, vI c, vI f, vI k] ∧ st = [] ∧ S' = S ∧ c' = (0, 0) ∧ ms = 200 + (6 - k).toNat ∧ 0 ≤ k ∧ k ≤ mg S 14 m ∧ ((f = -1 ∧ ∀ j, 0 ≤ j → j < k → hdK S m j ≠ c) ∨ (0 ≤ f ∧ f < k ∧ hdK S m f = c))),
      (62, fun ms L st S' c' => ∃ (k f : Int), L = [vT 2, vI m, vI c, vI f, vI k] ∧ st = [] ∧ S' = S ∧ c' = (0, 0) ∧ ms = 100 + (k + 1).toNat ∧ -1 ≤ k ∧ k < mg S 14 m ∧ (∀ j, 0 ≤ j → j < mg S 14 m → hdK S m j ≠ c) ∧ ((f = -1 ∧ ∀ j, k < j → j < mg S 14 m → hdK S m j ≠ -1) ∨ (k < f ∧ f < mg S 14 m ∧ hdK S m f = -1 ∧ ∀ j, k < j → j < f → hdK S m j ≠ -1))),
      (99, fun ms L st S' c' => ∃ (k f : Int), L = [vT 2, vI m, vI c, vI f, vI k] ∧ st = [] ∧ S' = S ∧ c' = (0, 0) ∧ ms = (6 - k).toNat ∧ 0 ≤ k ∧ k ≤ mg S 14 m ∧ (∀ j, 0 ≤ j → j < mg S 14 m → hdK S m j ≠ c) ∧ ((0 ≤ f ∧ f < mg S 14 m ∧ hdK S m f = -1 ∧ ∀ j, 0 ≤ j → j < f → hdK S m j ≠ -1) ∨ ((∀ j, 0 ≤ j → j < mg S 14 m → hdK S m j ≠ -1) ∧ ((k = 0 ∧ f = -1) ∨ (0 ≤ f ∧ f < k ∧ ∀ j, 0 ≤ j → j < k → ltK S m f ≤ ltK S m j)))))] 400 200 rfl
      (List.forall_mem_cons.mpr ⟨?_, List.forall_mem_cons.mpr ⟨?_, List.forall_mem_cons.mpr ⟨?_, fun q hq => by cases hq⟩⟩⟩) ?_
    · rintro ms L st S' c' ⟨k, f, rfl, rfl, rfl, rfl, rfl, k0, k1, hf⟩
      have hk := hh k k0
      have hfr : -1 ≤ f ∧ f < 6 := by omega
      unfold hadP at hA
      dsimp only [hdK, ltK, mg, mf, colK, stK, clK, mnK, shN] at *
      repeat' (first
          | omega
          | with_reducible apply And.intro
          | (intro c9; (try simp only [mg, mf, colK, stK, clK, mnK, shN] at c9))
          | exact hM
          | exact ms_o hM
          | (refine ms_r hM rfl rfl ?_ ?_ <;> (try simp only [mLen]) <;> omega)
          | (refine ms_w hM rfl rfl ?_ ?_ <;> (try simp only [mLen]) <;> omega)
          | (simp only [mg, mf, colK, stK, clK, mnK, shN]; omega)
          | refine Exists.intro _ (And.intro rfl ?_)
          | refine Exists.intro _ (And.intro ((congrFun hr _).trans rfl) ?_)
          | ((with_reducible show wp _ _ _ _ _ _ _ _ _ _ _ _ _ _); conv => whnf)
          | ((with_reducible show callK _ _ _ _ _ _ _ _ _); conv => whnf)
          | ((with_reducible show condK _ _ _ _ _); conv => whnf)
          | ((with_reducible show st1 _ _ _ _ _ _ _ _ _ _ _ _); conv => whnf)
          | ((with_reducible show (Prod.fst _ : Spec) _ _ _); conv => whnf)
          | ((with_reducible show shortK _ _); conv => whnf)
          | exact Nat.le_of_ble_eq_true rfl)
      · rcases hf with ⟨e, hf⟩ | hf
        · subst e
          exact ⟨100 + (S'.2.1 (mt 14) m.toNat - 1 + 1).toNat, by omega, S'.2.1 (mt 14) m.toNat - 1, -1, rfl, rfl, rfl, rfl, rfl, by omega, by omega, fun j j0 j1 => hf j j0 (by omega), Or.inl ⟨rfl, fun j q1 q2 => by omega⟩⟩
        · omega
      · refine hA f ?_
        rcases hf with q | q
        · omega
        · exact ⟨q.1, by omega, q.2.2⟩
      · refine ⟨200 + (6 - (k + 1)).toNat, by omega, k + 1, f, rfl, rfl, rfl, rfl, rfl, by omega, by omega, ?_⟩
        rcases hf with ⟨e, hf⟩ | q
        · refine Or.inl ⟨e, fun j j0 j1 => ?_⟩
          by_cases e2 : j = k
          · rw [e2]; exact c9
          · exact hf j j0 (by omega)
        · exact Or.inr ⟨q.1, by omega, q.2.2⟩
      · exact ⟨200 + (6 - (k + 1)).toNat, by omega, k + 1, k, rfl, rfl, rfl, rfl, rfl, by omega, by omega, Or.inr ⟨k0, by omega, c9⟩⟩
    · rintro ms L st S' c' ⟨k, f, rfl, rfl, rfl, rfl, rfl, k0, k1, hc, hf⟩
      have hk := hh k
      have hfr : -1 ≤ f ∧ f < 6 := by omega
      dsimp only [hdK, ltK, mg, mf, colK, stK, clK, mnK, shN] at *
      repeat' (first
          | omega
          | with_reducible apply And.intro
          | (intro c9; (try simp only [mg, mf, colK, stK, clK, mnK, shN] at c9))
          | exact hM
          | exact ms_o hM
          | (refine ms_r hM rfl rfl ?_ ?_ <;> (try simp only [mLen]) <;> omega)
          | (refine ms_w hM rfl rfl ?_ ?_ <;> (try simp only [mLen]) <;> omega)
          | (simp only [mg, mf, colK, stK, clK, mnK, shN]; omega)
          | refine Exists.intro _ (And.intro rfl ?_)
          | refine Exists.intro _ (And.intro ((congrFun hr _).trans rfl) ?_)
          | ((with_reducible show wp _ _ _ _ _ _ _ _ _ _ _ _ _ _); conv => whnf)
          | ((with_reducible show callK _ _ _ _ _ _ _ _ _); conv => whnf)
          | ((with_reducible show condK _ _ _ _ _); conv => whnf)
          | ((with_reducible show st1 _ _ _ _ _ _ _ _ _ _ _ _); conv => whnf)
          | ((with_reducible show (Prod.fst _ : Spec) _ _ _); conv => whnf)
          | ((with_reducible show shortK _ _); conv => whnf)
          | exact Nat.le_of_ble_eq_true rfl)
      · refine ⟨6, by omega, 0, f, rfl, rfl, rfl, rfl, rfl, by omega, by omega, hc, ?_⟩
        rcases hf with ⟨e, hf⟩ | ⟨q1, q2, q3, q4⟩
        · exact Or.inr ⟨fun j j0 j1 => hf j (by omega) j1, Or.inl ⟨rfl, e⟩⟩
        · exact Or.inl ⟨by omega, q2, q3, fun j j0 j1 => q4 j (by omega) j1⟩
      · refine ⟨100 + (k + -1 + 1).toNat, by omega, k + -1, f, rfl, rfl, rfl, rfl, rfl, by omega, by omega, hc, ?_⟩
        rcases hf with ⟨e, hf⟩ | ⟨q1, q2, q3, q4⟩
        · refine Or.inl ⟨e, fun j j0 j1 => ?_⟩
          by_cases e2 : j = k
          · rw [e2]; exact c9
          · exact hf j (by omega) j1
        · refine Or.inr ⟨by omega, q2, q3, fun j j0 j1 => ?_⟩
          by_cases e2 : j = k
          · rw [e2]; exact c9
          · exact q4 j (by omega) j1
      · exact ⟨100 + (k + -1 + 1).toNat, by omega, k + -1, k, rfl, rfl, rfl, rfl, rfl, by omega, by omega, hc, Or.inr ⟨by omega, k1, c9, fun j q1 q2 => by omega⟩⟩
    · rintro ms L st S' c' ⟨k, f, rfl, rfl, rfl, rfl, rfl, k0, k1, hc, hf⟩
      have hk := hh k k0
      have hff := hh f
      have hfr : -1 ≤ f ∧ f < 6 := by omega
      dsimp only [hdK, ltK, mg, mf, colK, stK, clK, mnK, shN] at *
      repeat' (first
          | omega
          | with_reducible apply And.intro
          | (intro c9; (try simp only [mg, mf, colK, stK, clK, mnK, shN] at c9))
          | exact hM
          | exact ms_o hM
          | (refine ms_r hM rfl rfl ?_ ?_ <;> (try simp only [mLen]) <;> omega)
          | (refine ms_w hM rfl rfl ?_ ?_ <;> (try simp only [mLen]) <;> omega)
          | (simp only [mg, mf, colK, stK, clK, mnK, shN]; omega)
          | refine Exists.intro _ (And.intro rfl ?_)
          | refine Exists.intro _ (And.intro ((congrFun hr _).trans rfl) ?_)
          | ((with_reducible show wp _ _ _ _ _ _ _ _ _ _ _ _ _ _); conv => whnf)
          | ((with_reducible show callK _ _ _ _ _ _ _ _ _); conv => whnf)
          | ((with_reducible show condK _ _ _ _ _); conv => whnf)
          | ((with_reducible show st1 _ _ _ _ _ _ _ _ _ _ _ _); conv => whnf)
          | ((with_reducible show (Prod.fst _ : Spec) _ _ _); conv => whnf)
          | ((with_reducible show shortK _ _); conv => whnf)
          | exact Nat.le_of_ble_eq_true rfl)
      · refine hB f ?_
        rcases hf with ⟨q1, q2, q3, q4⟩ | ⟨q1, ⟨q2, q3⟩ | ⟨q2, q3, q4⟩⟩
        · exact ⟨hc, q1, q2, Or.inl ⟨q3, q4⟩⟩
        · omega
        · have q6 : f < S'.2.1 (mt 14) m.toNat := by omega
          exact ⟨hc, q2, q6, Or.inr ⟨q1, fun j j0 (j1 : j < S'.2.1 (mt 14) m.toNat) => q4 j j0 (by omega)⟩⟩
      · refine ⟨(6 - (k + 1)).toNat, by omega, k + 1, k, rfl, rfl, rfl, rfl, rfl, by omega, by omega, hc, ?_⟩
        rcases hf with ⟨q1, q2, q3, q4⟩ | ⟨q1, ⟨q2, q3⟩ | ⟨q2, q3, q4⟩⟩
        · omega
        · exact Or.inr ⟨q1, Or.inr ⟨k0, by omega, fun j j0 j1 => by rw [show j = k by omega]; exact Int.le_refl _⟩⟩
        · omega
      · refine hB f ?_
        rcases hf with ⟨q1, q2, q3, q4⟩ | ⟨q1, ⟨q2, q3⟩ | ⟨q2, q3, q4⟩⟩
        · exact ⟨hc, q1, q2, Or.inl ⟨q3, q4⟩⟩
        · omega
        · exact absurd c9 (q1 f q2 (by omega))
      · refine ⟨(6 - (k + 1)).toNat, by omega, k + 1, f, rfl, rfl, rfl, rfl, rfl, by omega, by omega, hc, ?_⟩
        rcases hf with ⟨q1, q2, q3, q4⟩ | ⟨q1, ⟨q2, q3⟩ | ⟨q2, q3, q4⟩⟩
        · exact absurd q3 ‹_›
        · omega
        · refine Or.inr ⟨q1, Or.inr ⟨q2, by omega, fun j j0 j1 => ?_⟩⟩
          by_cases e2 : j = k
          · rw [e2]; exact c9
          · exact q4 j j0 (by omega)
      · refine ⟨(6 - (k + 1)).toNat, by omega, k + 1, k, rfl, rfl, rfl, rfl, rfl, by omega, by omega, hc, ?_⟩
        rcases hf with ⟨q1, q2, q3, q4⟩ | ⟨q1, ⟨q2, q3⟩ | ⟨q2, q3, q4⟩⟩
        · exact absurd q3 ‹_›
        · omega
        · refine Or.inr ⟨q1, Or.inr ⟨k0, by omega, fun j j0 j1 => ?_⟩⟩
          by_cases e2 : j = k
          · rw [e2]; exact Int.le_refl _
          · have q5 := q4 j j0 (by omega)
            omega
    · repeat' (first
          | omega
          | with_reducible apply And.intro
          | (intro c9; (try simp only [mg, mf, colK, stK, clK, mnK, shN] at c9))
          | exact hM
          | exact ms_o hM
          | (refine ms_r hM rfl rfl ?_ ?_ <;> (try simp only [mLen]) <;> omega)
          | (refine ms_w hM rfl rfl ?_ ?_ <;> (try simp only [mLen]) <;> omega)
          | (simp only [mg, mf, colK, stK, clK, mnK, shN]; omega)
          | refine Exists.intro _ (And.intro rfl ?_)
          | refine Exists.intro _ (And.intro ((congrFun hr _).trans rfl) ?_)
          | ((with_reducible show wp _ _ _ _ _ _ _ _ _ _ _ _ _ _); conv => whnf)
          | ((with_reducible show callK _ _ _ _ _ _ _ _ _); conv => whnf)
          | ((with_reducible show condK _ _ _ _ _); conv => whnf)
          | ((with_reducible show st1 _ _ _ _ _ _ _ _ _ _ _ _); conv => whnf)
          | ((with_reducible show (Prod.fst _ : Spec) _ _ _); conv => whnf)
          | ((with_reducible show shortK _ _); conv => whnf)
          | exact Nat.le_of_ble_eq_true rfl)
      exact ⟨206, by omega, 0, -1, rfl, rfl, rfl, rfl, rfl, by omega, by omega, Or.inl ⟨rfl, fun j q1 q2 => by omega⟩⟩
