/-- a cell is one of a shape that comes, among the first n places, behind the shape its -/
def covN (S : Sto) (d its x y : Int) (n : Int) : Prop := ∃ q, 0 ≤ q ∧ q < n ∧ (∃ p, 0 ≤ p ∧ p < q ∧ seqK S d p = its) ∧ hasK S (7 * d + seqK S d q) x y
def sqOK (S : Sto) (d : Int) : Prop := 0 ≤ d ∧ d < 6 ∧ 1 ≤ shN S d ∧ shN S d ≤ 7 ∧ ∀ p, 0 ≤ p → p < shN S d → 0 ≤ seqK S d p ∧ seqK S d p < 7 ∧ shOK S (7 * d + seqK S d p)
def s_isCovered : Spec := sP4 (fun S d its x y => sqOK S d ∧ (0 ≤ its ∧ its < 7 ∧ 0 ≤ x ∧ x < 100 ∧ 0 ≤ y ∧ y < 100)) fun S d its x y r => isB r (covN S d its x y (shN S d))
def spX7_isCovered : Nat → CD := spF mdX7_isCovered fun i => match i with
  | 1 => (s_has, 0, 0, 2)
  | _ => noR
set_option maxHeartbeats 4000000 in
set_option maxRecDepth 100000 in
theorem sat_X7_isCovered : Sat mX7_isCovered s_isCovered 0 0 3 := by
  refine sat_of (E := eX7_isCovered) (sp := spX7_isCovered) (ini := false) (by decide +kernel) (fun h => by cases h) okX7_isCovered (fun i => match i with
    | 1 => ⟨sat_X7_has, Nat.le_of_ble_eq_true rfl⟩
    | i + 2 => ⟨sat_no _, Nat.le_of_ble_eq_true rfl⟩
    | 0 => ⟨sat_no _, Nat.le_of_ble_eq_true rfl⟩) ?_
  intro as S post h
  match as, h with
  | [.inr (.inr (some 2)), .inl d, .inl its, .inl x, .inl y], h =>
    obtain ⟨hM, ⟨⟨d0, d1, n0, n1, hs⟩, hxy⟩, h⟩ := h
    have hr := hM.2.1
    dsimp only at h
    refine bodyL [(9, fun ms L st S' c => ∃ (k bh is : Int) (x8 : AV), L = [vT 2, vI d, vI its, vI x, vI y, vI bh, vI is, vI k, x8] ∧ st = [] ∧ S' = S ∧ c = (0, 0) ∧ ms = (7 - k).toNat ∧ 0 ≤ k ∧ k ≤ shN S d ∧ isB bh (∃ p, 0 ≤ p ∧ p < k ∧ seqK S d p = its) ∧ isB is (covN S d its x y k))] 20 200 rfl
      (List.forall_mem_cons.mpr ⟨?_, fun q hq => by cases hq⟩) ?_
    · rintro ms L st S' c ⟨k, bh, is, x8, rfl, rfl, rfl, rfl, rfl, k0, k1, hb, his⟩
      have hb01 := isB01 hb
      have his01 := isB01 his
      have hk := hs k k0
      have hb2 : ∀ u : Unit, _ := fun _ => exS (P := fun p => seqK S' d p = its) k0
      have hc2 : ∀ u : Unit, covN S' d its x y (k + 1) ↔ covN S' d its x y k ∨ ((∃ p, 0 ≤ p ∧ p < k ∧ seqK S' d p = its) ∧ hasK S' (7 * d + seqK S' d k) x y) := fun _ => exS (P := fun q => (∃ p, 0 ≤ p ∧ p < q ∧ seqK S' d p = its) ∧ hasK S' (7 * d + seqK S' d q) x y) k0
      have hsh : k < shN S' d → shOK S' (7 * d + seqK S' d k) := fun q => (hk q).2.2
      have hkr : k < shN S' d → 0 ≤ seqK S' d k ∧ seqK S' d k < 7 := fun q => ⟨(hk q).1, (hk q).2.1⟩
      have fin : ∀ {y8 : AV} (b' i' : Int), k < shN S' d → isB b' ((∃ p, 0 ≤ p ∧ p < k ∧ seqK S' d p = its) ∨ seqK S' d k = its) → isB i' (covN S' d its x y k ∨ ((∃ p, 0 ≤ p ∧ p < k ∧ seqK S' d p = its) ∧ hasK S' (7 * d + seqK S' d k) x y)) → ∃ q, q < (7 - k).toNat ∧ ∃ (k2 bh2 is2 : Int) (z8 : AV), [vT 2, vI d, vI its, vI x, vI y, vI b', vI i', vI (k + 1), y8] = [vT 2, vI d, vI its, vI x, vI y, vI bh2, vI is2, vI k2, z8] ∧ ([] : List AV) = [] ∧ S' = S' ∧ ((0, 0) : Nat × Nat) = (0, 0) ∧ q = (7 - k2).toNat ∧ 0 ≤ k2 ∧ k2 ≤ shN S' d ∧ isB bh2 (∃ p, 0 ≤ p ∧ p < k2 ∧ seqK S' d p = its) ∧ isB is2 (covN S' d its x y k2) := fun {y8} b' i' hq h1 h2 =>
        ⟨(7 - (k + 1)).toNat, by omega, k + 1, b', i', y8, rfl, rfl, rfl, rfl, rfl, by omega, by omega, isBc h1 (hb2 ()).symm, isBc h2 (hc2 ()).symm⟩
      dsimp only [seqK, mg, mf, colK, stK, clK, mnK, shN] at hkr n0 n1 k1
      repeat' (first
          | omega
          | with_reducible apply And.intro
          | (intro c9; (try simp only [mg, mf, colK, stK, clK, mnK, shN] at c9))
          | exact hM
          | exact ms_o hM
          | (refine ms_r hM rfl rfl ?_ ?_ <;> (try simp only [mLen]) <;> omega)
          | (refine ms_w hM rfl rfl ?_ ?_ <;> (try simp only [mLen]) <;> omega)
          | exact hsh ‹_›
          | (simp only [mg, mf, colK, stK, clK, mnK, shN]; omega)
          | refine Exists.intro _ (And.intro rfl ?_)
          | refine Exists.intro _ (And.intro ((congrFun hr _).trans rfl) ?_)
          | ((with_reducible show wp _ _ _ _ _ _ _ _ _ _ _ _ _ _); conv => whnf)
          | ((with_reducible show callK _ _ _ _ _ _ _ _ _); conv => whnf)
          | ((with_reducible show condK _ _ _ _ _); conv => whnf)
          | ((with_reducible show st1 _ _ _ _ _ _ _ _ _ _ _ _); conv => whnf)
          | ((with_reducible show (Prod.fst _ : Spec) _ _ _); conv => whnf)
          | ((with_reducible show shortK _ _); conv => whnf)
          | exact Nat.le_of_ble_eq_true rfl)
      · have e : k = S'.2.1 (mt 1) d.toNat := by omega
        subst e
        exact kr_i ( h _ his ) (Nat.le_of_ble_eq_true rfl) (Nat.le_of_ble_eq_true rfl)
      · exact fin 1 1 ‹_› (isBt (Or.inl (isB1 hb c9))) (isBt (Or.inl (isB1 his ‹is ≠ 0›)))
      · exact fin 0 1 ‹_› (isBf (fun q => q.elim (isB0 hb ‹bh = 0›) c9)) (isBt (Or.inl (isB1 his ‹is ≠ 0›)))
      · exact fin 1 1 ‹_› (isBt (Or.inr c9)) (isBt (Or.inl (isB1 his ‹is ≠ 0›)))
      · exact fin 0 0 ‹_› (isBf (fun q => q.elim (isB0 hb ‹bh = 0›) c9)) (isBf (fun q => q.elim (isB0 his ‹is = 0›) (fun a => isB0 hb ‹bh = 0› a.1)))
      · exact fin 1 0 ‹_› (isBt (Or.inr c9)) (isBf (fun q => q.elim (isB0 his ‹is = 0›) (fun a => isB0 hb ‹bh = 0› a.1)))
      · rename_i r9 hr9 hr0
        exact fin 1 0 ‹_› (isBt (Or.inl (isB1 hb c9))) (isBf (fun q => q.elim (isB0 his ‹is = 0›) (fun a => isB0 hr9 hr0 a.2)))
      · rename_i r9 hr9 hr0
        exact fin 1 1 ‹_› (isBt (Or.inl (isB1 hb c9))) (isBt (Or.inr ⟨isB1 hb c9, isB1 hr9 hr0⟩))
    · repeat' (first
          | omega
          | with_reducible apply And.intro
          | (intro c9; (try simp only [mg, mf, colK, stK, clK, mnK, shN] at c9))
          | exact hM
          | exact ms_o hM
          | (refine ms_r hM rfl rfl ?_ ?_ <;> (try simp only [mLen]) <;> omega)
          | (refine ms_w hM rfl rfl ?_ ?_ <;> (try simp only [mLen]) <;> omega)
          | (simp only [mg, mf, colK, stK, clK, mnK, shN]; omega)
          | refine Exists.intro _ (And.intro rfl ?_)
          | refine Exists.intro _ (And.intro ((congrFun hr _).trans rfl) ?_)
          | ((with_reducible show wp _ _ _ _ _ _ _ _ _ _ _ _ _ _); conv => whnf)
          | ((with_reducible show callK _ _ _ _ _ _ _ _ _); conv => whnf)
          | ((with_reducible show condK _ _ _ _ _); conv => whnf)
          | ((with_reducible show st1 _ _ _ _ _ _ _ _ _ _ _ _); conv => whnf)
          | ((with_reducible show (Prod.fst _ : Spec) _ _ _); conv => whnf)
          | ((with_reducible show shortK _ _); conv => whnf)
          | exact Nat.le_of_ble_eq_true rfl)
      exact ⟨7, by omega, 0, 0, 0, _, rfl, rfl, rfl, rfl, rfl, by omega, by omega, isBf (fun ⟨p, p0, p1, _⟩ => by omega), isBf (fun ⟨p, p0, p1, _⟩ => by omega)⟩
