/-- the lowest shade of which there is enough; -1 without -/
def shF (S : Sto) (its need : Int) : Int := if need ≤ mg S 22 (3 * its) then 0 else if need ≤ mg S 22 (3 * its + 1) then 1 else if need ≤ mg S 22 (3 * its + 2) then 2 else -1
theorem shP_F {S : Sto} {its need r : Int} (h : shP S its need (-1) r) : r = shF S its need := by
  unfold shF
  have e0 : 3 * its + 0 = 3 * its := by omega
  rcases h with ⟨h1, h2⟩ | ⟨h1, h2, h3, h4⟩
  · have a0 := h2 0 (by omega) (by omega)
    have a1 := h2 1 (by omega) (by omega)
    have a2 := h2 2 (by omega) (by omega)
    rw [e0] at a0
    rw [if_neg (by omega), if_neg (by omega), if_neg (by omega)]; exact h1
  · rcases (show r = 0 ∨ r = 1 ∨ r = 2 by omega) with e | e | e <;> subst e
    · rw [e0] at h3
      rw [if_pos h3]
    · have a0 := h4 0 (by omega) (by omega)
      rw [e0] at a0
      rw [if_neg (by omega), if_pos h3]
    · have a0 := h4 0 (by omega) (by omega)
      have a1 := h4 1 (by omega) (by omega)
      rw [e0] at a0
      rw [if_neg (by omega), if_neg (by omega), if_pos h3]
theorem shP_r {S : Sto} {its need r : Int} (h : shP S its need (-1) r) : -1 ≤ r ∧ r ≤ 2 := by
  unfold shP at h
  omega
abbrev cntD (S : Sto) (o c : Int) : Int := cntC S (mg S 24 o) c (mnK S (mg S 24 o)).toNat
def fitA (S : Sto) (o m n : Int) : Prop := ∀ j, 0 ≤ j → j < n → stK S (mg S 24 o) j % 16 < mg S 15 m ∧ stK S (mg S 24 o) j / 16 % 16 < mg S 16 m
def fitB (S : Sto) (o n : Int) : Prop := ∀ c, 0 ≤ c → c < n → cntD S o c = 0 ∨ shF S c (needK S o c) ≠ -1
def fitP (S : Sto) (o m : Int) : Prop := fitA S o m (mnK S (mg S 24 o)) ∧ fitB S o 6
def s_isFit : Spec := sP2 (fun S o m => orOK S o ∧ 0 ≤ m ∧ m < 4 ∧ InR (mg S 15 m) ∧ InR (mg S 16 m) ∧ stkOK S) fun S o m r => isB r (fitP S o m)
def spX7_isFit : Nat → CD := spF mdX7_isFit fun i => match i with
  | 1 => (s_manyOf, 0, 0, 2)
  | 2 => (s_shadeFor, 0, 0, 3)
  | _ => noR
set_option maxHeartbeats 4000000 in
set_option maxRecDepth 100000 in
theorem sat_X7_isFit : Sat mX7_isFit s_isFit 0 0 4 := by
  refine sat_of (E := eX7_isFit) (sp := spX7_isFit) (ini := false) (by decide +kernel) (fun h => by cases h) okX7_isFit (fun i => match i with
    | 1 => ⟨sat_X7_manyOf, Nat.le_of_ble_eq_true rfl⟩
    | 2 => ⟨sat_X7_shadeFor, Nat.le_of_ble_eq_true rfl⟩
    | i + 3 => ⟨sat_no _, Nat.le_of_ble_eq_true rfl⟩
    | 0 => ⟨sat_no _, Nat.le_of_ble_eq_true rfl⟩) ?_
  intro as S post h
  match as, h with
  | [.inr (.inr (some 2)), .inl o, .inl m], h =>
    obtain ⟨hM, ⟨hor, m0, m1, hw, hh, hstk⟩, h⟩ := h
    have hor2 := hor
    obtain ⟨o0, o1, o2, o3, hds⟩ := hor2
    have hds2 := hds
    obtain ⟨d0, d1, n0, n1, hst⟩ := hds2
    have hr := hM.2.1
    obtain ⟨d, hd⟩ : ∃ d, mg S 24 o = d := ⟨_, rfl⟩
    rw [hd] at hds d0 d1 n0 n1 hst
    unfold fitP fitA fitB cntD at h
    dsimp only at h
    rw [hd] at h
    refine bodyL [(5, fun ms L st S' c => ∃ (k is : Int) (x5 : AV), L = [vT 2, vI o, vI m, vI is, vI k, x5] ∧ st = [] ∧ S' = S ∧ c = (0, 0) ∧ ms = 10 + (2240 - k).toNat ∧ 0 ≤ k ∧ k ≤ mnK S d ∧ isB is (∀ j, 0 ≤ j → j < k → stK S d j % 16 < mg S 15 m ∧ stK S d j / 16 % 16 < mg S 16 m)),
      (91, fun ms L st S' c => ∃ (k is : Int) (x5 : AV), L = [vT 2, vI o, vI m, vI is, vI k, x5] ∧ st = [] ∧ S' = S ∧ c = (0, 0) ∧ ms = (6 - k).toNat ∧ 0 ≤ k ∧ k ≤ 6 ∧ isB is ((∀ j, 0 ≤ j → j < mnK S d → stK S d j % 16 < mg S 15 m ∧ stK S d j / 16 % 16 < mg S 16 m) ∧ ∀ c, 0 ≤ c → c < k → cntC S d c (mnK S d).toNat = 0 ∨ shF S c (needK S o c) ≠ -1))] 3000 200 rfl
      (List.forall_mem_cons.mpr ⟨?_, List.forall_mem_cons.mpr ⟨?_, fun q hq => by cases hq⟩⟩) ?_
    · rintro ms L st S' c ⟨k, is, x5, rfl, rfl, rfl, rfl, rfl, k0, k1, his⟩
      have hib := isB01 his
      have hk := fun q => (hst k k0 q).1
      have hd' := hd
      have dN : k < mnK S' d → ∀ {y5 : AV}, ¬ (is = 1 ∧ stK S' d k % 16 < mg S' 15 m ∧ stK S' d k / 16 % 16 < mg S' 16 m) → ∃ q, q < 10 + (2240 - k).toNat ∧ ∃ (k2 is2 : Int) (x5 : AV), [vT 2, vI o, vI m, vI 0, vI (k + 1), y5] = [vT 2, vI o, vI m, vI is2, vI k2, x5] ∧ ([] : List AV) = [] ∧ S' = S' ∧ ((0, 0) : Nat × Nat) = (0, 0) ∧ q = 10 + (2240 - k2).toNat ∧ 0 ≤ k2 ∧ k2 ≤ mnK S' d ∧ isB is2 (∀ j, 0 ≤ j → j < k2 → stK S' d j % 16 < mg S' 15 m ∧ stK S' d j / 16 % 16 < mg S' 16 m) := fun hq y5 hn =>
        ⟨10 + (2240 - (k + 1)).toNat, by omega, k + 1, 0, _, rfl, rfl, rfl, rfl, rfl, by omega, by omega, isBf fun q => hn ⟨by
          rcases hib with e | e
          · exact absurd (fun j j0 j1 => q j j0 (by omega)) (isB0 his e)
          · exact e, q k k0 (by omega)⟩⟩
      have dY : k < mnK S' d → ∀ {y5 : AV}, (is = 1 ∧ stK S' d k % 16 < mg S' 15 m ∧ stK S' d k / 16 % 16 < mg S' 16 m) → ∃ q, q < 10 + (2240 - k).toNat ∧ ∃ (k2 is2 : Int) (x5 : AV), [vT 2, vI o, vI m, vI 1, vI (k + 1), y5] = [vT 2, vI o, vI m, vI is2, vI k2, x5] ∧ ([] : List AV) = [] ∧ S' = S' ∧ ((0, 0) : Nat × Nat) = (0, 0) ∧ q = 10 + (2240 - k2).toNat ∧ 0 ≤ k2 ∧ k2 ≤ mnK S' d ∧ isB is2 (∀ j, 0 ≤ j → j < k2 → stK S' d j % 16 < mg S' 15 m ∧ stK S' d j / 16 % 16 < mg S' 16 m) := fun hq y5 hn =>
        ⟨10 + (2240 - (k + 1)).toNat, by omega, k + 1, 1, _, rfl, rfl, rfl, rfl, rfl, by omega, by omega, isBt fun j j0 j1 => by
          by_cases e : j = k
          · rw [e]; exact hn.2
          · exact isB1 his (by omega) j j0 (by omega)⟩
      unfold stOK at hk
      dsimp only [mg, mf, colK, stK, clK, mnK, shN] at hk dN dY hw hh hd' k1 n1 n0
      repeat' (first
          | omega
          | with_reducible apply And.intro
          | (intro c9; (try simp only [mg, mf, colK, stK, clK, mnK, shN, hd'] at c9))
          | exact hM
          | exact ms_o hM
          | (refine ms_r hM rfl rfl ?_ ?_ <;> (try simp only [mLen]) <;> omega)
          | (refine ms_r hM rfl rfl ?_ ?_ <;> (try simp only [mLen, hd']) <;> omega)
          | (simp only [mg, mf, colK, stK, clK, mnK, shN, hd']; omega)
          | (simp only [mg, mf, colK, stK, clK, mnK, shN, hd']; omega)
          | refine Exists.intro _ (And.intro rfl ?_)
          | refine Exists.intro _ (And.intro ((congrFun hr _).trans rfl) ?_)
          | ((with_reducible show wp _ _ _ _ _ _ _ _ _ _ _ _ _ _); conv => whnf)
          | ((with_reducible show callK _ _ _ _ _ _ _ _ _); conv => whnf)
          | ((with_reducible show condK _ _ _ _ _); conv => whnf)
          | ((with_reducible show st1 _ _ _ _ _ _ _ _ _ _ _ _); conv => whnf)
          | ((with_reducible show (Prod.fst _ : Spec) _ _ _); conv => whnf)
          | ((with_reducible show shortK _ _); conv => whnf)
          | exact Nat.le_of_ble_eq_true rfl)
      · have e : k = S'.2.1 (mt 10) d.toNat := by omega
        subst e
        refine ⟨6, by omega, 0, is, _, rfl, rfl, rfl, rfl, rfl, by omega, by omega, isBc his ⟨fun q => ⟨q, fun c c0 c1 => by omega⟩, fun q => q.1⟩⟩
      · exact dN (by omega) (by omega)
      · exact dN (by omega) (by omega)
      · exact dN (by omega) (by omega)
      · exact dY (by omega) (by omega)
    · rintro ms L st S' c ⟨k, is, x5, rfl, rfl, rfl, rfl, rfl, k0, k1, his⟩
      have hib := isB01 his
      have hd' : S'.2.1 (mt 24) o.toNat = d := hd
      have dN : ∀ {y9 : AV}, k < 6 → ¬ (is = 1 ∧ (cntC S' d k (mnK S' d).toNat = 0 ∨ shF S' k (needK S' o k) ≠ -1)) → ∃ q, q < (6 - k).toNat ∧ ∃ (k2 is2 : Int) (y5 : AV), [vT 2, vI o, vI m, vI 0, vI (k + 1), x5] = [vT 2, vI o, vI m, vI is2, vI k2, y5] ∧ ([] : List AV) = [] ∧ S' = S' ∧ ((0, 0) : Nat × Nat) = (0, 0) ∧ q = (6 - k2).toNat ∧ 0 ≤ k2 ∧ k2 ≤ 6 ∧ isB is2 ((∀ j, 0 ≤ j → j < mnK S' d → stK S' d j % 16 < mg S' 15 m ∧ stK S' d j / 16 % 16 < mg S' 16 m) ∧ ∀ c, 0 ≤ c → c < k2 → cntC S' d c (mnK S' d).toNat = 0 ∨ shF S' c (needK S' o c) ≠ -1) := fun {y9} hq hn =>
        ⟨(6 - (k + 1)).toNat, by omega, k + 1, 0, _, rfl, rfl, rfl, rfl, rfl, by omega, by omega, isBf fun q => hn ⟨by
          rcases hib with e | e
          · exact absurd ⟨q.1, fun j j0 j1 => q.2 j j0 (by omega)⟩ (isB0 his e)
          · exact e, q.2 k k0 (by omega)⟩⟩
      have dY : ∀ {y9 : AV}, k < 6 → is ≠ 0 → (cntC S' d k (mnK S' d).toNat = 0 ∨ shF S' k (needK S' o k) ≠ -1) → ∃ q, q < (6 - k).toNat ∧ ∃ (k2 is2 : Int) (y5 : AV), [vT 2, vI o, vI m, vI 1, vI (k + 1), x5] = [vT 2, vI o, vI m, vI is2, vI k2, y5] ∧ ([] : List AV) = [] ∧ S' = S' ∧ ((0, 0) : Nat × Nat) = (0, 0) ∧ q = (6 - k2).toNat ∧ 0 ≤ k2 ∧ k2 ≤ 6 ∧ isB is2 ((∀ j, 0 ≤ j → j < mnK S' d → stK S' d j % 16 < mg S' 15 m ∧ stK S' d j / 16 % 16 < mg S' 16 m) ∧ ∀ c, 0 ≤ c → c < k2 → cntC S' d c (mnK S' d).toNat = 0 ∨ shF S' c (needK S' o c) ≠ -1) := fun {y9} hq hi hn =>
        ⟨(6 - (k + 1)).toNat, by omega, k + 1, 1, _, rfl, rfl, rfl, rfl, rfl, by omega, by omega, isBt ⟨(isB1 his hi).1, fun j j0 j1 => by
          by_cases e : j = k
          · rw [e]; exact hn
          · exact (isB1 his hi).2 j j0 (by omega)⟩⟩
      repeat' (first
          | omega
          | with_reducible apply And.intro
          | (intro c9; (try simp only [mg, mf, colK, stK, clK, mnK, shN] at c9))
          | exact hM
          | exact ms_o hM
          | (refine ms_r hM rfl rfl ?_ ?_ <;> (try simp only [mLen]) <;> omega)
          | exact hds
          | exact hor
          | exact hstk
          | (simp only [mg, mf, colK, stK, clK, mnK, shN]; omega)
          | refine Exists.intro _ (And.intro rfl ?_)
          | refine Exists.intro _ (And.intro ((congrFun hr _).trans rfl) ?_)
          | ((with_reducible show wp _ _ _ _ _ _ _ _ _ _ _ _ _ _); conv => whnf)
          | ((with_reducible show callK _ _ _ _ _ _ _ _ _); conv => whnf)
          | ((with_reducible show condK _ _ _ _ _); conv => whnf)
          | ((with_reducible show st1 _ _ _ _ _ _ _ _ _ _ _ _); conv => whnf)
          | ((with_reducible show (Prod.fst _ : Spec) _ _ _); conv => whnf)
          | ((with_reducible show shortK _ _); conv => whnf)
          | exact Nat.le_of_ble_eq_true rfl)
      · have e : k = 6 := by omega
        subst e
        exact kr_i ( h _ his ) (Nat.le_of_ble_eq_true rfl) (Nat.le_of_ble_eq_true rfl)
      · exact dN (y9 := uu) (by omega) (fun q => by omega)
      · have hd' : S'.2.1 (mt 24) o.toNat = d := hd
        rw [hd']; exact hds
      · rename_i hc
        have q := hc.1
        rw [hd'] at q
        exact dY (y9 := uu) (by omega) (by omega) (Or.inl (q.symm.trans c9))
      · have q := shP_r c9; omega
      · have q := shP_r c9; omega
      · rename_i hc1 hc2 r9 hc
        have q1 := hc1.1
        rw [hd'] at q1
        exact dN (y9 := uu) (by omega) (fun q => by
          rcases q.2 with a | a
          · exact hc2 (q1.trans a)
          · exact a ((shP_F hc).symm.trans c9))
      · rename_i hc
        exact dY (y9 := uu) (by omega) (by omega) (Or.inr (by rw [← shP_F hc]; exact c9))
    · repeat' (first
          | omega
          | with_reducible apply And.intro
          | (intro c9; (try simp only [mg, mf, colK, stK, clK, mnK, shN] at c9))
          | exact hM
          | exact ms_o hM
          | (refine ms_r hM rfl rfl ?_ ?_ <;> (try simp only [mLen]) <;> omega)
          | (refine ms_w hM rfl rfl ?_ ?_ <;> (try simp only [mLen]) <;> omega)
          | (simp only [mg, mf, colK, stK, clK, mnK, shN]; omega)
          | refine Exists.intro _ (And.intro rfl ?_)
          | refine Exists.intro _ (And.intro ((congrFun hr _).trans rfl) ?_)
          | ((with_reducible show wp _ _ _ _ _ _ _ _ _ _ _ _ _ _); conv => whnf)
          | ((with_reducible show callK _ _ _ _ _ _ _ _ _); conv => whnf)
          | ((with_reducible show condK _ _ _ _ _); conv => whnf)
          | ((with_reducible show st1 _ _ _ _ _ _ _ _ _ _ _ _); conv => whnf)
          | ((with_reducible show (Prod.fst _ : Spec) _ _ _); conv => whnf)
          | ((with_reducible show shortK _ _); conv => whnf)
          | exact Nat.le_of_ble_eq_true rfl)
      exact ⟨2250, by omega, 0, 1, _, rfl, rfl, rfl, rfl, rfl, by omega, n0, isBt fun j j0 j1 => by omega⟩
