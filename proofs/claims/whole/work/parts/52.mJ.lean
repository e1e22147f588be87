/-- n places from b on are -1 in the array of what the heads hold -/
def fillH (S : Sto) (b : Int) : Nat → Sto
  | 0 => S
  | n + 1 => updI (fillH S b n) (mt 20) (b + n).toNat (-1)
theorem fillH_ag {S : Sto} {b : Int} : ∀ n, agr [20] S (fillH S b n)
  | 0 => agr.rf
  | n + 1 => (fillH_ag n).upd (by simp)
def machineR (S : Sto) (a w g k v : Int) (S' : Sto) : Prop := k = (if ¬ (1 ≤ a ∧ a ≤ 6 ∧ 1 ≤ w ∧ w ≤ 16 ∧ 1 ≤ g ∧ g ≤ 16) then 1 else if nM S = 4 then 2 else 0) ∧ (k ≠ 0 → S' = thr S k) ∧
  (k = 0 → v = nM S ∧ S' = updI (fillH (updI (updI (updI (updI (thr S 0) (mt 14) (nM S).toNat a) (mt 15) (nM S).toNat w) (mt 16) (nM S).toNat g) (mt 17) (nM S).toNat (-1)) (6 * nM S) 6) 2 13 (nM S + 1))
def s_machine : Spec := fun as S post => match as with
  | [.inr (.inr (some 2)), .inl a, .inl w, .inl g] => (∃ n, MI n S) ∧ (InR a ∧ InR w ∧ InR g) ∧ ∀ k v S', machineR S a w g k v S' → post (.inl (some (vI v))) S'
  | _ => False
def spX7_machine : Nat → CD := spF mdX7_machine fun i => match i with
  | 1 => (s_isIn, 0, 0, 1)
  | 2 => (s_holds, 0, 0, 1)
  | _ => noR
set_option maxHeartbeats 4000000 in
set_option maxRecDepth 100000 in
theorem sat_X7_machine : Sat mX7_machine s_machine 0 0 3 := by
  refine sat_of (E := eX7_machine) (sp := spX7_machine) (ini := false) (by decide +kernel) (fun h => by cases h) okX7_machine (fun i => match i with
    | 1 => ⟨sat_X7_isIn, Nat.le_of_ble_eq_true rfl⟩
    | 2 => ⟨sat_X7_holds, Nat.le_of_ble_eq_true rfl⟩
    | i + 3 => ⟨sat_no _, Nat.le_of_ble_eq_true rfl⟩
    | 0 => ⟨sat_no _, Nat.le_of_ble_eq_true rfl⟩) ?_
  intro as S post h
  match as, h with
  | [.inr (.inr (some 2)), .inl a, .inl w, .inl g], h =>
    obtain ⟨⟨n9, hI⟩, hin, h⟩ := h
    have hI2 := hI
    obtain ⟨hM, hN, hdr, -, -, -, -, hstk⟩ := hI2
    have hr := hM.2.1
    obtain ⟨nm, hnm⟩ : ∃ nm, nM S = nm := ⟨_, rfl⟩
    unfold machineR at h
    rw [hnm] at h hN
    unfold nM at hnm
    dsimp only [mg, mf, colK, stK, clK, mnK, shN] at h hN hnm
    refine bodyL [(111, fun ms L st S' c => ∃ (k : Nat) (x4 : AV), L = [vT 2, vI a, vI w, vI g, x4, vI k] ∧ st = [] ∧ c = (0, 0) ∧ ms = 6 - k ∧ k ≤ 6 ∧ nm < 4 ∧ (1 ≤ a ∧ a ≤ 6 ∧ 1 ≤ w ∧ w ≤ 16 ∧ 1 ≤ g ∧ g ≤ 16) ∧ S' = fillH (updI (updI (updI (updI (thr S 0) (mt 14) nm.toNat a) (mt 15) nm.toNat w) (mt 16) nm.toNat g) (mt 17) nm.toNat (-1)) (6 * nm) k)] 20 200 rfl
      (List.forall_mem_cons.mpr ⟨?_, fun q hq => by cases hq⟩) ?_
    · rintro ms L st S' c ⟨k, x4, rfl, rfl, rfl, rfl, hk, hnm4, hin2, hS⟩
      have hag := fillH_ag (S := updI (updI (updI (updI (thr S 0) (mt 14) nm.toNat a) (mt 15) nm.toNat w) (mt 16) nm.toNat g) (mt 17) nm.toNat (-1)) (b := 6 * nm) k
      rw [← hS] at hag
      have hM : MS S' := hag.ms hM
      have hr := hM.2.1
      have h13 : S'.2.1 2 13 = nm := (hag.mf (k := 13)).trans hnm
      repeat' (first
          | omega
          | with_reducible apply And.intro
          | (intro c9; (try simp only [mg, mf, colK, stK, clK, mnK, shN, h13] at c9))
          | exact hM
          | exact ms_o hM
          | (refine ms_r hM rfl rfl ?_ ?_ <;> (try simp only [mLen]) <;> omega)
          | (refine ms_w hM rfl rfl ?_ ?_ <;> (try simp only [mLen]) <;> omega)
          | (simp only [mg, mf, colK, stK, clK, mnK, shN, h13]; omega)
          | refine Exists.intro _ (And.intro rfl ?_)
          | refine Exists.intro _ (And.intro ((congrFun hr _).trans rfl) ?_)
          | ((with_reducible show wp _ _ _ _ _ _ _ _ _ _ _ _ _ _); conv => whnf)
          | ((with_reducible show callK _ _ _ _ _ _ _ _ _); conv => whnf)
          | ((with_reducible show condK _ _ _ _ _); conv => whnf)
          | ((with_reducible show st1 _ _ _ _ _ _ _ _ _ _ _ _); conv => whnf)
          | ((with_reducible show (Prod.fst _ : Spec) _ _ _); conv => whnf)
          | ((with_reducible show shortK _ _); conv => whnf)
          | exact Nat.le_of_ble_eq_true rfl)
      · have e : k = 6 := by omega
        subst e
        refine h 0 _ _ ⟨by omega, fun q => absurd rfl q, fun _ => ⟨?_, ?_⟩⟩
        · show S'.2.1 2 13 + 1 - 1 = _
          omega
        · rw [h13, hS]
      · refine ⟨6 - (k + 1), by omega, k + 1, x4, by rw [Int.natCast_add]; rfl, rfl, rfl, rfl, by omega, hnm4, hin2, ?_⟩
        rw [h13, hS]; rfl
    · repeat' (first
          | omega
          | with_reducible apply And.intro
          | (intro c9; (try simp only [mg, mf, colK, stK, clK, mnK, shN, u2, hnm] at c9))
          | exact hM
          | exact ms_o hM
          | (refine ms_r hM rfl rfl ?_ ?_ <;> (try simp only [mLen]) <;> omega)
          | (refine ms_w hM rfl rfl ?_ ?_ <;> (try simp only [mLen]) <;> omega)
          | (refine ms_r hM rfl rfl ?_ ?_ <;> (try simp only [mLen, updI_2, mt_a, mt_b, mt_c, false_and, if_false]) <;> omega)
          | (refine ms_w hM rfl rfl ?_ ?_ <;> (try simp only [mLen, updI_2, mt_a, mt_b, mt_c, false_and, if_false]) <;> omega)
          | (simp only [mg, mf, colK, stK, clK, mnK, shN, u2, hnm]; omega)
          | refine Exists.intro _ (And.intro rfl ?_)
          | refine Exists.intro _ (And.intro ((congrFun hr _).trans rfl) ?_)
          | ((with_reducible show wp _ _ _ _ _ _ _ _ _ _ _ _ _ _); conv => whnf)
          | ((with_reducible show callK _ _ _ _ _ _ _ _ _); conv => whnf)
          | ((with_reducible show condK _ _ _ _ _); conv => whnf)
          | ((with_reducible show st1 _ _ _ _ _ _ _ _ _ _ _ _); conv => whnf)
          | ((with_reducible show (Prod.fst _ : Spec) _ _ _); conv => whnf)
          | ((with_reducible show shortK _ _); conv => whnf)
          | exact Nat.le_of_ble_eq_true rfl)
      all_goals first
        | exact h _ _ _ ⟨by omega, fun _ => rfl, fun q => by omega⟩
        | exact ⟨6, by omega, 0, _, rfl, rfl, rfl, rfl, by omega, by omega, by omega, by rw [← hnm]; rfl⟩
        | (exfalso; exact (isB1' ‹isB _ True›) ‹_›)
        | trace_state
