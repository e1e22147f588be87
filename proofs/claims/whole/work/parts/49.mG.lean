theorem isB1' {r : Int} (h : isB r True) : ¬ r = 0 := fun q => isB0 h q trivial
/-- thrown is set -/
def thr (S : Sto) (k : Int) : Sto := updI S 2 0 k
def stockR (S : Sto) (c s n k v : Int) (S' : Sto) : Prop :=
  k = (if ¬ (0 ≤ c ∧ c < 6 ∧ 0 ≤ s ∧ s < 3) then 1 else if ¬ (1 ≤ n ∧ n ≤ 100000) then 2 else if mg S 22 (3 * c + s) + n > 1000000 then 3 else 0) ∧
  (k ≠ 0 → S' = thr S k) ∧ (k = 0 → v = mg S 22 (3 * c + s) + n ∧ S' = updI (thr S 0) (mt 22) (3 * c + s).toNat (mg S 22 (3 * c + s) + n))
def s_stock : Spec := fun as S post => match as with
  | [.inr (.inr (some 2)), .inl c, .inl s, .inl n] => MS S ∧ (InR c ∧ InR s ∧ InR n ∧ stkOK S) ∧ ∀ k v S', stockR S c s n k v S' → post (.inl (some (vI v))) S'
  | _ => False
def spX7_stock : Nat → CD := spF mdX7_stock fun i => match i with
  | 1 => (s_isColour, 0, 0, 2)
  | 2 => (s_isShade, 0, 0, 2)
  | 3 => (s_isIn, 0, 0, 1)
  | 4 => (s_holds, 0, 0, 1)
  | _ => noR
set_option maxHeartbeats 4000000 in
set_option maxRecDepth 100000 in
theorem sat_X7_stock : Sat mX7_stock s_stock 0 0 3 := by
  refine sat_of (E := eX7_stock) (sp := spX7_stock) (ini := false) (by decide +kernel) (fun h => by cases h) okX7_stock (fun i => match i with
    | 1 => ⟨sat_X7_isColour, Nat.le_of_ble_eq_true rfl⟩
    | 2 => ⟨sat_X7_isShade, Nat.le_of_ble_eq_true rfl⟩
    | 3 => ⟨sat_X7_isIn, Nat.le_of_ble_eq_true rfl⟩
    | 4 => ⟨sat_X7_holds, Nat.le_of_ble_eq_true rfl⟩
    | i + 5 => ⟨sat_no _, Nat.le_of_ble_eq_true rfl⟩
    | 0 => ⟨sat_no _, Nat.le_of_ble_eq_true rfl⟩) ?_
  intro as S post h
  match as, h with
  | [.inr (.inr (some 2)), .inl c, .inl s, .inl n], h =>
    obtain ⟨hM, ⟨hc, hs, hn, hk⟩, h⟩ := h
    have hr := hM.2.1
    have hkk : 0 ≤ c → c < 6 → 0 ≤ s → s < 3 → 0 ≤ mg S 22 (3 * c + s) ∧ mg S 22 (3 * c + s) ≤ 1000000 := fun _ _ _ _ => hk _ (by omega) (by omega)
    refine body0 120 rfl ?_
    dsimp only [mg, mf, colK, stK, clK, mnK, shN] at hkk
    unfold stockR at h
    dsimp only [mg, mf, colK, stK, clK, mnK, shN] at h
    repeat' (first
        | omega
        | with_reducible apply And.intro
        | (intro c9; (try simp only [mg, mf, colK, stK, clK, mnK, shN] at c9))
        | exact hM
        | exact ms_o hM
        | (refine ms_r hM rfl rfl ?_ ?_ <;> (try simp only [mLen]) <;> omega)
        | (refine ms_w hM rfl rfl ?_ ?_ <;> (try simp only [mLen]) <;> omega)
        | (simp only [mg, mf, colK, stK, clK, mnK, shN]; omega)
        | refine Exists.intro _ (And.intro rfl ?_)
        | refine Exists.intro _ (And.intro ((congrFun hr _).trans rfl) ?_)
        | ((with_reducible show wp _ _ _ _ _ _ _ _ _ _ _ _ _ _); conv => whnf)
        | ((with_reducible show callK _ _ _ _ _ _ _ _ _); conv => whnf)
        | ((with_reducible show condK _ _ _ _ _); conv => whnf)
        | ((with_reducible show st1 _ _ _ _ _ _ _ _ _ _ _ _); conv => whnf)
        | ((with_reducible show (Prod.fst _ : Spec) _ _ _); conv => whnf)
        | ((with_reducible show shortK _ _); conv => whnf)
        | exact Nat.le_of_ble_eq_true rfl)
    all_goals first
      | exact h _ _ _ ⟨by omega, fun _ => rfl, fun q => by omega⟩
      | exact h _ _ _ ⟨by omega, fun q => absurd rfl q, fun _ => ⟨if_pos ⟨rfl, rfl⟩, rfl⟩⟩
      | omega
      | exact absurd ‹_› (isB1' ‹isB _ True›)
