/-- the colours that the first heads hold, as bits -/
def hset (S : Sto) (i : Int) : Nat → Nat
  | 0 => 0
  | k + 1 => if hdK S i k = -1 then hset S i k else hset S i k ||| 2 ^ (hdK S i k).toNat
theorem hset_lt {S : Sto} {i : Int} (h : ∀ k, 0 ≤ k → k < 6 → -1 ≤ hdK S i k ∧ hdK S i k < 6) : ∀ k : Nat, k ≤ 6 → hset S i k < 64
  | 0, _ => by show 0 < 64; omega
  | k + 1, hk => by
    unfold hset
    have := h k (by omega) (by omega)
    split
    · exact hset_lt h k (by omega)
    · exact Nat.or_lt_two_pow (n := 6) (hset_lt h k (by omega)) (Nat.pow_lt_pow_right (by omega) (by omega))
def ofMachineR (S : Sto) (i w k v : Int) (S' : Sto) : Prop := k = (if ¬ (0 ≤ i ∧ i < nM S) then 1 else if 0 ≤ w ∧ w ≤ 3 then 0 else 2) ∧ S' = thr S k ∧
  (k = 0 → v = if w = 0 then mg S 17 i else if w = 1 then mg S 18 i else if w = 2 then ((hset S i (mg S 14 i).toNat : Nat) : Int) else mg S 19 i)
def s_ofMachine : Spec := fun as S post => match as with
  | [.inr (.inr (some 2)), .inl i, .inl w] => (∃ n, MI n S) ∧ (InR i ∧ InR w) ∧ ∀ k v S', ofMachineR S i w k v S' → post (.inl (some (vI v))) S'
  | _ => False
def spX7_ofMachine : Nat → CD := spF mdX7_ofMachine fun i => match i with
  | 1 => (s_isNum_13, 0, 0, 2)
  | 2 => (s_isIn, 0, 0, 1)
  | 3 => (s_holds, 0, 0, 1)
  | _ => noR
set_option maxHeartbeats 4000000 in
set_option maxRecDepth 100000 in
theorem sat_X7_ofMachine : Sat mX7_ofMachine s_ofMachine 0 0 3 := by
  refine sat_of (E := eX7_ofMachine) (sp := spX7_ofMachine) (ini := false) (by decide +kernel) (fun h => by cases h) okX7_ofMachine (fun i => match i with
    | 1 => ⟨sat_X7_isMachine, Nat.le_of_ble_eq_true rfl⟩
    | 2 => ⟨sat_X7_isIn, Nat.le_of_ble_eq_true rfl⟩
    | 3 => ⟨sat_X7_holds, Nat.le_of_ble_eq_true rfl⟩
    | i + 4 => ⟨sat_no _, Nat.le_of_ble_eq_true rfl⟩
    | 0 => ⟨sat_no _, Nat.le_of_ble_eq_true rfl⟩) ?_
  intro as S post h
  match as, h with
  | [.inr (.inr (some 2)), .inl i, .inl w], h =>
    obtain ⟨⟨n9, hI⟩, hin, h⟩ := h
    have hI2 := hI
    obtain ⟨hM, hN, hdr, -, -, -, -, hstk⟩ := hI2
    have hr := hM.2.1
    unfold ofMachineR at h
    unfold nD nM nO at hN
    unfold nM at h
    have hma : 0 ≤ i → i < mf S 13 → macI n9 S i := fun h0 h1 => hI.2.2.2.2.1 i h0 h1
    refine bodyL [(40, fun ms L st S' c => ∃ (k : Nat), L = [vT 2, vI i, vI w, vI (hset S i k), vI k] ∧ st = [] ∧ c = (0, 0) ∧ ms = 6 - k ∧ 0 ≤ i ∧ i < mf S 13 ∧ 0 ≤ w ∧ w ≤ 3 ∧ (k : Int) ≤ mg S 14 i ∧ S' = thr S 0)] 20 200 rfl
      (List.forall_mem_cons.mpr ⟨?_, fun q hq => by cases hq⟩) ?_
    · rintro ms L st S' c ⟨k, rfl, rfl, rfl, rfl, i0, i1, w0, w1, hk, hS⟩
      have e9 : ∀ j i, S'.2.1 (mt j) i = S.2.1 (mt j) i := fun j i => by rw [hS]; exact u2
      have hM : MS S' := by rw [hS]; exact hM
      have hr := hM.2.1
      obtain ⟨⟨a1, a6⟩, -, -, -, -, hh, -, -⟩ := hma i0 i1
      have hb := hset_lt (S := S) (i := i) (fun k k0 k1 => ⟨(hh k k0 k1).1, (hh k k0 k1).2.1⟩) k (by omega)
      have hq : (k : Int) < 6 → -1 ≤ hdK S i k ∧ hdK S i k < 6 := fun q => ⟨(hh k (by omega) q).1, (hh k (by omega) q).2.1⟩
      have es : hset S i (k + 1) = if hdK S i k = -1 then hset S i k else hset S i k ||| 2 ^ (hdK S i k).toNat := rfl
      have eo := bz_or (hset S i k) (hdK S i k).toNat (by omega)
      have ez := bz_or0 (hset S i k) (by omega)
      dsimp only [hdK, mg, mf, colK, stK, clK, mnK, shN] at *
      repeat' (first
          | omega
          | with_reducible apply And.intro
          | (intro c9; (try simp only [mg, mf, colK, stK, clK, mnK, shN, e9] at c9))
          | exact hM
          | exact ms_o hM
          | (refine ms_r hM rfl rfl ?_ ?_ <;> (try simp only [mLen]) <;> omega)
          | (simp only [mg, mf, colK, stK, clK, mnK, shN, e9]; omega)
          | refine Exists.intro _ (And.intro rfl ?_)
          | refine Exists.intro _ (And.intro ((congrFun hr _).trans rfl) ?_)
          | ((with_reducible show wp _ _ _ _ _ _ _ _ _ _ _ _ _ _); conv => whnf)
          | ((with_reducible show callK _ _ _ _ _ _ _ _ _); conv => whnf)
          | ((with_reducible show condK _ _ _ _ _); conv => whnf)
          | ((with_reducible show st1 _ _ _ _ _ _ _ _ _ _ _ _); conv => whnf)
          | ((with_reducible show (Prod.fst _ : Spec) _ _ _); conv => whnf)
          | ((with_reducible show shortK _ _); conv => whnf)
          | exact Nat.le_of_ble_eq_true rfl)
      all_goals first
        | exact h _ _ _ ⟨by omega, hS, fun q => by rw [show (S.2.1 (mt 14) i.toNat).toNat = k by omega]; (try simp only [e9]); omega⟩
        | skip
      · refine ⟨6 - (k + 1), by omega, k + 1, ?_, rfl, rfl, rfl, i0, i1, w0, w1, by omega, hS⟩
        show [vT 2, vI i, vI w, vI (bOr (hset S i k) (bShl 1 (S'.2.1 (mt 20) (6 * i + (k : Int)).toNat))), vI ((k : Int) + 1)] = _
        rw [e9, es, if_neg c9]
        have q2 := eo (by omega)
        rw [show (((S.2.1 (mt 20) (6 * i + (k : Int)).toNat).toNat : Nat) : Int) = S.2.1 (mt 20) (6 * i + (k : Int)).toNat by omega] at q2
        rw [q2, Int.natCast_add]; rfl
      · refine ⟨6 - (k + 1), by omega, k + 1, ?_, rfl, rfl, rfl, i0, i1, w0, w1, by omega, hS⟩
        show [vT 2, vI i, vI w, vI (bOr (hset S i k) 0), vI ((k : Int) + 1)] = _
        rw [es, if_pos c9, ez, Int.natCast_add]; rfl
    · dsimp only [mg, mf, colK, stK, clK, mnK, shN] at h hN hma
      have h14 : 0 ≤ i → i < S.2.1 2 13 → 1 ≤ S.2.1 (mt 14) i.toNat := fun h0 h1 => (hma h0 h1).1.1
      repeat' (first
          | omega
          | with_reducible apply And.intro
          | (intro c9; (try simp only [mg, mf, colK, stK, clK, mnK, shN, u2] at c9))
          | exact hM
          | exact ms_o hM
          | (refine ms_r hM rfl rfl ?_ ?_ <;> (try simp only [mLen]) <;> omega)
          | (refine ms_w hM rfl rfl ?_ ?_ <;> (try simp only [mLen]) <;> omega)
          | (refine ms_r hM rfl rfl ?_ ?_ <;> (try simp only [mLen, updI_2, mt_a, mt_b, mt_c, false_and, if_false]) <;> omega)
          | (refine ms_w hM rfl rfl ?_ ?_ <;> (try simp only [mLen, updI_2, mt_a, mt_b, mt_c, false_and, if_false]) <;> omega)
          | (simp only [mg, mf, colK, stK, clK, mnK, shN, u2]; omega)
          | refine Exists.intro _ (And.intro rfl ?_)
          | refine Exists.intro _ (And.intro ((congrFun hr _).trans rfl) ?_)
          | ((with_reducible show wp _ _ _ _ _ _ _ _ _ _ _ _ _ _); conv => whnf)
          | ((with_reducible show callK _ _ _ _ _ _ _ _ _); conv => whnf)
          | ((with_reducible show condK _ _ _ _ _); conv => whnf)
          | ((with_reducible show st1 _ _ _ _ _ _ _ _ _ _ _ _); conv => whnf)
          | ((with_reducible show (Prod.fst _ : Spec) _ _ _); conv => whnf)
          | ((with_reducible show shortK _ _); conv => whnf)
          | exact Nat.le_of_ble_eq_true rfl)
      all_goals first
        | exact h _ _ _ ⟨by omega, rfl, fun q => by omega⟩
        | exact ⟨6, by omega, 0, rfl, rfl, rfl, rfl, by omega, by simp only [mg, mf, colK, stK, clK, mnK, shN]; omega, by omega, by omega, by have := h14 (by omega) (by omega); simp only [mg, mf, colK, stK, clK, mnK, shN]; omega, rfl⟩
        | (exfalso; exact (isB1' ‹isB _ True›) ‹_›)
        | trace_state
