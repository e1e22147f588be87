def cancelR (S : Sto) (o k v : Int) (S' : Sto) : Prop := k = (if ¬ (0 ≤ o ∧ o < nO S) then 1 else if mg S 26 o = 2 ∨ mg S 26 o = 3 then 2 else 0) ∧ (k ≠ 0 → S' = thr S k) ∧
  (k = 0 → ∃ T, T = (if mg S 26 o = 1 then updI (updI (thr S 0) (mt 17) (mg S 27 o).toNat (-1)) (mt 27) o.toNat (-1) else thr S 0) ∧ v = wsN S o ∧ S' = updI (updI (updI (updI T (mt 26) o.toNat 3) (mt 30) o.toNat (mg S 30 o + wsN S o)) (mt 28) o.toNat 0) (mt 29) o.toNat 0)
def s_cancel : Spec := fun as S post => match as with
  | [.inr (.inr (some 2)), .inl o] => (∃ n, MI n S) ∧ InR o ∧ ∀ k v S', cancelR S o k v S' → post (.inl (some (vI v))) S'
  | _ => False
def spX7_cancel : Nat → CD := spF mdX7_cancel fun i => match i with
  | 1 => (s_isNum_23, 0, 0, 2)
  | 2 => (s_holds, 0, 0, 1)
  | 3 => (s_leaves, 0, 0, 1)
  | 4 => (s_wastes, 0, 0, 1)
  | _ => noR
set_option maxHeartbeats 4000000 in
set_option maxRecDepth 100000 in
theorem sat_X7_cancel : Sat mX7_cancel s_cancel 0 0 3 := by
  refine sat_of (E := eX7_cancel) (sp := spX7_cancel) (ini := false) (by decide +kernel) (fun h => by cases h) okX7_cancel (fun i => match i with
    | 1 => ⟨sat_X7_isOrder, Nat.le_of_ble_eq_true rfl⟩
    | 2 => ⟨sat_X7_holds, Nat.le_of_ble_eq_true rfl⟩
    | 3 => ⟨sat_X7_leaves, Nat.le_of_ble_eq_true rfl⟩
    | 4 => ⟨sat_X7_wastes, Nat.le_of_ble_eq_true rfl⟩
    | i + 5 => ⟨sat_no _, Nat.le_of_ble_eq_true rfl⟩
    | 0 => ⟨sat_no _, Nat.le_of_ble_eq_true rfl⟩) ?_
  intro as S post h
  match as, h with
  | [.inr (.inr (some 2)), .inl o], h =>
    obtain ⟨⟨n9, hI⟩, hin, h⟩ := h
    have hI2 := hI
    obtain ⟨hM, hN, -, -, -, -, -, -⟩ := hI2
    have hr := hM.2.1
    unfold nD nM nO at hN
    unfold cancelR nO at h
    have hoi : 0 ≤ o → o < mf S 23 → ordI n9 S o := fun h0 h1 => hI.2.2.2.2.2.1 o h0 h1
    have hq : 0 ≤ o → o < mf S 23 → (0 ≤ mg S 26 o ∧ mg S 26 o ≤ 3) ∧ (0 ≤ mg S 24 o ∧ mg S 24 o < 6) ∧ (mg S 26 o = 1 → 0 ≤ mg S 27 o ∧ mg S 27 o < 4) := fun h0 h1 => by
      have q := hoi h0 h1
      unfold ordI nD nM at q
      obtain ⟨q1, q2, q3, ⟨q4, q5, q6, q7⟩, -⟩ := q
      exact ⟨q3, ⟨q1.1, by omega⟩, fun a => ⟨q7.mp a, by omega⟩⟩
    dsimp only [mg, mf, colK, stK, clK, mnK, shN] at h hN hq
    refine body0 200 rfl ?_
    repeat' (first
        | omega
        | with_reducible apply And.intro
        | (intro c9; (try simp only [mg, mf, colK, stK, clK, mnK, shN, u2] at c9))
        | exact hM
        | exact ms_o hM
        | (refine ms_r hM rfl rfl ?_ ?_ <;> (try simp only [mLen]) <;> omega)
        | (refine ms_w hM rfl rfl ?_ ?_ <;> (try simp only [mLen]) <;> omega)
        | (refine ms_r hM rfl rfl ?_ ?_ <;> (try simp only [mLen, updI_2, mt_a, mt_b, mt_c, false_and, if_false]) <;> omega)
        | (refine ms_w hM rfl rfl ?_ ?_ <;> (try simp only [mLen, updI_2, mt_a, mt_b, mt_c, false_and, if_false]) <;> omega)
        | (simp only [mg, mf, colK, stK, clK, mnK, shN, updI_2, mt_a, mt_b, mt_c, false_and, if_false]; omega)
        | (simp only [mg, mf, colK, stK, clK, mnK, shN, u2]; omega)
        | refine Exists.intro _ (And.intro rfl ?_)
        | refine Exists.intro _ (And.intro ((congrFun hr _).trans rfl) ?_)
        | ((with_reducible show wp _ _ _ _ _ _ _ _ _ _ _ _ _ _); conv => whnf)
        | ((with_reducible show callK _ _ _ _ _ _ _ _ _); conv => whnf)
        | ((with_reducible show condK _ _ _ _ _); conv => whnf)
        | ((with_reducible show st1 _ _ _ _ _ _ _ _ _ _ _ _); conv => whnf)
        | ((with_reducible show (Prod.fst _ : Spec) _ _ _); conv => whnf)
        | ((with_reducible show shortK _ _); conv => whnf)
        | exact Nat.le_of_ble_eq_true rfl)
    all_goals first
      | exact h _ _ _ ⟨by omega, fun _ => rfl, fun q => by omega⟩
      | (exfalso; exact (isB1' ‹isB _ True›) ‹_›)
      | exact h 0 _ _ ⟨by omega, fun q => absurd rfl q, fun _ => ⟨_, (if_neg c9).symm, rfl, rfl⟩⟩
      | exact h 0 _ _ ⟨by omega, fun q => absurd rfl q, fun _ => ⟨_, (if_pos c9).symm, rfl, rfl⟩⟩
    done
def snapR (S : Sto) (m k v : Int) (S' : Sto) : Prop := k = (if ¬ (0 ≤ m ∧ m < nM S) then 1 else if mg S 17 m = -1 ∨ mg S 29 (mg S 17 m) = 0 then 2 else 0) ∧ (k ≠ 0 → S' = thr S k) ∧
  (k = 0 → ∃ o, o = mg S 17 m ∧ 1 ≤ v ∧ v ≤ 5 ∧ v ≤ mg S 29 o ∧ (∀ j, mg S 29 o - v ≤ j → j < mg S 29 o → stK S (mg S 24 o) j / 256 = stK S (mg S 24 o) (mg S 29 o - 1) / 256) ∧
    (v = 5 ∨ v = mg S 29 o ∨ stK S (mg S 24 o) (mg S 29 o - v - 1) / 256 ≠ stK S (mg S 24 o) (mg S 29 o - 1) / 256) ∧ agr [29, 30] (thr S 0) S' ∧ mg S' 29 o = mg S 29 o - v ∧ mg S' 30 o = mg S 30 o + v ∧ (∀ q, 0 ≤ q → q ≠ o → mg S' 29 q = mg S 29 q ∧ mg S' 30 q = mg S 30 q))
def s_snap : Spec := fun as S post => match as with
  | [.inr (.inr (some 2)), .inl m] => (∃ n, MI n S) ∧ InR m ∧ ∀ k v S', snapR S m k v S' → post (.inl (some (vI v))) S'
  | _ => False
def spX7_snap : Nat → CD := spF mdX7_snap fun i => match i with
  | 1 => (s_isNum_13, 0, 0, 2)
  | 2 => (s_holds, 0, 0, 1)
  | _ => noR
set_option maxHeartbeats 4000000 in
set_option maxRecDepth 100000 in
theorem sat_X7_snap : Sat mX7_snap s_snap 0 0 3 := by
  refine sat_of (E := eX7_snap) (sp := spX7_snap) (ini := false) (by decide +kernel) (fun h => by cases h) okX7_snap (fun i => match i with
    | 1 => ⟨sat_X7_isMachine, Nat.le_of_ble_eq_true rfl⟩
    | 2 => ⟨sat_X7_holds, Nat.le_of_ble_eq_true rfl⟩
    | i + 3 => ⟨sat_no _, Nat.le_of_ble_eq_true rfl⟩
    | 0 => ⟨sat_no _, Nat.le_of_ble_eq_true rfl⟩) ?_
  intro as S post h
  match as, h with
  | [.inr (.inr (some 2)), .inl m], h =>
    obtain ⟨⟨n9, hI⟩, hin, h⟩ := h
    have hI2 := hI
    obtain ⟨hM, hN, -, -, -, -, -, -⟩ := hI2
    have hr := hM.2.1
    unfold snapR nM at h
    have hmj : 0 ≤ m → m < mf S 13 → -1 ≤ mg S 17 m ∧ mg S 17 m < 20 ∧ (0 ≤ mg S 17 m → (0 ≤ mg S 24 (mg S 17 m) ∧ mg S 24 (mg S 17 m) < 6) ∧ 0 ≤ mg S 29 (mg S 17 m) ∧ mg S 29 (mg S 17 m) < 2240 ∧ (0 ≤ mg S 30 (mg S 17 m) ∧ mg S 30 (mg S 17 m) ≤ 1800000000) ∧ ∀ j, 0 ≤ j → j < mg S 29 (mg S 17 m) → stOK S (mg S 24 (mg S 17 m)) j) := fun h0 h1 => by
      have q := hI.2.2.2.2.1 m h0 h1
      have q8 := q.2.2.2.2.2.2.2
      have q9 := hN
      refine ⟨by omega, by omega, fun a => ?_⟩
      have q2 := hI.2.2.2.2.2.1 _ a q8.2.1
      have q3 := hI.2.2.2.1 _ q2.1.1 q2.1.2
      have q4 := q3.mn
      obtain ⟨r1, -, -, -, r5, r6, -⟩ := q2
      exact ⟨⟨r1.1, by omega⟩, r5.2.2.1, by omega, ⟨r6.1, by omega⟩, fun j j0 j1 => (q3.stR j0 (by omega)).1⟩
    unfold nD nM nO at hN
    refine bodyL [(113, fun ms L st S' c => ∃ (b : Nat) (o d p : Int) (x2 x3 : AV), L = [vT 2, vI m, x2, x3, vI o, vI (2240 * d), vI (stK S d (p - 1) / 256), vI b] ∧ st = [] ∧ c = (0, 0) ∧ ms = 5 - b ∧ (0 ≤ m ∧ m < mf S 13) ∧ o = mg S 17 m ∧ 0 ≤ o ∧ d = mg S 24 o ∧ p = mg S 29 o ∧ 0 < p ∧ b ≤ 5 ∧ (b : Int) ≤ p ∧ (∀ j, p - b ≤ j → j < p → stK S d j / 256 = stK S d (p - 1) / 256) ∧ agr [29] (thr S 0) S' ∧ mg S' 29 o = p - b ∧ ∀ q, 0 ≤ q → q ≠ o → mg S' 29 q = mg S 29 q)] 20 300 rfl
      (List.forall_mem_cons.mpr ⟨?_, fun q hq => by cases hq⟩) ?_
    · rintro ms L st S' c ⟨b, o, d, p, x2, x3, rfl, rfl, rfl, rfl, hm, ho, o0, hd, hp, p0, hb, hb2, hal, hag, h29, hoth⟩
      have hj := hmj hm.1 hm.2
      rw [← ho] at hj
      obtain ⟨-, o1, hj⟩ := hj
      obtain ⟨hd2, hp0, hp1, hw, hst⟩ := hj o0
      rw [← hd] at hd2 hst
      rw [← hp] at hp0 hp1 hst
      have hM : MS S' := hag.ms hM
      have hr := hM.2.1
      have e11 : ∀ i : Nat, S'.2.1 (mt 11) i = S.2.1 (mt 11) i := fun i => by
        have q := hag.mg (k := 11) (i := i) (by simp)
        exact q
      have e30 : ∀ i : Nat, S'.2.1 (mt 30) i = S.2.1 (mt 30) i := fun i => by
        have q := hag.mg (k := 30) (i := i) (by simp)
        exact q
      have e29 : S'.2.1 (mt 29) o.toNat = p - b := h29
      have hs : 0 < p - b → _ := fun q => hst (p - b - 1) (by omega) (by omega)
      have hs1 := hst (p - 1) (by omega) (by omega)
      have ei : 2240 * d + (p - b) - 1 = 2240 * d + (p - b - 1) := by omega
      have fin : ∀ (_ : Unit), (((b : Int) = 5 ∨ (b : Int) = p ∨ stK S d (p - b - 1) / 256 ≠ stK S d (p - 1) / 256)) → post (.inl (some (vI b))) (updI S' (mt 30) o.toNat (S'.2.1 (mt 30) o.toNat + b)) := fun _ hx => by
        refine h 0 _ _ ⟨by rw [← ho, ← hp]; omega, fun q => absurd rfl q, fun _ => ⟨o, ho, ?_, by omega, by rw [← hp]; exact hb2, by rw [← hp, ← hd]; exact hal, by rw [← hp, ← hd]; exact hx, (hag.sub (by simp)).upd (by simp), ?_, ?_, fun q q0 q1 => ⟨?_, ?_⟩⟩⟩
        · by_cases e : b = 0
          · subst e
            rcases hx with a | a | a
            · omega
            · omega
            · exact absurd (by rw [show p - ((0 : Nat) : Int) - 1 = p - 1 by omega]) a
          · omega
        · show (if mt 29 = mt 30 ∧ o.toNat = o.toNat then S'.2.1 (mt 30) o.toNat + (b : Int) else S'.2.1 (mt 29) o.toNat) = _
          rw [if_neg (by rintro ⟨e, -⟩; exact absurd (mt_inj e) (by omega)), ← hp]; exact e29
        · show (if mt 30 = mt 30 ∧ o.toNat = o.toNat then S'.2.1 (mt 30) o.toNat + (b : Int) else S'.2.1 (mt 30) o.toNat) = _
          rw [if_pos ⟨rfl, rfl⟩, e30]
        · show (if mt 29 = mt 30 ∧ q.toNat = o.toNat then S'.2.1 (mt 30) o.toNat + (b : Int) else S'.2.1 (mt 29) q.toNat) = _
          rw [if_neg (by rintro ⟨e, -⟩; exact absurd (mt_inj e) (by omega))]; exact hoth q q0 q1
        · show (if mt 30 = mt 30 ∧ q.toNat = o.toNat then S'.2.1 (mt 30) o.toNat + (b : Int) else S'.2.1 (mt 30) q.toNat) = _
          rw [if_neg (by rintro ⟨-, e⟩; omega), e30]
      unfold stOK at hs hs1
      dsimp only [mg, mf, colK, stK, clK, mnK, shN] at hs hs1
      repeat' (first
          | omega
          | with_reducible apply And.intro
          | (intro c9; (try simp only [mg, mf, colK, stK, clK, mnK, shN, e29, e11, e30, ei] at c9))
          | exact hM
          | exact ms_o hM
          | (refine ms_r hM rfl rfl ?_ ?_ <;> (try simp only [mLen, e29, e11, ei]) <;> omega)
          | (refine ms_w hM rfl rfl ?_ ?_ <;> (try simp only [mLen]) <;> omega)
          | (simp only [mg, mf, colK, stK, clK, mnK, shN, e29, e11, ei]; omega)
          | (simp only [mg, mf, colK, stK, clK, mnK, shN, e29, e11, e30, ei]; omega)
          | refine Exists.intro _ (And.intro rfl ?_)
          | refine Exists.intro _ (And.intro ((congrFun hr _).trans rfl) ?_)
          | ((with_reducible show wp _ _ _ _ _ _ _ _ _ _ _ _ _ _); conv => whnf)
          | ((with_reducible show callK _ _ _ _ _ _ _ _ _); conv => whnf)
          | ((with_reducible show condK _ _ _ _ _); conv => whnf)
          | ((with_reducible show st1 _ _ _ _ _ _ _ _ _ _ _ _); conv => whnf)
          | ((with_reducible show (Prod.fst _ : Spec) _ _ _); conv => whnf)
          | ((with_reducible show shortK _ _); conv => whnf)
          | exact Nat.le_of_ble_eq_true rfl)
      · exact fin () (Or.inl (by omega))
      · exact fin () (Or.inr (Or.inl (by omega)))
      · exact fin () (Or.inr (Or.inr c9))
      · refine ⟨5 - (b + 1), by omega, b + 1, o, d, p, x2, x3, by rw [Int.natCast_add]; rfl, rfl, rfl, rfl, hm, ho, o0, hd, hp, p0, by omega, by omega, fun j j0 j1 => ?_, hag.upd (by simp), ?_, fun q q0 q1 => ?_⟩
        · by_cases e : j = p - b - 1
          · rw [e]; exact c9
          · exact hal j (by omega) j1
        · show (if mt 29 = mt 29 ∧ o.toNat = o.toNat then S'.2.1 (mt 29) o.toNat - 1 else S'.2.1 (mt 29) o.toNat) = _
          rw [if_pos ⟨rfl, rfl⟩, e29]; omega
        · show (if mt 29 = mt 29 ∧ q.toNat = o.toNat then S'.2.1 (mt 29) o.toNat - 1 else S'.2.1 (mt 29) q.toNat) = _
          rw [if_neg (by rintro ⟨-, e⟩; omega)]; exact hoth q q0 q1
    · have hs9 : 0 ≤ m → m < mf S 13 → 0 ≤ mg S 17 m → 0 < mg S 29 (mg S 17 m) → _ := fun a b c e => ((hmj a b).2.2 c).2.2.2.2 (mg S 29 (mg S 17 m) - 1) (by omega) (by omega)
      have ei : 2240 * mg S 24 (mg S 17 m) + mg S 29 (mg S 17 m) - 1 = 2240 * mg S 24 (mg S 17 m) + (mg S 29 (mg S 17 m) - 1) := by omega
      unfold stOK at hs9
      dsimp only [mg, mf, colK, stK, clK, mnK, shN] at h hN hmj hs9 ei
      repeat' (first
          | omega
          | with_reducible apply And.intro
          | (intro c9; (try simp only [mg, mf, colK, stK, clK, mnK, shN, u2] at c9))
          | exact hM
          | exact ms_o hM
          | (refine ms_r hM rfl rfl ?_ ?_ <;> (try simp only [mLen]) <;> omega)
          | (refine ms_w hM rfl rfl ?_ ?_ <;> (try simp only [mLen]) <;> omega)
          | (refine ms_r hM rfl rfl ?_ ?_ <;> (try simp only [mLen, updI_2, mt_a, mt_b, mt_c, false_and, if_false]) <;> omega)
          | (refine ms_w hM rfl rfl ?_ ?_ <;> (try simp only [mLen, updI_2, mt_a, mt_b, mt_c, false_and, if_false]) <;> omega)
          | (simp only [mg, mf, colK, stK, clK, mnK, shN, u2]; omega)
          | (simp only [u2, ei]; omega)
          | (simp only [mg, mf, colK, stK, clK, mnK, shN, u2]; omega)
          | refine Exists.intro _ (And.intro rfl ?_)
          | refine Exists.intro _ (And.intro ((congrFun hr _).trans rfl) ?_)
          | ((with_reducible show wp _ _ _ _ _ _ _ _ _ _ _ _ _ _); conv => whnf)
          | ((with_reducible show callK _ _ _ _ _ _ _ _ _); conv => whnf)
          | ((with_reducible show condK _ _ _ _ _); conv => whnf)
          | ((with_reducible show st1 _ _ _ _ _ _ _ _ _ _ _ _); conv => whnf)
          | ((with_reducible show (Prod.fst _ : Spec) _ _ _); conv => whnf)
          | ((with_reducible show shortK _ _); conv => whnf)
          | exact Nat.le_of_ble_eq_true rfl)
      all_goals first
        | exact h _ _ _ ⟨by omega, fun _ => rfl, fun q => by omega⟩
        | (exfalso; exact (isB1' ‹isB _ True›) ‹_›)
        | (simp only [u2, ei]; exact ⟨5, by omega, 0, mg S 17 m, mg S 24 (mg S 17 m), mg S 29 (mg S 17 m), _, _, (by first | rfl | trivial), (by first | rfl | trivial), (by first | rfl | trivial), (by first | rfl | trivial), by simp only [mg, mf, colK, stK, clK, mnK, shN]; omega, (by first | rfl | trivial), by simp only [mg, mf, colK, stK, clK, mnK, shN]; omega, (by first | rfl | trivial), (by first | rfl | trivial), by simp only [mg, mf, colK, stK, clK, mnK, shN]; omega, by omega, by simp only [mg, mf, colK, stK, clK, mnK, shN]; omega, fun j j0 j1 => by omega, agr.rf, by show mg S 29 (mg S 17 m) = _; omega, fun q q0 q1 => (by first | rfl | trivial)⟩)
      done
