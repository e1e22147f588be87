theorem swV_p {U : Sto} {o d : Int} (h : mg U 29 o = mnK U d) : swV U o d = sw6 (sw5 U o) o := if_pos h
theorem swV_n {U : Sto} {o d : Int} (h : mg U 29 o ≠ mnK U d) : swV U o d = U := if_neg h
theorem swW_p {V : Sto} {o : Int} (h : mg V 28 o = mg V 25 o) : swW V o = lvU (updI V (mt 26) o.toNat 2) o := if_pos h
theorem swW_n {V : Sto} {o : Int} (h : mg V 28 o ≠ mg V 25 o) : swW V o = V := if_neg h
def tP (S T : Sto) (m c r : Int) : Prop := (hadP S m c r ∧ T = S) ∨ (newP S m c r ∧ T = headU S m c r)
theorem tP_f {S T : Sto} {m c r : Int} (h : tP S T m c r) : agr [18, 20] S T ∧ 0 ≤ r ∧ r < mg S 14 m := by
  rcases h with ⟨q, rfl⟩ | ⟨q, rfl⟩
  · exact ⟨agr.rf, q.1, q.2.1⟩
  · exact ⟨(agr.rf.upd (by simp)).upd (by simp), q.2.1, q.2.2.1⟩
theorem swU_g {T : Sto} {m o th r : Int} {k : Nat} {i : Int} (hk : k = 10 ∨ k = 25 ∨ k = 27 ∨ k = 28) : mg (swU T m o th r) k i = mg T k i := by
  rcases hk with rfl | rfl | rfl | rfl <;> simp [swU, sw4, sw3, sw2, sw1, mgU]
theorem swU_p {T : Sto} {m o th r : Int} : mg (swU T m o th r) 29 o = mg T 29 o + 1 := by simp [swU, sw4, sw3, sw2, sw1, mgU]
theorem swV_g {U : Sto} {o d : Int} {k : Nat} {i : Int} (hk : k = 25 ∨ k = 27) : mg (swV U o d) k i = mg U k i := by
  unfold swV
  split
  · rcases hk with rfl | rfl <;> simp [sw5, sw6, mgU]
  · rfl
theorem swV_w {U : Sto} {o d : Int} : mg (swV U o d) 28 o = mg U 28 o ∨ mg (swV U o d) 28 o = mg U 28 o + 1 := by
  unfold swV
  split
  · right; simp [sw5, sw6, mgU]
  · left; rfl
theorem swV_MS {U : Sto} {o d : Int} (h : MS U) : MS (swV U o d) := by
  unfold swV
  split
  · exact h
  · exact h
def s_sewsOne : Spec := fun as S post => match as with
  | [.inr (.inr (some 2)), .inl m] => (∃ n, MI n S) ∧ (0 ≤ m ∧ m < nM S ∧ 0 ≤ jbO S m) ∧ (mg S 22 (jbT S m) = 0 → post (.inl (some (vI 0))) S) ∧ ∀ S', stepP S m S' → post (.inl (some (vI 1))) S'
  | _ => False
def spX7_sewsOne : Nat → CD := spF mdX7_sewsOne fun i => match i with
  | 1 => (s_colourAt, 0, 0, 1)
  | 2 => (s_head, 0, 0, 1)
  | 3 => (s_leaves, 0, 0, 1)
  | _ => noR
set_option maxHeartbeats 4000000 in
set_option maxRecDepth 100000 in
theorem sat_X7_sewsOne : Sat mX7_sewsOne s_sewsOne 0 0 2 := by
  refine sat_of (E := eX7_sewsOne) (sp := spX7_sewsOne) (ini := false) (by decide +kernel) (fun h => by cases h) okX7_sewsOne (fun i => match i with
    | 1 => ⟨sat_X7_colourAt, Nat.le_of_ble_eq_true rfl⟩
    | 2 => ⟨sat_X7_head, Nat.le_of_ble_eq_true rfl⟩
    | 3 => ⟨sat_X7_leaves, Nat.le_of_ble_eq_true rfl⟩
    | i + 4 => ⟨sat_no _, Nat.le_of_ble_eq_true rfl⟩
    | 0 => ⟨sat_no _, Nat.le_of_ble_eq_true rfl⟩) ?_
  intro as S post h
  match as, h with
  | [.inr (.inr (some 2)), .inl m], h =>
    obtain ⟨⟨n9, hI⟩, ⟨m0, m1, j0⟩, hA, hB⟩ := h
    have hI2 := hI
    obtain ⟨hM, hN, -, -, -, -, -, hstk⟩ := hI2
    have hr := hM.2.1
    obtain ⟨a1, a2, a3, a4, a5, a6, a7, a8, a9, a10⟩ := hI.job m0 m1 j0
    have hmm := hI.2.2.2.2.1 m m0 m1
    have hmn := a10.mn
    have m4 : m < 4 := by omega
    have o20 : jbO S m < 20 := by omega
    have d6 : jbD S m < 6 := by omega
    have hpp := a2.2.2.2.2.1
    have hb25 := a2.2.1
    have h29 : 0 ≤ mg S 29 (jbO S m) ∧ mg S 29 (jbO S m) < 2240 := ⟨hpp.2.2.1, Int.lt_of_lt_of_le hpp.2.2.2.1 hmn.2⟩
    have h28 : 0 ≤ mg S 28 (jbO S m) ∧ mg S 28 (jbO S m) ≤ 50 := by omega
    have hhd : hdOK S m := ⟨m0, m4, hmm.1.1, hmm.1.2, fun k k0 k6 => ⟨(hmm.2.2.2.2.2.1 k k0 k6).1, (hmm.2.2.2.2.2.1 k k0 k6).2.1, by have q := hmm.2.2.2.2.2.1 k k0 k6; have q9 := hmm.2.2.2.2.1; dsimp only [ltK] at q ⊢; omega, by have q := hmm.2.2.2.2.2.1 k k0 k6; have q9 := hmm.2.2.2.2.1; dsimp only [ltK] at q ⊢; omega⟩⟩
    have hth := hstk (jbT S m) (by show 0 ≤ 3 * jbC S m + mg S 31 (6 * jbO S m + jbC S m); omega) (by show 3 * jbC S m + mg S 31 (6 * jbO S m + jbC S m) < 18; omega)
    have hx20 := hhd.2.2.1
    have hx21 := hhd.2.2.2.1
    obtain ⟨o, ho⟩ : ∃ o, S.2.1 (mt 17) m.toNat = o := ⟨_, rfl⟩
    obtain ⟨d, hd⟩ : ∃ d, S.2.1 (mt 24) o.toNat = d := ⟨_, rfl⟩
    obtain ⟨c, hc⟩ : ∃ c, clK S d (S.2.1 (mt 29) o.toNat) = c := ⟨_, rfl⟩
    obtain ⟨s, hs⟩ : ∃ s, S.2.1 (mt 31) (6 * o + c).toNat = s := ⟨_, rfl⟩
    have hoA : jbO S m = o := ho
    have hdA : jbD S m = d := by show mg S 24 (jbO S m) = d; rw [hoA]; exact hd
    have hcA : jbC S m = c := by show clK S (jbD S m) (mg S 29 (jbO S m)) = c; rw [hdA, hoA]; exact hc
    have hsA : mg S 31 (6 * jbO S m + jbC S m) = s := by rw [hcA, hoA]; exact hs
    have hthA : jbT S m = 3 * c + s := by show 3 * jbC S m + mg S 31 (6 * jbO S m + jbC S m) = _; rw [hsA, hcA]
    unfold stepP at hB
    rw [hthA] at hA hth hB
    rw [hcA] at a7 hB
    rw [hsA] at a8
    rw [hdA] at d6 hmn hB a6
    rw [hoA] at o20 h29 h28 hB j0 hb25 a6 a5
    have d0 : 0 ≤ d := by have := a9.1; rw [hdA] at this; exact this
    refine bodyL [(67, fun ms L st S' c' => ∃ r : Int, L = [vT 2, vI m, vI o, vI d, vI c, vI (3 * c + s), vI r] ∧ st = [] ∧ c' = (0, 0) ∧ ms = 3 ∧ mg S 22 (3 * c + s) ≠ 0 ∧ tP S S' m c r),
      (116, fun ms L st S' c' => ∃ (r : Int) (T : Sto), L = [vT 2, vI m, vI o, vI d, vI c, vI (3 * c + s), vI r] ∧ st = [] ∧ c' = (0, 0) ∧ ms = 2 ∧ mg S 22 (3 * c + s) ≠ 0 ∧ tP S T m c r ∧ S' = swU T m o (3 * c + s) r),
      (148, fun ms L st S' c' => ∃ (r : Int) (T : Sto), L = [vT 2, vI m, vI o, vI d, vI c, vI (3 * c + s), vI r] ∧ st = [] ∧ c' = (0, 0) ∧ ms = 1 ∧ mg S 22 (3 * c + s) ≠ 0 ∧ tP S T m c r ∧ S' = swV (swU T m o (3 * c + s) r) o d)] 10 100 rfl
      (List.forall_mem_cons.mpr ⟨?_, List.forall_mem_cons.mpr ⟨?_, List.forall_mem_cons.mpr ⟨?_, fun q hq => by cases hq⟩⟩⟩) ?_
    · rintro ms L st T c' ⟨r, rfl, rfl, rfl, rfl, hne, hT⟩
      obtain ⟨hag, r0, r1⟩ := tP_f hT
      have hM := hag.ms hM
      have hr := hM.2.1
      repeat' (first
          | omega
          | with_reducible apply And.intro
          | (intro c9; (try simp only [mg, mf, colK, stK, clK, mnK, shN] at c9))
          | exact hM
          | exact ms_o hM
          | (refine ms_r hM rfl rfl ?_ ?_ <;> (try simp only [mLen]) <;> omega)
          | (refine ms_w hM rfl rfl ?_ ?_ <;> (try simp only [mLen]) <;> omega)
          | (simp only [mg, mf, colK, stK, clK, mnK, shN]; omega)
          | refine Exists.intro _ (And.intro rfl ?_)
          | refine Exists.intro _ (And.intro ((congrFun hr _).trans rfl) ?_)
          | ((with_reducible show wp _ _ _ _ _ _ _ _ _ _ _ _ _ _); conv => whnf)
          | ((with_reducible show callK _ _ _ _ _ _ _ _ _); conv => whnf)
          | ((with_reducible show condK _ _ _ _ _); conv => whnf)
          | ((with_reducible show st1 _ _ _ _ _ _ _ _ _ _ _ _); conv => whnf)
          | ((with_reducible show (Prod.fst _ : Spec) _ _ _); conv => whnf)
          | ((with_reducible show shortK _ _); conv => whnf)
          | exact Nat.le_of_ble_eq_true rfl)
      exact ⟨2, by omega, r, T, rfl, rfl, rfl, rfl, hne, hT, rfl⟩
    · rintro ms L st U c' ⟨r, T, rfl, rfl, rfl, rfl, hne, hT, hS⟩
      obtain ⟨hag, r0, r1⟩ := tP_f hT
      have hM : MS U := by rw [hS]; exact hag.ms hM
      have hr := hM.2.1
      have e29 : U.2.1 (mt 29) o.toNat = mg S 29 o + 1 := by rw [hS]; exact swU_p.trans (by rw [hag.mg (k := 29) (by simp)])
      have e10 : U.2.1 (mt 10) d.toNat = mnK S d := by rw [hS]; exact (swU_g (by simp)).trans (hag.mg (k := 10) (by simp))
      dsimp only [mg, mf, colK, stK, clK, mnK, shN] at h29 hmn e29 e10
      repeat' (first
          | omega
          | with_reducible apply And.intro
          | (intro c9; (try simp only [mg, mf, colK, stK, clK, mnK, shN] at c9))
          | exact hM
          | exact ms_o hM
          | (refine ms_r hM rfl rfl ?_ ?_ <;> (try simp only [mLen]) <;> omega)
          | (refine ms_w hM rfl rfl ?_ ?_ <;> (try simp only [mLen]) <;> omega)
          | (simp only [mg, mf, colK, stK, clK, mnK, shN]; omega)
          | refine Exists.intro _ (And.intro rfl ?_)
          | refine Exists.intro _ (And.intro ((congrFun hr _).trans rfl) ?_)
          | ((with_reducible show wp _ _ _ _ _ _ _ _ _ _ _ _ _ _); conv => whnf)
          | ((with_reducible show callK _ _ _ _ _ _ _ _ _); conv => whnf)
          | ((with_reducible show condK _ _ _ _ _); conv => whnf)
          | ((with_reducible show st1 _ _ _ _ _ _ _ _ _ _ _ _); conv => whnf)
          | ((with_reducible show (Prod.fst _ : Spec) _ _ _); conv => whnf)
          | ((with_reducible show shortK _ _); conv => whnf)
          | exact Nat.le_of_ble_eq_true rfl)
      · exact ⟨1, by omega, r, T, rfl, rfl, rfl, rfl, hne, hT, by rw [← hS]; exact (swV_n c9).symm⟩
      · exact ⟨1, by omega, r, T, rfl, rfl, rfl, rfl, hne, hT, by rw [← hS]; exact (swV_p c9).symm⟩
    · rintro ms L st V c' ⟨r, T, rfl, rfl, rfl, rfl, hne, hT, hS⟩
      obtain ⟨hag, r0, r1⟩ := tP_f hT
      have hM : MS V := by rw [hS]; exact swV_MS (hag.ms hM)
      have hr := hM.2.1
      have e25 : V.2.1 (mt 25) o.toNat = mg S 25 o := by rw [hS]; exact (swV_g (by simp)).trans ((swU_g (by simp)).trans (hag.mg (k := 25) (by simp)))
      have e27 : V.2.1 (mt 27) o.toNat = m := by rw [hS]; exact ((swV_g (by simp)).trans ((swU_g (by simp)).trans (hag.mg (k := 27) (by simp)))).trans a5
      have e28 : V.2.1 (mt 28) o.toNat = mg S 28 o ∨ V.2.1 (mt 28) o.toNat = mg S 28 o + 1 := by
        have q := swV_w (U := swU T m o (3 * c + s) r) (o := o) (d := d)
        rw [← hS, swU_g (k := 28) (by simp), hag.mg (k := 28) (by simp)] at q
        exact q
      have fin : ∀ S'' : Sto, S'' = swW V o → post (.inl (some (vI 1))) S'' := fun S'' e => hB S'' ⟨j0, by omega, r, T, hT, by rw [e, hS]⟩
      dsimp only [mg, mf, colK, stK, clK, mnK, shN] at h28 hb25 e25 e28 j0
      repeat' (first
          | omega
          | with_reducible apply And.intro
          | (intro c9; (try simp only [mg, mf, colK, stK, clK, mnK, shN] at c9))
          | exact hM
          | exact ms_o hM
          | (refine ms_r hM rfl rfl ?_ ?_ <;> (try simp only [mLen]) <;> omega)
          | (refine ms_w hM rfl rfl ?_ ?_ <;> (try simp only [mLen]) <;> omega)
          | (show 0 ≤ (updI V (mt 26) o.toNat 2).2.1 (mt 27) o.toNat; rw [updI_2, if_neg (by rintro ⟨e, -⟩; exact absurd (mt_inj e) (by omega)), e27]; exact m0)
          | (show (updI V (mt 26) o.toNat 2).2.1 (mt 27) o.toNat < 4; rw [updI_2, if_neg (by rintro ⟨e, -⟩; exact absurd (mt_inj e) (by omega)), e27]; exact m4)
          | (simp only [mg, mf, colK, stK, clK, mnK, shN]; omega)
          | refine Exists.intro _ (And.intro rfl ?_)
          | refine Exists.intro _ (And.intro ((congrFun hr _).trans rfl) ?_)
          | ((with_reducible show wp _ _ _ _ _ _ _ _ _ _ _ _ _ _); conv => whnf)
          | ((with_reducible show callK _ _ _ _ _ _ _ _ _); conv => whnf)
          | ((with_reducible show condK _ _ _ _ _); conv => whnf)
          | ((with_reducible show st1 _ _ _ _ _ _ _ _ _ _ _ _); conv => whnf)
          | ((with_reducible show (Prod.fst _ : Spec) _ _ _); conv => whnf)
          | ((with_reducible show shortK _ _); conv => whnf)
          | exact Nat.le_of_ble_eq_true rfl)
      · exact kr_i ( fin _ (swW_n c9).symm ) (Nat.le_of_ble_eq_true rfl) (Nat.le_of_ble_eq_true rfl)
      · exact kr_i ( fin _ (swW_p ‹_›).symm ) (Nat.le_of_ble_eq_true rfl) (Nat.le_of_ble_eq_true rfl)
    · dsimp only [mg, mf, colK, stK, clK, mnK, shN] at hth hA h29
      have hsl : s < 3 := a8.2
      have hcU : S.2.1 (mt 3) (7 * d + S.2.1 (mt 11) (2240 * d + S.2.1 (mt 29) o.toNat).toNat / 256).toNat = c := hc
      repeat' (first
          | omega
          | with_reducible apply And.intro
          | (intro c9; (try simp only [mg, mf, colK, stK, clK, mnK, shN] at c9))
          | exact hM
          | exact ms_o hM
          | rw [ho]
          | rw [hd]
          | (subst c9; rw [hcU])
          | rw [hcU]
          | rw [hs]
          | (refine ms_r hM rfl rfl ?_ ?_ <;> (try simp only [mLen]) <;> omega)
          | (refine ms_w hM rfl rfl ?_ ?_ <;> (try simp only [mLen]) <;> omega)
          | exact a6
          | exact hhd
          | (simp only [mg, mf, colK, stK, clK, mnK, shN]; omega)
          | refine Exists.intro _ (And.intro rfl ?_)
          | refine Exists.intro _ (And.intro ((congrFun hr _).trans rfl) ?_)
          | ((with_reducible show wp _ _ _ _ _ _ _ _ _ _ _ _ _ _); conv => whnf)
          | ((with_reducible show callK _ _ _ _ _ _ _ _ _); conv => whnf)
          | ((with_reducible show condK _ _ _ _ _); conv => whnf)
          | ((with_reducible show st1 _ _ _ _ _ _ _ _ _ _ _ _); conv => whnf)
          | ((with_reducible show (Prod.fst _ : Spec) _ _ _); conv => whnf)
          | ((with_reducible show shortK _ _); conv => whnf)
          | exact Nat.le_of_ble_eq_true rfl)
      all_goals first
        | exact ⟨3, by omega, _, rfl, rfl, rfl, rfl, ‹_›, Or.inl ⟨‹hadP _ _ _ _›, rfl⟩⟩
        | exact ⟨3, by omega, _, rfl, rfl, rfl, rfl, ‹_›, Or.inr ⟨‹newP _ _ _ _›, rfl⟩⟩
        | exact kr_i ( hA c9 ) (Nat.le_of_ble_eq_true rfl) (Nat.le_of_ble_eq_true rfl)
        | exact kr_i ( hA (by rw [hcU, hs] at c9; exact c9) ) (Nat.le_of_ble_eq_true rfl) (Nat.le_of_ble_eq_true rfl)
/-- a machine sews: the steps, and where they end -/
def runR (S : Sto) (m s k v : Int) (S' : Sto) : Prop := k = (if ¬ (0 ≤ m ∧ m < nM S) then 1 else if ¬ (1 ≤ s ∧ s ≤ 100000) then 2 else if mg S 17 m = -1 then 3 else 0) ∧ (k ≠ 0 → S' = thr S k) ∧
  (k = 0 → ∃ ch : Nat → Sto, ch 0 = thr S 0 ∧ 0 ≤ v ∧ v ≤ s ∧ ch v.toNat = S' ∧ (∀ i : Nat, (i : Int) < v → stepP (ch i) m (ch (i + 1))) ∧ (v = s ∨ mg S' 17 m = -1 ∨ (0 ≤ jbO S' m ∧ mg S' 22 (jbT S' m) = 0)))
theorem MI.up {n : Int} {S : Sto} (h : MI n S) (hn : n + 1 ≤ 15000) : MI (n + 1) S := by
  obtain ⟨hM, hN, hdr, hde, hma, hor, hfr, hst⟩ := h
  refine ⟨hM, by omega, hdr, hde, fun i i0 i1 => ?_, fun o o0 o1 => ?_, hfr, hst⟩
  · obtain ⟨b14, b15, b16, b18, b19, b⟩ := hma i i0 i1
    exact ⟨b14, b15, b16, by omega, by omega, b⟩
  · obtain ⟨b1, b2, b3, b4, b5, b6, b7⟩ := hor o o0 o1
    exact ⟨b1, b2, b3, b4, b5, by omega, b7⟩
theorem th_row {S : Sto} {q k its row : Int} : ∀ n, rowK (thr S q) k its row n = rowK S k its row n
  | 0 => rfl
  | n + 1 => by unfold rowK; rw [th_row n]; rfl
theorem th_rows {S : Sto} {q k its : Int} : ∀ n, rowsK (thr S q) k its n = rowsK S k its n
  | 0 => rfl
  | n + 1 => by unfold rowsK; rw [th_rows n, th_row]; rfl
theorem th_edge {S : Sto} {q k its : Int} : ∀ n, edgeK (thr S q) k its n = edgeK S k its n
  | 0 => rfl
  | n + 1 => by unfold edgeK; rw [th_edge n]; rfl
theorem th_stL {S : Sto} {q k its : Int} : stL (thr S q) k its = stL S k its := by unfold stL; rw [th_rows, th_edge]; rfl
theorem th_dst {S : Sto} {q d : Int} : ∀ n, dstL (thr S q) d n = dstL S d n
  | 0 => rfl
  | n + 1 => by unfold dstL; rw [th_dst n, th_stL]; rfl
theorem th_des {S : Sto} {q d : Int} (h : desI S d) : desI (thr S q) d := by
  obtain ⟨h1, ⟨nd, h2, h3⟩, h4, h5⟩ := h
  refine ⟨h1, ⟨nd, h2, h3⟩, ?_, fun j v hj => ?_⟩
  · rw [th_dst]; exact h4
  · rw [th_dst] at hj; exact h5 j v hj
theorem MI.th0 {n : Int} {S : Sto} (h : MI n S) {k : Int} : MI n (thr S k) := by
  obtain ⟨hM, hN, hdr, hde, hma, hor, hfr, hst⟩ := h
  exact ⟨hM, hN, hdr, fun d d0 d1 => th_des (hde d d0 d1), hma, hor, hfr, hst⟩
theorem run_MI {n m : Int} {ch : Nat → Sto} (h : MI (n + 1) (ch 0)) (m0 : 0 ≤ m) (m1 : m < nM (ch 0)) (hb : mg (ch 0) 19 m ≤ 120000 * n ∧ mg (ch 0) 18 m ≤ 120000 * n) : ∀ k : Nat, k ≤ 100000 → (∀ i : Nat, i < k → stepP (ch i) m (ch (i + 1))) → MI (n + 1) (ch k) ∧ nM (ch k) = nM (ch 0) ∧ mg (ch k) 19 m ≤ 120000 * n + k ∧ mg (ch k) 18 m ≤ 120000 * n + k
  | 0, _, _ => ⟨h, rfl, by omega, by omega⟩
  | k + 1, hk, hs => by
    obtain ⟨a, b, c, d⟩ := run_MI h m0 m1 hb k (by omega) (fun i hi => hs i (by omega))
    obtain ⟨x, y, z, w⟩ := stepP_MI a m0 (by omega) (hs k (by omega)) (by omega)
    exact ⟨x, by omega, by omega, by omega⟩
def s_run : Spec := fun as S post => match as with
  | [.inr (.inr (some 2)), .inl m, .inl s] => (∃ n, MI n S ∧ n + 1 ≤ 15000) ∧ (InR m ∧ InR s) ∧ ∀ k v S', runR S m s k v S' → post (.inl (some (vI v))) S'
  | _ => False
def spX7_run : Nat → CD := spF mdX7_run fun i => match i with
  | 1 => (s_isNum_13, 0, 0, 2)
  | 2 => (s_isIn, 0, 0, 1)
  | 3 => (s_holds, 0, 0, 1)
  | 4 => (s_sewsOne, 0, 0, 2)
  | _ => noR
set_option maxHeartbeats 4000000 in
set_option maxRecDepth 100000 in
theorem sat_X7_run : Sat mX7_run s_run 0 0 3 := by
  refine sat_of (E := eX7_run) (sp := spX7_run) (ini := false) (by decide +kernel) (fun h => by cases h) okX7_run (fun i => match i with
    | 1 => ⟨sat_X7_isMachine, Nat.le_of_ble_eq_true rfl⟩
    | 2 => ⟨sat_X7_isIn, Nat.le_of_ble_eq_true rfl⟩
    | 3 => ⟨sat_X7_holds, Nat.le_of_ble_eq_true rfl⟩
    | 4 => ⟨sat_X7_sewsOne, Nat.le_of_ble_eq_true rfl⟩
    | i + 5 => ⟨sat_no _, Nat.le_of_ble_eq_true rfl⟩
    | 0 => ⟨sat_no _, Nat.le_of_ble_eq_true rfl⟩) ?_
  intro as S post h
  match as, h with
  | [.inr (.inr (some 2)), .inl m, .inl s], h =>
    obtain ⟨⟨n9, hI, hn9⟩, hin, h⟩ := h
    have hI2 := hI
    obtain ⟨hM, hN, -, -, -, -, -, hstk⟩ := hI2
    have hr := hM.2.1
    unfold nD nM nO at hN
    unfold runR nM at h
    have hma : 0 ≤ m → m < mf S 13 → macI n9 S m := fun h0 h1 => hI.2.2.2.2.1 m h0 h1
    refine bodyL [(59, fun ms L st S' c' => ∃ (x3 x4 : AV) (i : Nat) (ch : Nat → Sto), L = [vT 2, vI m, vI s, x3, x4, vI i] ∧ st = [] ∧ c' = (0, 0) ∧ ms = 100000 - i ∧ (0 ≤ m ∧ m < mf S 13) ∧ (1 ≤ s ∧ s ≤ 100000) ∧ mg S 17 m ≠ -1 ∧ ch 0 = thr S 0 ∧ (i : Int) ≤ s ∧ ch i = S' ∧ ∀ q : Nat, q < i → stepP (ch q) m (ch (q + 1)))] 100001 100 rfl
      (List.forall_mem_cons.mpr ⟨?_, fun q hq => by cases hq⟩) ?_
    · rintro ms L st S' c' ⟨x3, x4, i, ch, rfl, rfl, rfl, rfl, hm, hs, hj, hc0, hi, hS, hch⟩
      have hb := hma hm.1 hm.2
      have hb18 : mg (ch 0) 18 m = mg S 18 m := by rw [hc0]; exact u2
      have hb19 : mg (ch 0) 19 m = mg S 19 m := by rw [hc0]; exact u2
      have hnm : nM (ch 0) = nM S := by rw [hc0]; rfl
      obtain ⟨hI', hn', h19, h18⟩ := run_MI (n := n9) (by rw [hc0]; exact (hI.up hn9).th0) hm.1 (by rw [hnm]; exact hm.2) ⟨by rw [hb19]; exact hb.2.2.2.2.1.2, by rw [hb18]; exact hb.2.2.2.1.2⟩ i (by omega) hch
      rw [hS] at hI' hn' h19 h18
      have hM := hI'.1
      have hr := hM.2.1
      have hm1 : m < nM S' := by rw [hn', hnm]; exact hm.2
      have hm2 := hI'.2.2.2.2.1 m hm.1 hm1
      have hj2 := hm2.2.2.2.2.2.2.2
      have hN2 := hI'.2.1
      have fin : (((i : Int) = s ∨ mg S' 17 m = -1 ∨ (0 ≤ jbO S' m ∧ mg S' 22 (jbT S' m) = 0))) → post (.inl (some (vI i))) S' := fun hx => by
        have hm9 : 0 ≤ m ∧ m < S.2.1 2 13 := hm
        refine h 0 i S' ⟨by rw [if_neg (by omega), if_neg (by omega), if_neg hj], fun q => absurd rfl q, fun _ => ⟨ch, hc0, by omega, hi, by rw [Int.toNat_natCast]; exact hS, fun q hq => hch q (by omega), hx⟩⟩
      have hm4 : m < 4 := by omega
      have hj3 : -1 ≤ S'.2.1 (mt 17) m.toNat ∧ S'.2.1 (mt 17) m.toNat < 20 := ⟨hj2.1, by have := hj2.2.1; show mg S' 17 m < 20; omega⟩
      repeat' (first
          | omega
          | with_reducible apply And.intro
          | (intro c9; (try simp only [mg, mf, colK, stK, clK, mnK, shN] at c9))
          | exact hM
          | exact ms_o hM
          | (refine ms_r hM rfl rfl ?_ ?_ <;> (try simp only [mLen]) <;> omega)
          | (refine ms_w hM rfl rfl ?_ ?_ <;> (try simp only [mLen]) <;> omega)
          | exact ⟨_, hI'⟩
          | exact hm1
          | (show 0 ≤ S'.2.1 (mt 17) m.toNat; omega)
          | (simp only [mg, mf, colK, stK, clK, mnK, shN]; omega)
          | refine Exists.intro _ (And.intro rfl ?_)
          | refine Exists.intro _ (And.intro ((congrFun hr _).trans rfl) ?_)
          | ((with_reducible show wp _ _ _ _ _ _ _ _ _ _ _ _ _ _); conv => whnf)
          | ((with_reducible show callK _ _ _ _ _ _ _ _ _); conv => whnf)
          | ((with_reducible show condK _ _ _ _ _); conv => whnf)
          | ((with_reducible show st1 _ _ _ _ _ _ _ _ _ _ _ _); conv => whnf)
          | ((with_reducible show (Prod.fst _ : Spec) _ _ _); conv => whnf)
          | ((with_reducible show shortK _ _); conv => whnf)
          | exact Nat.le_of_ble_eq_true rfl)
      all_goals first
        | exact fin (Or.inl (by omega))
        | exact fin (Or.inr (Or.inl c9))
        | exact fin (Or.inr (Or.inr ⟨by show 0 ≤ S'.2.1 (mt 17) m.toNat; omega, ‹S'.2.1 (mt 22) (jbT S' m).toNat = 0›⟩))
        | skip
      rename_i S2 hst2
      refine ⟨100000 - (i + 1), by omega, x3, x4, i + 1, fun q => if q ≤ i then ch q else S2, by rw [Int.natCast_add]; rfl, rfl, rfl, rfl, hm, hs, hj, ?_, by omega, ?_, fun q hq => ?_⟩
      · show (if 0 ≤ i then ch 0 else S2) = _
        rw [if_pos (Nat.zero_le _)]; exact hc0
      · show (if i + 1 ≤ i then ch (i + 1) else S2) = _
        rw [if_neg (by omega)]
      · show stepP (if q ≤ i then ch q else S2) m (if q + 1 ≤ i then ch (q + 1) else S2)
        rw [if_pos (by omega)]
        by_cases e : q = i
        · rw [if_neg (by omega), e, hS]; exact hst2
        · rw [if_pos (by omega)]; exact hch q (by omega)
    · dsimp only [mg, mf, colK, stK, clK, mnK, shN] at h hN
      have hj9 : 0 ≤ m → m < S.2.1 2 13 → -1 ≤ S.2.1 (mt 17) m.toNat ∧ S.2.1 (mt 17) m.toNat < 20 := fun h0 h1 => by
        have q := (hma h0 h1).2.2.2.2.2.2.2
        have q2 : mg S 17 m < nO S := q.2.1
        have q3 : nO S ≤ 20 := hN.2.2.2.2.2.2.2
        exact ⟨q.1, by show mg S 17 m < 20; omega⟩
      repeat' (first
          | omega
          | with_reducible apply And.intro
          | (intro c9; (try simp only [mg, mf, colK, stK, clK, mnK, shN, u2] at c9))
          | exact hM
          | exact ms_o hM
          | (refine ms_r hM rfl rfl ?_ ?_ <;> (try simp only [mLen]) <;> omega)
          | (refine ms_w hM rfl rfl ?_ ?_ <;> (try simp only [mLen]) <;> omega)
          | (refine ms_r hM rfl rfl ?_ ?_ <;> (try simp only [mLen, updI_2, mt_a, mt_b, mt_c, false_and, if_false]) <;> omega)
          | (refine ms_w hM rfl rfl ?_ ?_ <;> (try simp only [mLen, updI_2, mt_a, mt_b, mt_c, false_and, if_false]) <;> omega)
          | (simp only [mg, mf, colK, stK, clK, mnK, shN, u2]; omega)
          | refine Exists.intro _ (And.intro rfl ?_)
          | refine Exists.intro _ (And.intro ((congrFun hr _).trans rfl) ?_)
          | ((with_reducible show wp _ _ _ _ _ _ _ _ _ _ _ _ _ _); conv => whnf)
          | ((with_reducible show callK _ _ _ _ _ _ _ _ _); conv => whnf)
          | ((with_reducible show condK _ _ _ _ _); conv => whnf)
          | ((with_reducible show st1 _ _ _ _ _ _ _ _ _ _ _ _); conv => whnf)
          | ((with_reducible show (Prod.fst _ : Spec) _ _ _); conv => whnf)
          | ((with_reducible show shortK _ _); conv => whnf)
          | exact Nat.le_of_ble_eq_true rfl)
      all_goals first
        | exact h _ _ _ ⟨by omega, fun _ => rfl, fun q => by omega⟩
        | exact ⟨100000, by omega, _, _, 0, fun _ => thr S 0, rfl, rfl, rfl, rfl, by simp only [mg, mf, colK, stK, clK, mnK, shN]; omega, by omega, ‹_›, rfl, by omega, rfl, fun q hq => absurd hq (by omega)⟩
        | (exfalso; exact (isB1' ‹isB _ True›) ‹_›)
        | trace_state
