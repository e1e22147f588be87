/-- the first k shapes of the draft are copied -/
def cpP (S S' : Sto) (a n : Nat) (u : Nat → Nat) (k : Nat) : Prop := S'.1 = (newS S a (114, n)).1 ∧ S'.2.1 = (newS S a (114, n)).2.1 ∧ (∀ t, t ≠ a → S'.2.2 t = S.2.2 t) ∧ ∀ j, S'.2.2 a j = if j < k then some (u j) else none
/-- what a design is made from -/
def dfC (S : Sto) (T n : Nat) (u : Nat → Nat) (P : Nat → Int → Int → Prop) (col : Nat → Int) : Prop := (9 < T ∧ (n : Int) = S.2.1 1 1 ∧ 1 ≤ n ∧ n ≤ 7) ∧ (∀ k, k ≤ 7 → S.1 (T + k) = none) ∧ (∀ k, k < n → S.2.2 4 k = some (u k) ∧ shC S (u k) (P k) ∧ S.2.1 (u k) 1 = col k ∧ 0 ≤ col k ∧ col k < 6 ∧ clOK (P k) ∧ cdOK (P k)) ∧ ∀ i j, i < j → j < n → u i ≠ u j
def s_designC : Spec := fun as S post => match as with
  | [.inr (.inr (some 1))] => ∃ W, CW W S ∧ (S.2.1 1 1 = 0 ∨ S.2.1 1 3 = 6 → post (.inr 2) S) ∧ (S.2.1 1 1 ≠ 0 → S.2.1 1 3 ≠ 6 → ∃ T n u P col, T = 4096 + 16 * (S.2.1 1 3).toNat ∧ dfC S T n u P col ∧
      ∀ S1 S2 nd, cpP S S1 (T + 7) n u n → desN (newS (updI S1 1 1 0) T (0, clN 0)) S2 T (T + 7) n u P col (S.2.1 1 3) nd → post (.inl (some (vI (S.2.1 1 3)))) (updI (updR S2 5 (S.2.1 1 3).toNat (some T)) 1 3 (S.2.1 1 3 + 1)))
  | _ => False
def spX6_design : Nat → CD := spF mdX6_design fun i => match i with
  | 1 => (s_dsInit, 6, 3160, 6)
  | _ => noR
set_option maxHeartbeats 4000000 in
set_option maxRecDepth 100000 in
theorem sat_X6_design : Sat mX6_design s_designC 8 3178 12 := by
  refine sat_of (E := eX6_design) (sp := spX6_design) (ini := false) (by decide +kernel) (fun h => by cases h) okX6_design (fun i => match i with
    | 1 => ⟨sat_X0_init, Nat.le_of_ble_eq_true rfl⟩
    | i + 2 => ⟨sat_no _, Nat.le_of_ble_eq_true rfl⟩
    | 0 => ⟨sat_no _, Nat.le_of_ble_eq_true rfl⟩) ?_
  intro as S post h
  match as, h with
  | [.inr (.inr (some 1))], h =>
    obtain ⟨W, hW, hA, hB⟩ := h
    have hr := hW.2.1
    have hc := hW.1
    obtain ⟨f1, f2, f3, f4, f5, f6, f7, f8, f9, f10, f11, fn⟩ := hW.1
    by_cases z : S.2.1 1 1 ≠ 0 ∧ S.2.1 1 3 ≠ 6
    · obtain ⟨T, n, u, P, col, hT, ⟨⟨g1, g2, g3, g4⟩, gn, gs, gu⟩, hB⟩ := hB z.1 z.2
      have n6 : S.1 (T + 7) = none := gn 7 (by omega)
      have nT : S.1 T = none := gn 0 (by omega)
      have hn : (S.2.1 1 1).toNat = n := by omega
      have hcc : ((1, 0 + n) : Nat × Nat) = (1, n) := by rw [Nat.zero_add]
      have hc0 : cpP S (newS S (T + 7) (114, n)) (T + 7) n u 0 := ⟨rfl, rfl, fun t ht => by
        funext j
        rw [newS_3, if_neg ht], fun j => by rw [newS_3, if_pos rfl, if_neg (by omega)]⟩
      refine bodyL [(49, fun ms L st S' cc => ∃ k : Nat, L = [vT 1, vT (T + 7), vI k] ∧ st = [] ∧ cc = (1, n) ∧ ms = 20 - k ∧ k ≤ n ∧ cpP S S' (T + 7) n u k),
        (81, fun ms L st S' cc => ∃ a2, L = [vT 1, vT (T + 7), a2] ∧ st = [] ∧ cc = (1, n) ∧ ms = 0 ∧ cpP S S' (T + 7) n u n)] 22 140 rfl
        (List.forall_mem_cons.mpr ⟨?_, List.forall_mem_cons.mpr ⟨?_, fun q hq => by cases hq⟩⟩) ?_
      · rintro ms L st S' cc ⟨k, rfl, rfl, rfl, rfl, hk, hC⟩
        obtain ⟨q1, q2, q3, q4⟩ := hC
        have t1 : S'.1 1 = some (6, 9) := by rw [q1, newS_1, if_neg (by omega)]; exact f1
        have t2 : S'.2.2 1 0 = some 4 := by rw [q3 1 (by omega)]; exact f2
        have t4 : S'.1 4 = some (114, 7) := by rw [q1, newS_1, if_neg (by omega)]; exact f7
        have t6 : S'.1 (T + 7) = some (114, n) := by rw [q1, newS_1, if_pos rfl]
        have t11 : S'.2.1 1 1 = n := by rw [q2, newS_2, if_neg (by omega)]; exact g2.symm
        have tk : k < n → S'.2.2 4 (k : Int).toNat = some (u k) ∧ S'.1 (u k) = some (4, 5) := fun z => by
          obtain ⟨a1, a2, -⟩ := gs k z
          refine ⟨by rw [Int.toNat_natCast, q3 4 (by omega)]; exact a1, ?_⟩
          rw [q1, newS_1, if_neg (fun e => by rw [← e, a2.1] at n6; cases n6)]; exact a2.1
        repeat' (first
            | omega
            | with_reducible apply And.intro
            | (intro c9; (try simp only [mg, mf, colK, stK, clK, mnK, shN] at c9))
            | exact ⟨9, t1⟩
            | rw [t11]
            | rw [(tk (by omega)).1]
            | refine ⟨114, 7, t4, by omega, ?_⟩
            | exact ⟨114, 7, t4, rfl, by omega, by omega⟩
            | exact ⟨4, n, 5, t6, rfl, (tk (by omega)).2, by omega, by omega⟩
            | (simp only [mg, mf, colK, stK, clK, mnK, shN]; omega)
            | refine Exists.intro _ (And.intro rfl ?_)
            | refine Exists.intro _ (And.intro (t2) ?_)
            | ((with_reducible show wp _ _ _ _ _ _ _ _ _ _ _ _ _ _); conv => whnf)
            | ((with_reducible show callK _ _ _ _ _ _ _ _ _); conv => whnf)
            | ((with_reducible show condK _ _ _ _ _); conv => whnf)
            | ((with_reducible show st1 _ _ _ _ _ _ _ _ _ _ _ _); conv => whnf)
            | ((with_reducible show (Prod.fst _ : Spec) _ _ _); conv => whnf)
            | ((with_reducible show shortK _ _); conv => whnf)
            | exact Nat.le_of_ble_eq_true rfl)
        · have e : k = n := by omega
          subst e
          exact ⟨0, by omega, _, rfl, rfl, rfl, rfl, q1, q2, q3, q4⟩
        · refine ⟨20 - (k + 1), by omega, k + 1, by rw [Int.natCast_add]; rfl, rfl, rfl, rfl, by omega, q1, q2, fun t ht => ?_, fun j => ?_⟩
          · funext j
            rw [updR_3, if_neg (fun e => ht e.1), q3 t ht]
          · rw [updR_3, Int.toNat_natCast]
            by_cases e : j = k
            · rw [if_pos ⟨rfl, e⟩, if_pos (by omega), e]
            · rw [if_neg (fun y => e y.2), q4]
              by_cases e2 : j < k
              · rw [if_pos e2, if_pos (by omega)]
              · rw [if_neg e2, if_neg (by omega)]
      · rintro ms L st S' cc ⟨a2, rfl, rfl, rfl, rfl, hC⟩
        have hB2 := fun S2 nd => hB S' S2 nd hC
        obtain ⟨q1, q2, q3, q4⟩ := hC
        have p1 : ∀ t, t ≠ T + 7 → S'.1 t = S.1 t := fun t ht => by rw [q1, newS_1, if_neg ht]
        have p2 : ∀ t, t ≠ T + 7 → S'.2.1 t = S.2.1 t := fun t ht => by rw [q2]; funext j; rw [newS_2, if_neg ht]
        have t1 : S'.1 1 = some (6, 9) := by rw [p1 1 (by omega)]; exact f1
        have t2 : S'.2.2 1 2 = some 5 := by rw [q3 1 (by omega)]; exact f3
        have t4 : S'.1 5 = some (110, 6) := by rw [p1 5 (by omega)]; exact f8
        have t6 : S'.1 (T + 7) = some (114, n) := by rw [q1, newS_1, if_pos rfl]
        have tT : S'.1 T = none := by rw [p1 T (by omega)]; exact nT
        have t13 : (updI S' 1 1 0).2.1 1 3 = S.2.1 1 3 := by rw [updI_2, if_neg (by omega), p2 1 (by omega)]
        obtain ⟨S1, hS1⟩ : ∃ S1, S1 = newS (updI S' 1 1 0) T (0, clN 0) := ⟨_, rfl⟩
        have s1 : ∀ t, t ≠ T → S1.1 t = S'.1 t ∧ S1.2.2 t = S'.2.2 t := fun t ht => by
          rw [hS1]
          exact ⟨by rw [newS_1, if_neg ht]; rfl, by funext j; rw [newS_3, if_neg ht]; rfl⟩
        have s2 : ∀ t, t ≠ T → t ≠ 1 → S1.2.1 t = S'.2.1 t := fun t ht h1 => by
          rw [hS1]; funext j; rw [newS_2, if_neg ht, updI_2, if_neg (fun e => h1 e.1)]
        have s13 : S1.2.1 1 3 = S.2.1 1 3 := by rw [hS1, newS_2, if_neg (by omega)]; exact t13
        have sT : S1.1 T = some (0, 9) := by rw [hS1, newS_1, if_pos rfl]; rfl
        have s11 : S1.1 1 = some (6, 9) := by rw [(s1 1 (by omega)).1]; exact t1
        have hsh : shpC S1 T (T + 7) n u P col := by
          refine ⟨sT, fun k k1 k5 => ?_, ?_, ⟨g3, g4⟩, fun k hk => ?_, gu⟩
          · rw [(s1 _ (by omega)).1, p1 _ (by omega)]; exact gn k (by omega)
          · rw [(s1 _ (by omega)).1]; exact t6
          · obtain ⟨a1, a2, a3, a4⟩ := gs k hk
            have b1 : u k ≠ T := fun e => by rw [← e, a2.1] at nT; cases nT
            have b2 : u k + 1 ≠ T := fun e => by rw [← e, a2.2.2.1] at nT; cases nT
            have b3 : u k ≠ T + 7 := fun e => by rw [← e, a2.1] at n6; cases n6
            have b4 : u k + 1 ≠ T + 7 := fun e => by rw [← e, a2.2.2.1] at n6; cases n6
            have b5 : u k ≠ 1 := fun e => by have := a2.1; rw [e, f1] at this; cases this
            have b6 : u k + 1 ≠ 1 := fun e => by have := a2.2.2.1; rw [e, f1] at this; cases this
            refine ⟨?_, a2.eq ?_ ?_ ?_ ?_, ?_, a4⟩
            · rw [(s1 _ (by omega)).2, q4, if_pos hk]
            · rw [(s1 _ b1).1, p1 _ b3]
            · rw [(s1 _ b2).1, p1 _ b4]
            · rw [(s1 _ b1).2, q3 _ b3]
            · rw [s2 _ b2 b6, p2 _ b4]
            · rw [s2 _ b1 b5, p2 _ b3]; exact a3
        rw [← hS1] at hB2
        have hF : ∀ S2 nd, desN S1 S2 T (T + 7) n u P col (S.2.1 1 3) nd → S2.1 1 = some (6, 9) ∧ S2.1 5 = some (110, 6) ∧ S2.1 T = some (0, 9) ∧ S2.2.1 1 3 = S.2.1 1 3 := fun S2 nd e => by
          obtain ⟨-, ⟨e1, e2, e3, e4, e5⟩, -⟩ := e
          refine ⟨by rw [(e1 1 (by omega)).1]; exact s11, by rw [(e1 5 (by omega)).1, (s1 5 (by omega)).1]; exact t4, e4, ?_⟩
          rw [e2 1 (by omega) (fun k hk e => by have := (gs k hk).2.1.1; rw [← e, f1] at this; cases this)]; exact s13
        repeat' (first
            | omega
            | with_reducible apply And.intro
            | (intro c9; (try simp only [mg, mf, colK, stK, clK, mnK, shN, s13] at c9))
            | exact ⟨9, t1⟩
            | rw [← hS1]
            | exact ⟨9, s11⟩
            | rw [t13]
            | rw [s13]
            | refine Exists.intro T (And.intro tT ?_)
            | refine ⟨n, u, P, col, hsh, ?_⟩
            | (show n + 9 ≤ 3178; omega)
            | (show n + 9 + 3160 ≤ 3178; omega)
            | exact ⟨0, 6, 9, (hF _ _ c9).2.1, rfl, (hF _ _ c9).2.2.1, by omega, by omega⟩
            | exact ⟨9, (hF _ _ c9).1⟩
            | (rw [updR_2, (hF _ _ c9).2.2.2]; exact hB2 _ _ c9)
            | (simp only [mg, mf, colK, stK, clK, mnK, shN, s13]; omega)
            | refine Exists.intro _ (And.intro rfl ?_)
            | refine Exists.intro _ (And.intro (t2) ?_)
            | ((with_reducible show wp _ _ _ _ _ _ _ _ _ _ _ _ _ _); conv => whnf)
            | ((with_reducible show callK _ _ _ _ _ _ _ _ _); conv => whnf)
            | ((with_reducible show condK _ _ _ _ _); conv => whnf)
            | ((with_reducible show st1 _ _ _ _ _ _ _ _ _ _ _ _); conv => whnf)
            | ((with_reducible show (Prod.fst _ : Spec) _ _ _); conv => whnf)
            | ((with_reducible show shortK _ _); conv => whnf)
            | exact Nat.le_of_ble_eq_true rfl)
      · repeat' (first
            | omega
            | with_reducible apply And.intro
            | (intro c9; (try simp only [mg, mf, colK, stK, clK, mnK, shN] at c9))
            | exact ⟨9, f1⟩
            | refine ⟨110, 6, f8, by omega, ?_⟩
            | refine Exists.intro (T + 7) (And.intro n6 ?_)
            | exact absurd z.1 (by omega)
            | rw [hn]
            | exact ⟨20, by omega, 0, rfl, rfl, hcc, rfl, by omega, hc0⟩
            | (simp only [mg, mf, colK, stK, clK, mnK, shN]; omega)
            | refine Exists.intro _ (And.intro rfl ?_)
            | refine Exists.intro _ (And.intro (f3) ?_)
            | ((with_reducible show wp _ _ _ _ _ _ _ _ _ _ _ _ _ _); conv => whnf)
            | ((with_reducible show callK _ _ _ _ _ _ _ _ _); conv => whnf)
            | ((with_reducible show condK _ _ _ _ _); conv => whnf)
            | ((with_reducible show st1 _ _ _ _ _ _ _ _ _ _ _ _); conv => whnf)
            | ((with_reducible show (Prod.fst _ : Spec) _ _ _); conv => whnf)
            | ((with_reducible show shortK _ _); conv => whnf)
            | exact Nat.le_of_ble_eq_true rfl)
    · refine body0 140 rfl ?_
      repeat' (first
          | omega
          | with_reducible apply And.intro
          | (intro c9; (try simp only [mg, mf, colK, stK, clK, mnK, shN] at c9))
          | exact ⟨9, f1⟩
          | refine ⟨110, 6, f8, by omega, ?_⟩
          | exact hA (by omega)
          | (simp only [mg, mf, colK, stK, clK, mnK, shN]; omega)
          | refine Exists.intro _ (And.intro rfl ?_)
          | refine Exists.intro _ (And.intro (f3) ?_)
          | ((with_reducible show wp _ _ _ _ _ _ _ _ _ _ _ _ _ _); conv => whnf)
          | ((with_reducible show callK _ _ _ _ _ _ _ _ _); conv => whnf)
          | ((with_reducible show condK _ _ _ _ _); conv => whnf)
          | ((with_reducible show st1 _ _ _ _ _ _ _ _ _ _ _ _); conv => whnf)
          | ((with_reducible show (Prod.fst _ : Spec) _ _ _); conv => whnf)
          | ((with_reducible show shortK _ _); conv => whnf)
          | exact Nat.le_of_ble_eq_true rfl)

