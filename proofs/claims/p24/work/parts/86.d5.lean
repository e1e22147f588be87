def fillG (S : Sto) (u : Nat) (nd sf : Int → Int) : Nat → Sto
  | 0 => S
  | k + 1 => if 0 < nd k then updI (fillG S u nd sf k) (u + 1) (k : Int).toNat (sf k) else fillG S u nd sf k
theorem fillG_ag {S : Sto} {u : Nat} {nd sf : Int → Int} : ∀ k, k ≤ 6 → obj (u + 1) [0, 1, 2, 3, 4, 5] S (fillG S u nd sf k)
  | 0, _ => obj.rf
  | k + 1, hk => by
    have ih := fillG_ag (S := S) (u := u) (nd := nd) (sf := sf) k (by omega)
    unfold fillG
    split
    · refine ih.upd ?_
      rw [Int.toNat_natCast]
      rcases (show k = 0 ∨ k = 1 ∨ k = 2 ∨ k = 3 ∨ k = 4 ∨ k = 5 by omega) with rfl | rfl | rfl | rfl | rfl | rfl <;> simp
    · exact ih
/-- what an order needs of a colour; the lowest shade that is enough -/
def ndO (W : GW) (S : Sto) (o : Nat) (c : Int) : Int := S.2.1 (2048 + 16 * o) 2 * ndS S (W.q (W.g o)) (W.b (W.g o)) c (W.n (W.g o))
def sfO (W : GW) (S : Sto) (o : Nat) (c : Int) : Int := if ndO W S o c ≤ spK S 8 c 0 then 0 else if ndO W S o c ≤ spK S 8 c 1 then 1 else if ndO W S o c ≤ spK S 8 c 2 then 2 else -1
def canC (W : GW) (S : Sto) (o i : Nat) : Prop := S.2.1 (2048 + 16 * o) 4 = 0 ∧ S.2.2 (1024 + 16 * i) 4 = none ∧ S.2.1 (4096 + 16 * W.g o) 7 ≤ S.2.1 (1024 + 16 * i) 2 ∧ S.2.1 (4096 + 16 * W.g o) 8 ≤ S.2.1 (1024 + 16 * i) 3 ∧ ∀ c : Nat, c < 6 → ndO W S o c ≤ 0 ∨ sfO W S o c ≠ -1
def s_startC : Spec := fun as S post => match as with
  | [.inr (.inr (some 1)), .inl o, .inl m] => ∃ W, CW W S ∧ (InR o ∧ InR m) ∧ (¬ (0 ≤ o ∧ o < S.2.1 1 7 ∧ 0 ≤ m ∧ m < S.2.1 1 5) → post (.inr 0) S) ∧ ((0 ≤ o ∧ o < S.2.1 1 7 ∧ 0 ≤ m ∧ m < S.2.1 1 5) → (¬ canC W S o.toNat m.toNat → post (.inr 2) S) ∧
    (canC W S o.toNat m.toNat → post (.inl none) (updR (updR (updI (fillG S (2048 + 16 * o.toNat) (ndO W S o.toNat) (sfO W S o.toNat) 6) (2048 + 16 * o.toNat) 4 1) (2048 + 16 * o.toNat) 8 (some (1024 + 16 * m.toNat))) (1024 + 16 * m.toNat) 4 (some (2048 + 16 * o.toNat)))))
  | _ => False
def spX6_start : Nat → CD := spF mdX6_start fun i => match i with
  | 1 => (s_orderAt, 1, 6, 1)
  | 2 => (s_machineAt, 1, 6, 1)
  | 3 => (s_orNeed, 0, 0, 2)
  | 4 => (s_shadeForC, 0, 0, 3)
  | 5 => (s_setShade, 0, 0, 1)
  | _ => noR
set_option maxHeartbeats 4000000 in
set_option maxRecDepth 100000 in
theorem sat_X6_start : Sat mX6_start s_startC 3 18 12 := by
  refine sat_of (E := eX6_start) (sp := spX6_start) (ini := false) (by decide +kernel) (fun h => by cases h) okX6_start (fun i => match i with
    | 1 => ⟨sat_X6_orderAt, Nat.le_of_ble_eq_true rfl⟩
    | 2 => ⟨sat_X6_machineAt, Nat.le_of_ble_eq_true rfl⟩
    | 3 => ⟨sat_X2_need, Nat.le_of_ble_eq_true rfl⟩
    | 4 => ⟨sat_X6_shadeFor, Nat.le_of_ble_eq_true rfl⟩
    | 5 => ⟨sat_X2_setShade, Nat.le_of_ble_eq_true rfl⟩
    | i + 6 => ⟨sat_no _, Nat.le_of_ble_eq_true rfl⟩
    | 0 => ⟨sat_no _, Nat.le_of_ble_eq_true rfl⟩) ?_
  intro as S post h
  match as, h with
  | [.inr (.inr (some 1)), .inl o, .inl m], h =>
    obtain ⟨W, hW, hd, hA, hB⟩ := h
    have hr5 := hW.r5
    have hr7 := hW.r7
    have hc := hW.1
    by_cases z : 0 ≤ o ∧ o < S.2.1 1 7
    · by_cases z2 : 0 ≤ m ∧ m < S.2.1 1 5
      · obtain ⟨hB1, hB2⟩ := hB ⟨z.1, z.2, z2.1, z2.2⟩
        obtain ⟨hTo, hO, hg, hp, -⟩ := hW.or z
        obtain ⟨hTm, ⟨m1, m2, m3⟩, -, -, mr, hj⟩ := hW.mc z2
        obtain ⟨-, hD, -, -, -, hwd⟩ := hW.2.2.1 _ hg
        obtain ⟨o1, o2, o3, o4⟩ := hO
        have hj2 : S.2.2 (1024 + 16 * m.toNat) 4 ≠ none → ¬ canC W S o.toNat m.toNat := fun e y => e y.2.1
        unfold canC at hB1 hB2 hj2
        have hnd : ∀ c, 0 ≤ ndO W S o.toNat c ∧ ndO W S o.toNat c ≤ 112000 := fun c => by
          have hnr := ndS_r hD (c := c) _ (Nat.le_refl _)
          rw [hD.2.2.2.2.2.2.1.2.1] at hnr
          have hm := hD.2.2.2.2.2.1.2.2.2
          unfold ndO
          exact ⟨Int.mul_nonneg (by omega) hnr.1, by
            have := Int.mul_le_mul hp.2.1 (show ndS S (W.q (W.g o.toNat)) (W.b (W.g o.toNat)) c (W.n (W.g o.toNat)) ≤ 2240 by omega) hnr.1 (by omega : (0 : Int) ≤ 50)
            omega⟩
        generalize hu : 2048 + 16 * o.toNat = u at *
        generalize hv : 1024 + 16 * m.toNat = v at *
        have hF : ∀ S', obj (u + 1) [0, 1, 2, 3, 4, 5] S S' → cfC S' ∧ orC S' u (4096 + 16 * W.g o.toNat) ∧ dgC S' (4096 + 16 * W.g o.toNat) (W.n (W.g o.toNat)) (W.q (W.g o.toNat)) (W.b (W.g o.toNat)) (W.m (W.g o.toNat)) ∧ (∀ c, S'.2.1 u 2 * ndS S' (W.q (W.g o.toNat)) (W.b (W.g o.toNat)) c (W.n (W.g o.toNat)) = ndO W S o.toNat c) ∧ (∀ c s, spK S' 8 c s = spK S 8 c s) ∧ S'.2.1 u 2 = S.2.1 u 2 := fun S' e => by
          obtain ⟨e1, e2, e3, -⟩ := e
          have u2 := e3 u (by omega)
          refine ⟨?_, ⟨by rw [e1]; exact o1, by rw [e2]; exact o2, by rw [e1]; exact o3, by rw [e2]; exact o4⟩, hD.fr e1 (fun t _ => by rw [e2]) (fun t ht => e3 t (fun y => by rw [y, o3] at ht; cases ht)), fun c => ?_, fun c s => ?_, by rw [u2]⟩
          · exact hc.to e1 e2 (e3 1 (by omega))
          · unfold ndO ndS
            rw [u2, hu]
            refine congrArg _ (sumTo_congr _ fun p hp => ?_)
            rw [e3 _ (fun y => by have := (hD.2.2.2.2.2.2.2 p hp).2.1; rw [y, o3] at this; cases this)]
          · unfold spK
            rw [e3 _ (by omega)]
        refine bodyL [(81, fun ms L st S' cc => ∃ k : Nat, L = [vT 1, vI o, vI m, vT u, vT v, vI k] ∧ st = [] ∧ S' = S ∧ cc = (2, 12) ∧ ms = 20 - k ∧ k ≤ 6 ∧ (S.2.1 u 4 = 0 ∧ S.2.2 v 4 = none ∧ S.2.1 (4096 + 16 * W.g o.toNat) 7 ≤ S.2.1 v 2 ∧ S.2.1 (4096 + 16 * W.g o.toNat) 8 ≤ S.2.1 v 3) ∧ ∀ c : Nat, c < k → ndO W S o.toNat c ≤ 0 ∨ sfO W S o.toNat c ≠ -1),
          (127, fun ms L st S' cc => ∃ k : Nat, L = [vT 1, vI o, vI m, vT u, vT v, vI k] ∧ st = [] ∧ S' = fillG S u (ndO W S o.toNat) (sfO W S o.toNat) k ∧ cc = (2, 12) ∧ ms = 10 - k ∧ k ≤ 6 ∧ post (.inl none) (updR (updR (updI (fillG S u (ndO W S o.toNat) (sfO W S o.toNat) 6) u 4 1) u 8 (some v)) v 4 (some u)))] 22 140 rfl
          (List.forall_mem_cons.mpr ⟨?_, List.forall_mem_cons.mpr ⟨?_, fun q hq => by cases hq⟩⟩) ?_
        · rintro ms L st S' cc ⟨k, rfl, rfl, rfl, rfl, rfl, hk, hcan, hall⟩
          obtain ⟨x1, x2, x3, x4, x5, x6⟩ := hF S' obj.rf
          have hsf : ∀ c, (if ndO W S' o.toNat c ≤ spK S' 8 c 0 then (0 : Int) else if ndO W S' o.toNat c ≤ spK S' 8 c 1 then 1 else if ndO W S' o.toNat c ≤ spK S' 8 c 2 then 2 else -1) = sfO W S' o.toNat c := fun c => rfl
          have hk3 : sfO W S' o.toNat k = -1 ∨ 0 ≤ sfO W S' o.toNat k ∧ sfO W S' o.toNat k ≤ 2 := by
            unfold sfO
            split
            · omega
            · split
              · omega
              · split <;> omega
          have hn := hnd k
          repeat' (first
              | omega
              | with_reducible apply And.intro
              | (intro c9; (try simp only [mg, mf, colK, stK, clK, mnK, shN] at c9))
              | exact ⟨9, hc.1⟩
              | exact ⟨9, o1⟩
              | rw [x4]
              | rw [hsf]
              | refine ⟨_, _, _, _, _, x2, x3, by omega, ?_⟩
              | refine ⟨_, _, _, _, _, hc, x2, x3, ⟨by omega, by omega, by omega, by omega, hW.2.2.2.2.2⟩, ?_⟩
              | (simp only [mg, mf, colK, stK, clK, mnK, shN]; omega)
              | refine Exists.intro _ (And.intro rfl ?_)
              | ((with_reducible show wp _ _ _ _ _ _ _ _ _ _ _ _ _ _); conv => whnf)
              | ((with_reducible show callK _ _ _ _ _ _ _ _ _); conv => whnf)
              | ((with_reducible show condK _ _ _ _ _); conv => whnf)
              | ((with_reducible show st1 _ _ _ _ _ _ _ _ _ _ _ _); conv => whnf)
              | ((with_reducible show (Prod.fst _ : Spec) _ _ _); conv => whnf)
              | ((with_reducible show shortK _ _); conv => whnf)
              | exact Nat.le_of_ble_eq_true rfl)
          · exact ⟨10, by omega, 0, rfl, rfl, rfl, rfl, rfl, by omega, hB2 ⟨hcan.1, hcan.2.1, hcan.2.2.1, hcan.2.2.2, fun c hc6 => hall c (by omega)⟩⟩
          · exact ⟨20 - (k + 1), by omega, k + 1, by rw [Int.natCast_add]; rfl, rfl, rfl, rfl, rfl, by omega, hcan, fun c hc' => by
              by_cases e : c = k
              · subst e; exact Or.inl c9
              · exact hall c (by omega)⟩
          · exact ⟨20 - (k + 1), by omega, k + 1, by rw [Int.natCast_add]; rfl, rfl, rfl, rfl, rfl, by omega, hcan, fun c hc' => by
              by_cases e : c = k
              · subst e; exact Or.inr c9
              · exact hall c (by omega)⟩
          · refine hB1 (fun y => ?_)
            have y2 := y.2.2.2.2 k (by omega)
            omega
        · rintro ms L st S' cc ⟨k, rfl, rfl, hS', rfl, rfl, hk, hpost⟩
          obtain ⟨x1, x2, x3, x4, x5, x6⟩ := hF S' (by rw [hS']; exact fillG_ag k hk)
          have hsf : ∀ c, (if ndO W S o.toNat c ≤ spK S' 8 c 0 then (0 : Int) else if ndO W S o.toNat c ≤ spK S' 8 c 1 then 1 else if ndO W S o.toNat c ≤ spK S' 8 c 2 then 2 else -1) = sfO W S o.toNat c := fun c => by unfold sfO; rw [x5, x5, x5]
          have t1 : S'.1 = S.1 := by rw [hS']; exact (fillG_ag k hk).1
          have h9 : S'.2.1 9 = S.2.1 9 := by rw [hS']; exact (fillG_ag k hk).2.2.1 9 (by omega)
          have hst : ∀ k : Int, 0 ≤ k → k < 18 → 0 ≤ S'.2.1 9 k.toNat ∧ S'.2.1 9 k.toNat ≤ 1000000 := fun k k0 k1 => by
            have y : S'.2.1 9 = S.2.1 9 := h9
            rw [y]; exact hW.2.2.2.2.2 k k0 k1
          have hn := hnd k
          repeat' (first
              | omega
              | with_reducible apply And.intro
              | (intro c9; (try simp only [mg, mf, colK, stK, clK, mnK, shN] at c9))
              | exact ⟨9, x1.1⟩
              | exact ⟨9, x2.1⟩
              | rw [x4]
              | rw [hsf]
              | refine ⟨_, _, _, _, _, x2, x3, by omega, ?_⟩
              | refine ⟨_, _, _, _, _, x1, x2, x3, ⟨by omega, by omega, by omega, by omega, hst⟩, ?_⟩
              | exact ⟨9, (show S'.1 v = _ by rw [t1]; exact m1)⟩
              | refine And.intro ⟨x2.1, x2.2.1, x2.2.2.1⟩ (And.intro (by omega) ?_)
              | (simp only [mg, mf, colK, stK, clK, mnK, shN]; omega)
              | refine Exists.intro _ (And.intro rfl ?_)
              | ((with_reducible show wp _ _ _ _ _ _ _ _ _ _ _ _ _ _); conv => whnf)
              | ((with_reducible show callK _ _ _ _ _ _ _ _ _); conv => whnf)
              | ((with_reducible show condK _ _ _ _ _); conv => whnf)
              | ((with_reducible show st1 _ _ _ _ _ _ _ _ _ _ _ _); conv => whnf)
              | ((with_reducible show (Prod.fst _ : Spec) _ _ _); conv => whnf)
              | ((with_reducible show shortK _ _); conv => whnf)
              | exact Nat.le_of_ble_eq_true rfl)
          · have e : k = 6 := by omega
            subst e
            rw [hS']; exact hpost
          · exact ⟨10 - (k + 1), by omega, k + 1, by rw [Int.natCast_add]; rfl, rfl, hS'.trans (show fillG S u (ndO W S o.toNat) (sfO W S o.toNat) (k + 1) = _ from if_neg (by omega)).symm, rfl, rfl, by omega, hpost⟩
          · exact ⟨10 - (k + 1), by omega, k + 1, by rw [Int.natCast_add]; rfl, rfl, by rw [hS']; exact (show fillG S u (ndO W S o.toNat) (sfO W S o.toNat) (k + 1) = _ from if_pos c9).symm, rfl, rfl, by omega, hpost⟩
        · repeat' (first
              | omega
              | with_reducible apply And.intro
              | (intro c9; (try simp only [mg, mf, colK, stK, clK, mnK, shN] at c9))
              | exact hc
              | exact ⟨9, hc.1⟩
              | exact ⟨9, o1⟩
              | exact ⟨9, m1⟩
              | exact ⟨9, hD.1⟩
              | rw [hTo]
              | rw [hTm]
              | rw [gfR (ci := 2) o4 rfl]
              | exact ⟨20, by omega, 0, rfl, rfl, rfl, rfl, rfl, by omega, ⟨‹_›, ‹_›, ‹_›, c9⟩, fun c hc' => by omega⟩
              | exact hB1 (fun ⟨y1, y2, y3, y4, _⟩ => by omega)
              | exact hB1 (fun ⟨y1, y2, y3, y4, _⟩ => absurd (y2.symm.trans c9) (by simp))
              | (simp only [mg, mf, colK, stK, clK, mnK, shN]; omega)
              | refine Exists.intro _ (And.intro rfl ?_)
              | refine Exists.intro _ (And.intro (hTo) ?_)
              | refine Exists.intro _ (And.intro (hTm) ?_)
              | ((with_reducible show wp _ _ _ _ _ _ _ _ _ _ _ _ _ _); conv => whnf)
              | ((with_reducible show callK _ _ _ _ _ _ _ _ _); conv => whnf)
              | ((with_reducible show condK _ _ _ _ _); conv => whnf)
              | ((with_reducible show st1 _ _ _ _ _ _ _ _ _ _ _ _); conv => whnf)
              | ((with_reducible show (Prod.fst _ : Spec) _ _ _); conv => whnf)
              | ((with_reducible show shortK _ _); conv => whnf)
              | exact Nat.le_of_ble_eq_true rfl)

      · have hO := (hW.or z).2.1.1
        have hT := (hW.or z).1
        refine body0 200 rfl ?_
        repeat' (first
            | omega
            | with_reducible apply And.intro
            | (intro c9; (try simp only [mg, mf, colK, stK, clK, mnK, shN] at c9))
            | exact hc
            | exact ⟨9, hc.1⟩
            | exact hA (by omega)
            | (simp only [mg, mf, colK, stK, clK, mnK, shN]; omega)
            | refine Exists.intro _ (And.intro rfl ?_)
            | refine Exists.intro _ (And.intro (hT) ?_)
            | ((with_reducible show wp _ _ _ _ _ _ _ _ _ _ _ _ _ _); conv => whnf)
            | ((with_reducible show callK _ _ _ _ _ _ _ _ _); conv => whnf)
            | ((with_reducible show condK _ _ _ _ _); conv => whnf)
            | ((with_reducible show st1 _ _ _ _ _ _ _ _ _ _ _ _); conv => whnf)
            | ((with_reducible show (Prod.fst _ : Spec) _ _ _); conv => whnf)
            | ((with_reducible show shortK _ _); conv => whnf)
            | exact Nat.le_of_ble_eq_true rfl)
    · refine body0 200 rfl ?_
      repeat' (first
          | omega
          | with_reducible apply And.intro
          | (intro c9; (try simp only [mg, mf, colK, stK, clK, mnK, shN] at c9))
          | exact hc
          | exact ⟨9, hc.1⟩
          | exact hA (by omega)
          | (simp only [mg, mf, colK, stK, clK, mnK, shN]; omega)
          | refine Exists.intro _ (And.intro rfl ?_)
          | ((with_reducible show wp _ _ _ _ _ _ _ _ _ _ _ _ _ _); conv => whnf)
          | ((with_reducible show callK _ _ _ _ _ _ _ _ _); conv => whnf)
          | ((with_reducible show condK _ _ _ _ _); conv => whnf)
          | ((with_reducible show st1 _ _ _ _ _ _ _ _ _ _ _ _); conv => whnf)
          | ((with_reducible show (Prod.fst _ : Spec) _ _ _); conv => whnf)
          | ((with_reducible show shortK _ _); conv => whnf)
          | exact Nat.le_of_ble_eq_true rfl)

