theorem dgC.cover {S : Sto} {T n : Nat} {q : Nat → Nat} {b : Nat → Int} {m : Nat} (h : dgC S T n q b m) {x : Int} (x0 : 0 ≤ x) : ∀ k, k ≤ n → x < b k → ∃ p, inP n b x p
  | 0, _, hx => by rw [h.2.2.2.2.2.2.1.1] at hx; omega
  | k + 1, hk, hx => by
    by_cases e : x < b k
    · exact h.cover x0 k (by omega) e
    · exact ⟨k, by omega, by omega, hx⟩
def strE (W : GW) (S : Sto) (i o p : Nat) (c s k : Int) (S4 : Sto) : Prop := ∃ S2 S3, sewP (updI S 9 (3 * c + s).toNat (spK S 8 c s + -k)) (1024 + 16 * i) (W.h i) c.toNat k S2 ∧ obj (2048 + 16 * o) [5, 6] S2 S3 ∧
  S3.2.1 (2048 + 16 * o) 6 = (if S.2.1 (2048 + 16 * o) 6 + k = W.m (W.g o) then 0 else S.2.1 (2048 + 16 * o) 6 + k) ∧ S3.2.1 (2048 + 16 * o) 5 = (if S.2.1 (2048 + 16 * o) 6 + k = W.m (W.g o) then S.2.1 (2048 + 16 * o) 5 + 1 else S.2.1 (2048 + 16 * o) 5) ∧
  ((S3.2.1 (2048 + 16 * o) 5 = S.2.1 (2048 + 16 * o) 2 ∧ S4 = endS S3 (2048 + 16 * o) 2) ∨ (S3.2.1 (2048 + 16 * o) 5 ≠ S.2.1 (2048 + 16 * o) 2 ∧ S4 = S3))
/-- the stretch that a machine sews: the place p of its shape, its colour, its shade, how many -/
def strP (W : GW) (S : Sto) (o : Nat) (most : Int) (p : Nat) (c s k : Int) : Prop := inP (W.n (W.g o)) (W.b (W.g o)) (S.2.1 (2048 + 16 * o) 6) p ∧ c = S.2.1 (W.q (W.g o) p) 1 ∧ s = S.2.1 (2048 + 16 * o + 1) c.toNat ∧
  ∃ th r, th = (if 0 ≤ s then spK S 8 c s else 0) ∧ r = (if most ≤ th then most else th) ∧ k = (if r ≤ W.b (W.g o) (p + 1) - S.2.1 (2048 + 16 * o) 6 then r else W.b (W.g o) (p + 1) - S.2.1 (2048 + 16 * o) 6)
def s_sewStretch : Spec := fun as S post => match as with
  | [.inr (.inr (some 1)), .inr (.inr (some v)), .inl most] => ∃ W i, v = 1024 + 16 * i ∧ CW W S ∧ (i : Int) < S.2.1 1 5 ∧ (1 ≤ most ∧ most ≤ 100000) ∧ (S.2.2 v 4 = none → post (.inl (some (vI 0))) S) ∧
    ∀ (o p : Nat) (c s k : Int), (o : Int) < S.2.1 1 7 → S.2.2 v 4 = some (2048 + 16 * o) → strP W S o most p c s k → (k ≤ 0 → post (.inl (some (vI 0))) S) ∧ (0 < k → ∀ S4, strE W S i o p c s k S4 → post (.inl (some (vI k))) S4)
  | _ => False
def spX6_sewStretch : Nat → CD := spF mdX6_sewStretch fun i => match i with
  | 1 => (s_shapeOf, 0, 0, 2)
  | 2 => (s_shade, 0, 0, 1)
  | 3 => (s_count, 0, 0, 2)
  | 4 => (s_min, 0, 0, 1)
  | 5 => (s_add, 0, 0, 2)
  | 6 => (s_mcSew, 0, 0, 3)
  | 7 => (s_orSew, 0, 0, 1)
  | 8 => (s_endC, 0, 0, 1)
  | _ => noR
set_option maxHeartbeats 4000000 in
set_option maxRecDepth 100000 in
theorem sat_X6_sewStretch : Sat mX6_sewStretch s_sewStretch 0 0 4 := by
  refine sat_of (E := eX6_sewStretch) (sp := spX6_sewStretch) (ini := false) (by decide +kernel) (fun h => by cases h) okX6_sewStretch (fun i => match i with
    | 1 => ⟨sat_X0_shapeOf, Nat.le_of_ble_eq_true rfl⟩
    | 2 => ⟨sat_X2_shade, Nat.le_of_ble_eq_true rfl⟩
    | 3 => ⟨sat_X5_count, Nat.le_of_ble_eq_true rfl⟩
    | 4 => ⟨sat_J9_min_7cf53, Nat.le_of_ble_eq_true rfl⟩
    | 5 => ⟨sat_X5_add, Nat.le_of_ble_eq_true rfl⟩
    | 6 => ⟨sat_X1_sew, Nat.le_of_ble_eq_true rfl⟩
    | 7 => ⟨sat_X2_sew, Nat.le_of_ble_eq_true rfl⟩
    | 8 => ⟨sat_X6_end, Nat.le_of_ble_eq_true rfl⟩
    | i + 9 => ⟨sat_no _, Nat.le_of_ble_eq_true rfl⟩
    | 0 => ⟨sat_no _, Nat.le_of_ble_eq_true rfl⟩) ?_
  intro as S post h
  match as, h with
  | [.inr (.inr (some 1)), .inr (.inr (some v)), .inl most], h =>
    obtain ⟨W, i, rfl, hW, hi, hm0, hA, hB⟩ := h
    have hc := hW.1
    obtain ⟨f1, f2, f3, f4, f5, f6, f7, f8, f9, f10, f11, fn⟩ := hW.1
    obtain ⟨hT, ⟨m1, m2, m3⟩, mh, ml, mr, hj⟩ := hW.2.2.2.1 i hi
    rcases hj with hj | ⟨o, ho, hj, -⟩
    · refine body0 200 rfl ?_
      repeat' (first
          | omega
          | with_reducible apply And.intro
          | (intro c9; (try simp only [mg, mf, colK, stK, clK, mnK, shN] at c9))
          | exact ⟨9, m1⟩
          | (rw [hj] at c9; cases c9; done)
          | exact hA hj
          | (simp only [mg, mf, colK, stK, clK, mnK, shN]; omega)
          | refine Exists.intro _ (And.intro rfl ?_)
          | refine Exists.intro _ (And.intro (hj) ?_)
          | ((with_reducible show wp _ _ _ _ _ _ _ _ _ _ _ _ _ _); conv => whnf)
          | ((with_reducible show callK _ _ _ _ _ _ _ _ _); conv => whnf)
          | ((with_reducible show condK _ _ _ _ _); conv => whnf)
          | ((with_reducible show st1 _ _ _ _ _ _ _ _ _ _ _ _); conv => whnf)
          | ((with_reducible show (Prod.fst _ : Spec) _ _ _); conv => whnf)
          | ((with_reducible show shortK _ _); conv => whnf)
          | exact Nat.le_of_ble_eq_true rfl)
    · have hv := hW.orv ho
      obtain ⟨-, hO, hg, hp, h5, h6, hsh, -⟩ := hW.2.2.2.2.1 o ho
      have hD := (hW.2.2.1 _ hg).2.1
      have hO2 := hO
      obtain ⟨o1, o2, o3, o4⟩ := hO2
      have hD2 := hD
      obtain ⟨d1, d2, d3, d4, d5, d6, d7, d8⟩ := hD2
      refine bodyL [(31, fun ms L st S' cc => ∃ p, L = [vT 1, vT (1024 + 16 * i), vI most, vT (2048 + 16 * o), vT (W.q (W.g o) p), uu, uu, uu] ∧ st = [] ∧ S' = S ∧ cc = (0, 0) ∧ ms = 2 ∧ inP (W.n (W.g o)) (W.b (W.g o)) (S.2.1 (2048 + 16 * o) 6) p), (86, fun ms L st S' cc => ∃ p c s th k, L = [vT 1, vT (1024 + 16 * i), vI most, vT (2048 + 16 * o), vT (W.q (W.g o) p), vI s, vI th, vI k] ∧ st = [] ∧ S' = S ∧ cc = (0, 0) ∧ ms = 1 ∧ strP W S o most p c s k ∧ 0 < k ∧ 0 ≤ s), (120, fun ms L st S' cc => ∃ p c s th k S2, L = [vT 1, vT (1024 + 16 * i), vI most, vT (2048 + 16 * o), vT (W.q (W.g o) p), vI s, vI th, vI k] ∧ st = [] ∧ cc = (0, 0) ∧ ms = 0 ∧ strP W S o most p c s k ∧ 0 < k ∧ sewP (updI S 9 (3 * c + s).toNat (spK S 8 c s + -k)) (1024 + 16 * i) (W.h i) c.toNat k S2 ∧ obj (2048 + 16 * o) [5, 6] S2 S' ∧
          S'.2.1 (2048 + 16 * o) 6 = (if S.2.1 (2048 + 16 * o) 6 + k = W.m (W.g o) then 0 else S.2.1 (2048 + 16 * o) 6 + k) ∧ S'.2.1 (2048 + 16 * o) 5 = (if S.2.1 (2048 + 16 * o) 6 + k = W.m (W.g o) then S.2.1 (2048 + 16 * o) 5 + 1 else S.2.1 (2048 + 16 * o) 5))] 3 140 rfl
        (List.forall_mem_cons.mpr ⟨?_, List.forall_mem_cons.mpr ⟨?_, List.forall_mem_cons.mpr ⟨?_, fun q hq => by cases hq⟩⟩⟩) ?_
      · rintro ms L st S' cc ⟨p, rfl, rfl, rfl, rfl, rfl, a1⟩
        obtain ⟨y1, y2, y3, y4, y5, y6⟩ := d8 p a1.1
        have y7 := hD.rng (p := p) (Nat.le_of_lt a1.1)
        have y8 := hD.rng (p := p + 1) a1.1
        obtain ⟨c, hcc⟩ : ∃ c, c = S'.2.1 (W.q (W.g o) p) 1 := ⟨_, rfl⟩
        rw [← hcc] at y5 y6
        have hs3 := hsh c.toNat (by omega)
        obtain ⟨s, hss⟩ : ∃ s, s = S'.2.1 (2048 + 16 * o + 1) c.toNat := ⟨_, rfl⟩
        rw [← hss] at hs3
        obtain ⟨th, hth⟩ : ∃ th, th = (if 0 ≤ s then spK S' 8 c s else 0) := ⟨_, rfl⟩
        have hK : (if 0 ≤ c ∧ c < 6 then s else -1) = s := if_pos ⟨y5, y6⟩
        have hK2 : (if 0 ≤ c ∧ c < 6 ∧ 0 ≤ s ∧ s < 3 then spK S' 8 c s else 0) = th := by
          rw [hth]
          by_cases e : 0 ≤ s
          · rw [if_pos e, if_pos ⟨y5, y6, e, hs3.2⟩]
          · rw [if_neg e, if_neg (fun w => e w.2.2.1)]
        have hst : 0 ≤ th ∧ th ≤ 1000000 ∧ (s < 0 → th = 0) := by
          rw [hth]
          by_cases e : 0 ≤ s
          · rw [if_pos e]
            have z := hW.2.2.2.2.2 (3 * c + s) (by omega) (by omega)
            have z2 : 0 ≤ spK S' 8 c s ∧ spK S' 8 c s ≤ 1000000 := z
            exact ⟨z2.1, z2.2, fun w => by omega⟩
          · rw [if_neg e]; exact ⟨by omega, by omega, fun _ => rfl⟩
        have y9 : S'.2.1 (2048 + 16 * o) 6 < W.b (W.g o) (p + 1) ∧ W.b (W.g o) p ≤ S'.2.1 (2048 + 16 * o) 6 := ⟨a1.2.2, a1.2.1⟩
        repeat' (first
            | omega
            | with_reducible apply And.intro
            | (intro c9; (try simp only [mg, mf, colK, stK, clK, mnK, shN] at c9))
            | exact ⟨9, m1⟩
            | exact ⟨9, o1⟩
            | exact ⟨5, y2⟩
            | exact ⟨9, f1⟩
            | exact ⟨1, f11.1⟩
            | rw [← hcc]
            | rw [← hss]
            | rw [hK]
            | rw [hK2]
            | rw [y4]
            | rw [gfR (ci := 6) f6 rfl]
            | (refine And.intro ⟨o1, o2, o3⟩ (And.intro ⟨by omega, by omega⟩ ?_))
            | (refine And.intro f11 (And.intro ⟨⟨by omega, by omega⟩, ⟨by omega, by omega⟩⟩ ?_))
            | (simp only [mg, mf, colK, stK, clK, mnK, shN]; omega)
            | refine Exists.intro _ (And.intro rfl ?_)
            | refine Exists.intro _ (And.intro (hj) ?_)
            | ((with_reducible show wp _ _ _ _ _ _ _ _ _ _ _ _ _ _); conv => whnf)
            | ((with_reducible show callK _ _ _ _ _ _ _ _ _); conv => whnf)
            | ((with_reducible show condK _ _ _ _ _); conv => whnf)
            | ((with_reducible show st1 _ _ _ _ _ _ _ _ _ _ _ _); conv => whnf)
            | ((with_reducible show (Prod.fst _ : Spec) _ _ _); conv => whnf)
            | ((with_reducible show shortK _ _); conv => whnf)
            | exact Nat.le_of_ble_eq_true rfl)
        · rename_i r hr k hk
          refine ⟨1, by omega, p, c, s, th, k, rfl, rfl, rfl, rfl, rfl, ⟨a1, hcc, hss, th, r, hth, hr, hk⟩, c9, ?_⟩
          by_cases e : 0 ≤ s
          · exact e
          · exfalso
            have t0 := hst.2.2 (by omega)
            have t1 : r ≤ 0 := by rw [hr, t0]; split <;> omega
            have t2 : k ≤ 0 := by rw [hk]; split <;> omega
            omega
        · rename_i r hr k hk
          exact (hB o p c s k ho hj ⟨a1, hcc, hss, th, r, hth, hr, hk⟩).1 c9
      · rintro ms L st S' cc ⟨p, c, s, th, k, rfl, rfl, rfl, rfl, rfl, hP, hk, hs⟩
        have hE := (hB o p c s k ho hj hP).2 hk
        have hP0 := hP
        obtain ⟨a1, a2, a3, th0, r0, a4, a5, a6⟩ := hP
        obtain ⟨y1, y2, y3, y4, y5, y6⟩ := d8 p a1.1
        have y7 := hD.rng (p := p) (Nat.le_of_lt a1.1)
        have y8 := hD.rng (p := p + 1) a1.1
        have hs3 := hsh c.toNat (by rw [← a2] at y5 y6; omega)
        rw [← a3] at hs3
        rw [← a2] at y5 y6
        have hkm : k ≤ W.b (W.g o) (p + 1) - S'.2.1 (2048 + 16 * o) 6 := by rw [a6]; split <;> omega
        clear a4 a5 a6
        have q9 : W.q (W.g o) p ≠ 9 := fun e => by rw [e, f11.2.2] at y2; cases y2
        have a2' : (updI S' 9 (3 * c + s).toNat (spK S' 8 c s + -k)).2.1 (W.q (W.g o) p) 1 = c := by rw [updI_2, if_neg (fun w => q9 w.1)]; exact a2.symm
        have hm1 : mcC (updI S' 9 (3 * c + s).toNat (spK S' 8 c s + -k)) (1024 + 16 * i) := ⟨m1, m2, m3⟩
        have hm2 : hlC (updI S' 9 (3 * c + s).toNat (spK S' 8 c s + -k)) (1024 + 16 * i) (W.h i) := ⟨mh.1, by rw [updI_2, if_neg (by omega)]; exact mh.2⟩
        have hm3 : ∀ j : Nat, j < 6 → InR ((updI S' 9 (3 * c + s).toNat (spK S' 8 c s + -k)).2.1 (1024 + 16 * i + 1) j) := fun j hj => by rw [updI_2, if_neg (by omega)]; exact ml j hj
        have hm4 : (updI S' 9 (3 * c + s).toNat (spK S' 8 c s + -k)).2.1 (1024 + 16 * i) 1 = S'.2.1 (1024 + 16 * i) 1 := by rw [updI_2, if_neg (by omega)]
        have hD1 : dgC (updI S' 9 (3 * c + s).toNat (spK S' 8 c s + -k)) (4096 + 16 * W.g o) (W.n (W.g o)) (W.q (W.g o)) (W.b (W.g o)) (W.m (W.g o)) := hD.updI (by rw [f11.2.2]; simp)
        have hO1 : orC (updI S' 9 (3 * c + s).toNat (spK S' 8 c s + -k)) (2048 + 16 * o) (4096 + 16 * W.g o) := hO
        have hO5 : ∀ j, (updI S' 9 (3 * c + s).toNat (spK S' 8 c s + -k)).2.1 (2048 + 16 * o) j = S'.2.1 (2048 + 16 * o) j := fun j => by rw [updI_2, if_neg (by omega)]
        have hT1 : (updI S' 9 (3 * c + s).toNat (spK S' 8 c s + -k)).1 = S'.1 := rfl
        have hT2 : (updI S' 9 (3 * c + s).toNat (spK S' 8 c s + -k)).2.2 = S'.2.2 := rfl
        have hF : ∀ S2, sewP (updI S' 9 (3 * c + s).toNat (spK S' 8 c s + -k)) (1024 + 16 * i) (W.h i) c.toNat k S2 → orC S2 (2048 + 16 * o) (4096 + 16 * W.g o) ∧ dgC S2 (4096 + 16 * W.g o) (W.n (W.g o)) (W.q (W.g o)) (W.b (W.g o)) (W.m (W.g o)) ∧ (∀ j, S2.2.1 (2048 + 16 * o) j = S'.2.1 (2048 + 16 * o) j) ∧ S2.1 (2048 + 16 * o) = some (2, 9) := fun S2 e => by
          obtain ⟨e1, e2, e3, -⟩ := e
          have t1 : 1024 + 16 * i ≠ 2048 + 16 * o := fun w => by rw [w, o1] at m1; cases m1
          have t2 : 1024 + 16 * i + 1 ≠ 2048 + 16 * o := fun w => by rw [w, o1] at m3; cases m3
          refine ⟨⟨by rw [e1]; exact o1, by rw [e2]; exact o2, by rw [e1]; exact o3, by rw [e2]; exact o4⟩, hD1.fr e1 (fun t _ => by rw [e2]) (fun t ht => e3 t (fun w => ?_) (fun w => ?_)), fun j => by rw [e3 _ (Ne.symm t1) (Ne.symm t2)]; exact hO5 j, by rw [e1]; exact o1⟩
          · rw [w] at ht
            exact absurd (m1.symm.trans ht) (by simp)
          · rw [w] at ht
            exact absurd (m3.symm.trans ht) (by simp)
        clear hE
        have hy2 : (updI S' 9 (3 * c + s).toNat (spK S' 8 c s + -k)).1 (W.q (W.g o) p) = some (4, 5) := y2
        generalize hX : updI S' 9 (3 * c + s).toNat (spK S' 8 c s + -k) = X at *
        repeat' (first
            | omega
            | with_reducible apply And.intro
            | (intro c9; (try simp only [mg, mf, colK, stK, clK, mnK, shN] at c9))
            | exact ⟨9, m1⟩
            | exact ⟨9, hm1.1⟩
            | exact ⟨5, hy2⟩
            | exact ⟨5, y2⟩
            | exact ⟨9, f1⟩
            | exact ⟨1, f11.1⟩
            | rw [← a2]
            | rw [a2']
            | rw [hX]
            | rw [gfR (ci := 6) f6 rfl]
            | (refine And.intro f11 (And.intro (by omega) ?_))
            | refine ⟨_, hm1, hm2, hm3, ⟨y5, y6, by rw [hm4]; omega⟩, ?_⟩
            | exact ⟨9, (hF _ c9).2.2.2⟩
            | (obtain ⟨z1, z2, z3, z4⟩ := hF _ c9; refine ⟨_, _, _, _, _, z1, z2, ⟨by omega, by rw [z3]; omega, by rw [z3]; omega⟩, ?_⟩)
            | (simp only [mg, mf, colK, stK, clK, mnK, shN]; omega)
            | refine Exists.intro _ (And.intro rfl ?_)
            | refine Exists.intro _ (And.intro (hj) ?_)
            | ((with_reducible show wp _ _ _ _ _ _ _ _ _ _ _ _ _ _); conv => whnf)
            | ((with_reducible show callK _ _ _ _ _ _ _ _ _); conv => whnf)
            | ((with_reducible show condK _ _ _ _ _); conv => whnf)
            | ((with_reducible show st1 _ _ _ _ _ _ _ _ _ _ _ _); conv => whnf)
            | ((with_reducible show (Prod.fst _ : Spec) _ _ _); conv => whnf)
            | ((with_reducible show shortK _ _); conv => whnf)
            | exact Nat.le_of_ble_eq_true rfl)
        all_goals
          rename_i S2 hsw S3 hob e6
          rw [z3 6] at e6
          rw [z3 6, z3 5] at c9
          exact ⟨0, by omega, p, c, s, th, k, S2, rfl, rfl, rfl, rfl, hP0, hk, by rw [hX]; exact hsw, hob, e6, c9⟩
      · rintro ms L st S' cc ⟨p, c, s, th, k, S2, rfl, rfl, rfl, rfl, hP, hk, hsw, hob, e6, e5⟩
        have hE := (hB o p c s k ho hj hP).2 hk
        have t1 : 1024 + 16 * i ≠ 2048 + 16 * o := fun w => by rw [w, o1] at m1; cases m1
        have t2 : 1024 + 16 * i + 1 ≠ 2048 + 16 * o := fun w => by rw [w, o1] at m3; cases m3
        have q1 : S'.1 = S.1 := hob.1.trans hsw.1
        have q3 : S'.2.2 = S.2.2 := hob.2.1.trans hsw.2.1
        have qu : S'.1 (2048 + 16 * o) = some (2, 9) := by rw [q1]; exact o1
        have q2 : S'.2.1 (2048 + 16 * o) 2 = S.2.1 (2048 + 16 * o) 2 := by
          rw [hob.2.2.2 2 (by simp), hsw.2.2.1 _ (Ne.symm t1) (Ne.symm t2), updI_2, if_neg (by omega)]
        have q5 : 0 ≤ S'.2.1 (2048 + 16 * o) 5 ∧ S'.2.1 (2048 + 16 * o) 5 ≤ 51 := by rw [e5]; split <;> omega
        have qv : ∀ v, S'.2.2 (2048 + 16 * o) 8 = some v → S'.1 v = some (1, 9) := fun v hv' => by rw [q1]; rw [q3] at hv'; exact hv v hv'
        repeat' (first
            | omega
            | with_reducible apply And.intro
            | (intro c9; (try simp only [mg, mf, colK, stK, clK, mnK, shN] at c9))
            | exact ⟨9, qu⟩
            | rw [q2]
            | refine And.intro qu (And.intro qv ?_)
            | exact hE _ ⟨S2, S', hsw, hob, e6, e5, Or.inl ⟨c9, rfl⟩⟩
            | exact hE _ ⟨S2, S', hsw, hob, e6, e5, Or.inr ⟨c9, rfl⟩⟩
            | (simp only [mg, mf, colK, stK, clK, mnK, shN]; omega)
            | refine Exists.intro _ (And.intro rfl ?_)
            | ((with_reducible show wp _ _ _ _ _ _ _ _ _ _ _ _ _ _); conv => whnf)
            | ((with_reducible show callK _ _ _ _ _ _ _ _ _); conv => whnf)
            | ((with_reducible show condK _ _ _ _ _); conv => whnf)
            | ((with_reducible show st1 _ _ _ _ _ _ _ _ _ _ _ _); conv => whnf)
            | ((with_reducible show (Prod.fst _ : Spec) _ _ _); conv => whnf)
            | ((with_reducible show shortK _ _); conv => whnf)
            | exact Nat.le_of_ble_eq_true rfl)
      · repeat' (first
            | omega
            | with_reducible apply And.intro
            | (intro c9; (try simp only [mg, mf, colK, stK, clK, mnK, shN] at c9))
            | exact ⟨9, m1⟩
            | exact ⟨9, o1⟩
            | exact absurd (hj.symm.trans (c9 : _ = none)) (by simp)
            | rw [hj]
            | rw [gfR (ci := 2) o4 rfl]
            | exact ⟨9, d1⟩
            | refine ⟨_, _, _, _, hD, ?_, ?_⟩
            | (with_reducible (have q9 : (_ = none ∧ ∀ p, ¬ inP _ _ _ p) ∨ _ := c9; clear q9; rcases c9 with ⟨rfl, c7⟩ | ⟨c6, rfl, c7⟩))
            | (with_reducible (have q9 : (none : Option Nat) = some _ := c9; cases q9))
            | (with_reducible (have q9 : some (_ : Nat) = none := c9; cases q9))
            | exact ⟨2, by omega, c6, rfl, rfl, rfl, rfl, rfl, c7⟩
            | (exfalso; obtain ⟨p, hp⟩ := hD.cover h6.1 _ (Nat.le_refl _) (by rw [d7.2.1]; exact h6.2); exact c7 p hp)
            | (simp only [mg, mf, colK, stK, clK, mnK, shN]; omega)
            | refine Exists.intro _ (And.intro rfl ?_)
            | refine Exists.intro _ (And.intro (hj) ?_)
            | ((with_reducible show wp _ _ _ _ _ _ _ _ _ _ _ _ _ _); conv => whnf)
            | ((with_reducible show callK _ _ _ _ _ _ _ _ _); conv => whnf)
            | ((with_reducible show condK _ _ _ _ _); conv => whnf)
            | ((with_reducible show st1 _ _ _ _ _ _ _ _ _ _ _ _); conv => whnf)
            | ((with_reducible show (Prod.fst _ : Spec) _ _ _); conv => whnf)
            | ((with_reducible show shortK _ _); conv => whnf)
            | exact Nat.le_of_ble_eq_true rfl)
/-- J is kept by a machine's stretches: so it holds where it stops -/
def s_runC : Spec := fun as S post => match as with
  | [.inr (.inr (some 1)), .inl m, .inl st] => ∃ W, CW W S ∧ (InR m ∧ InR st) ∧ (¬ (0 ≤ m ∧ m < S.2.1 1 5) → post (.inr 0) S) ∧ ((0 ≤ m ∧ m < S.2.1 1 5) → ¬ (1 ≤ st ∧ st ≤ 100000) → post (.inr 1) S) ∧
    ((0 ≤ m ∧ m < S.2.1 1 5) → (1 ≤ st ∧ st ≤ 100000) → (S.2.2 (1024 + 16 * m.toNat) 4 = none → post (.inr 2) S) ∧
      (S.2.2 (1024 + 16 * m.toNat) 4 ≠ none → ∃ J : Int → Sto → Prop, J 0 S ∧ (∀ S1, J st S1 → post (.inl (some (vI st))) S1) ∧
        ∀ x S1, 0 ≤ x → x < st → J x S1 → ∃ W1, CW W1 S1 ∧ m < S1.2.1 1 5 ∧ (S1.2.2 (1024 + 16 * m.toNat) 4 = none → post (.inl (some (vI x))) S1) ∧
          ∀ (o p : Nat) (c s k : Int), (o : Int) < S1.2.1 1 7 → S1.2.2 (1024 + 16 * m.toNat) 4 = some (2048 + 16 * o) → strP W1 S1 o (st - x) p c s k → (k ≤ 0 → post (.inl (some (vI x))) S1) ∧ (0 < k → k ≤ st - x ∧ ∀ S4, strE W1 S1 m.toNat o p c s k S4 → J (x + k) S4)))
  | _ => False

