/-- S' is S but for the arrays rest and needs -/
def rsS (S S' : Sto) : Prop := S'.1 = S.1 ∧ S'.2.2 = S.2.2 ∧ ∀ t, t ≠ mt 12 → t ≠ mt 32 → S'.2.1 t = S.2.1 t
theorem rsS.rf {S : Sto} : rsS S S := ⟨rfl, rfl, fun _ _ _ => rfl⟩
theorem rsS.ms {S S' : Sto} (h : rsS S S') (hM : MS S) : MS S' := by
  obtain ⟨h1, h2, h3⟩ := hM
  exact ⟨by rw [h.1]; exact h1, by rw [h.2.1]; exact h2, fun k a b => by rw [h.1]; exact h3 k a b⟩
theorem rsS.mg {S S' : Sto} (h : rsS S S') {k : Nat} {i : Int} (h1 : k ≠ 12) (h2 : k ≠ 32) : mg S' k i = mg S k i := by
  show S'.2.1 (mt k) _ = S.2.1 (mt k) _
  rw [h.2.2 (mt k) (by unfold mt; omega) (by unfold mt; omega)]
theorem rsS.upd {S S' : Sto} (h : rsS S S') {k j : Nat} {v : Int} (hk : k = 12 ∨ k = 32) : rsS S (updI S' (mt k) j v) :=
  ⟨h.1, h.2.1, fun t a b => by
    funext q
    show (if t = mt k ∧ q = j then v else S'.2.1 t q) = _
    rw [if_neg (by rintro ⟨e, -⟩; rcases hk with rfl | rfl <;> contradiction), h.2.2 t a b]⟩
theorem rsS.sh {S S' : Sto} (h : rsS S S') {k : Int} (hs : shOK S k) : shOK S' k := by
  unfold shOK at hs ⊢
  simp only [h.mg (k := 2) (by omega) (by omega), h.mg (k := 3) (by omega) (by omega), h.mg (k := 4) (by omega) (by omega), h.mg (k := 5) (by omega) (by omega), h.mg (k := 6) (by omega) (by omega), h.mg (k := 7) (by omega) (by omega)]
  exact hs
theorem rsS.met {S S' : Sto} (h : rsS S S') {a b : Int} : metP S' a b ↔ metP S a b := by
  unfold metP hasK
  simp only [h.mg (k := 2) (by omega) (by omega), h.mg (k := 4) (by omega) (by omega), h.mg (k := 5) (by omega) (by omega), h.mg (k := 6) (by omega) (by omega), h.mg (k := 7) (by omega) (by omega)]
/-- the set nd q of the shapes ahead of the shape q of a design -/
def ndP (S : Sto) (d : Int) (nd : Nat → Nat) (n : Nat) : Prop := ∀ q : Nat, q < n → nd q < 128 ∧ ∀ j : Nat, (nd q).testBit j = true ↔ j < q ∧ metP S (7 * d + j) (7 * d + q)
theorem ndP.ok {S : Sto} {d : Int} {nd : Nat → Nat} {n : Nat} (h : ndP S d nd n) : needOK nd n := fun k hk q hq => (((h k hk).2 q).mp hq).1
def colF (S : Sto) (d : Int) : Nat → Int := fun x => colK S d x
def dshOK (S : Sto) (d : Int) : Prop := 0 ≤ d ∧ d < 6 ∧ 1 ≤ shN S d ∧ shN S d ≤ 7 ∧ ∀ k, 0 ≤ k → k < shN S d → shOK S (7 * d + k)
/-- the table of the fewest changes left, from the set s on -/
def tabP (S S' : Sto) (d : Int) (nd : Nat → Nat) (n s : Nat) : Prop := ∀ s' l : Nat, s < s' → s' < 2 ^ n → l < n → mg S' 12 (8 * s' + l) = dpV n (colF S d) nd s' l
def ndA (S' : Sto) (nd : Nat → Nat) (n : Nat) : Prop := ∀ q : Nat, q < n → mg S' 32 q = nd q
def s_laysRest : Spec := fun as S post => match as with
  | [.inr (.inr (some 2)), .inl d] => MS S ∧ dshOK S d ∧ ∀ (S' : Sto) (nd : Nat → Nat), rsS S S' → ndP S d nd (shN S d).toNat → ndA S' nd (shN S d).toNat → tabP S S' d nd (shN S d).toNat 0 → post (.inl none) S'
  | _ => False
def lrG (S : Sto) (d : Int) (nd : Nat → Nat) (n s l : Nat) : Nat → Int := fun x => if canB nd n s x then dpV n (colF S d) nd (s ||| 2 ^ x) x + chg (colF S d) l x else 1000
def spX7_laysRest : Nat → CD := spF mdX7_laysRest fun i => match i with
  | 1 => (s_aheadOf, 0, 0, 4)
  | 2 => (s_change, 0, 0, 1)
  | _ => noR
set_option maxHeartbeats 4000000 in
set_option maxRecDepth 100000 in
theorem sat_X7_laysRest : Sat mX7_laysRest s_laysRest 0 0 5 := by
  refine sat_of (E := eX7_laysRest) (sp := spX7_laysRest) (ini := false) (by decide +kernel) (fun h => by cases h) okX7_laysRest (fun i => match i with
    | 1 => ⟨sat_X7_aheadOf, Nat.le_of_ble_eq_true rfl⟩
    | 2 => ⟨sat_X7_change, Nat.le_of_ble_eq_true rfl⟩
    | i + 3 => ⟨sat_no _, Nat.le_of_ble_eq_true rfl⟩
    | 0 => ⟨sat_no _, Nat.le_of_ble_eq_true rfl⟩) ?_
  intro as S post h
  match as, h with
  | [.inr (.inr (some 2)), .inl d], h =>
    obtain ⟨hM, hsh, h⟩ := h
    have hsh2 := hsh
    obtain ⟨d0, d1, n1, n7, hs⟩ := hsh2
    obtain ⟨n, hn⟩ : ∃ n : Nat, shN S d = n := ⟨(shN S d).toNat, by omega⟩
    have hn7 : n ≤ 7 := by omega
    have hp7 : 2 ^ n ≤ 128 := Nat.pow_le_pow_right (n := 2) (by omega) hn7
    have hnt : (shN S d).toNat = n := by omega
    rw [hnt] at h
    refine bodyL [(9, fun m L st S' c => ∃ (k : Nat) (nd : Nat → Nat), L = [vT 2, vI d, vI n, vI k, uu, uu, uu, uu, uu] ∧ st = [] ∧ c = (0, 0) ∧ m = 20000 + (7 - k) ∧ k ≤ n ∧ rsS S S' ∧ ndP S d nd k ∧ ndA S' nd k),
      (38, fun m L st S' c => ∃ (s : Nat) (nd : Nat → Nat) (x4 x5 x6 x7 x8 : AV), L = [vT 2, vI d, vI n, vI s, x4, x5, x6, x7, x8] ∧ st = [] ∧ c = (0, 0) ∧ m = s * 100 + 99 ∧ s < 2 ^ n ∧ rsS S S' ∧ ndP S d nd n ∧ ndA S' nd n ∧ tabP S S' d nd n s),
      (45, fun m L st S' c => ∃ (s l : Nat) (nd : Nat → Nat) (x5 x6 x7 x8 : AV), L = [vT 2, vI d, vI n, vI s, vI l, x5, x6, x7, x8] ∧ st = [] ∧ c = (0, 0) ∧ m = s * 100 + (7 - l) * 10 + 8 ∧ 0 < s ∧ s < 2 ^ n ∧ l ≤ n ∧ rsS S S' ∧ ndP S d nd n ∧ ndA S' nd n ∧ tabP S S' d nd n s ∧ ∀ q : Nat, q < l → mg S' 12 (8 * s + q) = dpV n (colF S d) nd s q),
      (72, fun m L st S' c => ∃ (s l x : Nat) (b : Int) (nd : Nat → Nat) (x7 x8 : AV), L = [vT 2, vI d, vI n, vI s, vI l, vI b, vI x, x7, x8] ∧ st = [] ∧ c = (0, 0) ∧ m = s * 100 + (7 - l) * 10 + (7 - x) ∧ 0 < s ∧ s < 2 ^ n ∧ l < n ∧ x ≤ n ∧ rsS S S' ∧ ndP S d nd n ∧ ndA S' nd n ∧ tabP S S' d nd n s ∧ (∀ q : Nat, q < l → mg S' 12 (8 * s + q) = dpV n (colF S d) nd s q) ∧ b = minTo (lrG S d nd n s l) (if s = 2 ^ n - 1 then 0 else 1000) x)] 30000 200 rfl
      (List.forall_mem_cons.mpr ⟨?_, List.forall_mem_cons.mpr ⟨?_, List.forall_mem_cons.mpr ⟨?_, List.forall_mem_cons.mpr ⟨?_, fun q hq => by cases hq⟩⟩⟩⟩) ?_
    · rintro m L st S' c ⟨k, nd, rfl, rfl, rfl, rfl, hk, hrs, hnd, hna⟩
      have hM' := hrs.ms hM
      have hr := hM'.2.1
      have hM := hM'
      have hpre : k < n → 0 ≤ d ∧ d < 6 ∧ 0 ≤ (k : Int) ∧ (k : Int) < 7 ∧ ∀ q, 0 ≤ q → q ≤ (k : Int) → shOK S' (7 * d + q) := fun hkn => ⟨d0, d1, by omega, by omega, fun q q0 q1 => hrs.sh (hs q q0 (by omega))⟩
      repeat' (first
          | omega
          | with_reducible apply And.intro
          | (intro c9; (try simp only [mg, mf, colK, stK, clK, mnK, shN] at c9))
          | exact hM
          | exact ms_o hM
          | (refine ms_r hM rfl rfl ?_ ?_ <;> (try simp only [mLen]) <;> omega)
          | (refine ms_w hM rfl rfl ?_ ?_ <;> (try simp only [mLen]) <;> omega)
          | exact hpre (by omega)
          | (simp only [mg, mf, colK, stK, clK, mnK, shN]; omega)
          | refine Exists.intro _ (And.intro rfl ?_)
          | refine Exists.intro _ (And.intro ((congrFun hr _).trans rfl) ?_)
          | ((with_reducible show wp _ _ _ _ _ _ _ _ _ _ _ _ _ _); conv => whnf)
          | ((with_reducible show callK _ _ _ _ _ _ _ _ _); conv => whnf)
          | ((with_reducible show condK _ _ _ _ _); conv => whnf)
          | ((with_reducible show st1 _ _ _ _ _ _ _ _ _ _ _ _); conv => whnf)
          | ((with_reducible show (Prod.fst _ : Spec) _ _ _); conv => whnf)
          | ((with_reducible show shortK _ _); conv => whnf)
          | exact Nat.le_of_ble_eq_true rfl)
      · have e : k = n := by omega
        subst e
        have hpos := Nat.two_pow_pos k
        refine ⟨(2 ^ k - 1) * 100 + 99, by omega, 2 ^ k - 1, nd, uu, uu, uu, uu, uu, ?_, rfl, rfl, rfl, by omega, hrs, hnd, hna, fun s' l q1 q2 => by omega⟩
        show [vT 2, vI d, vI k, vI (bShl 1 k - 1), uu, uu, uu, uu, uu] = _
        rw [bz_shl k (by omega), show ((2 ^ k : Nat) : Int) - 1 = ((2 ^ k - 1 : Nat) : Int) by omega]
      · exact hrs.sh (hs _ ‹_› (by omega))
      · rename_i hkn r9
        obtain ⟨A, rfl, hA1, hA2⟩ := c9
        refine ⟨20000 + (7 - (k + 1)), by omega, k + 1, fun q => if q = k then A else nd q, ?_, rfl, rfl, rfl, by omega, hrs.upd (Or.inr rfl), fun q hq => ?_, fun q hq => ?_⟩
        · show [vT 2, vI d, vI n, vI ((k : Int) + 1), uu, uu, uu, uu, uu] = _
          rw [Int.natCast_add]; rfl
        · by_cases e : q = k
          · subst e
            simp only [if_pos]
            refine ⟨hA1, fun j => ?_⟩
            rw [hA2 j, hrs.met]
            constructor <;> rintro ⟨q1, q2⟩ <;> exact ⟨by omega, q2⟩
          · simp only [if_neg e]; exact hnd q (by omega)
        · show (if mt 32 = mt 32 ∧ (q : Int).toNat = (k : Int).toNat then (A : Int) else S'.2.1 (mt 32) (q : Int).toNat) = _
          by_cases e : q = k
          · subst e; simp
          · rw [if_neg (by rintro ⟨-, e2⟩; omega)]; show _ = ((if q = k then A else nd q : Nat) : Int); rw [if_neg e]; exact hna q (by omega)
    · rintro m L st S' c ⟨s, nd, x4, x5, x6, x7, x8, rfl, rfl, rfl, rfl, hs1, hrs, hnd, hna, htab⟩
      have hM' := hrs.ms hM
      have hr := hM'.2.1
      have hM := hM'
      repeat' (first
          | omega
          | with_reducible apply And.intro
          | (intro c9; (try simp only [mg, mf, colK, stK, clK, mnK, shN] at c9))
          | exact hM
          | exact ms_o hM
          | (refine ms_r hM rfl rfl ?_ ?_ <;> (try simp only [mLen]) <;> omega)
          | (refine ms_w hM rfl rfl ?_ ?_ <;> (try simp only [mLen]) <;> omega)
          | (simp only [mg, mf, colK, stK, clK, mnK, shN]; omega)
          | refine Exists.intro _ (And.intro rfl ?_)
          | refine Exists.intro _ (And.intro ((congrFun hr _).trans rfl) ?_)
          | ((with_reducible show wp _ _ _ _ _ _ _ _ _ _ _ _ _ _); conv => whnf)
          | ((with_reducible show callK _ _ _ _ _ _ _ _ _); conv => whnf)
          | ((with_reducible show condK _ _ _ _ _); conv => whnf)
          | ((with_reducible show st1 _ _ _ _ _ _ _ _ _ _ _ _); conv => whnf)
          | ((with_reducible show (Prod.fst _ : Spec) _ _ _); conv => whnf)
          | ((with_reducible show shortK _ _); conv => whnf)
          | exact Nat.le_of_ble_eq_true rfl)
      · have e : s = 0 := by omega
        subst e
        exact h S' nd hrs hnd hna htab
      · exact ⟨s * 100 + (7 - 0) * 10 + 8, by omega, s, 0, nd, x5, x6, x7, x8, rfl, rfl, rfl, rfl, by omega, hs1, by omega, hrs, hnd, hna, htab, fun q hq => by omega⟩
    · rintro m L st S' c ⟨s, l, nd, x5, x6, x7, x8, rfl, rfl, rfl, rfl, hs0, hs1, hl, hrs, hnd, hna, htab, hrow⟩
      have hM' := hrs.ms hM
      have hr := hM'.2.1
      have hM := hM'
      have e1 := bz_shl n (by omega)
      repeat' (first
          | omega
          | with_reducible apply And.intro
          | (intro c9; (try simp only [mg, mf, colK, stK, clK, mnK, shN, e1] at c9))
          | exact hM
          | exact ms_o hM
          | (refine ms_r hM rfl rfl ?_ ?_ <;> (try simp only [mLen]) <;> omega)
          | (refine ms_w hM rfl rfl ?_ ?_ <;> (try simp only [mLen]) <;> omega)
          | (simp only [mg, mf, colK, stK, clK, mnK, shN, e1]; omega)
          | refine Exists.intro _ (And.intro rfl ?_)
          | refine Exists.intro _ (And.intro ((congrFun hr _).trans rfl) ?_)
          | ((with_reducible show wp _ _ _ _ _ _ _ _ _ _ _ _ _ _); conv => whnf)
          | ((with_reducible show callK _ _ _ _ _ _ _ _ _); conv => whnf)
          | ((with_reducible show condK _ _ _ _ _); conv => whnf)
          | ((with_reducible show st1 _ _ _ _ _ _ _ _ _ _ _ _); conv => whnf)
          | ((with_reducible show (Prod.fst _ : Spec) _ _ _); conv => whnf)
          | ((with_reducible show shortK _ _); conv => whnf)
          | exact Nat.le_of_ble_eq_true rfl)
      · refine ⟨(s - 1) * 100 + 99, by omega, s - 1, nd, vI l, x5, x6, x7, x8, ?_, rfl, rfl, rfl, by omega, hrs, hnd, hna, fun s' q q1 q2 q3 => ?_⟩
        · show [vT 2, vI d, vI n, vI ((s : Int) + -1), vI l, x5, x6, x7, x8] = _
          rw [show (s : Int) + -1 = ((s - 1 : Nat) : Int) by omega]
        · by_cases e : s' = s
          · subst e; exact hrow q (by omega)
          · exact htab s' q (by omega) q2 q3
      · exact ⟨s * 100 + (7 - l) * 10 + (7 - 0), by omega, s, l, 0, 1000, nd, x7, x8, rfl, rfl, rfl, rfl, hs0, hs1, by omega, by omega, hrs, hnd, hna, htab, hrow, by rw [if_neg (by omega)]; rfl⟩
      · exact ⟨s * 100 + (7 - l) * 10 + (7 - 0), by omega, s, l, 0, 0, nd, x7, x8, rfl, rfl, rfl, rfl, hs0, hs1, by omega, by omega, hrs, hnd, hna, htab, hrow, by rw [if_pos (by omega)]; rfl⟩
    · rintro m L st S' c ⟨s, l, x, b, nd, x7, x8, rfl, rfl, rfl, rfl, hs0, hs1, hl, hx, hrs, hnd, hna, htab, hrow, hb⟩
      have hM' := hrs.ms hM
      have hr := hM'.2.1
      have hM := hM'
      have hg0 : ∀ y, 0 ≤ lrG S d nd n s l y := fun y => by
        unfold lrG
        split
        · rename_i hc
          obtain ⟨q1, q2, -⟩ := canB_e.mp hc
          have := (dpV_range (col := colF S d) hn7 hnd.ok (2 ^ n) (s ||| 2 ^ y) y (or_lt hs1 q1) (by omega)).1
          unfold chg
          split <;> omega
        · omega
      have hb0 : 0 ≤ b ∧ b ≤ 1000 := by
        rw [hb]
        have hq : 0 ≤ (if s = 2 ^ n - 1 then (0 : Int) else 1000) ∧ (if s = 2 ^ n - 1 then (0 : Int) else 1000) ≤ 1000 := by split <;> omega
        have h1 := (minTo_le (g := lrG S d nd n s l) (b := if s = 2 ^ n - 1 then 0 else 1000) x).1
        have h2 := minTo_ge (g := lrG S d nd n s l) (b := if s = 2 ^ n - 1 then 0 else 1000) (m := 0) hq.1 x (fun y _ => hg0 y)
        exact ⟨h2, Int.le_trans h1 hq.2⟩
      by_cases hxn : x < n
      · have e4 := bz_or s x (by omega) (by omega)
        have e2 := bz_has s x (by omega) (by omega)
        have e3 : S'.2.1 (mt 32) (x : Int).toNat = nd x := hna x hxn
        have e5 := bz_sub (nd x) s ((hnd x hxn).1) (by omega)
        have e6 := bz_subR (nd x) s ((hnd x hxn).1) (by omega)
        have hbs : b ≤ lrG S d nd n s l x ∨ lrG S d nd n s l x < b := by omega
        have hst : minTo (lrG S d nd n s l) (if s = 2 ^ n - 1 then 0 else 1000) (x + 1) = if lrG S d nd n s l x < b then lrG S d nd n s l x else b := by rw [hb]; rfl
        have done_ : ∀ (b' : Int) (y7 y8 : AV), b' = (if lrG S d nd n s l x < b then lrG S d nd n s l x else b) → ∃ m, m < s * 100 + (7 - l) * 10 + (7 - x) ∧ ∃ (s0 l0 x0 : Nat) (b0 : Int) (nd0 : Nat → Nat) (z7 z8 : AV), [vT 2, vI d, vI n, vI s, vI l, vI b', vI ((x : Int) + 1), y7, y8] = [vT 2, vI d, vI n, vI s0, vI l0, vI b0, vI x0, z7, z8] ∧ ([] : List AV) = [] ∧ ((0, 0) : Nat × Nat) = (0, 0) ∧ m = s0 * 100 + (7 - l0) * 10 + (7 - x0) ∧ 0 < s0 ∧ s0 < 2 ^ n ∧ l0 < n ∧ x0 ≤ n ∧ rsS S S' ∧ ndP S d nd0 n ∧ ndA S' nd0 n ∧ tabP S S' d nd0 n s0 ∧ (∀ q : Nat, q < l0 → mg S' 12 (8 * s0 + q) = dpV n (colF S d) nd0 s0 q) ∧ b0 = minTo (lrG S d nd0 n s0 l0) (if s0 = 2 ^ n - 1 then 0 else 1000) x0 := fun b' y7 y8 hb' =>
          ⟨s * 100 + (7 - l) * 10 + (7 - (x + 1)), by omega, s, l, x + 1, b', nd, y7, y8, by rw [Int.natCast_add]; rfl, rfl, rfl, rfl, hs0, hs1, hl, by omega, hrs, hnd, hna, htab, hrow, by rw [hst]; exact hb'⟩
        cases ht : s.testBit x with
        | true =>
          rw [ht] at e2
          have e2 : bAnd (bShr s x) 1 = 1 := e2
          have hg : lrG S d nd n s l x = 1000 := by unfold lrG; rw [if_neg]; rw [canB_e, ht]; rintro ⟨-, q, -⟩; cases q
          repeat' (first
              | omega
              | with_reducible apply And.intro
              | (intro c9; (try simp only [mg, mf, colK, stK, clK, mnK, shN, e2, e3] at c9))
              | exact hM
              | exact ms_o hM
              | (refine ms_r hM rfl rfl ?_ ?_ <;> (try simp only [mLen]) <;> omega)
              | (refine ms_w hM rfl rfl ?_ ?_ <;> (try simp only [mLen]) <;> omega)
              | (rw [e2]; omega)
              | (simp only [mg, mf, colK, stK, clK, mnK, shN, e2, e3]; omega)
              | refine Exists.intro _ (And.intro rfl ?_)
              | refine Exists.intro _ (And.intro ((congrFun hr _).trans rfl) ?_)
              | ((with_reducible show wp _ _ _ _ _ _ _ _ _ _ _ _ _ _); conv => whnf)
              | ((with_reducible show callK _ _ _ _ _ _ _ _ _); conv => whnf)
              | ((with_reducible show condK _ _ _ _ _); conv => whnf)
              | ((with_reducible show st1 _ _ _ _ _ _ _ _ _ _ _ _); conv => whnf)
              | ((with_reducible show (Prod.fst _ : Spec) _ _ _); conv => whnf)
              | ((with_reducible show shortK _ _); conv => whnf)
              | exact Nat.le_of_ble_eq_true rfl)
          · exact done_ _ _ _ (by rw [hg, if_neg (by omega)])
        | false =>
          rw [ht] at e2
          have e2 : bAnd (bShr s x) 1 = 0 := e2
          by_cases hnd9 : nd x &&& s = nd x
          · have e5 := e5.mpr hnd9
            have hlt := or_lt hs1 hxn
            have e7 : S'.2.1 (mt 12) (8 * ((s ||| 2 ^ x : Nat) : Int) + x).toNat = dpV n (colF S d) nd (s ||| 2 ^ x) x := htab (s ||| 2 ^ x) x (or_gt ht) hlt hxn
            have hv := dpV_range (col := colF S d) hn7 hnd.ok (2 ^ n) (s ||| 2 ^ x) x hlt (by omega)
            have hg : lrG S d nd n s l x = dpV n (colF S d) nd (s ||| 2 ^ x) x + chg (colF S d) l x := by unfold lrG; rw [if_pos]; exact canB_e.mpr ⟨hxn, ht, hnd9⟩
            have hcl : ∀ y : Nat, y < n → 0 ≤ colK S' d y ∧ colK S' d y < 6 := fun y hy => by
              have h1 := hs y (by omega) (by omega)
              unfold shOK at h1
              have h2 := hrs.mg (k := 3) (i := 7 * d + y) (by omega) (by omega)
              dsimp only [colK]; omega
            have hc1 := hcl l hl
            have hc2 := hcl x hxn
            have hch : ∀ z : Int, (colK S' d l = colK S' d x ∧ z = 0 ∨ colK S' d l ≠ colK S' d x ∧ z = 1) → z = chg (colF S d) l x := fun z hz => by
              unfold chg colF
              have h2 := hrs.mg (k := 3) (i := 7 * d + x) (by omega) (by omega)
              have h3 := hrs.mg (k := 3) (i := 7 * d + l) (by omega) (by omega)
              dsimp only [colK] at *
              split <;> omega
            dsimp only [mg, mf, colK, stK, clK, mnK, shN] at hc1 hc2 hch
            repeat' (first
                | omega
                | with_reducible apply And.intro
                | (intro c9; (try simp only [mg, mf, colK, stK, clK, mnK, shN, e2, e3, e4, e5, e7] at c9))
                | exact hM
                | exact ms_o hM
                | (refine ms_r hM rfl rfl ?_ ?_ <;> (try simp only [mLen]) <;> omega)
                | (refine ms_w hM rfl rfl ?_ ?_ <;> (try simp only [mLen]) <;> omega)
                | (rw [e2]; omega)
                | (rw [e3, e5]; omega)
                | (rw [e4]; (refine ms_r hM rfl rfl ?_ ?_ <;> (try simp only [mLen]) <;> omega))
                | (simp only [mg, mf, colK, stK, clK, mnK, shN, e2, e3, e4, e5, e7]; omega)
                | refine Exists.intro _ (And.intro rfl ?_)
                | refine Exists.intro _ (And.intro ((congrFun hr _).trans rfl) ?_)
                | ((with_reducible show wp _ _ _ _ _ _ _ _ _ _ _ _ _ _); conv => whnf)
                | ((with_reducible show callK _ _ _ _ _ _ _ _ _); conv => whnf)
                | ((with_reducible show condK _ _ _ _ _); conv => whnf)
                | ((with_reducible show st1 _ _ _ _ _ _ _ _ _ _ _ _); conv => whnf)
                | ((with_reducible show (Prod.fst _ : Spec) _ _ _); conv => whnf)
                | ((with_reducible show shortK _ _); conv => whnf)
                | exact Nat.le_of_ble_eq_true rfl)
            · rename_i r9 hr9
              rw [hch r9 hr9, ← hg] at c9
              exact done_ _ _ _ (by rw [if_neg (by omega)])
            · rename_i r9 hr9
              rw [hch r9 hr9, ← hg] at c9
              refine done_ _ _ _ ?_
              rw [if_pos c9, hg, hch r9 hr9, e4]
              exact congrArg (· + _) e7
          · have e5 := fun q => hnd9 (e5.mp q)
            have hg : lrG S d nd n s l x = 1000 := by unfold lrG; rw [if_neg]; rw [canB_e]; rintro ⟨-, -, q⟩; exact hnd9 q
            repeat' (first
                | omega
                | with_reducible apply And.intro
                | (intro c9; (try simp only [mg, mf, colK, stK, clK, mnK, shN, e2, e3] at c9))
                | exact hM
                | exact ms_o hM
                | (refine ms_r hM rfl rfl ?_ ?_ <;> (try simp only [mLen]) <;> omega)
                | (refine ms_w hM rfl rfl ?_ ?_ <;> (try simp only [mLen]) <;> omega)
                | (rw [e2]; omega)
                | (rw [e3]; omega)
                | (exfalso; exact e5 ‹_›)
                | (simp only [mg, mf, colK, stK, clK, mnK, shN, e2, e3]; omega)
                | refine Exists.intro _ (And.intro rfl ?_)
                | refine Exists.intro _ (And.intro ((congrFun hr _).trans rfl) ?_)
                | ((with_reducible show wp _ _ _ _ _ _ _ _ _ _ _ _ _ _); conv => whnf)
                | ((with_reducible show callK _ _ _ _ _ _ _ _ _); conv => whnf)
                | ((with_reducible show condK _ _ _ _ _); conv => whnf)
                | ((with_reducible show st1 _ _ _ _ _ _ _ _ _ _ _ _); conv => whnf)
                | ((with_reducible show (Prod.fst _ : Spec) _ _ _); conv => whnf)
                | ((with_reducible show shortK _ _); conv => whnf)
                | exact Nat.le_of_ble_eq_true rfl)
            · exact done_ _ _ _ (by rw [hg, if_neg (by omega)])
      · have e : x = n := by omega
        subst e
        repeat' (first
            | omega
            | with_reducible apply And.intro
            | (intro c9; (try simp only [mg, mf, colK, stK, clK, mnK, shN] at c9))
            | exact hM
            | exact ms_o hM
            | (refine ms_r hM rfl rfl ?_ ?_ <;> (try simp only [mLen]) <;> omega)
            | (refine ms_w hM rfl rfl ?_ ?_ <;> (try simp only [mLen]) <;> omega)
            | (simp only [mg, mf, colK, stK, clK, mnK, shN]; omega)
            | refine Exists.intro _ (And.intro rfl ?_)
            | refine Exists.intro _ (And.intro ((congrFun hr _).trans rfl) ?_)
            | ((with_reducible show wp _ _ _ _ _ _ _ _ _ _ _ _ _ _); conv => whnf)
            | ((with_reducible show callK _ _ _ _ _ _ _ _ _); conv => whnf)
            | ((with_reducible show condK _ _ _ _ _); conv => whnf)
            | ((with_reducible show st1 _ _ _ _ _ _ _ _ _ _ _ _); conv => whnf)
            | ((with_reducible show (Prod.fst _ : Spec) _ _ _); conv => whnf)
            | ((with_reducible show shortK _ _); conv => whnf)
            | exact Nat.le_of_ble_eq_true rfl)
        refine ⟨s * 100 + (7 - (l + 1)) * 10 + 8, by omega, s, l + 1, nd, vI b, vI x, x7, x8, by rw [Int.natCast_add]; rfl, rfl, rfl, rfl, hs0, hs1, by omega, hrs.upd (Or.inl rfl), hnd, hna, fun s' q q1 q2 q3 => ?_, fun q hq => ?_⟩
        · show (if mt 12 = mt 12 ∧ (8 * (s' : Int) + q).toNat = (8 * (s : Int) + l).toNat then b else S'.2.1 (mt 12) (8 * (s' : Int) + q).toNat) = _
          rw [if_neg (by rintro ⟨-, e⟩; omega)]
          exact htab s' q q1 q2 q3
        · show (if mt 12 = mt 12 ∧ (8 * (s : Int) + q).toNat = (8 * (s : Int) + l).toNat then b else S'.2.1 (mt 12) (8 * (s : Int) + q).toNat) = _
          by_cases e : q = l
          · subst e
            rw [if_pos ⟨rfl, rfl⟩, dpV_eq hn7 hs1, hb]; rfl
          · rw [if_neg (by rintro ⟨-, e2⟩; omega)]; exact hrow q (by omega)
    · have hr := hM.2.1
      have hM := hM
      have : shN S d = n := hn
      repeat' (first
          | omega
          | with_reducible apply And.intro
          | (intro c9; (try simp only [mg, mf, colK, stK, clK, mnK, shN] at c9))
          | exact hM
          | exact ms_o hM
          | (refine ms_r hM rfl rfl ?_ ?_ <;> (try simp only [mLen]) <;> omega)
          | (refine ms_w hM rfl rfl ?_ ?_ <;> (try simp only [mLen]) <;> omega)
          | (simp only [mg, mf, colK, stK, clK, mnK, shN]; omega)
          | refine Exists.intro _ (And.intro rfl ?_)
          | refine Exists.intro _ (And.intro ((congrFun hr _).trans rfl) ?_)
          | ((with_reducible show wp _ _ _ _ _ _ _ _ _ _ _ _ _ _); conv => whnf)
          | ((with_reducible show callK _ _ _ _ _ _ _ _ _); conv => whnf)
          | ((with_reducible show condK _ _ _ _ _); conv => whnf)
          | ((with_reducible show st1 _ _ _ _ _ _ _ _ _ _ _ _); conv => whnf)
          | ((with_reducible show (Prod.fst _ : Spec) _ _ _); conv => whnf)
          | ((with_reducible show shortK _ _); conv => whnf)
          | exact Nat.le_of_ble_eq_true rfl)
      exact ⟨20000 + (7 - 0), by omega, 0, fun _ => 0, by rw [← hn]; rfl, rfl, rfl, rfl, by omega, rsS.rf, fun q hq => by omega, fun q hq => by omega⟩
