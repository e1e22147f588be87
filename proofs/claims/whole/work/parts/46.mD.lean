/-- S' is S but for the reference's arrays ks -/
def agr (ks : List Nat) (S S' : Sto) : Prop := S'.1 = S.1 ∧ S'.2.2 = S.2.2 ∧ ∀ t, (∀ k ∈ ks, t ≠ mt k) → S'.2.1 t = S.2.1 t
theorem agr.rf {ks : List Nat} {S : Sto} : agr ks S S := ⟨rfl, rfl, fun _ _ => rfl⟩
theorem agr.trans {ks : List Nat} {S S1 S2 : Sto} (h : agr ks S S1) (h2 : agr ks S1 S2) : agr ks S S2 :=
  ⟨h2.1.trans h.1, h2.2.1.trans h.2.1, fun t q => (h2.2.2 t q).trans (h.2.2 t q)⟩
theorem agr.sub {ks ks' : List Nat} {S S' : Sto} (h : agr ks S S') (hs : ∀ k ∈ ks, k ∈ ks') : agr ks' S S' := ⟨h.1, h.2.1, fun t q => h.2.2 t fun k hk => q k (hs k hk)⟩
theorem mt_inj {a b : Nat} (h : mt a = mt b) : a = b := by unfold mt at h; omega
theorem agr.ms {ks : List Nat} {S S' : Sto} (h : agr ks S S') (hM : MS S) : MS S' := by
  obtain ⟨h1, h2, h3⟩ := hM
  exact ⟨by rw [h.1]; exact h1, by rw [h.2.1]; exact h2, fun k a b => by rw [h.1]; exact h3 k a b⟩
theorem agr.mg {ks : List Nat} {S S' : Sto} (h : agr ks S S') {k : Nat} {i : Int} (h1 : k ∉ ks) : mg S' k i = mg S k i := by
  show S'.2.1 (mt k) _ = S.2.1 (mt k) _
  rw [h.2.2 (mt k) (fun q hq e => h1 (by rw [mt_inj e]; exact hq))]
theorem agr.mf {ks : List Nat} {S S' : Sto} (h : agr ks S S') {k : Nat} : mf S' k = mf S k := by
  show S'.2.1 2 _ = S.2.1 2 _
  rw [h.2.2 2 (fun q hq e => by unfold mt at e; omega)]
theorem agr.upd {ks : List Nat} {S S' : Sto} (h : agr ks S S') {k j : Nat} {v : Int} (hk : k ∈ ks) : agr ks S (updI S' (mt k) j v) :=
  ⟨h.1, h.2.1, fun t a => by
    funext q
    show (if t = mt k ∧ q = j then v else S'.2.1 t q) = _
    rw [if_neg (by rintro ⟨e, -⟩; exact a k hk e), h.2.2 t a]⟩
theorem rsS.agr {S S' : Sto} (h : rsS S S') : agr [12, 32] S S' := ⟨h.1, h.2.1, fun t q => h.2.2 t (q 12 (by simp)) (q 32 (by simp))⟩
theorem agr.sh {ks : List Nat} {S S' : Sto} (h : agr ks S S') (hk : ∀ k, 2 ≤ k → k ≤ 7 → k ∉ ks) {k : Int} : shOK S' k ↔ shOK S k := by
  unfold shOK
  simp only [h.mg (k := 2) (hk 2 (by omega) (by omega)), h.mg (k := 3) (hk 3 (by omega) (by omega)), h.mg (k := 4) (hk 4 (by omega) (by omega)), h.mg (k := 5) (hk 5 (by omega) (by omega)), h.mg (k := 6) (hk 6 (by omega) (by omega)), h.mg (k := 7) (hk 7 (by omega) (by omega))]
theorem agr.met {ks : List Nat} {S S' : Sto} (h : agr ks S S') (hk : ∀ k, 2 ≤ k → k ≤ 7 → k ∉ ks) {a b : Int} : metP S' a b ↔ metP S a b := by
  unfold metP hasK
  simp only [h.mg (k := 2) (hk 2 (by omega) (by omega)), h.mg (k := 4) (hk 4 (by omega) (by omega)), h.mg (k := 5) (hk 5 (by omega) (by omega)), h.mg (k := 6) (hk 6 (by omega) (by omega)), h.mg (k := 7) (hk 7 (by omega) (by omega))]
/-- how many of the first n are in a set -/
def bc : Nat → Nat → Nat
  | 0, _ => 0
  | k + 1, s => bc k s + if s.testBit k then 1 else 0
theorem bc_or {n s x : Nat} (hx : s.testBit x = false) : bc n (s ||| 2 ^ x) = bc n s + if x < n then 1 else 0 := by
  induction n with
  | zero => rfl
  | succ n ih =>
    unfold bc
    rw [ih, Nat.testBit_or, Nat.testBit_two_pow]
    by_cases e : x = n
    · subst e
      simp [hx]
    · have h1 : decide (x = n) = false := decide_eq_false e
      rw [h1, Bool.or_false]
      by_cases q : x < n
      · rw [if_pos q, if_pos (show x < n + 1 by omega)]; omega
      · rw [if_neg q, if_neg (show ¬ x < n + 1 by omega)]; omega
theorem bc_full : ∀ (n m : Nat), n ≤ m → bc n (2 ^ m - 1) = n
  | 0, _, _ => rfl
  | n + 1, m, h => by
    unfold bc
    rw [bc_full n m (by omega), Nat.testBit_two_pow_sub_one, decide_eq_true (show n < m by omega)]
    rfl
theorem bc_0 : ∀ n, bc n 0 = 0
  | 0 => rfl
  | n + 1 => by unfold bc; rw [bc_0 n]; simp
/-- what the next shape is weighed by -/
def pkG (n : Nat) (col : Nat → Int) (nd : Nat → Nat) (s : Nat) (l : Int) : Nat → Int := fun x => if canB nd n s x then dpV n col nd (s ||| 2 ^ x) x + (if l = -1 then 0 else chg col l.toNat x) else 1000
def pick (n : Nat) (col : Nat → Int) (nd : Nat → Nat) (s : Nat) (l : Int) : Int := argTo (pkG n col nd s l) 1000 n
/-- set and latest shape behind p steps -/
def gseq (n : Nat) (col : Nat → Int) (nd : Nat → Nat) : Nat → Nat × Int
  | 0 => (0, -1)
  | p + 1 => ((gseq n col nd p).1 ||| 2 ^ (pick n col nd (gseq n col nd p).1 (gseq n col nd p).2).toNat, pick n col nd (gseq n col nd p).1 (gseq n col nd p).2)
/-- the shape at a place -/
def gat (n : Nat) (col : Nat → Int) (nd : Nat → Nat) (p : Nat) : Int := (gseq n col nd (p + 1)).2
theorem pkG_0 {n : Nat} {col : Nat → Int} {nd : Nat → Nat} (hn : n ≤ 7) (hnd : needOK nd n) {s : Nat} {l : Int} (hs : s < 2 ^ n) (x : Nat) : 0 ≤ pkG n col nd s l x ∧ (canB nd n s x = true → pkG n col nd s l x ≤ 129) := by
  unfold pkG
  split
  · rename_i hc
    obtain ⟨q1, q2, -⟩ := canB_e.mp hc
    have h1 := dpV_range (col := col) hn hnd (2 ^ n) (s ||| 2 ^ x) x (or_lt hs q1) (by omega)
    have : 0 ≤ (if l = -1 then 0 else chg col l.toNat x) ∧ (if l = -1 then 0 else chg col l.toNat x) ≤ 1 := by unfold chg; split <;> (try split) <;> omega
    exact ⟨by omega, fun _ => by omega⟩
  · exact ⟨by omega, fun q => absurd q ‹_›⟩
theorem pick_ok {n : Nat} {col : Nat → Int} {nd : Nat → Nat} (hn : n ≤ 7) (hnd : needOK nd n) {s : Nat} {l : Int} (hs : s < 2 ^ n) (hne : s ≠ 2 ^ n - 1) :
    ∃ x : Nat, pick n col nd s l = x ∧ canB nd n s x = true ∧ minTo (pkG n col nd s l) 1000 n = pkG n col nd s l x := by
  obtain ⟨y, hy⟩ := cand_ex hnd hs hne
  have hyn := (canB_e.mp hy).1
  have h1 := ((minTo_le (g := pkG n col nd s l) (b := 1000) n).2 y hyn)
  have h2 := (pkG_0 (col := col) (l := l) hn hnd hs y).2 hy
  rcases argTo_ok (g := pkG n col nd s l) (b := 1000) n with ⟨q1, q2⟩ | ⟨x, q1, q2, q3, q4⟩
  · omega
  · refine ⟨x, q2, ?_, q3⟩
    cases hc : canB nd n s x with
    | true => rfl
    | false => unfold pkG at q4; rw [hc] at q4; simp at q4
theorem gseq_ok {n : Nat} {col : Nat → Int} {nd : Nat → Nat} (hn : n ≤ 7) (hnd : needOK nd n) : ∀ p, p ≤ n → (gseq n col nd p).1 < 2 ^ n ∧ bc n (gseq n col nd p).1 = p ∧ (p = 0 → (gseq n col nd p).2 = -1) ∧ (0 < p → 0 ≤ (gseq n col nd p).2 ∧ (gseq n col nd p).2 < n)
  | 0, _ => ⟨Nat.two_pow_pos n, bc_0 n, fun _ => rfl, fun h => absurd h (by omega)⟩
  | p + 1, hp => by
    obtain ⟨h1, h2, -, -⟩ := gseq_ok (col := col) hn hnd p (by omega)
    have hne : (gseq n col nd p).1 ≠ 2 ^ n - 1 := fun e => by
      rw [e, bc_full n n (Nat.le_refl n)] at h2; omega
    obtain ⟨x, e1, e2, -⟩ := pick_ok (col := col) (l := (gseq n col nd p).2) hn hnd h1 hne
    obtain ⟨q1, q2, -⟩ := canB_e.mp e2
    have e3 : gseq n col nd (p + 1) = ((gseq n col nd p).1 ||| 2 ^ x, (x : Int)) := by
      show ((gseq n col nd p).1 ||| 2 ^ (pick n col nd (gseq n col nd p).1 (gseq n col nd p).2).toNat, pick n col nd (gseq n col nd p).1 (gseq n col nd p).2) = _
      rw [e1]; rfl
    rw [e3]
    refine ⟨or_lt h1 q1, ?_, fun h => absurd h (by omega), fun _ => ⟨by show (0 : Int) ≤ x; omega, by show (x : Int) < n; omega⟩⟩
    show bc n ((gseq n col nd p).1 ||| 2 ^ x) = p + 1
    rw [bc_or q2, if_pos q1, h2]
theorem gseq_step {n : Nat} {col : Nat → Int} {nd : Nat → Nat} (hn : n ≤ 7) (hnd : needOK nd n) {p : Nat} (hp : p < n) : ∃ x : Nat, gat n col nd p = x ∧ x < n ∧ (gseq n col nd p).1.testBit x = false ∧ gseq n col nd (p + 1) = ((gseq n col nd p).1 ||| 2 ^ x, (x : Int)) ∧ canB nd n (gseq n col nd p).1 x = true ∧ pick n col nd (gseq n col nd p).1 (gseq n col nd p).2 = x ∧ minTo (pkG n col nd (gseq n col nd p).1 (gseq n col nd p).2) 1000 n = pkG n col nd (gseq n col nd p).1 (gseq n col nd p).2 x := by
  obtain ⟨h1, h2, -, -⟩ := gseq_ok (col := col) hn hnd p (by omega)
  have hne : (gseq n col nd p).1 ≠ 2 ^ n - 1 := fun e => by
    rw [e, bc_full n n (Nat.le_refl n)] at h2; omega
  obtain ⟨x, e1, e2, e4⟩ := pick_ok (col := col) (l := (gseq n col nd p).2) hn hnd h1 hne
  obtain ⟨q1, q2, -⟩ := canB_e.mp e2
  have e3 : gseq n col nd (p + 1) = ((gseq n col nd p).1 ||| 2 ^ x, (x : Int)) := by
    show ((gseq n col nd p).1 ||| 2 ^ (pick n col nd (gseq n col nd p).1 (gseq n col nd p).2).toNat, pick n col nd (gseq n col nd p).1 (gseq n col nd p).2) = _
    rw [e1]; rfl
  exact ⟨x, by unfold gat; rw [e3], q1, q2, e3, e2, e1, e4⟩
/-- S' is S but for rest, needs and the design's places in sequence -/
def sqS (S S' : Sto) (d : Int) : Prop := agr [12, 32, 9] S S' ∧ ∀ i : Int, 0 ≤ i → (i < 7 * d ∨ 7 * d + 7 ≤ i) → mg S' 9 i = mg S 9 i
theorem sqS.upd {S S' : Sto} {d : Int} (h : sqS S S' d) (d0 : 0 ≤ d) {p v : Int} (p0 : 0 ≤ p) (p1 : p < 7) : sqS S (updI S' (mt 9) (7 * d + p).toNat v) d :=
  ⟨h.1.upd (by simp), fun i i0 hi => by
    show (if mt 9 = mt 9 ∧ i.toNat = (7 * d + p).toNat then v else S'.2.1 (mt 9) i.toNat) = _
    rw [if_neg (by rintro ⟨-, e⟩; omega)]
    exact h.2 i i0 hi⟩
def s_laysSequence : Spec := fun as S post => match as with
  | [.inr (.inr (some 2)), .inl d] => MS S ∧ dshOK S d ∧ ∀ (S' : Sto) (nd : Nat → Nat), sqS S S' d → ndP S d nd (shN S d).toNat → (∀ p : Nat, p < (shN S d).toNat → mg S' 9 (7 * d + p) = gat (shN S d).toNat (colF S d) nd p) → post (.inl none) S'
  | _ => False
def spX7_laysSequence : Nat → CD := spF mdX7_laysSequence fun i => match i with
  | 1 => (s_laysRest, 0, 0, 5)
  | 2 => (s_change, 0, 0, 1)
  | _ => noR
set_option maxHeartbeats 4000000 in
set_option maxRecDepth 100000 in
theorem sat_X7_laysSequence : Sat mX7_laysSequence s_laysSequence 0 0 6 := by
  refine sat_of (E := eX7_laysSequence) (sp := spX7_laysSequence) (ini := false) (by decide +kernel) (fun h => by cases h) okX7_laysSequence (fun i => match i with
    | 1 => ⟨sat_X7_laysRest, Nat.le_of_ble_eq_true rfl⟩
    | 2 => ⟨sat_X7_change, Nat.le_of_ble_eq_true rfl⟩
    | i + 3 => ⟨sat_no _, Nat.le_of_ble_eq_true rfl⟩
    | 0 => ⟨sat_no _, Nat.le_of_ble_eq_true rfl⟩) ?_
  intro as S post h
  match as, h with
  | [.inr (.inr (some 2)), .inl d], h =>
    obtain ⟨hM, hsh, h⟩ := h
    have hsh2 := hsh
    obtain ⟨d0, d1, n1, n7, hs⟩ := hsh2
    obtain ⟨n, hn⟩ : ∃ n : Nat, shN S d = n := ⟨(shN S d).toNat, by omega⟩
    have hn7 : n ≤ 7 := by omega
    have hp7 : 2 ^ n ≤ 128 := Nat.pow_le_pow_right (n := 2) (by omega) hn7
    have hnt : (shN S d).toNat = n := by omega
    rw [hnt] at h
    refine bodyL [(20, fun m L st S' c => ∃ (p : Nat) (nd : Nat → Nat) (x6 x7 x8 x9 x10 : AV), L = [vT 2, vI d, vI n, vI (gseq n (colF S d) nd p).1, vI (gseq n (colF S d) nd p).2, vI p, x6, x7, x8, x9, x10] ∧ st = [] ∧ c = (0, 0) ∧ m = (7 - p) * 10 + 9 ∧ p ≤ n ∧ sqS S S' d ∧ ndP S d nd n ∧ ndA S' nd n ∧ tabP S S' d nd n 0 ∧ ∀ q : Nat, q < p → mg S' 9 (7 * d + q) = gat n (colF S d) nd q),
      (37, fun m L st S' c => ∃ (p x : Nat) (b f : Int) (nd : Nat → Nat) (x9 x10 : AV), L = [vT 2, vI d, vI n, vI (gseq n (colF S d) nd p).1, vI (gseq n (colF S d) nd p).2, vI p, vI f, vI b, vI x, x9, x10] ∧ st = [] ∧ c = (0, 0) ∧ m = (7 - p) * 10 + (7 - x) ∧ p < n ∧ x ≤ n ∧ sqS S S' d ∧ ndP S d nd n ∧ ndA S' nd n ∧ tabP S S' d nd n 0 ∧ (∀ q : Nat, q < p → mg S' 9 (7 * d + q) = gat n (colF S d) nd q) ∧ b = minTo (pkG n (colF S d) nd (gseq n (colF S d) nd p).1 (gseq n (colF S d) nd p).2) 1000 x ∧ f = argTo (pkG n (colF S d) nd (gseq n (colF S d) nd p).1 (gseq n (colF S d) nd p).2) 1000 x)] 100 200 rfl
      (List.forall_mem_cons.mpr ⟨?_, List.forall_mem_cons.mpr ⟨?_, fun q hq => by cases hq⟩⟩) ?_
    · rintro m L st S' c ⟨p, nd, x6, x7, x8, x9, x10, rfl, rfl, rfl, rfl, hp, hrs, hnd, hna, htab, hseq⟩
      have hM' := hrs.1.ms hM
      have hr := hM'.2.1
      have hM := hM'
      repeat' (first
          | omega
          | with_reducible apply And.intro
          | (intro c9; (try simp only [mg, mf, colK, stK, clK, mnK, shN] at c9))
          | exact hM
          | exact ms_o hM
          | (refine ms_r hM rfl rfl ?_ ?_ <;> (try simp only [mLen]) <;> omega)
          | (refine ms_w hM rfl rfl ?_ ?_ <;> (try simp only [mLen]) <;> omega)
          | (simp only [mg, mf, colK, stK, clK, mnK, shN]; omega)
          | refine Exists.intro _ (And.intro rfl ?_)
          | refine Exists.intro _ (And.intro ((congrFun hr _).trans rfl) ?_)
          | ((with_reducible show wp _ _ _ _ _ _ _ _ _ _ _ _ _ _); conv => whnf)
          | ((with_reducible show callK _ _ _ _ _ _ _ _ _); conv => whnf)
          | ((with_reducible show condK _ _ _ _ _); conv => whnf)
          | ((with_reducible show st1 _ _ _ _ _ _ _ _ _ _ _ _); conv => whnf)
          | ((with_reducible show (Prod.fst _ : Spec) _ _ _); conv => whnf)
          | ((with_reducible show shortK _ _); conv => whnf)
          | exact Nat.le_of_ble_eq_true rfl)
      · have e : p = n := by omega
        subst e
        exact h S' nd hrs hnd hseq
      · exact ⟨(7 - p) * 10 + (7 - 0), by omega, p, 0, 1000, -1, nd, x9, x10, rfl, rfl, rfl, rfl, by omega, by omega, hrs, hnd, hna, htab, hseq, rfl, rfl⟩
    · rintro m L st S' c ⟨p, x, b, f, nd, x9', x10, rfl, rfl, rfl, rfl, hp, hx, hrs, hnd, hna, htab, hseq, hb, hf⟩
      have hM' := hrs.1.ms hM
      have hr := hM'.2.1
      have hM := hM'
      obtain ⟨k1, k2, k3, k4⟩ := gseq_ok (col := colF S d) hn7 hnd.ok p (by omega)
      have hstep := gseq_step (col := colF S d) hn7 hnd.ok hp
      generalize hs9 : (gseq n (colF S d) nd p).1 = s at *
      generalize hl9 : (gseq n (colF S d) nd p).2 = l at *
      have hl0 : l = -1 ∨ 0 ≤ l ∧ l < n := by
        by_cases q : p = 0
        · exact Or.inl (k3 q)
        · exact Or.inr (k4 (by omega))
      have hb0 : 0 ≤ b ∧ b ≤ 1000 := by
        rw [hb]
        exact ⟨minTo_ge (by omega) x (fun y _ => (pkG_0 hn7 hnd.ok k1 y).1), (minTo_le x).1⟩
      by_cases hxn : x < n
      · have e4 := bz_or s x (by omega) (by omega)
        have e2 := bz_has s x (by omega) (by omega)
        have e3 : S'.2.1 (mt 32) (x : Int).toNat = nd x := hna x hxn
        have e5 := bz_sub (nd x) s ((hnd x hxn).1) (by omega)
        have e6 := bz_subR (nd x) s ((hnd x hxn).1) (by omega)
        have done_ : ∀ (b' f' : Int) (y9 y10 : AV), b' = (if pkG n (colF S d) nd s l x < b then pkG n (colF S d) nd s l x else b) → f' = (if pkG n (colF S d) nd s l x < b then (x : Int) else f) → ∃ m, m < (7 - p) * 10 + (7 - x) ∧ ∃ (p0 x0 : Nat) (b0 f0 : Int) (nd0 : Nat → Nat) (z9 z10 : AV), [vT 2, vI d, vI n, vI s, vI l, vI p, vI f', vI b', vI ((x : Int) + 1), y9, y10] = [vT 2, vI d, vI n, vI (gseq n (colF S d) nd0 p0).1, vI (gseq n (colF S d) nd0 p0).2, vI p0, vI f0, vI b0, vI x0, z9, z10] ∧ ([] : List AV) = [] ∧ ((0, 0) : Nat × Nat) = (0, 0) ∧ m = (7 - p0) * 10 + (7 - x0) ∧ p0 < n ∧ x0 ≤ n ∧ sqS S S' d ∧ ndP S d nd0 n ∧ ndA S' nd0 n ∧ tabP S S' d nd0 n 0 ∧ (∀ q : Nat, q < p0 → mg S' 9 (7 * d + q) = gat n (colF S d) nd0 q) ∧ b0 = minTo (pkG n (colF S d) nd0 (gseq n (colF S d) nd0 p0).1 (gseq n (colF S d) nd0 p0).2) 1000 x0 ∧ f0 = argTo (pkG n (colF S d) nd0 (gseq n (colF S d) nd0 p0).1 (gseq n (colF S d) nd0 p0).2) 1000 x0 := fun b' f' y9 y10 hb' hf' =>
          ⟨(7 - p) * 10 + (7 - (x + 1)), by omega, p, x + 1, b', f', nd, y9, y10, by rw [hs9, hl9, Int.natCast_add]; rfl, rfl, rfl, rfl, hp, by omega, hrs, hnd, hna, htab, hseq, by rw [hs9, hl9, hb', hb]; rfl, by rw [hs9, hl9, hf', hb, hf]; rfl⟩
        cases ht : s.testBit x with
        | true =>
          rw [ht] at e2
          have e2 : bAnd (bShr s x) 1 = 1 := e2
          have hg : pkG n (colF S d) nd s l x = 1000 := by unfold pkG; rw [if_neg]; rw [canB_e, ht]; rintro ⟨-, q, -⟩; cases q
          repeat' (first
              | omega
              | with_reducible apply And.intro
              | (intro c9; (try simp only [mg, mf, colK, stK, clK, mnK, shN, e2, e3] at c9))
              | exact hM
              | exact ms_o hM
              | (refine ms_r hM rfl rfl ?_ ?_ <;> (try simp only [mLen]) <;> omega)
              | (refine ms_w hM rfl rfl ?_ ?_ <;> (try simp only [mLen]) <;> omega)
              | (rw [e2]; omega)
              | (simp only [mg, mf, colK, stK, clK, mnK, shN, e2, e3]; omega)
              | refine Exists.intro _ (And.intro rfl ?_)
              | refine Exists.intro _ (And.intro ((congrFun hr _).trans rfl) ?_)
              | ((with_reducible show wp _ _ _ _ _ _ _ _ _ _ _ _ _ _); conv => whnf)
              | ((with_reducible show callK _ _ _ _ _ _ _ _ _); conv => whnf)
              | ((with_reducible show condK _ _ _ _ _); conv => whnf)
              | ((with_reducible show st1 _ _ _ _ _ _ _ _ _ _ _ _); conv => whnf)
              | ((with_reducible show (Prod.fst _ : Spec) _ _ _); conv => whnf)
              | ((with_reducible show shortK _ _); conv => whnf)
              | exact Nat.le_of_ble_eq_true rfl)
          all_goals exact done_ _ _ _ _ (by rw [hg, if_neg (by omega)]) (by rw [hg, if_neg (by omega)])
        | false =>
          rw [ht] at e2
          have e2 : bAnd (bShr s x) 1 = 0 := e2
          by_cases hnd9 : nd x &&& s = nd x
          · have e5 := e5.mpr hnd9
            have hlt := or_lt k1 hxn
            have hgt := or_gt ht
            have e7 : S'.2.1 (mt 12) (8 * ((s ||| 2 ^ x : Nat) : Int) + x).toNat = dpV n (colF S d) nd (s ||| 2 ^ x) x := htab (s ||| 2 ^ x) x (by omega) hlt hxn
            have hv := dpV_range (col := colF S d) hn7 hnd.ok (2 ^ n) (s ||| 2 ^ x) x hlt (by omega)
            have hcl : ∀ y : Int, 0 ≤ y → y < n → 0 ≤ colK S' d y ∧ colK S' d y < 6 := fun y y0 hy => by
              have h1 := hs y y0 (by omega)
              unfold shOK at h1
              have h2 := hrs.1.mg (k := 3) (i := 7 * d + y) (by simp)
              dsimp only [colK]; omega
            have hc1 : l = -1 ∨ 0 ≤ l ∧ l < n ∧ 0 ≤ colK S' d l ∧ colK S' d l < 6 := by
              rcases hl0 with q | ⟨q1, q2⟩
              · exact Or.inl q
              · exact Or.inr ⟨q1, q2, hcl l q1 q2⟩
            have hc2 := hcl x (by omega) (by omega)
            have hg1 : l = -1 → pkG n (colF S d) nd s l x = dpV n (colF S d) nd (s ||| 2 ^ x) x + 0 := fun q => by unfold pkG; rw [if_pos (canB_e.mpr ⟨hxn, ht, hnd9⟩), if_pos q]
            have hg2 : ∀ z : Int, l ≠ -1 → (colK S' d l = colK S' d x ∧ z = 0 ∨ colK S' d l ≠ colK S' d x ∧ z = 1) → pkG n (colF S d) nd s l x = dpV n (colF S d) nd (s ||| 2 ^ x) x + z := fun z q hz => by
              unfold pkG
              rw [if_pos (canB_e.mpr ⟨hxn, ht, hnd9⟩), if_neg q]
              have h2 := hrs.1.mg (k := 3) (i := 7 * d + x) (by simp)
              have h3 := hrs.1.mg (k := 3) (i := 7 * d + l) (by simp)
              have h4 : ((l.toNat : Nat) : Int) = l := by omega
              congr 1
              unfold chg colF
              dsimp only [colK] at *
              rw [h4]
              split <;> omega
            dsimp only [mg, mf, colK, stK, clK, mnK, shN] at hc1 hc2 hg2
            repeat' (first
                | omega
                | with_reducible apply And.intro
                | (intro c9; (try simp only [mg, mf, colK, stK, clK, mnK, shN, e2, e3, e4, e5, e7] at c9))
                | exact hM
                | exact ms_o hM
                | (refine ms_r hM rfl rfl ?_ ?_ <;> (try simp only [mLen]) <;> omega)
                | (refine ms_w hM rfl rfl ?_ ?_ <;> (try simp only [mLen]) <;> omega)
                | (rw [e2]; omega)
                | (rw [e3, e5]; omega)
                | (rw [e4]; (refine ms_r hM rfl rfl ?_ ?_ <;> (try simp only [mLen]) <;> omega))
                | (simp only [mg, mf, colK, stK, clK, mnK, shN, e2, e3, e4, e5, e7]; omega)
                | refine Exists.intro _ (And.intro rfl ?_)
                | refine Exists.intro _ (And.intro ((congrFun hr _).trans rfl) ?_)
                | ((with_reducible show wp _ _ _ _ _ _ _ _ _ _ _ _ _ _); conv => whnf)
                | ((with_reducible show callK _ _ _ _ _ _ _ _ _); conv => whnf)
                | ((with_reducible show condK _ _ _ _ _); conv => whnf)
                | ((with_reducible show st1 _ _ _ _ _ _ _ _ _ _ _ _); conv => whnf)
                | ((with_reducible show (Prod.fst _ : Spec) _ _ _); conv => whnf)
                | ((with_reducible show shortK _ _); conv => whnf)
                | exact Nat.le_of_ble_eq_true rfl)
            · rename_i hl r9 hz _
              have q := hg2 r9 hl hz
              exact done_ _ _ _ _ (by rw [q, if_neg (by omega)]) (by rw [q, if_neg (by omega)])
            · rename_i hl r9 hz _
              have q := hg2 r9 hl hz
              refine done_ _ _ _ _ ?_ (by rw [q, if_pos (by omega)])
              rw [q, if_pos (by omega), e4]
              exact congrArg (· + _) e7
            · have q := hg1 (by omega)
              exact done_ _ _ _ _ (by rw [q, if_neg (by omega)]) (by rw [q, if_neg (by omega)])
            · have q := hg1 (by omega)
              refine done_ _ _ _ _ ?_ (by rw [q, if_pos (by omega)])
              rw [q, if_pos (by omega), e4]
              exact congrArg (· + _) e7
          · have e5 := fun q => hnd9 (e5.mp q)
            have hg : pkG n (colF S d) nd s l x = 1000 := by unfold pkG; rw [if_neg]; rw [canB_e]; rintro ⟨-, -, q⟩; exact hnd9 q
            repeat' (first
                | omega
                | with_reducible apply And.intro
                | (intro c9; (try simp only [mg, mf, colK, stK, clK, mnK, shN, e2, e3] at c9))
                | exact hM
                | exact ms_o hM
                | (refine ms_r hM rfl rfl ?_ ?_ <;> (try simp only [mLen]) <;> omega)
                | (refine ms_w hM rfl rfl ?_ ?_ <;> (try simp only [mLen]) <;> omega)
                | (rw [e2]; omega)
                | (rw [e3]; omega)
                | (exfalso; exact e5 ‹_›)
                | (simp only [mg, mf, colK, stK, clK, mnK, shN, e2, e3]; omega)
                | refine Exists.intro _ (And.intro rfl ?_)
                | refine Exists.intro _ (And.intro ((congrFun hr _).trans rfl) ?_)
                | ((with_reducible show wp _ _ _ _ _ _ _ _ _ _ _ _ _ _); conv => whnf)
                | ((with_reducible show callK _ _ _ _ _ _ _ _ _); conv => whnf)
                | ((with_reducible show condK _ _ _ _ _); conv => whnf)
                | ((with_reducible show st1 _ _ _ _ _ _ _ _ _ _ _ _); conv => whnf)
                | ((with_reducible show (Prod.fst _ : Spec) _ _ _); conv => whnf)
                | ((with_reducible show shortK _ _); conv => whnf)
                | exact Nat.le_of_ble_eq_true rfl)
            all_goals exact done_ _ _ _ _ (by rw [hg, if_neg (by omega)]) (by rw [hg, if_neg (by omega)])
      · have e : x = n := by omega
        obtain ⟨x9, g1, g2, g3, g4, g5, g6, g7⟩ := hstep
        have hf9 : f = x9 := by rw [hf, e]; exact g6
        subst hf9
        have e4 := bz_or s x9 (by omega) (by omega)
        repeat' (first
            | omega
            | with_reducible apply And.intro
            | (intro c9; (try simp only [mg, mf, colK, stK, clK, mnK, shN, e4] at c9))
            | exact hM
            | exact ms_o hM
            | (refine ms_r hM rfl rfl ?_ ?_ <;> (try simp only [mLen]) <;> omega)
            | (refine ms_w hM rfl rfl ?_ ?_ <;> (try simp only [mLen]) <;> omega)
            | (simp only [mg, mf, colK, stK, clK, mnK, shN, e4]; omega)
            | refine Exists.intro _ (And.intro rfl ?_)
            | refine Exists.intro _ (And.intro ((congrFun hr _).trans rfl) ?_)
            | ((with_reducible show wp _ _ _ _ _ _ _ _ _ _ _ _ _ _); conv => whnf)
            | ((with_reducible show callK _ _ _ _ _ _ _ _ _); conv => whnf)
            | ((with_reducible show condK _ _ _ _ _); conv => whnf)
            | ((with_reducible show st1 _ _ _ _ _ _ _ _ _ _ _ _); conv => whnf)
            | ((with_reducible show (Prod.fst _ : Spec) _ _ _); conv => whnf)
            | ((with_reducible show shortK _ _); conv => whnf)
            | exact Nat.le_of_ble_eq_true rfl)
        refine ⟨(7 - (p + 1)) * 10 + 9, by omega, p + 1, nd, vI x9, vI b, vI x, x9', x10, ?_, rfl, rfl, rfl, by omega, hrs.upd d0 (by omega) (by omega), hnd, hna, htab, fun q hq => ?_⟩
        · show [vT 2, vI d, vI n, vI (bOr s (bShl 1 x9)), vI x9, vI ((p : Int) + 1), _, _, _, _, _] = _
          rw [g4, e4, Int.natCast_add]; rfl
        · show (if mt 9 = mt 9 ∧ (7 * d + (q : Int)).toNat = (7 * d + (p : Int)).toNat then (x9 : Int) else S'.2.1 (mt 9) (7 * d + (q : Int)).toNat) = _
          by_cases e : q = p
          · subst e
            rw [if_pos ⟨rfl, rfl⟩, g1]
          · rw [if_neg (by rintro ⟨-, e2⟩; omega)]; exact hseq q (by omega)
    · have hr := hM.2.1
      have hM := hM
      have : shN S d = n := hn
      repeat' (first
          | omega
          | with_reducible apply And.intro
          | (intro c9; (try simp only [mg, mf, colK, stK, clK, mnK, shN] at c9))
          | exact hM
          | exact ms_o hM
          | (refine ms_r hM rfl rfl ?_ ?_ <;> (try simp only [mLen]) <;> omega)
          | (refine ms_w hM rfl rfl ?_ ?_ <;> (try simp only [mLen]) <;> omega)
          | exact hsh
          | exact ms_o (rsS.ms ‹rsS S _› hM)
          | (refine ms_r (rsS.ms ‹rsS S _› hM) rfl rfl ?_ ?_ <;> (try simp only [mLen]) <;> omega)
          | (simp only [mg, mf, colK, stK, clK, mnK, shN]; omega)
          | refine Exists.intro _ (And.intro rfl ?_)
          | refine Exists.intro _ (And.intro ((congrFun hr _).trans rfl) ?_)
          | refine Exists.intro _ (And.intro ((congrFun (rsS.ms ‹rsS S _› hM).2.1 _).trans rfl) ?_)
          | ((with_reducible show wp _ _ _ _ _ _ _ _ _ _ _ _ _ _); conv => whnf)
          | ((with_reducible show callK _ _ _ _ _ _ _ _ _); conv => whnf)
          | ((with_reducible show condK _ _ _ _ _); conv => whnf)
          | ((with_reducible show st1 _ _ _ _ _ _ _ _ _ _ _ _); conv => whnf)
          | ((with_reducible show (Prod.fst _ : Spec) _ _ _); conv => whnf)
          | ((with_reducible show shortK _ _); conv => whnf)
          | exact Nat.le_of_ble_eq_true rfl)
      rename_i S1 nd hrs hnd hna
      have hnd : ndP S d nd n := by rw [← hnt]; exact hnd
      have hna : ndA S1 nd n := by rw [← hnt]; exact hna
      have c9 : tabP S S1 d nd n 0 := by rw [← hnt]; exact c9
      have hn1 : S1.2.1 (mt 1) d.toNat = n := (hrs.mg (k := 1) (by omega) (by omega)).trans hn
      refine ⟨79, by omega, 0, nd, uu, uu, uu, uu, uu, ?_, rfl, rfl, rfl, by omega, ⟨hrs.agr.sub (by simp), fun i _ _ => hrs.mg (by omega) (by omega)⟩, hnd, hna, c9, fun q hq => absurd hq (by omega)⟩
      show [vT 2, vI d, vI (S1.2.1 (mt 1) d.toNat), vI 0, vI (-1), vI 0, uu, uu, uu, uu, uu] = _
      rw [hn1]; rfl
