/-! THE CLASS: spools, machines, orders -/
def spC (S : Sto) (u : Nat) : Prop := S.1 u = some (5, 1) ∧ S.2.2 u 0 = some (u + 1) ∧ S.1 (u + 1) = some (100, 18)
def s_spInit : Spec := fun as S post => match as with
  | [.inr (.inr (some u))] => (S.1 u = some (5, 1) ∧ S.1 (u + 1) = none) ∧ post (.inl none) (updR (newS S (u + 1) (100, 18)) u 0 (some (u + 1)))
  | _ => False
def spX5_init : Nat → CD := spF mdX5_init fun i => match i with
  | _ => noR
set_option maxHeartbeats 4000000 in
set_option maxRecDepth 100000 in
theorem sat_X5_init : Sat mX5_init s_spInit 1 18 1 := by
  refine sat_of (E := eX5_init) (sp := spX5_init) (ini := true) (by decide +kernel) (fun h => by rfl) okX5_init (fun i => match i with
    | _ => ⟨sat_no _, Nat.le_of_ble_eq_true rfl⟩) ?_
  intro as S post h
  match as, h with
  | [.inr (.inr (some u))], h =>
    obtain ⟨⟨h1, h2⟩, h⟩ := h
    have h3 : ∃ n, (newS S (u + 1) (100, 18)).1 u = some (5, n) := ⟨1, by rw [newS_1, if_neg (by omega)]; exact h1⟩
    refine body0 40 rfl ?_
    repeat' (first
        | omega
        | with_reducible apply And.intro
        | (intro c9; (try simp only [mg, mf, colK, stK, clK, mnK, shN] at c9))
        | refine Exists.intro (u + 1) (And.intro h2 ?_)
        | exact h3
        | exact kr_i ( h ) (Nat.le_of_ble_eq_true rfl) (Nat.le_of_ble_eq_true rfl)
        | (simp only [mg, mf, colK, stK, clK, mnK, shN]; omega)
        | refine Exists.intro _ (And.intro rfl ?_)
        | ((with_reducible show wp _ _ _ _ _ _ _ _ _ _ _ _ _ _); conv => whnf)
        | ((with_reducible show callK _ _ _ _ _ _ _ _ _); conv => whnf)
        | ((with_reducible show condK _ _ _ _ _); conv => whnf)
        | ((with_reducible show st1 _ _ _ _ _ _ _ _ _ _ _ _); conv => whnf)
        | ((with_reducible show (Prod.fst _ : Spec) _ _ _); conv => whnf)
        | ((with_reducible show shortK _ _); conv => whnf)
        | exact Nat.le_of_ble_eq_true rfl)
def spK (S : Sto) (u : Nat) (c s : Int) : Int := S.2.1 (u + 1) (3 * c + s).toNat
def s_count : Spec := fun as S post => match as with
  | [.inr (.inr (some u)), .inl c, .inl s] => spC S u ∧ (InR c ∧ InR s) ∧ post (.inl (some (vI (if 0 ≤ c ∧ c < 6 ∧ 0 ≤ s ∧ s < 3 then spK S u c s else 0)))) S
  | _ => False
def spX5_count : Nat → CD := spF mdX5_count fun i => match i with
  | 1 => (s_isColour, 0, 0, 1)
  | 2 => (s_isShade, 0, 0, 1)
  | _ => noR
set_option maxHeartbeats 4000000 in
set_option maxRecDepth 100000 in
theorem sat_X5_count : Sat mX5_count s_count 0 0 2 := by
  refine sat_of (E := eX5_count) (sp := spX5_count) (ini := false) (by decide +kernel) (fun h => by cases h) okX5_count (fun i => match i with
    | 1 => ⟨sat_X6_isColour, Nat.le_of_ble_eq_true rfl⟩
    | 2 => ⟨sat_X6_isShade, Nat.le_of_ble_eq_true rfl⟩
    | i + 3 => ⟨sat_no _, Nat.le_of_ble_eq_true rfl⟩
    | 0 => ⟨sat_no _, Nat.le_of_ble_eq_true rfl⟩) ?_
  intro as S post h
  match as, h with
  | [.inr (.inr (some u)), .inl c, .inl s], h =>
    obtain ⟨⟨h1, h2, h3⟩, hin, h⟩ := h
    unfold spK at h
    refine body0 60 rfl ?_
    repeat' (first
        | omega
        | with_reducible apply And.intro
        | (intro c9; (try simp only [mg, mf, colK, stK, clK, mnK, shN] at c9))
        | exact ⟨1, h1⟩
        | exact ⟨100, 18, h3, Or.inl rfl, by omega, by omega⟩
        | (simp only [mg, mf, colK, stK, clK, mnK, shN]; omega)
        | refine Exists.intro _ (And.intro rfl ?_)
        | refine Exists.intro _ (And.intro (h2) ?_)
        | ((with_reducible show wp _ _ _ _ _ _ _ _ _ _ _ _ _ _); conv => whnf)
        | ((with_reducible show callK _ _ _ _ _ _ _ _ _); conv => whnf)
        | ((with_reducible show condK _ _ _ _ _); conv => whnf)
        | ((with_reducible show st1 _ _ _ _ _ _ _ _ _ _ _ _); conv => whnf)
        | ((with_reducible show (Prod.fst _ : Spec) _ _ _); conv => whnf)
        | ((with_reducible show shortK _ _); conv => whnf)
        | exact Nat.le_of_ble_eq_true rfl)
    all_goals first
      | (rw [if_neg (by omega)] at h; exact h)
      | (rw [if_pos (by omega), show 3 * c + s = c * 3 + s by omega] at h; exact h)
def s_add : Spec := fun as S post => match as with
  | [.inr (.inr (some u)), .inl c, .inl s, .inl n] => spC S u ∧ (0 ≤ c ∧ c < 6 ∧ 0 ≤ s ∧ s < 3) ∧ post (.inl none) (updI S (u + 1) (3 * c + s).toNat (spK S u c s + n))
  | _ => False
def spX5_add : Nat → CD := spF mdX5_add fun i => match i with
  | 1 => (s_isColour, 0, 0, 1)
  | 2 => (s_isShade, 0, 0, 1)
  | _ => noR
set_option maxHeartbeats 4000000 in
set_option maxRecDepth 100000 in
theorem sat_X5_add : Sat mX5_add s_add 0 0 2 := by
  refine sat_of (E := eX5_add) (sp := spX5_add) (ini := false) (by decide +kernel) (fun h => by cases h) okX5_add (fun i => match i with
    | 1 => ⟨sat_X6_isColour, Nat.le_of_ble_eq_true rfl⟩
    | 2 => ⟨sat_X6_isShade, Nat.le_of_ble_eq_true rfl⟩
    | i + 3 => ⟨sat_no _, Nat.le_of_ble_eq_true rfl⟩
    | 0 => ⟨sat_no _, Nat.le_of_ble_eq_true rfl⟩) ?_
  intro as S post h
  match as, h with
  | [.inr (.inr (some u)), .inl c, .inl s, .inl n], h =>
    obtain ⟨⟨h1, h2, h3⟩, hin, h⟩ := h
    unfold spK at h
    rw [show 3 * c + s = c * 3 + s by omega] at h
    refine body0 60 rfl ?_
    repeat' (first
        | omega
        | with_reducible apply And.intro
        | (intro c9; (try simp only [mg, mf, colK, stK, clK, mnK, shN] at c9))
        | exact ⟨1, h1⟩
        | exact ⟨100, 18, h3, Or.inl rfl, by omega, by omega⟩
        | exact ⟨18, h3, by omega, by omega⟩
        | exact kr_i ( h ) (Nat.le_of_ble_eq_true rfl) (Nat.le_of_ble_eq_true rfl)
        | (simp only [mg, mf, colK, stK, clK, mnK, shN]; omega)
        | refine Exists.intro _ (And.intro rfl ?_)
        | refine Exists.intro _ (And.intro (h2) ?_)
        | ((with_reducible show wp _ _ _ _ _ _ _ _ _ _ _ _ _ _); conv => whnf)
        | ((with_reducible show callK _ _ _ _ _ _ _ _ _); conv => whnf)
        | ((with_reducible show condK _ _ _ _ _); conv => whnf)
        | ((with_reducible show st1 _ _ _ _ _ _ _ _ _ _ _ _); conv => whnf)
        | ((with_reducible show (Prod.fst _ : Spec) _ _ _); conv => whnf)
        | ((with_reducible show shortK _ _); conv => whnf)
        | exact Nat.le_of_ble_eq_true rfl)
/-- a machine of the class -/
def mcC (S : Sto) (u : Nat) : Prop := S.1 u = some (1, 9) ∧ S.2.2 u 8 = some (u + 1) ∧ S.1 (u + 1) = some (100, 6)
def s_mcInit : Spec := fun as S post => match as with
  | [.inr (.inr (some u)), .inl i, .inl a, .inl w, .inl g] => (S.1 u = some (1, 9) ∧ S.1 (u + 1) = none) ∧ post (.inl none) (updI (updI (updI (updI (updR (newS S (u + 1) (100, 6)) u 8 (some (u + 1))) u 0 i) u 1 a) u 2 w) u 3 g)
  | _ => False
def spX1_init : Nat → CD := spF mdX1_init fun i => match i with
  | _ => noR
set_option maxHeartbeats 4000000 in
set_option maxRecDepth 100000 in
theorem sat_X1_init : Sat mX1_init s_mcInit 1 6 1 := by
  refine sat_of (E := eX1_init) (sp := spX1_init) (ini := true) (by decide +kernel) (fun h => by rfl) okX1_init (fun i => match i with
    | _ => ⟨sat_no _, Nat.le_of_ble_eq_true rfl⟩) ?_
  intro as S post h
  match as, h with
  | [.inr (.inr (some u)), .inl i, .inl a, .inl w, .inl g], h =>
    obtain ⟨⟨h1, h2⟩, h⟩ := h
    have h3 : ∃ n, (newS S (u + 1) (100, 6)).1 u = some (1, n) := ⟨9, by rw [newS_1, if_neg (by omega)]; exact h1⟩
    refine body0 80 rfl ?_
    repeat' (first
        | omega
        | with_reducible apply And.intro
        | (intro c9; (try simp only [mg, mf, colK, stK, clK, mnK, shN] at c9))
        | refine Exists.intro (u + 1) (And.intro h2 ?_)
        | exact h3
        | exact kr_i ( h ) (Nat.le_of_ble_eq_true rfl) (Nat.le_of_ble_eq_true rfl)
        | (simp only [mg, mf, colK, stK, clK, mnK, shN]; omega)
        | refine Exists.intro _ (And.intro rfl ?_)
        | ((with_reducible show wp _ _ _ _ _ _ _ _ _ _ _ _ _ _); conv => whnf)
        | ((with_reducible show callK _ _ _ _ _ _ _ _ _); conv => whnf)
        | ((with_reducible show condK _ _ _ _ _); conv => whnf)
        | ((with_reducible show st1 _ _ _ _ _ _ _ _ _ _ _ _); conv => whnf)
        | ((with_reducible show (Prod.fst _ : Spec) _ _ _); conv => whnf)
        | ((with_reducible show shortK _ _); conv => whnf)
        | exact Nat.le_of_ble_eq_true rfl)
/-- the colours held, as a number -/
def hlC (S : Sto) (u : Nat) (b : Nat) : Prop := b < 64 ∧ S.2.1 u 6 = b
theorem bz6 (n k : Nat) (h : n < 64) (hk : k < 6) : (bAnd (bShr (n : Int) (k : Int)) 1 = 1 ∧ n.testBit k = true) ∨ (bAnd (bShr (n : Int) (k : Int)) 1 = 0 ∧ n.testBit k = false) := by
  have e := bz_has n k (by omega) (by omega)
  cases hb : n.testBit k with
  | true => rw [hb, if_pos rfl] at e; exact Or.inl ⟨e, rfl⟩
  | false => rw [hb, if_neg (by simp)] at e; exact Or.inr ⟨e, rfl⟩
/-- r is the first one of the first n colours held whose latest stitch is oldest -/
def oldP (S : Sto) (u b n : Nat) (r : Int) : Prop := (r = -1 ∧ ∀ k : Nat, k < n → b.testBit k = false) ∨ ∃ q : Nat, r = q ∧ q < n ∧ b.testBit q = true ∧ ∀ k : Nat, k < n → b.testBit k = true → S.2.1 (u + 1) q ≤ S.2.1 (u + 1) k
def s_longestAgo : Spec := fun as S post => match as with
  | [.inr (.inr (some u))] => ∃ b, mcC S u ∧ hlC S u b ∧ (∀ k : Nat, k < 6 → InR (S.2.1 (u + 1) k)) ∧ ∀ r, oldP S u b 6 r → post (.inl (some (vI r))) S
  | _ => False
def spX1_longestAgo : Nat → CD := spF mdX1_longestAgo fun i => match i with
  | _ => noR
set_option maxHeartbeats 4000000 in
set_option maxRecDepth 100000 in
theorem sat_X1_longestAgo : Sat mX1_longestAgo s_longestAgo 0 0 1 := by
  refine sat_of (E := eX1_longestAgo) (sp := spX1_longestAgo) (ini := false) (by decide +kernel) (fun h => by cases h) okX1_longestAgo (fun i => match i with
    | _ => ⟨sat_no _, Nat.le_of_ble_eq_true rfl⟩) ?_
  intro as S post h
  match as, h with
  | [.inr (.inr (some u))], h =>
    obtain ⟨b, ⟨h1, h2, h3⟩, ⟨hb, hh⟩, hl, h⟩ := h
    refine bodyL [(4, fun ms L st S' c => ∃ (r : Int) (k : Nat), L = [vT u, vI r, vI k] ∧ st = [] ∧ S' = S ∧ c = (0, 0) ∧ ms = 6 - k ∧ k ≤ 6 ∧ oldP S u b k r)] 10 80 rfl
      (List.forall_mem_cons.mpr ⟨?_, fun q hq => by cases hq⟩) ?_
    · rintro ms L st S' c ⟨r, k, rfl, rfl, rfl, rfl, rfl, hk, ho⟩
      have hr : r = -1 ∨ ∃ q : Nat, r = q ∧ q < 6 := by
        rcases ho with q | ⟨q, q1, q2, -⟩
        · exact Or.inl q.1
        · exact Or.inr ⟨q, q1, by omega⟩
      have hrr : -1 ≤ r ∧ r < 6 := by
        rcases hr with q | ⟨q, q1, q2⟩ <;> omega
      have hbit := fun q : k < 6 => bz6 b k hb q
      have hlk := fun q : k < 6 => hl k q
      have hlr : r ≠ -1 → InR (S'.2.1 (u + 1) r.toNat) := fun q => hl r.toNat (by omega)
      unfold InR at hlk hlr
      rw [← hh] at hbit
      repeat' (first
          | omega
          | with_reducible apply And.intro
          | (intro c9; (try simp only [mg, mf, colK, stK, clK, mnK, shN] at c9))
          | exact ⟨9, h1⟩
          | refine ⟨100, 6, h3, by omega, ?_⟩
          | exact ⟨100, 6, h3, Or.inl rfl, by omega, by omega⟩
          | (have q := hbit (by omega); omega)
          | exact (hlk (by omega)).1
          | exact (hlk (by omega)).2
          | exact (hlr (by omega)).1
          | exact (hlr (by omega)).2
          | (simp only [mg, mf, colK, stK, clK, mnK, shN]; omega)
          | refine Exists.intro _ (And.intro rfl ?_)
          | refine Exists.intro _ (And.intro (h2) ?_)
          | ((with_reducible show wp _ _ _ _ _ _ _ _ _ _ _ _ _ _); conv => whnf)
          | ((with_reducible show callK _ _ _ _ _ _ _ _ _); conv => whnf)
          | ((with_reducible show condK _ _ _ _ _); conv => whnf)
          | ((with_reducible show st1 _ _ _ _ _ _ _ _ _ _ _ _); conv => whnf)
          | ((with_reducible show (Prod.fst _ : Spec) _ _ _); conv => whnf)
          | ((with_reducible show shortK _ _); conv => whnf)
          | exact Nat.le_of_ble_eq_true rfl)
      · have e : k = 6 := by omega
        subst e
        exact h _ ho
      · have hbt : b.testBit k = false := by rcases hbit (by omega) with q | q; omega; exact q.2
        refine ⟨6 - (k + 1), by omega, r, k + 1, by rw [Int.natCast_add]; rfl, rfl, rfl, rfl, rfl, by omega, ?_⟩
        rcases ho with q | ⟨q, q1, q2, q3, q4⟩
        · refine Or.inl ⟨q.1, fun j hj => ?_⟩
          by_cases e : j = k
          · rw [e]; exact hbt
          · exact q.2 j (by omega)
        · refine Or.inr ⟨q, q1, by omega, q3, fun j hj hjb => ?_⟩
          by_cases e : j = k
          · rw [e, hbt] at hjb; cases hjb
          · exact q4 j (by omega) hjb
      · have hbt : b.testBit k = true := by rcases hbit (by omega) with q | q; exact q.2; omega
        refine ⟨6 - (k + 1), by omega, k, k + 1, by rw [Int.natCast_add]; rfl, rfl, rfl, rfl, rfl, by omega, Or.inr ⟨k, rfl, by omega, hbt, fun j hj hjb => ?_⟩⟩
        by_cases e : j = k
        · rw [e]; exact Int.le_refl _
        · rcases ho with q | ⟨q, q1, q2, q3, q4⟩
          · have := q.2 j (by omega); rw [this] at hjb; cases hjb
          · omega
      · have hbt : b.testBit k = true := by rcases hbit (by omega) with q | q; exact q.2; omega
        refine ⟨6 - (k + 1), by omega, r, k + 1, by rw [Int.natCast_add]; rfl, rfl, rfl, rfl, rfl, by omega, ?_⟩
        rcases ho with q | ⟨q, q1, q2, q3, q4⟩
        · omega
        · subst q1
          refine Or.inr ⟨q, rfl, by omega, q3, fun j hj hjb => ?_⟩
          by_cases e : j = k
          · rw [e]; exact c9
          · exact q4 j (by omega) hjb
      · have hbt : b.testBit k = true := by rcases hbit (by omega) with q | q; exact q.2; omega
        refine ⟨6 - (k + 1), by omega, k, k + 1, by rw [Int.natCast_add]; rfl, rfl, rfl, rfl, rfl, by omega, Or.inr ⟨k, rfl, by omega, hbt, fun j hj hjb => ?_⟩⟩
        by_cases e : j = k
        · rw [e]; exact Int.le_refl _
        · rcases ho with q | ⟨q, q1, q2, q3, q4⟩
          · omega
          · subst q1
            have := q4 j (by omega) hjb
            have z : S'.2.1 (u + 1) k < S'.2.1 (u + 1) q := c9
            omega
    · repeat' (first
          | omega
          | with_reducible apply And.intro
          | (intro c9; (try simp only [mg, mf, colK, stK, clK, mnK, shN] at c9))
          | (simp only [mg, mf, colK, stK, clK, mnK, shN]; omega)
          | refine Exists.intro _ (And.intro rfl ?_)
          | ((with_reducible show wp _ _ _ _ _ _ _ _ _ _ _ _ _ _); conv => whnf)
          | ((with_reducible show callK _ _ _ _ _ _ _ _ _); conv => whnf)
          | ((with_reducible show condK _ _ _ _ _); conv => whnf)
          | ((with_reducible show st1 _ _ _ _ _ _ _ _ _ _ _ _); conv => whnf)
          | ((with_reducible show (Prod.fst _ : Spec) _ _ _); conv => whnf)
          | ((with_reducible show shortK _ _); conv => whnf)
          | exact Nat.le_of_ble_eq_true rfl)
      exact ⟨6, by omega, -1, 0, rfl, rfl, rfl, rfl, rfl, by omega, Or.inl ⟨rfl, fun k hk => by omega⟩⟩
/-- S' is S but for the ints at the places ks of the object u -/
def obj (u : Nat) (ks : List Nat) (S S' : Sto) : Prop := S'.1 = S.1 ∧ S'.2.2 = S.2.2 ∧ (∀ t, t ≠ u → S'.2.1 t = S.2.1 t) ∧ ∀ k, k ∉ ks → S'.2.1 u k = S.2.1 u k
theorem obj.rf {u : Nat} {ks : List Nat} {S : Sto} : obj u ks S S := ⟨rfl, rfl, fun _ _ => rfl, fun _ _ => rfl⟩
theorem obj.sub {u : Nat} {ks ks' : List Nat} {S S' : Sto} (h : obj u ks S S') (hs : ∀ k ∈ ks, k ∈ ks') : obj u ks' S S' := ⟨h.1, h.2.1, h.2.2.1, fun k hk => h.2.2.2 k fun q => hk (hs k q)⟩
theorem obj.upd {u : Nat} {ks : List Nat} {S S' : Sto} (h : obj u ks S S') {k : Nat} {v : Int} (hk : k ∈ ks) : obj u ks S (updI S' u k v) :=
  ⟨h.1, h.2.1, fun t ht => by
    funext j
    show (if t = u ∧ j = k then v else S'.2.1 t j) = _
    rw [if_neg (fun q => ht q.1), h.2.2.1 t ht], fun j hj => by
    show (if u = u ∧ j = k then v else S'.2.1 u j) = _
    rw [if_neg (fun q => hj (by rw [q.2]; exact hk)), h.2.2.2 j hj]⟩
/-- a colour c is loaded: b the colours held ahead of it, b' behind -/
def ldP (S : Sto) (u b c b' : Nat) : Prop := (S.2.1 u 1 ≤ (pc6 b : Int) ∧ ∃ q : Nat, oldP S u b 6 q ∧ b' = (b - 2 ^ q) ||| 2 ^ c) ∨ ((pc6 b : Int) < S.2.1 u 1 ∧ b' = b ||| 2 ^ c)
theorem bz_clr : ∀ n : Nat, n < 64 → ∀ k : Nat, k < 6 → n.testBit k = true → bAnd (n : Int) (bXor (bShl 1 (k : Int)) (-1)) = ((n - 2 ^ k : Nat) : Int) := by decide +kernel
theorem pc6_lt (b : Nat) (h : b < 64) : pc6 b ≤ 6 := by
  have : ∀ b : Nat, b < 64 → pc6 b ≤ 6 := by decide +kernel
  exact this b h
theorem pc6_0 : ∀ b : Nat, b < 64 → pc6 b ≠ 0 → ∃ k : Nat, k < 6 ∧ b.testBit k = true := by decide +kernel
def s_load : Spec := fun as S post => match as with
  | [.inr (.inr (some u)), .inl c] => ∃ b : Nat, mcC S u ∧ hlC S u b ∧ (∀ k : Nat, k < 6 → InR (S.2.1 (u + 1) k)) ∧ (0 ≤ c ∧ c < 6 ∧ 1 ≤ S.2.1 u 1 ∧ S.2.1 u 1 ≤ 6) ∧ ∀ (b' : Nat) S', ldP S u b c.toNat b' → obj u [5, 6] S S' → S'.2.1 u 6 = b' → S'.2.1 u 5 = S.2.1 u 5 + 1 → post (.inl none) S'
  | _ => False
def spX1_load : Nat → CD := spF mdX1_load fun i => match i with
  | 1 => (s_bitCount, 0, 0, 1)
  | 2 => (s_longestAgo, 0, 0, 1)
  | _ => noR
set_option maxHeartbeats 4000000 in
set_option maxRecDepth 100000 in
theorem sat_X1_load : Sat mX1_load s_load 0 0 2 := by
  refine sat_of (E := eX1_load) (sp := spX1_load) (ini := false) (by decide +kernel) (fun h => by cases h) okX1_load (fun i => match i with
    | 1 => ⟨sat_J6_bitCount_0f7a4, Nat.le_of_ble_eq_true rfl⟩
    | 2 => ⟨sat_X1_longestAgo, Nat.le_of_ble_eq_true rfl⟩
    | i + 3 => ⟨sat_no _, Nat.le_of_ble_eq_true rfl⟩
    | 0 => ⟨sat_no _, Nat.le_of_ble_eq_true rfl⟩) ?_
  intro as S post h
  match as, h with
  | [.inr (.inr (some u)), .inl c], h =>
    obtain ⟨b, hC, ⟨hb, hh⟩, hl, hc, h⟩ := h
    have hC2 := hC
    obtain ⟨h1, h2, h3⟩ := hC2
    have hpc := pc6_lt b hb
    have hbt : (S.2.1 u 6).toNat = b := by omega
    refine bodyL [(31, fun ms L st S' cc => ∃ b1 : Nat, L = [vT u, vI c] ∧ st = [] ∧ cc = (0, 0) ∧ ms = 0 ∧ b1 < 64 ∧ S'.2.1 u 6 = b1 ∧ obj u [6] S S' ∧ ((S.2.1 u 1 ≤ (pc6 b : Int) ∧ ∃ q : Nat, oldP S u b 6 q ∧ b1 = b - 2 ^ q) ∨ ((pc6 b : Int) < S.2.1 u 1 ∧ b1 = b)))] 1 80 rfl
      (List.forall_mem_cons.mpr ⟨?_, fun q hq => by cases hq⟩) ?_
    · rintro ms L st S' cc ⟨b1, rfl, rfl, rfl, rfl, hb1, hh1, hob, hcase⟩
      have h1' : S'.1 u = some (1, 9) := by rw [hob.1]; exact h1
      have e := bz_or b1 c.toNat (by omega) (by omega)
      rw [← hh1, show ((c.toNat : Nat) : Int) = c by omega] at e
      repeat' (first
          | omega
          | with_reducible apply And.intro
          | (intro c9; (try simp only [mg, mf, colK, stK, clK, mnK, shN] at c9))
          | exact ⟨9, h1'⟩
          | (simp only [mg, mf, colK, stK, clK, mnK, shN]; omega)
          | refine Exists.intro _ (And.intro rfl ?_)
          | ((with_reducible show wp _ _ _ _ _ _ _ _ _ _ _ _ _ _); conv => whnf)
          | ((with_reducible show callK _ _ _ _ _ _ _ _ _); conv => whnf)
          | ((with_reducible show condK _ _ _ _ _); conv => whnf)
          | ((with_reducible show st1 _ _ _ _ _ _ _ _ _ _ _ _); conv => whnf)
          | ((with_reducible show (Prod.fst _ : Spec) _ _ _); conv => whnf)
          | ((with_reducible show shortK _ _); conv => whnf)
          | exact Nat.le_of_ble_eq_true rfl)
      refine h (b1 ||| 2 ^ c.toNat) _ ?_ (((hob.sub (ks' := [5, 6]) (by simp)).upd (by simp)).upd (by simp)) ?_ ?_
      · rcases hcase with ⟨a1, q, a2, a3⟩ | ⟨a1, a2⟩
        · exact Or.inl ⟨a1, q, a2, by rw [a3]⟩
        · exact Or.inr ⟨a1, by rw [a2]⟩
      · show (if u = u ∧ 6 = 5 then _ else if u = u ∧ 6 = 6 then bOr (S'.2.1 u 6) (bShl 1 c) else S'.2.1 u 6) = _
        rw [if_neg (by omega), if_pos ⟨rfl, rfl⟩, e]
      · show (if u = u ∧ 5 = 5 then (if u = u ∧ 5 = 6 then _ else S'.2.1 u 5) + 1 else _) = _
        rw [if_pos ⟨rfl, rfl⟩, if_neg (by omega), hob.2.2.2 5 (by simp)]
    · repeat' (first
          | omega
          | with_reducible apply And.intro
          | (intro c9; (try simp only [mg, mf, colK, stK, clK, mnK, shN, hbt] at c9))
          | exact ⟨9, h1⟩
          | refine ⟨b, hC, ⟨hb, hh⟩, hl, ?_⟩
          | (simp only [mg, mf, colK, stK, clK, mnK, shN, hbt]; omega)
          | refine Exists.intro _ (And.intro rfl ?_)
          | ((with_reducible show wp _ _ _ _ _ _ _ _ _ _ _ _ _ _); conv => whnf)
          | ((with_reducible show callK _ _ _ _ _ _ _ _ _); conv => whnf)
          | ((with_reducible show condK _ _ _ _ _); conv => whnf)
          | ((with_reducible show st1 _ _ _ _ _ _ _ _ _ _ _ _); conv => whnf)
          | ((with_reducible show (Prod.fst _ : Spec) _ _ _); conv => whnf)
          | ((with_reducible show shortK _ _); conv => whnf)
          | exact Nat.le_of_ble_eq_true rfl)
      · exact ⟨0, by omega, b, rfl, rfl, rfl, rfl, hb, hh, obj.rf, Or.inr ⟨by omega, rfl⟩⟩
      · rename_i r9 hr9 hle r
        have hle2 : S.2.1 u 1 ≤ (pc6 b : Int) := by omega
        rcases c9 with ⟨q1, q2⟩ | ⟨q, rfl, q2, q3, q4⟩
        · obtain ⟨k, k6, kb⟩ := pc6_0 b hb (by omega)
          have := q2 k k6
          rw [this] at kb; cases kb
        · have e := bz_clr b hb q q2 q3
          rw [← hh] at e
          refine ⟨0, by omega, b - 2 ^ q, rfl, rfl, rfl, rfl, Nat.lt_of_le_of_lt (Nat.sub_le _ _) hb, ?_, obj.rf.upd (by simp), Or.inl ⟨hle2, q, Or.inr ⟨q, rfl, q2, q3, q4⟩, rfl⟩⟩
          show (if u = u ∧ 6 = 6 then bAnd (S.2.1 u 6) (bXor (bShl 1 (q : Int)) (-1)) else _) = _
          rw [if_pos ⟨rfl, rfl⟩]; exact e
/-- a machine sews n stitches of a colour c -/
def sewP (S : Sto) (u b c : Nat) (n : Int) (S' : Sto) : Prop := S'.1 = S.1 ∧ S'.2.2 = S.2.2 ∧ (∀ t, t ≠ u → t ≠ u + 1 → S'.2.1 t = S.2.1 t) ∧ (∀ k, k ≠ 5 → k ≠ 6 → k ≠ 7 → S'.2.1 u k = S.2.1 u k) ∧ (∀ k, k ≠ c → S'.2.1 (u + 1) k = S.2.1 (u + 1) k) ∧
  S'.2.1 u 7 = S.2.1 u 7 + n ∧ S'.2.1 (u + 1) c = S.2.1 u 7 + n ∧ ((b.testBit c = true ∧ S'.2.1 u 6 = S.2.1 u 6 ∧ S'.2.1 u 5 = S.2.1 u 5) ∨ (b.testBit c = false ∧ S'.2.1 u 5 = S.2.1 u 5 + 1 ∧ ∃ b' : Nat, ldP S u b c b' ∧ S'.2.1 u 6 = b'))
def s_mcSew : Spec := fun as S post => match as with
  | [.inr (.inr (some u)), .inl c, .inl n] => ∃ b : Nat, mcC S u ∧ hlC S u b ∧ (∀ k : Nat, k < 6 → InR (S.2.1 (u + 1) k)) ∧ (0 ≤ c ∧ c < 6 ∧ 1 ≤ S.2.1 u 1 ∧ S.2.1 u 1 ≤ 6) ∧ ∀ S', sewP S u b c.toNat n S' → post (.inl none) S'
  | _ => False
def spX1_sew : Nat → CD := spF mdX1_sew fun i => match i with
  | 1 => (s_isColour, 0, 0, 1)
  | 2 => (s_load, 0, 0, 2)
  | _ => noR
set_option maxHeartbeats 4000000 in
set_option maxRecDepth 100000 in
theorem sat_X1_sew : Sat mX1_sew s_mcSew 0 0 3 := by
  refine sat_of (E := eX1_sew) (sp := spX1_sew) (ini := false) (by decide +kernel) (fun h => by cases h) okX1_sew (fun i => match i with
    | 1 => ⟨sat_X6_isColour, Nat.le_of_ble_eq_true rfl⟩
    | 2 => ⟨sat_X1_load, Nat.le_of_ble_eq_true rfl⟩
    | i + 3 => ⟨sat_no _, Nat.le_of_ble_eq_true rfl⟩
    | 0 => ⟨sat_no _, Nat.le_of_ble_eq_true rfl⟩) ?_
  intro as S post h
  match as, h with
  | [.inr (.inr (some u)), .inl c, .inl n], h =>
    obtain ⟨b, hC, ⟨hb, hh⟩, hl, hc, h⟩ := h
    have hC2 := hC
    obtain ⟨h1, h2, h3⟩ := hC2
    have hbit := bz6 b c.toNat hb (by omega)
    rw [← hh, show ((c.toNat : Nat) : Int) = c by omega] at hbit
    refine bodyL [(24, fun ms L st S' cc => L = [vT u, vI c, vI n] ∧ st = [] ∧ cc = (0, 0) ∧ ms = 0 ∧ obj u [5, 6] S S' ∧ ((b.testBit c.toNat = true ∧ S'.2.1 u 6 = S.2.1 u 6 ∧ S'.2.1 u 5 = S.2.1 u 5) ∨ (b.testBit c.toNat = false ∧ S'.2.1 u 5 = S.2.1 u 5 + 1 ∧ ∃ b' : Nat, ldP S u b c.toNat b' ∧ S'.2.1 u 6 = b')))] 1 80 rfl
      (List.forall_mem_cons.mpr ⟨?_, fun q hq => by cases hq⟩) ?_
    · rintro ms L st S' cc ⟨rfl, rfl, rfl, rfl, hob, hcase⟩
      have h1' : S'.1 u = some (1, 9) := by rw [hob.1]; exact h1
      have h2' : S'.2.2 u 8 = some (u + 1) := by rw [hob.2.1]; exact h2
      have h3' : S'.1 (u + 1) = some (100, 6) := by rw [hob.1]; exact h3
      have e7 : S'.2.1 u 7 = S.2.1 u 7 := hob.2.2.2 7 (by simp)
      have hne : ¬ (u + 1 = u) := by omega
      have hne2 : ¬ (u = u + 1) := by omega
      repeat' (first
          | omega
          | with_reducible apply And.intro
          | (intro c9; (try simp only [mg, mf, colK, stK, clK, mnK, shN] at c9))
          | exact ⟨9, h1'⟩
          | exact ⟨6, h3', by omega, by omega⟩
          | (simp only [mg, mf, colK, stK, clK, mnK, shN]; omega)
          | refine Exists.intro _ (And.intro rfl ?_)
          | refine Exists.intro _ (And.intro (h2') ?_)
          | ((with_reducible show wp _ _ _ _ _ _ _ _ _ _ _ _ _ _); conv => whnf)
          | ((with_reducible show callK _ _ _ _ _ _ _ _ _); conv => whnf)
          | ((with_reducible show condK _ _ _ _ _); conv => whnf)
          | ((with_reducible show st1 _ _ _ _ _ _ _ _ _ _ _ _); conv => whnf)
          | ((with_reducible show (Prod.fst _ : Spec) _ _ _); conv => whnf)
          | ((with_reducible show shortK _ _); conv => whnf)
          | exact Nat.le_of_ble_eq_true rfl)
      refine h _ ⟨hob.1, hob.2.1, fun t t1 t2 => ?_, fun k k5 k6 k7 => ?_, fun k kc => ?_, ?_, ?_, ?_⟩
      · funext j
        simp only [updI_2, t1, t2, false_and, if_false]
        rw [hob.2.2.1 t t1]
      · simp only [updI_2, hne2, k7, false_and, and_false, if_false]
        exact hob.2.2.2 k (by simp; omega)
      · simp only [updI_2, hne, kc, and_false, false_and, if_false]
        rw [hob.2.2.1 _ hne]
      · simp only [updI_2, hne2, false_and, if_false, true_and, if_true]
        rw [e7]
      · simp only [updI_2, true_and, if_true]
        rw [e7]
      · simp only [updI_2, hne2, false_and, if_false, Nat.reduceEqDiff, and_false]
        exact hcase
    · repeat' (first
          | omega
          | with_reducible apply And.intro
          | (intro c9; (try simp only [mg, mf, colK, stK, clK, mnK, shN] at c9))
          | exact ⟨9, h1⟩
          | refine ⟨b, hC, ⟨hb, hh⟩, hl, ?_⟩
          | omega
          | (simp only [mg, mf, colK, stK, clK, mnK, shN]; omega)
          | refine Exists.intro _ (And.intro rfl ?_)
          | ((with_reducible show wp _ _ _ _ _ _ _ _ _ _ _ _ _ _); conv => whnf)
          | ((with_reducible show callK _ _ _ _ _ _ _ _ _); conv => whnf)
          | ((with_reducible show condK _ _ _ _ _); conv => whnf)
          | ((with_reducible show st1 _ _ _ _ _ _ _ _ _ _ _ _); conv => whnf)
          | ((with_reducible show (Prod.fst _ : Spec) _ _ _); conv => whnf)
          | ((with_reducible show shortK _ _); conv => whnf)
          | exact Nat.le_of_ble_eq_true rfl)
      · have hbt : b.testBit c.toNat = true := by rcases hbit with q | q; exact q.2; exact absurd q.1 c9
        exact ⟨0, by omega, rfl, rfl, rfl, rfl, obj.rf, Or.inl ⟨hbt, rfl, rfl⟩⟩
      · rename_i r hr hr0 hb0 b' S1 hld hob h6
        have hbt : b.testBit c.toNat = false := by rcases hbit with q | q; omega; exact q.2
        exact ⟨0, by omega, rfl, rfl, rfl, rfl, hob, Or.inr ⟨hbt, c9, b', hld, h6⟩⟩
/-- an order of the class, of the design T -/
def orC (S : Sto) (u T : Nat) : Prop := S.1 u = some (2, 9) ∧ S.2.2 u 3 = some (u + 1) ∧ S.1 (u + 1) = some (100, 6) ∧ S.2.2 u 1 = some T
def fillO (T : Sto) (u : Nat) : Nat → Sto
  | 0 => T
  | n + 1 => updI (fillO T u n) (u + 1) (n : Int).toNat (-1)
theorem fillO_ag {T : Sto} {u : Nat} : ∀ n, obj (u + 1) [0, 1, 2, 3, 4, 5] T (fillO T u n) ∨ 6 < n
  | 0 => Or.inl obj.rf
  | n + 1 => by
    rcases fillO_ag (T := T) (u := u) n with h | h
    · by_cases hn : n < 6
      · refine Or.inl (h.upd ?_)
        rw [Int.toNat_natCast]
        rcases (show n = 0 ∨ n = 1 ∨ n = 2 ∨ n = 3 ∨ n = 4 ∨ n = 5 by omega) with rfl | rfl | rfl | rfl | rfl | rfl <;> simp
      · exact Or.inr (by omega)
    · exact Or.inr (by omega)
theorem fillO_v {T : Sto} {u : Nat} : ∀ (n j : Nat), (fillO T u n).2.1 (u + 1) j = if j < n then -1 else T.2.1 (u + 1) j
  | 0, j => by rw [if_neg (by omega)]; rfl
  | n + 1, j => by
    show (if u + 1 = u + 1 ∧ j = (n : Int).toNat then (-1 : Int) else (fillO T u n).2.1 (u + 1) j) = _
    rw [fillO_v n j]
    by_cases e : j = n
    · rw [if_pos ⟨rfl, by omega⟩, if_pos (by omega)]
    · rw [if_neg (by rintro ⟨-, q⟩; omega)]
      by_cases q : j < n
      · rw [if_pos q, if_pos (by omega)]
      · rw [if_neg q, if_neg (by omega)]
def orN (S : Sto) (u T : Nat) (i p : Int) : Sto := updI (updR (updI (updI (updR (newS S (u + 1) (100, 6)) u 3 (some (u + 1))) u 4 0) u 0 i) u 1 (some T)) u 2 p
def s_orInit : Spec := fun as S post => match as with
  | [.inr (.inr (some u)), .inl i, .inr (.inr (some T)), .inl p] => (S.1 u = some (2, 9) ∧ S.1 (u + 1) = none ∧ S.1 T ≠ none) ∧ post (.inl none) (fillO (orN S u T i p) u 6)
  | _ => False
def spX2_init : Nat → CD := spF mdX2_init fun i => match i with
  | _ => noR
set_option maxHeartbeats 4000000 in
set_option maxRecDepth 100000 in
theorem sat_X2_init : Sat mX2_init s_orInit 1 6 1 := by
  refine sat_of (E := eX2_init) (sp := spX2_init) (ini := true) (by decide +kernel) (fun h => by rfl) okX2_init (fun i => match i with
    | _ => ⟨sat_no _, Nat.le_of_ble_eq_true rfl⟩) ?_
  intro as S post h
  match as, h with
  | [.inr (.inr (some u)), .inl i, .inr (.inr (some T)), .inl p], h =>
    obtain ⟨⟨h1, h2, hT⟩, h⟩ := h
    have h3 : ∃ n, (newS S (u + 1) (100, 6)).1 u = some (2, n) := ⟨9, by rw [newS_1, if_neg (by omega)]; exact h1⟩
    have hA : (orN S u T i p).1 u = some (2, 9) := by
      show (newS S (u + 1) (100, 6)).1 u = _
      rw [newS_1, if_neg (by omega)]; exact h1
    have hB : (orN S u T i p).1 (u + 1) = some (100, 6) := by
      show (newS S (u + 1) (100, 6)).1 (u + 1) = _
      rw [newS_1, if_pos rfl]
    have hR : (orN S u T i p).2.2 u 3 = some (u + 1) := by
      show (if u = u ∧ 3 = 1 then _ else if u = u ∧ 3 = 3 then some (u + 1) else _) = _
      rw [if_neg (by omega), if_pos ⟨rfl, rfl⟩]
    have hF : ∀ n, (fillO (orN S u T i p) u n).1 = (orN S u T i p).1 ∧ (fillO (orN S u T i p) u n).2.2 = (orN S u T i p).2.2 := fun n => by
      induction n with
      | zero => exact ⟨rfl, rfl⟩
      | succ n ih => exact ih
    refine bodyL [(35, fun ms L st S' cc => ∃ k : Nat, L = [vT u, vI i, vT T, vI p, vI k] ∧ st = [] ∧ cc = (1, 6) ∧ ms = 6 - k ∧ k ≤ 6 ∧ S' = fillO (orN S u T i p) u k)] 7 80 rfl
      (List.forall_mem_cons.mpr ⟨?_, fun q hq => by cases hq⟩) ?_
    · rintro ms L st S' cc ⟨k, rfl, rfl, rfl, rfl, hk, hS⟩
      have h1' : S'.1 u = some (2, 9) := by rw [hS, (hF k).1]; exact hA
      have h2' : S'.2.2 u 3 = some (u + 1) := by rw [hS, (hF k).2]; exact hR
      have h3' : S'.1 (u + 1) = some (100, 6) := by rw [hS, (hF k).1]; exact hB
      repeat' (first
          | omega
          | with_reducible apply And.intro
          | (intro c9; (try simp only [mg, mf, colK, stK, clK, mnK, shN] at c9))
          | exact ⟨9, h1'⟩
          | refine ⟨100, 6, h3', by omega, ?_⟩
          | exact ⟨6, h3', by omega, by omega⟩
          | (simp only [mg, mf, colK, stK, clK, mnK, shN]; omega)
          | refine Exists.intro _ (And.intro rfl ?_)
          | refine Exists.intro _ (And.intro (h2') ?_)
          | ((with_reducible show wp _ _ _ _ _ _ _ _ _ _ _ _ _ _); conv => whnf)
          | ((with_reducible show callK _ _ _ _ _ _ _ _ _); conv => whnf)
          | ((with_reducible show condK _ _ _ _ _); conv => whnf)
          | ((with_reducible show st1 _ _ _ _ _ _ _ _ _ _ _ _); conv => whnf)
          | ((with_reducible show (Prod.fst _ : Spec) _ _ _); conv => whnf)
          | ((with_reducible show shortK _ _); conv => whnf)
          | exact Nat.le_of_ble_eq_true rfl)
      · have e : k = 6 := by omega
        subst e
        rw [hS]; exact h
      · exact ⟨6 - (k + 1), by omega, k + 1, by rw [Int.natCast_add]; rfl, rfl, rfl, rfl, by omega, by rw [hS]; rfl⟩
    · repeat' (first
          | omega
          | with_reducible apply And.intro
          | (intro c9; (try simp only [mg, mf, colK, stK, clK, mnK, shN] at c9))
          | refine Exists.intro (u + 1) (And.intro h2 ?_)
          | exact h3
          | (simp only [mg, mf, colK, stK, clK, mnK, shN]; omega)
          | refine Exists.intro _ (And.intro rfl ?_)
          | ((with_reducible show wp _ _ _ _ _ _ _ _ _ _ _ _ _ _); conv => whnf)
          | ((with_reducible show callK _ _ _ _ _ _ _ _ _); conv => whnf)
          | ((with_reducible show condK _ _ _ _ _); conv => whnf)
          | ((with_reducible show st1 _ _ _ _ _ _ _ _ _ _ _ _); conv => whnf)
          | ((with_reducible show (Prod.fst _ : Spec) _ _ _); conv => whnf)
          | ((with_reducible show shortK _ _); conv => whnf)
          | exact Nat.le_of_ble_eq_true rfl)
      exact ⟨6, by omega, 0, rfl, rfl, rfl, rfl, by omega, rfl⟩
def s_shade : Spec := fun as S post => match as with
  | [.inr (.inr (some u)), .inl c] => (S.1 u = some (2, 9) ∧ S.2.2 u 3 = some (u + 1) ∧ S.1 (u + 1) = some (100, 6)) ∧ InR c ∧ post (.inl (some (vI (if 0 ≤ c ∧ c < 6 then S.2.1 (u + 1) c.toNat else -1)))) S
  | _ => False
def spX2_shade : Nat → CD := spF mdX2_shade fun i => match i with
  | _ => noR
set_option maxHeartbeats 4000000 in
set_option maxRecDepth 100000 in
theorem sat_X2_shade : Sat mX2_shade s_shade 0 0 1 := by
  refine sat_of (E := eX2_shade) (sp := spX2_shade) (ini := false) (by decide +kernel) (fun h => by cases h) okX2_shade (fun i => match i with
    | _ => ⟨sat_no _, Nat.le_of_ble_eq_true rfl⟩) ?_
  intro as S post h
  match as, h with
  | [.inr (.inr (some u)), .inl c], h =>
    obtain ⟨⟨h1, h2, h3⟩, hin, h⟩ := h
    refine body0 60 rfl ?_
    repeat' (first
        | omega
        | with_reducible apply And.intro
        | (intro c9; (try simp only [mg, mf, colK, stK, clK, mnK, shN] at c9))
        | exact ⟨9, h1⟩
        | refine ⟨100, 6, h3, by omega, ?_⟩
        | exact ⟨100, 6, h3, Or.inl rfl, by omega, by omega⟩
        | (simp only [mg, mf, colK, stK, clK, mnK, shN]; omega)
        | refine Exists.intro _ (And.intro rfl ?_)
        | refine Exists.intro _ (And.intro (h2) ?_)
        | ((with_reducible show wp _ _ _ _ _ _ _ _ _ _ _ _ _ _); conv => whnf)
        | ((with_reducible show callK _ _ _ _ _ _ _ _ _); conv => whnf)
        | ((with_reducible show condK _ _ _ _ _); conv => whnf)
        | ((with_reducible show st1 _ _ _ _ _ _ _ _ _ _ _ _); conv => whnf)
        | ((with_reducible show (Prod.fst _ : Spec) _ _ _); conv => whnf)
        | ((with_reducible show shortK _ _); conv => whnf)
        | exact Nat.le_of_ble_eq_true rfl)
    all_goals first
      | (rw [if_neg (by omega)] at h; exact h)
      | (rw [if_pos (by omega)] at h; exact h)
def s_setShade : Spec := fun as S post => match as with
  | [.inr (.inr (some u)), .inl c, .inl s] => (S.1 u = some (2, 9) ∧ S.2.2 u 3 = some (u + 1) ∧ S.1 (u + 1) = some (100, 6)) ∧ (0 ≤ c ∧ c < 6) ∧ post (.inl none) (updI S (u + 1) c.toNat s)
  | _ => False
def spX2_setShade : Nat → CD := spF mdX2_setShade fun i => match i with
  | _ => noR
set_option maxHeartbeats 4000000 in
set_option maxRecDepth 100000 in
theorem sat_X2_setShade : Sat mX2_setShade s_setShade 0 0 1 := by
  refine sat_of (E := eX2_setShade) (sp := spX2_setShade) (ini := false) (by decide +kernel) (fun h => by cases h) okX2_setShade (fun i => match i with
    | _ => ⟨sat_no _, Nat.le_of_ble_eq_true rfl⟩) ?_
  intro as S post h
  match as, h with
  | [.inr (.inr (some u)), .inl c, .inl s], h =>
    obtain ⟨⟨h1, h2, h3⟩, hin, h⟩ := h
    refine body0 60 rfl ?_
    repeat' (first
        | omega
        | with_reducible apply And.intro
        | (intro c9; (try simp only [mg, mf, colK, stK, clK, mnK, shN] at c9))
        | exact ⟨9, h1⟩
        | refine ⟨100, 6, h3, by omega, ?_⟩
        | exact ⟨6, h3, by omega, by omega⟩
        | exact kr_i ( h ) (Nat.le_of_ble_eq_true rfl) (Nat.le_of_ble_eq_true rfl)
        | (simp only [mg, mf, colK, stK, clK, mnK, shN]; omega)
        | refine Exists.intro _ (And.intro rfl ?_)
        | refine Exists.intro _ (And.intro (h2) ?_)
        | ((with_reducible show wp _ _ _ _ _ _ _ _ _ _ _ _ _ _); conv => whnf)
        | ((with_reducible show callK _ _ _ _ _ _ _ _ _); conv => whnf)
        | ((with_reducible show condK _ _ _ _ _); conv => whnf)
        | ((with_reducible show st1 _ _ _ _ _ _ _ _ _ _ _ _); conv => whnf)
        | ((with_reducible show (Prod.fst _ : Spec) _ _ _); conv => whnf)
        | ((with_reducible show shortK _ _); conv => whnf)
        | exact Nat.le_of_ble_eq_true rfl)
    all_goals exact h

