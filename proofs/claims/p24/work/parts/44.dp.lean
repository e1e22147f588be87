/-! THE SEQUENCE: fewest changes left, by the set of shapes sewn and the latest one -/
def canB (need : Nat → Nat) (n s x : Nat) : Bool := decide (x < n) && !s.testBit x && decide (need x &&& s = need x)
def minTo (g : Nat → Int) (b : Int) : Nat → Int
  | 0 => b
  | k + 1 => if g k < minTo g b k then g k else minTo g b k
def argTo (g : Nat → Int) (b : Int) : Nat → Int
  | 0 => -1
  | k + 1 => if g k < minTo g b k then k else argTo g b k
def chg (col : Nat → Int) (l x : Nat) : Int := if col l = col x then 0 else 1
def dpF (n : Nat) (col : Nat → Int) (need : Nat → Nat) : Nat → Nat → Nat → Int
  | 0, _, _ => 0
  | f + 1, s, l => minTo (fun x => if canB need n s x then dpF n col need f (s ||| 2 ^ x) x + chg col l x else 1000) (if s = 2 ^ n - 1 then 0 else 1000) n
/-- the fewest changes left -/
def dpV (n : Nat) (col : Nat → Int) (need : Nat → Nat) (s l : Nat) : Int := dpF n col need (128 - s) s l
theorem minTo_congr {g h : Nat → Int} {b : Int} : ∀ n : Nat, (∀ x, x < n → g x = h x) → minTo g b n = minTo h b n
  | 0, _ => rfl
  | n + 1, e => by
    unfold minTo
    rw [minTo_congr n (fun x hx => e x (by omega)), e n (by omega)]
theorem argTo_congr {g h : Nat → Int} {b : Int} : ∀ n : Nat, (∀ x, x < n → g x = h x) → argTo g b n = argTo h b n
  | 0, _ => rfl
  | n + 1, e => by
    unfold argTo
    rw [minTo_congr n (fun x hx => e x (by omega)), argTo_congr n (fun x hx => e x (by omega)), e n (by omega)]
theorem minTo_le {g : Nat → Int} {b : Int} : ∀ n : Nat, minTo g b n ≤ b ∧ ∀ x, x < n → minTo g b n ≤ g x
  | 0 => ⟨Int.le_refl _, fun x h => by omega⟩
  | n + 1 => by
    obtain ⟨h1, h2⟩ := minTo_le (g := g) (b := b) n
    unfold minTo
    split
    · refine ⟨by omega, fun x hx => ?_⟩
      by_cases e : x = n
      · rw [e]; exact Int.le_refl _
      · have := h2 x (by omega); omega
    · refine ⟨h1, fun x hx => ?_⟩
      by_cases e : x = n
      · rw [e]; omega
      · exact h2 x (by omega)
theorem minTo_ge {g : Nat → Int} {b m : Int} (hb : m ≤ b) : ∀ n : Nat, (∀ x, x < n → m ≤ g x) → m ≤ minTo g b n
  | 0, _ => hb
  | n + 1, h => by
    unfold minTo
    split
    · exact h n (by omega)
    · exact minTo_ge hb n (fun x hx => h x (by omega))
/-- what argTo finds -/
theorem argTo_ok {g : Nat → Int} {b : Int} (n : Nat) : (argTo g b n = -1 ∧ minTo g b n = b) ∨ (∃ x : Nat, x < n ∧ argTo g b n = x ∧ minTo g b n = g x ∧ g x < b) := by
  induction n with
  | zero => exact Or.inl ⟨rfl, rfl⟩
  | succ n ih =>
    have hle := (minTo_le (g := g) (b := b) n).1
    rw [show argTo g b (n + 1) = if g n < minTo g b n then (n : Int) else argTo g b n from rfl, show minTo g b (n + 1) = if g n < minTo g b n then g n else minTo g b n from rfl]
    by_cases q : g n < minTo g b n
    · rw [if_pos q, if_pos q]
      exact Or.inr ⟨n, by omega, rfl, rfl, by omega⟩
    · rw [if_neg q, if_neg q]
      rcases ih with h | ⟨x, h1, h2, h3, h4⟩
      · exact Or.inl h
      · exact Or.inr ⟨x, by omega, h2, h3, h4⟩
theorem or_gt {s x : Nat} (h : s.testBit x = false) : s < s ||| 2 ^ x := by
  have h1 : s ≤ s ||| 2 ^ x := Nat.left_le_or
  rcases Nat.lt_or_ge s (s ||| 2 ^ x) with q | q
  · exact q
  · have e : s ||| 2 ^ x = s := Nat.le_antisymm q h1
    have := congrArg (fun y => y.testBit x) e
    simp [Nat.testBit_or, Nat.testBit_two_pow, h] at this
theorem or_lt {s x n : Nat} (h : s < 2 ^ n) (hx : x < n) : s ||| 2 ^ x < 2 ^ n := Nat.or_lt_two_pow h (Nat.pow_lt_pow_right (by omega) hx)
theorem canB_e {need : Nat → Nat} {n s x : Nat} : canB need n s x = true ↔ x < n ∧ s.testBit x = false ∧ need x &&& s = need x := by
  simp [canB, and_assoc]
theorem dpF_fuel {n : Nat} {col : Nat → Int} {need : Nat → Nat} (hn : n ≤ 7) : ∀ (f f' s l : Nat), s < 2 ^ n → 128 - s ≤ f → 128 - s ≤ f' → dpF n col need f s l = dpF n col need f' s l := by
  have h7 : 2 ^ n ≤ 128 := Nat.pow_le_pow_right (n := 2) (by omega) hn
  intro f
  induction f with
  | zero => intro f' s l hs h1 h2; omega
  | succ f ih =>
    intro f' s l hs h1 h2
    cases f' with
    | zero => omega
    | succ f' =>
      unfold dpF
      refine minTo_congr n fun x hx => ?_
      by_cases hc : canB need n s x = true
      · rw [if_pos hc, if_pos hc]
        obtain ⟨q1, q2, -⟩ := canB_e.mp hc
        have := or_gt q2
        have := or_lt hs q1
        rw [ih f' (s ||| 2 ^ x) x this (by omega) (by omega)]
      · rw [if_neg hc, if_neg hc]
theorem dpV_eq {n : Nat} {col : Nat → Int} {need : Nat → Nat} (hn : n ≤ 7) {s l : Nat} (hs : s < 2 ^ n) :
    dpV n col need s l = minTo (fun x => if canB need n s x then dpV n col need (s ||| 2 ^ x) x + chg col l x else 1000) (if s = 2 ^ n - 1 then 0 else 1000) n := by
  have h7 : 2 ^ n ≤ 128 := Nat.pow_le_pow_right (n := 2) (by omega) hn
  unfold dpV
  rw [show 128 - s = (127 - s) + 1 by omega]
  conv => lhs; unfold dpF
  refine minTo_congr n fun x hx => ?_
  by_cases hc : canB need n s x = true
  · rw [if_pos hc, if_pos hc]
    obtain ⟨q1, q2, -⟩ := canB_e.mp hc
    have := or_gt q2
    have := or_lt hs q1
    rw [dpF_fuel hn (127 - s) (128 - (s ||| 2 ^ x)) (s ||| 2 ^ x) x this (by omega) (by omega)]
  · rw [if_neg hc, if_neg hc]
/-- needs go to lower numbers alone -/
def needOK (need : Nat → Nat) (n : Nat) : Prop := ∀ k, k < n → ∀ q, (need k).testBit q = true → q < k
theorem cand_ex {need : Nat → Nat} {n s : Nat} (h : needOK need n) (hs : s < 2 ^ n) (hne : s ≠ 2 ^ n - 1) : ∃ x, canB need n s x = true := by
  have hex : ∃ x, x < n ∧ s.testBit x = false := by
    rcases Classical.em (∃ x, x < n ∧ s.testBit x = false) with q | q
    · exact q
    · exfalso
      refine hne (Nat.eq_of_testBit_eq fun i => ?_)
      rw [Nat.testBit_two_pow_sub_one]
      by_cases hi : i < n
      · rw [decide_eq_true hi]
        cases hb : s.testBit i with
        | true => rfl
        | false => exact absurd ⟨i, hi, hb⟩ q
      · rw [decide_eq_false hi]
        exact Nat.testBit_lt_two_pow (Nat.lt_of_lt_of_le hs (Nat.pow_le_pow_right (by omega) (by omega)))
  obtain ⟨x, ⟨hx1, hx2⟩, hmin⟩ := pk_least (fun x => x < n ∧ s.testBit x = false) hex
  refine ⟨x, canB_e.mpr ⟨hx1, hx2, Nat.eq_of_testBit_eq fun q => ?_⟩⟩
  rw [Nat.testBit_and]
  cases hq : (need x).testBit q with
  | false => rfl
  | true =>
    have h1 := h x hx1 q hq
    cases hb : s.testBit q with
    | true => rfl
    | false => exact absurd ⟨by omega, hb⟩ (hmin q h1)
theorem dpV_range {n : Nat} {col : Nat → Int} {need : Nat → Nat} (hn : n ≤ 7) (hneed : needOK need n) : ∀ (m s l : Nat), s < 2 ^ n → 2 ^ n - s ≤ m → 0 ≤ dpV n col need s l ∧ dpV n col need s l ≤ 128 - s := by
  have h7 : 2 ^ n ≤ 128 := Nat.pow_le_pow_right (n := 2) (by omega) hn
  intro m
  induction m with
  | zero => intro s l h1 h2; omega
  | succ m ih =>
    intro s l hs hm
    rw [dpV_eq hn hs]
    have hnext : ∀ x, canB need n s x = true → 0 ≤ dpV n col need (s ||| 2 ^ x) x + chg col l x ∧ dpV n col need (s ||| 2 ^ x) x + chg col l x ≤ 128 - s := fun x hc => by
      obtain ⟨q1, q2, -⟩ := canB_e.mp hc
      have h1 := or_gt q2
      have h2 := or_lt hs q1
      have := ih (s ||| 2 ^ x) x h2 (by omega)
      unfold chg
      split <;> omega
    refine ⟨minTo_ge (by split <;> omega) n (fun x _ => by
      split
      · rename_i hc; exact (hnext x hc).1
      · omega), ?_⟩
    by_cases hf : s = 2 ^ n - 1
    · rw [if_pos hf]
      have := (minTo_le (g := fun x => if canB need n s x then dpV n col need (s ||| 2 ^ x) x + chg col l x else 1000) (b := 0) n).1
      omega
    · obtain ⟨x, hc⟩ := cand_ex hneed hs hf
      have hx := (canB_e.mp hc).1
      have := (minTo_le (g := fun x => if canB need n s x then dpV n col need (s ||| 2 ^ x) x + chg col l x else 1000) (b := if s = 2 ^ n - 1 then 0 else 1000) n).2 x hx
      rw [if_pos hc] at this
      have := (hnext x hc).2
      omega

