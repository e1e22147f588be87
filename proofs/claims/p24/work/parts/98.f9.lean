/-! a machine's heads as a set of colours -/
theorem or_pc : ∀ b : Nat, b < 64 → ∀ c : Nat, c < 6 → b.testBit c = false → pc6 (b ||| 2 ^ c) = pc6 b + 1 := by decide +kernel
theorem sub_bt : ∀ b : Nat, b < 64 → ∀ q : Nat, q < 6 → b.testBit q = true → ∀ x : Nat, x < 6 → (b - 2 ^ q).testBit x = (b.testBit x && !(x == q)) := by decide +kernel
theorem eq64 {a b : Nat} (ha : a < 64) (hb : b < 64) (h : ∀ x : Nat, x < 6 → (a.testBit x = true ↔ b.testBit x = true)) : a = b := by
  apply Nat.eq_of_testBit_eq
  intro x
  by_cases hx : x < 6
  · exact Bool.eq_iff_iff.mpr (h x hx)
  · have h6 : 2 ^ 6 ≤ 2 ^ x := Nat.pow_le_pow_right (by omega) (by omega)
    rw [Nat.testBit_lt_two_pow (by omega), Nat.testBit_lt_two_pow (by omega)]
theorem hset_b {R : Sto} {i : Int} (h : ∀ k, 0 ≤ k → k < 6 → -1 ≤ hdK R i k ∧ hdK R i k < 6) (x : Nat) : ∀ n : Nat, n ≤ 6 → ((hset R i n).testBit x = true ↔ ∃ k : Nat, k < n ∧ hdK R i k = x)
  | 0, _ => by
    unfold hset
    simp
  | n + 1, hn => by
    have ih := hset_b h x n (by omega)
    have hh := h n (by omega) (by omega)
    unfold hset
    by_cases e : hdK R i n = -1
    · rw [if_pos e, ih]
      constructor
      · rintro ⟨k, k1, k2⟩; exact ⟨k, by omega, k2⟩
      · rintro ⟨k, k1, k2⟩
        rcases (show k < n ∨ k = n by omega) with w | w
        · exact ⟨k, w, k2⟩
        · subst w; omega
    · rw [if_neg e, Nat.testBit_or, Bool.or_eq_true, ih, Nat.testBit_two_pow, decide_eq_true_eq]
      constructor
      · rintro (⟨k, k1, k2⟩ | w)
        · exact ⟨k, by omega, k2⟩
        · exact ⟨n, by omega, by omega⟩
      · rintro ⟨k, k1, k2⟩
        rcases (show k < n ∨ k = n by omega) with w | w
        · exact Or.inl ⟨k, w, k2⟩
        · subst w; exact Or.inr (by omega)
/-- how many of the first n heads are taken -/
def cH (R : Sto) (i : Int) : Nat → Nat
  | 0 => 0
  | k + 1 => cH R i k + (if hdK R i k = -1 then 0 else 1)
theorem cH_le {R : Sto} {i : Int} : ∀ n : Nat, cH R i n ≤ n
  | 0 => Nat.le_refl _
  | n + 1 => by
    have := cH_le (R := R) (i := i) n
    unfold cH
    split <;> omega
theorem cH_lt {R : Sto} {i : Int} {k : Nat} (e : hdK R i k = -1) : ∀ n : Nat, k < n → cH R i n < n
  | n + 1, hk => by
    unfold cH
    rcases (show k < n ∨ k = n by omega) with w | w
    · have := cH_lt e n w
      split <;> omega
    · subst w
      have := cH_le (R := R) (i := i) k
      rw [if_pos e]; omega
theorem cH_eq {R : Sto} {i : Int} : ∀ n : Nat, (∀ k : Nat, k < n → hdK R i k ≠ -1) → cH R i n = n
  | 0, _ => rfl
  | n + 1, h => by
    unfold cH
    rw [cH_eq n (fun k hk => h k (by omega)), if_neg (h n (by omega))]
theorem hset_pc {R : Sto} {i : Int} (h : ∀ k, 0 ≤ k → k < 6 → -1 ≤ hdK R i k ∧ hdK R i k < 6) (hd : ∀ k l, 0 ≤ k → k < l → l < 6 → hdK R i k ≠ -1 → hdK R i k ≠ hdK R i l) : ∀ n : Nat, n ≤ 6 → pc6 (hset R i n) = cH R i n
  | 0, _ => by show pc6 0 = 0; decide
  | n + 1, hn => by
    have ih := hset_pc h hd n (by omega)
    have hh := h n (by omega) (by omega)
    have hl := hset_lt h n (by omega)
    unfold hset cH
    by_cases e : hdK R i n = -1
    · rw [if_pos e, if_pos e, ih]; rfl
    · rw [if_neg e, if_neg e, or_pc _ hl _ (by omega) ?_, ih]
      rw [← Bool.not_eq_true]
      intro w
      obtain ⟨k, k1, k2⟩ := (hset_b h _ n (by omega)).mp w
      exact hd k n (by omega) (by omega) (by omega) (by omega) (by omega)
/-- a colour comes upon the head r -/
theorem hset_new {R R' : Sto} {i : Int} {n r c : Nat} (h : ∀ k, 0 ≤ k → k < 6 → -1 ≤ hdK R i k ∧ hdK R i k < 6) (hd : ∀ k l, 0 ≤ k → k < l → l < 6 → hdK R i k ≠ -1 → hdK R i k ≠ hdK R i l) (hn : n ≤ 6) (hr : r < n) (hc : c < 6) (h' : ∀ k : Nat, k < 6 → hdK R' i k = if k = r then (c : Int) else hdK R i k) :
    hset R' i n = (if hdK R i r = -1 then hset R i n else hset R i n - 2 ^ (hdK R i r).toNat) ||| 2 ^ c := by
  have hr' := h r (by omega) (by omega)
  have hl := hset_lt h n hn
  have h6 : ∀ k, 0 ≤ k → k < 6 → -1 ≤ hdK R' i k ∧ hdK R' i k < 6 := fun k k0 k6 => by
    have a := h' k.toNat (by omega)
    rw [Int.toNat_of_nonneg k0] at a
    have b := h k k0 k6
    rw [a]
    split <;> omega
  have h2 : 2 ^ c < 64 := Nat.lt_of_lt_of_le (Nat.pow_lt_pow_right (by omega) hc) (by omega)
  have hor : ∀ a : Nat, a < 64 → a ||| 2 ^ c < 64 := fun a ha => Nat.or_lt_two_pow (n := 6) ha h2
  refine eq64 (hset_lt h6 n hn) (hor _ (by
    split
    · exact hl
    · exact Nat.lt_of_le_of_lt (Nat.sub_le _ _) hl)) fun x hx => ?_
  rw [hset_b h6 x n hn, Nat.testBit_or, Bool.or_eq_true, Nat.testBit_two_pow, decide_eq_true_eq]
  by_cases e : hdK R i r = -1
  · rw [if_pos e, hset_b h x n hn]
    constructor
    · rintro ⟨k, k1, k2⟩
      rw [h' k (by omega)] at k2
      by_cases w : k = r
      · rw [if_pos w] at k2; exact Or.inr (by omega)
      · rw [if_neg w] at k2; exact Or.inl ⟨k, k1, k2⟩
    · rintro (⟨k, k1, k2⟩ | w)
      · exact ⟨k, k1, by rw [h' k (by omega), if_neg (by rintro rfl; omega)]; exact k2⟩
      · exact ⟨r, hr, by rw [h' r (by omega), if_pos rfl]; omega⟩
  · have hb : (hset R i n).testBit (hdK R i r).toNat = true := (hset_b h _ n hn).mpr ⟨r, hr, by omega⟩
    rw [if_neg e, sub_bt _ hl _ (by omega) hb x hx, Bool.and_eq_true, hset_b h x n hn]
    simp only [Bool.not_eq_true', beq_eq_false_iff_ne, ne_eq]
    constructor
    · rintro ⟨k, k1, k2⟩
      rw [h' k (by omega)] at k2
      by_cases w : k = r
      · rw [if_pos w] at k2; exact Or.inr (by omega)
      · rw [if_neg w] at k2
        refine Or.inl ⟨⟨k, k1, k2⟩, fun z => ?_⟩
        rcases (show k < r ∨ r < k by omega) with v | v
        · exact hd k r (by omega) (by omega) (by omega) (by omega) (by omega)
        · exact hd r k (by omega) (by omega) (by omega) (by omega) (by omega)
    · rintro (⟨⟨k, k1, k2⟩, z⟩ | w)
      · exact ⟨k, k1, by rw [h' k (by omega), if_neg (by rintro rfl; omega)]; exact k2⟩
      · exact ⟨r, hr, by rw [h' r (by omega), if_pos rfl]; omega⟩
/-- the class loads the colour that the reference loads -/
theorem ld_e {S R : Sto} {m : Int} {u b c b' n r : Nat} (h : ∀ k, 0 ≤ k → k < 6 → -1 ≤ hdK R m k ∧ hdK R m k < 6) (hd : ∀ k l, 0 ≤ k → k < l → l < 6 → (hdK R m k ≠ -1 → hdK R m k ≠ hdK R m l) ∧ (hdK R m k ≠ -1 → hdK R m l ≠ -1 → ltK R m k ≠ ltK R m l)) (hn : n ≤ 6) (h14 : mg R 14 m = n) (hu : S.2.1 u 1 = n) (hb : b = hset R m n)
    (hlt : ∀ k : Nat, k < n → hdK R m k ≠ -1 → S.2.1 (u + 1) (hdK R m k).toNat = ltK R m k) (hw : newP R m c r) (hl : ldP S u b c b') : b' = (if hdK R m r = -1 then b else b - 2 ^ (hdK R m r).toNat) ||| 2 ^ c := by
  obtain ⟨w1, w2, w3, w4⟩ := hw
  rw [h14] at w3 w1
  have hr6 : r < n := by omega
  have hhr := h r (by omega) (by omega)
  have hpc := hset_pc h (fun k l a b e => (hd k l a b e).1) n hn
  rw [← hb] at hpc
  rcases w4 with ⟨e, -⟩ | ⟨e1, e2⟩
  · rw [if_pos e]
    have := cH_lt e n hr6
    rcases hl with ⟨l1, -⟩ | ⟨-, l2⟩
    · omega
    · exact l2
  · rw [h14] at e1 e2
    have hne := e1 r (by omega) (by omega)
    rw [if_neg hne]
    have := cH_eq (R := R) (i := m) n (fun k hk => e1 k (by omega) (by omega))
    rcases hl with ⟨-, q, hq, l2⟩ | ⟨l1, -⟩
    · rcases hq with ⟨z, -⟩ | ⟨q', z, z1, z2, z3⟩
      · omega
      · have hqq : q' = q := by omega
        subst hqq
        rw [hb] at z2
        obtain ⟨k, k1, k2⟩ := (hset_b h _ n hn).mp z2
        have y := z3 (hdK R m r).toNat (by omega) (by rw [hb]; exact (hset_b h _ n hn).mpr ⟨r, hr6, by omega⟩)
        rw [hlt r hr6 hne] at y
        have y2 := hlt k k1 (by omega)
        rw [k2, Int.toNat_natCast] at y2
        have y3 := e2 k (by omega) (by omega)
        have hkr : k = r := by
          rcases (show k = r ∨ k < r ∨ r < k by omega) with v | v | v
          · exact v
          · exact absurd (show ltK R m k = ltK R m r by omega) ((hd k r (by omega) (by omega) (by omega)).2 (by omega) hne)
          · exact absurd (show ltK R m r = ltK R m k by omega) ((hd r k (by omega) (by omega) (by omega)).2 hne (by omega))
        subst hkr
        rw [l2, k2, Int.toNat_natCast]
    · omega

