/-- S' is S but for the arrays rest and needs -/
def rsS (S S' : Sto) : Prop := S'.1 = S.1 ∧ S'.2.2 = S.2.2 ∧ ∀ t, t ≠ mt 12 → t ≠ mt 32 → S'.2.1 t = S.2.1 t
theorem rsS.rf {S : Sto} : rsS S S := ⟨rfl, rfl, fun _ _ _ => rfl⟩
theorem rsS.ms {S S' : Sto} (h : rsS S S') (hM : MS S) : MS S' := by
  obtain ⟨h1, h2, h3⟩ := hM
  exact ⟨by rw [h.1]; exact h1, by rw [h.2.1]; exact h2, fun k a b => by rw [h.1]; exact h3 k a b⟩
theorem rsS.mg {S S' : Sto} (h : rsS S S') {k : Nat} {i : Int} (h1 : k ≠ 12) (h2 : k ≠ 32) : mg S' k i = mg S k i := by
  show S'.2.1 (mt k) _ = S.2.1 (mt k) _
  rw [h.2.2 (mt k) (by unfold mt; omega) (by unfold mt; omega)]
theorem rsS.upd {S S' : Sto} (h : rsS S S') {k j : Nat} {v : Int} (hk : k = 12 ∨ k = 32) : rsS S (updI S' (mt k) j v) :=
  ⟨h.1, h.2.1, fun t a b => by
    funext q
    show (if t = mt k ∧ q = j then v else S'.2.1 t q) = _
    rw [if_neg (by rintro ⟨e, -⟩; rcases hk with rfl | rfl <;> contradiction), h.2.2 t a b]⟩
theorem rsS.sh {S S' : Sto} (h : rsS S S') {k : Int} (hs : shOK S k) : shOK S' k := by
  unfold shOK at hs ⊢
  simp only [h.mg (k := 2) (by omega) (by omega), h.mg (k := 3) (by omega) (by omega), h.mg (k := 4) (by omega) (by omega), h.mg (k := 5) (by omega) (by omega), h.mg (k := 6) (by omega) (by omega), h.mg (k := 7) (by omega) (by omega)]
  exact hs
theorem rsS.met {S S' : Sto} (h : rsS S S') {a b : Int} : metP S' a b ↔ metP S a b := by
  unfold metP hasK
  simp only [h.mg (k := 2) (by omega) (by omega), h.mg (k := 4) (by omega) (by omega), h.mg (k := 5) (by omega) (by omega), h.mg (k := 6) (by omega) (by omega), h.mg (k := 7) (by omega) (by omega)]
/-- the set nd q of the shapes ahead of the shape q of a design -/
def ndP (S : Sto) (d : Int) (nd : Nat → Nat) (n : Nat) : Prop := ∀ q : Nat, q < n → nd q < 128 ∧ ∀ j : Nat, (nd q).testBit j = true ↔ j < q ∧ metP S (7 * d + j) (7 * d + q)
theorem ndP.ok {S : Sto} {d : Int} {nd : Nat → Nat} {n : Nat} (h : ndP S d nd n) : needOK nd n := fun k hk q hq => (((h k hk).2 q).mp hq).1
def colF (S : Sto) (d : Int) : Nat → Int := fun x => colK S d x
def dshOK (S : Sto) (d : Int) : Prop := 0 ≤ d ∧ d < 6 ∧ 1 ≤ shN S d ∧ shN S d ≤ 7 ∧ ∀ k, 0 ≤ k → k < shN S d → shOK S (7 * d + k)
/-- the table of the fewest changes left, from the set s on -/
def tabP (S S' : Sto) (d : Int) (nd : Nat → Nat) (n s : Nat) : Prop := ∀ s' l : Nat, s < s' → s' < 2 ^ n → l < n → mg S' 12 (8 * s' + l) = dpV n (colF S d) nd s' l
def ndA (S' : Sto) (nd : Nat → Nat) (n : Nat) : Prop := ∀ q : Nat, q < n → mg S' 32 q = nd q
def s_laysRest : Spec := fun as S post => match as with
  | [.inr (.inr (some 2)), .inl d] => MS S ∧ dshOK S d ∧ ∀ (S' : Sto) (nd : Nat → Nat), rsS S S' → ndP S d nd (shN S d).toNat → ndA S' nd (shN S d).toNat → tabP S S' d nd (shN S d).toNat 0 → post (.inl none) S'
  | _ => False
def lrG (S : Sto) (d : Int) (nd : Nat → Nat) (n s l : Nat) : Nat → Int := fun x => if canB nd n s x then dpV n (colF S d) nd (s ||| 2 ^ x) x + chg (colF S d) l x else 1000
