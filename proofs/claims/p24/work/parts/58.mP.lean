def hdOK (S : Sto) (m : Int) : Prop := 0 ≤ m ∧ m < 4 ∧ 1 ≤ mg S 14 m ∧ mg S 14 m ≤ 6 ∧ ∀ k, 0 ≤ k → k < 6 → -1 ≤ hdK S m k ∧ hdK S m k < 6 ∧ InR (ltK S m k)
def hadP (S : Sto) (m c r : Int) : Prop := 0 ≤ r ∧ r < mg S 14 m ∧ hdK S m r = c
def newP (S : Sto) (m c r : Int) : Prop := (∀ k, 0 ≤ k → k < mg S 14 m → hdK S m k ≠ c) ∧ 0 ≤ r ∧ r < mg S 14 m ∧
  ((hdK S m r = -1 ∧ ∀ k, 0 ≤ k → k < r → hdK S m k ≠ -1) ∨ ((∀ k, 0 ≤ k → k < mg S 14 m → hdK S m k ≠ -1) ∧ ∀ k, 0 ≤ k → k < mg S 14 m → ltK S m r ≤ ltK S m k))
def headU (S : Sto) (m c r : Int) : Sto := updI (updI S (mt 20) (6 * m + r).toNat c) (mt 18) m.toNat (mg S 18 m + 1)
def s_head : Spec := fun as S post => match as with
  | [.inr (.inr (some 2)), .inl m, .inl c] => MS S ∧ (hdOK S m ∧ 0 ≤ c ∧ c < 6) ∧ (∀ r, hadP S m c r → post (.inl (some (vI r))) S) ∧ (∀ r, newP S m c r → post (.inl (some (vI r))) (headU S m c r))
  | _ => False
