theorem isB1' {r : Int} (h : isB r True) : ¬ r = 0 := fun q => isB0 h q trivial
/-- thrown is set -/
def thr (S : Sto) (k : Int) : Sto := updI S 2 0 k
def stockR (S : Sto) (c s n k v : Int) (S' : Sto) : Prop :=
  k = (if ¬ (0 ≤ c ∧ c < 6 ∧ 0 ≤ s ∧ s < 3) then 1 else if ¬ (1 ≤ n ∧ n ≤ 100000) then 2 else if mg S 22 (3 * c + s) + n > 1000000 then 3 else 0) ∧
  (k ≠ 0 → S' = thr S k) ∧ (k = 0 → v = mg S 22 (3 * c + s) + n ∧ S' = updI (thr S 0) (mt 22) (3 * c + s).toNat (mg S 22 (3 * c + s) + n))
def s_stock : Spec := fun as S post => match as with
  | [.inr (.inr (some 2)), .inl c, .inl s, .inl n] => MS S ∧ (InR c ∧ InR s ∧ InR n ∧ stkOK S) ∧ ∀ k v S', stockR S c s n k v S' → post (.inl (some (vI v))) S'
  | _ => False
