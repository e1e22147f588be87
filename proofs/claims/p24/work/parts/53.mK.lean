/-- the changes along the first places of a design -/
def chgN (S : Sto) (d : Int) (n : Nat) : Int := sumTo (fun p => if colK S d (seqK S d p) = colK S d (seqK S d (p + 1)) then 0 else 1) (n - 1)
theorem chgN_0 {S : Sto} {d : Int} (n : Nat) : 0 ≤ chgN S d n ∧ chgN S d n ≤ n :=
  ⟨sumTo_0n (fun j => by split <;> omega) _, by
    have := sumTo_le (f := fun p : Nat => if colK S d (seqK S d p) = colK S d (seqK S d ((p : Int) + 1)) then 0 else 1) (fun j => by split <;> omega) (n - 1)
    unfold chgN
    omega⟩
def changesR (S : Sto) (d k v : Int) (S' : Sto) : Prop := k = (if 0 ≤ d ∧ d < nD S then 0 else 1) ∧ S' = thr S k ∧ (k = 0 → v = chgN S d (shN S d).toNat)
def s_changes : Spec := fun as S post => match as with
  | [.inr (.inr (some 2)), .inl d] => (∃ n, MI n S) ∧ InR d ∧ ∀ k v S', changesR S d k v S' → post (.inl (some (vI v))) S'
  | _ => False
def s_changesAnew : Spec := s_changes
