theorem u2 {S : Sto} {k : Int} {j i : Nat} : (updI S 2 0 k).2.1 (mt j) i = S.2.1 (mt j) i := by
  show (if mt j = 2 ∧ _ then _ else _) = _
  rw [if_neg (by rintro ⟨e, -⟩; unfold mt at e; omega)]
def leftR (S : Sto) (c s k v : Int) (S' : Sto) : Prop := k = (if 0 ≤ c ∧ c < 6 ∧ 0 ≤ s ∧ s < 3 then 0 else 1) ∧ S' = thr S k ∧ (k = 0 → v = mg S 22 (3 * c + s))
def s_left : Spec := fun as S post => match as with
  | [.inr (.inr (some 2)), .inl c, .inl s] => (∃ n, MI n S) ∧ (InR c ∧ InR s) ∧ ∀ k v S', leftR S c s k v S' → post (.inl (some (vI v))) S'
  | _ => False
def shadeOfR (S : Sto) (o c k v : Int) (S' : Sto) : Prop := k = (if 0 ≤ o ∧ o < nO S ∧ 0 ≤ c ∧ c < 6 then 0 else 1) ∧ S' = thr S k ∧ (k = 0 → v = sdK S o c)
def s_shadeOf : Spec := fun as S post => match as with
  | [.inr (.inr (some 2)), .inl o, .inl c] => (∃ n, MI n S) ∧ (InR o ∧ InR c) ∧ ∀ k v S', shadeOfR S o c k v S' → post (.inl (some (vI v))) S'
  | _ => False
def ofOrderR (S : Sto) (o w k v : Int) (S' : Sto) : Prop := k = (if ¬ (0 ≤ o ∧ o < nO S) then 1 else if 0 ≤ w ∧ w ≤ 6 then 0 else 2) ∧ S' = thr S k ∧ (k = 0 → v = if w = 0 then mg S 26 o else if w = 1 then mg S 24 o else if w = 2 then mg S 25 o else if w = 3 then mg S 28 o else if w = 4 then mg S 29 o else if w = 5 then mg S 30 o else mg S 27 o)
def s_ofOrder : Spec := fun as S post => match as with
  | [.inr (.inr (some 2)), .inl o, .inl w] => (∃ n, MI n S) ∧ (InR o ∧ InR w) ∧ ∀ k v S', ofOrderR S o w k v S' → post (.inl (some (vI v))) S'
  | _ => False
def sequenceR (S : Sto) (d p k v : Int) (S' : Sto) : Prop := k = (if 0 ≤ d ∧ d < nD S ∧ 0 ≤ p then 0 else 1) ∧ S' = thr S k ∧ (k = 0 → v = if p < shN S d then seqK S d p else -1)
def s_sequence : Spec := fun as S post => match as with
  | [.inr (.inr (some 2)), .inl d, .inl p] => (∃ n, MI n S) ∧ (InR d ∧ InR p) ∧ ∀ k v S', sequenceR S d p k v S' → post (.inl (some (vI v))) S'
  | _ => False
def stitchR (S : Sto) (d p w k v : Int) (S' : Sto) : Prop := k = (if ¬ (0 ≤ d ∧ d < nD S) ∨ p < 0 then 1 else if 0 ≤ w ∧ w ≤ 2 then 0 else 2) ∧ S' = thr S k ∧ (k = 0 → v = if mnK S d ≤ p then -1 else if w = 0 then stK S d p % 16 else if w = 1 then stK S d p / 16 % 16 else stK S d p / 256)
def s_stitch : Spec := fun as S post => match as with
  | [.inr (.inr (some 2)), .inl d, .inl p, .inl w] => (∃ n, MI n S) ∧ (InR d ∧ InR p ∧ InR w) ∧ ∀ k v S', stitchR S d p w k v S' → post (.inl (some (vI v))) S'
  | _ => False
def stitchesR (S : Sto) (d c k v : Int) (S' : Sto) : Prop := k = (if 0 ≤ d ∧ d < nD S ∧ (c = -1 ∨ 0 ≤ c ∧ c < 6) then 0 else 1) ∧ S' = thr S k ∧ (k = 0 → v = cntC S d c (mnK S d).toNat)
def s_stitches : Spec := fun as S post => match as with
  | [.inr (.inr (some 2)), .inl d, .inl c] => (∃ n, MI n S) ∧ (InR d ∧ InR c) ∧ ∀ k v S', stitchesR S d c k v S' → post (.inl (some (vI v))) S'
  | _ => False
