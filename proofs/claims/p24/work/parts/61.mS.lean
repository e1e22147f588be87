def canMa (S : Sto) (o c s : Int) : Prop := mg S 26 o = 1 ∧ 0 < needK S o c ∧ sdK S o c ≠ s ∧ needK S o c ≤ mg S 22 (3 * c + s)
def sewnP (S : Sto) (o c : Int) (n : Int) : Prop := 0 < mg S 28 o ∨ ∃ j, 0 ≤ j ∧ j < n ∧ clK S (mg S 24 o) j = c
def wsU (S : Sto) (o : Int) : Sto := updI (updI (updI S (mt 30) o.toNat (mg S 30 o + wsN S o)) (mt 28) o.toNat 0) (mt 29) o.toNat 0
def matchR (S : Sto) (o c s k v : Int) (S' : Sto) : Prop := ((¬ (0 ≤ o ∧ o < nO S ∧ 0 ≤ c ∧ c < 6 ∧ 0 ≤ s ∧ s < 3) ∧ k = 1) ∨ ((0 ≤ o ∧ o < nO S ∧ 0 ≤ c ∧ c < 6 ∧ 0 ≤ s ∧ s < 3) ∧ canMa S o c s ∧ k = 0) ∨ ((0 ≤ o ∧ o < nO S ∧ 0 ≤ c ∧ c < 6 ∧ 0 ≤ s ∧ s < 3) ∧ ¬ canMa S o c s ∧ k = 2)) ∧ (k ≠ 0 → S' = thr S k) ∧
  (k = 0 → (¬ sewnP S o c (mg S 29 o) ∧ v = 0 ∧ S' = updI (thr S 0) (mt 31) (6 * o + c).toNat s) ∨ (sewnP S o c (mg S 29 o) ∧ v = mg S 28 o + (if 0 < mg S 29 o then 1 else 0) ∧ S' = wsU (updI (thr S 0) (mt 31) (6 * o + c).toNat s) o))
def s_match : Spec := fun as S post => match as with
  | [.inr (.inr (some 2)), .inl o, .inl c, .inl s] => (∃ n, MI n S) ∧ (InR o ∧ InR c ∧ InR s) ∧ ∀ k v S', matchR S o c s k v S' → post (.inl (some (vI v))) S'
  | _ => False
