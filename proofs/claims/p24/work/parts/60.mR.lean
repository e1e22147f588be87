def cancelR (S : Sto) (o k v : Int) (S' : Sto) : Prop := k = (if ¬ (0 ≤ o ∧ o < nO S) then 1 else if mg S 26 o = 2 ∨ mg S 26 o = 3 then 2 else 0) ∧ (k ≠ 0 → S' = thr S k) ∧
  (k = 0 → ∃ T, T = (if mg S 26 o = 1 then updI (updI (thr S 0) (mt 17) (mg S 27 o).toNat (-1)) (mt 27) o.toNat (-1) else thr S 0) ∧ v = wsN S o ∧ S' = updI (updI (updI (updI T (mt 26) o.toNat 3) (mt 30) o.toNat (mg S 30 o + wsN S o)) (mt 28) o.toNat 0) (mt 29) o.toNat 0)
def s_cancel : Spec := fun as S post => match as with
  | [.inr (.inr (some 2)), .inl o] => (∃ n, MI n S) ∧ InR o ∧ ∀ k v S', cancelR S o k v S' → post (.inl (some (vI v))) S'
  | _ => False
def snapR (S : Sto) (m k v : Int) (S' : Sto) : Prop := k = (if ¬ (0 ≤ m ∧ m < nM S) then 1 else if mg S 17 m = -1 ∨ mg S 29 (mg S 17 m) = 0 then 2 else 0) ∧ (k ≠ 0 → S' = thr S k) ∧
  (k = 0 → ∃ o, o = mg S 17 m ∧ 1 ≤ v ∧ v ≤ 5 ∧ v ≤ mg S 29 o ∧ (∀ j, mg S 29 o - v ≤ j → j < mg S 29 o → stK S (mg S 24 o) j / 256 = stK S (mg S 24 o) (mg S 29 o - 1) / 256) ∧
    (v = 5 ∨ v = mg S 29 o ∨ stK S (mg S 24 o) (mg S 29 o - v - 1) / 256 ≠ stK S (mg S 24 o) (mg S 29 o - 1) / 256) ∧ agr [29, 30] (thr S 0) S' ∧ mg S' 29 o = mg S 29 o - v ∧ mg S' 30 o = mg S 30 o + v ∧ (∀ q, 0 ≤ q → q ≠ o → mg S' 29 q = mg S 29 q ∧ mg S' 30 q = mg S 30 q))
def s_snap : Spec := fun as S post => match as with
  | [.inr (.inr (some 2)), .inl m] => (∃ n, MI n S) ∧ InR m ∧ ∀ k v S', snapR S m k v S' → post (.inl (some (vI v))) S'
  | _ => False
