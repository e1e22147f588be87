/-- n places from b on are -1 in the array of what the heads hold -/
def fillH (S : Sto) (b : Int) : Nat → Sto
  | 0 => S
  | n + 1 => updI (fillH S b n) (mt 20) (b + n).toNat (-1)
theorem fillH_ag {S : Sto} {b : Int} : ∀ n, agr [20] S (fillH S b n)
  | 0 => agr.rf
  | n + 1 => (fillH_ag n).upd (by simp)
def machineR (S : Sto) (a w g k v : Int) (S' : Sto) : Prop := k = (if ¬ (1 ≤ a ∧ a ≤ 6 ∧ 1 ≤ w ∧ w ≤ 16 ∧ 1 ≤ g ∧ g ≤ 16) then 1 else if nM S = 4 then 2 else 0) ∧ (k ≠ 0 → S' = thr S k) ∧
  (k = 0 → v = nM S ∧ S' = updI (fillH (updI (updI (updI (updI (thr S 0) (mt 14) (nM S).toNat a) (mt 15) (nM S).toNat w) (mt 16) (nM S).toNat g) (mt 17) (nM S).toNat (-1)) (6 * nM S) 6) 2 13 (nM S + 1))
def s_machine : Spec := fun as S post => match as with
  | [.inr (.inr (some 2)), .inl a, .inl w, .inl g] => (∃ n, MI n S) ∧ (InR a ∧ InR w ∧ InR g) ∧ ∀ k v S', machineR S a w g k v S' → post (.inl (some (vI v))) S'
  | _ => False
