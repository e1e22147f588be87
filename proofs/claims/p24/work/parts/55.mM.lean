/-- the colours that the first heads hold, as bits -/
def hset (S : Sto) (i : Int) : Nat → Nat
  | 0 => 0
  | k + 1 => if hdK S i k = -1 then hset S i k else hset S i k ||| 2 ^ (hdK S i k).toNat
theorem hset_lt {S : Sto} {i : Int} (h : ∀ k, 0 ≤ k → k < 6 → -1 ≤ hdK S i k ∧ hdK S i k < 6) : ∀ k : Nat, k ≤ 6 → hset S i k < 64
  | 0, _ => by show 0 < 64; omega
  | k + 1, hk => by
    unfold hset
    have := h k (by omega) (by omega)
    split
    · exact hset_lt h k (by omega)
    · exact Nat.or_lt_two_pow (n := 6) (hset_lt h k (by omega)) (Nat.pow_lt_pow_right (by omega) (by omega))
def ofMachineR (S : Sto) (i w k v : Int) (S' : Sto) : Prop := k = (if ¬ (0 ≤ i ∧ i < nM S) then 1 else if 0 ≤ w ∧ w ≤ 3 then 0 else 2) ∧ S' = thr S k ∧
  (k = 0 → v = if w = 0 then mg S 17 i else if w = 1 then mg S 18 i else if w = 2 then ((hset S i (mg S 14 i).toNat : Nat) : Int) else mg S 19 i)
def s_ofMachine : Spec := fun as S post => match as with
  | [.inr (.inr (some 2)), .inl i, .inl w] => (∃ n, MI n S) ∧ (InR i ∧ InR w) ∧ ∀ k v S', ofMachineR S i w k v S' → post (.inl (some (vI v))) S'
  | _ => False
