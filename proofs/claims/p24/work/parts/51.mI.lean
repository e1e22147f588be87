theorem mt_a {k : Nat} : (2 = mt k) = False := eq_false (by unfold mt; omega)
theorem mt_b {k : Nat} : (mt k = 2) = False := eq_false (by unfold mt; omega)
theorem mt_c {a b : Nat} : (mt a = mt b) = (a = b) := propext ⟨mt_inj, fun e => by rw [e]⟩
def wipeR (S : Sto) (k v : Int) (S' : Sto) : Prop := k = 0 ∧ v = shN S 6 ∧ S' = updI (thr S 0) (mt 1) 6 0
def s_wipe : Spec := fun as S post => match as with
  | [.inr (.inr (some 2))] => (∃ n, MI n S) ∧ (True) ∧ ∀ k v S', wipeR S  k v S' → post (.inl (some (vI v))) S'
  | _ => False
def orderR (S : Sto) (d p k v : Int) (S' : Sto) : Prop := k = (if ¬ (0 ≤ d ∧ d < nD S) then 1 else if ¬ (1 ≤ p ∧ p ≤ 50) then 2 else if nO S = 20 then 3 else 0) ∧ (k ≠ 0 → S' = thr S k) ∧ (k = 0 → v = nO S ∧ S' = updI (updI (updI (updI (thr S 0) (mt 24) (nO S).toNat d) (mt 25) (nO S).toNat p) (mt 27) (nO S).toNat (-1)) 2 23 (nO S + 1))
def s_order : Spec := fun as S post => match as with
  | [.inr (.inr (some 2)), .inl d, .inl p] => (∃ n, MI n S) ∧ (InR d ∧ InR p) ∧ ∀ k v S', orderR S d p k v S' → post (.inl (some (vI v))) S'
  | _ => False
def shapeR (S : Sto) (i c x y w g k v : Int) (S' : Sto) : Prop := k = (if ¬ (0 ≤ i ∧ i ≤ 1 ∧ 0 ≤ c ∧ c < 6) then 1 else if ¬ (0 ≤ x ∧ x ≤ 15 ∧ 0 ≤ y ∧ y ≤ 15 ∧ 1 ≤ w ∧ w ≤ 16 - x ∧ 1 ≤ g ∧ g ≤ 16 - y) then 2 else if shN S 6 = 7 then 3 else 0) ∧ (k ≠ 0 → S' = thr S k) ∧ (k = 0 → v = shN S 6 + 1 ∧ S' = updI (updI (updI (updI (updI (updI (updI (thr S 0) (mt 2) (42 + shN S 6).toNat i) (mt 3) (42 + shN S 6).toNat c) (mt 4) (42 + shN S 6).toNat x) (mt 5) (42 + shN S 6).toNat y) (mt 6) (42 + shN S 6).toNat w) (mt 7) (42 + shN S 6).toNat g) (mt 1) 6 (shN S 6 + 1))
def s_shape : Spec := fun as S post => match as with
  | [.inr (.inr (some 2)), .inl i, .inl c, .inl x, .inl y, .inl w, .inl g] => (∃ n, MI n S) ∧ (InR i ∧ InR c ∧ InR x ∧ InR y ∧ InR w ∧ InR g) ∧ ∀ k v S', shapeR S i c x y w g k v S' → post (.inl (some (vI v))) S'
  | _ => False
