def offP (a b : Int) : Prop := a - b > 1 ∨ b - a > 1
/-- from the stitch ahead of it to the stitch j there is a jump; one that is hidden, or not -/
def jmpP (S : Sto) (d hid j : Int) : Prop := clK S d j = clK S d (j - 1) ∧ (offP (stK S d j % 16) (stK S d (j - 1) % 16) ∨ offP (stK S d j / 16 % 16) (stK S d (j - 1) / 16 % 16)) ∧
  (covN S d (stK S d j / 256) ((stK S d j % 16 + stK S d (j - 1) % 16) / 2) ((stK S d j / 16 % 16 + stK S d (j - 1) / 16 % 16) / 2) (shN S d) ↔ hid = 1)
noncomputable def jmpI (S : Sto) (d hid j : Int) : Int := @ite _ (jmpP S d hid j) (Classical.propDecidable _) 1 0
noncomputable def jmpN (S : Sto) (d hid : Int) (n : Nat) : Int := sumTo (fun j => jmpI S d hid ((j : Int) + 1)) (n - 1)
theorem jmpI_0 {S : Sto} {d hid j : Int} : 0 ≤ jmpI S d hid j ∧ jmpI S d hid j ≤ 1 := by
  unfold jmpI
  split <;> omega
theorem jmpN_0 {S : Sto} {d hid : Int} (n : Nat) : 0 ≤ jmpN S d hid n ∧ jmpN S d hid n ≤ n :=
  ⟨sumTo_0n (fun j => jmpI_0.1) _, by
    have := sumTo_le (f := fun j : Nat => jmpI S d hid ((j : Int) + 1)) (fun j => jmpI_0.2) (n - 1)
    unfold jmpN
    omega⟩
def jumpsR (S : Sto) (d hid k v : Int) (S' : Sto) : Prop := k = (if 0 ≤ d ∧ d < nD S then 0 else 1) ∧ S' = thr S k ∧ (k = 0 → v = jmpN S d hid (mnK S d).toNat)
theorem isB_hid {r hid : Int} {P : Prop} (h : isB r P) (hh : hid = 0 ∨ hid = 1) : r = hid ↔ (P ↔ hid = 1) := by
  rcases h with ⟨a, b⟩ | ⟨a, b⟩
  · constructor
    · intro e; exact ⟨fun _ => by omega, fun _ => a⟩
    · intro e; have := e.mp a; omega
  · constructor
    · intro e; exact ⟨fun q => absurd q a, fun q => by omega⟩
    · intro e
      rcases hh with q | q
      · omega
      · exact absurd (e.mpr q) a
theorem covN_t {S : Sto} {d i x y n : Int} : covN (thr S 0) d i x y n ↔ covN S d i x y n := Iff.rfl
def s_jumps : Spec := fun as S post => match as with
  | [.inr (.inr (some 2)), .inl d, .inl hid] => (∃ n, MI n S) ∧ (InR d ∧ (hid = 0 ∨ hid = 1)) ∧ ∀ k v S', jumpsR S d hid k v S' → post (.inl (some (vI v))) S'
  | _ => False
