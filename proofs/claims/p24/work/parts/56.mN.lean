/-- the lowest shade of which there is enough; -1 without -/
def shF (S : Sto) (its need : Int) : Int := if need ≤ mg S 22 (3 * its) then 0 else if need ≤ mg S 22 (3 * its + 1) then 1 else if need ≤ mg S 22 (3 * its + 2) then 2 else -1
theorem shP_F {S : Sto} {its need r : Int} (h : shP S its need (-1) r) : r = shF S its need := by
  unfold shF
  have e0 : 3 * its + 0 = 3 * its := by omega
  rcases h with ⟨h1, h2⟩ | ⟨h1, h2, h3, h4⟩
  · have a0 := h2 0 (by omega) (by omega)
    have a1 := h2 1 (by omega) (by omega)
    have a2 := h2 2 (by omega) (by omega)
    rw [e0] at a0
    rw [if_neg (by omega), if_neg (by omega), if_neg (by omega)]; exact h1
  · rcases (show r = 0 ∨ r = 1 ∨ r = 2 by omega) with e | e | e <;> subst e
    · rw [e0] at h3
      rw [if_pos h3]
    · have a0 := h4 0 (by omega) (by omega)
      rw [e0] at a0
      rw [if_neg (by omega), if_pos h3]
    · have a0 := h4 0 (by omega) (by omega)
      have a1 := h4 1 (by omega) (by omega)
      rw [e0] at a0
      rw [if_neg (by omega), if_neg (by omega), if_pos h3]
theorem shP_r {S : Sto} {its need r : Int} (h : shP S its need (-1) r) : -1 ≤ r ∧ r ≤ 2 := by
  unfold shP at h
  omega
abbrev cntD (S : Sto) (o c : Int) : Int := cntC S (mg S 24 o) c (mnK S (mg S 24 o)).toNat
def fitA (S : Sto) (o m n : Int) : Prop := ∀ j, 0 ≤ j → j < n → stK S (mg S 24 o) j % 16 < mg S 15 m ∧ stK S (mg S 24 o) j / 16 % 16 < mg S 16 m
def fitB (S : Sto) (o n : Int) : Prop := ∀ c, 0 ≤ c → c < n → cntD S o c = 0 ∨ shF S c (needK S o c) ≠ -1
def fitP (S : Sto) (o m : Int) : Prop := fitA S o m (mnK S (mg S 24 o)) ∧ fitB S o 6
def s_isFit : Spec := sP2 (fun S o m => orOK S o ∧ 0 ≤ m ∧ m < 4 ∧ InR (mg S 15 m) ∧ InR (mg S 16 m) ∧ stkOK S) fun S o m r => isB r (fitP S o m)
