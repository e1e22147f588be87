def s_leaves : Spec := fun as S post => match as with
  | [.inr (.inr (some 2)), .inl o] => MS S ∧ (0 ≤ o ∧ o < 20 ∧ 0 ≤ mg S 27 o ∧ mg S 27 o < 4) ∧ post (.inl none) (updI (updI S (mt 17) (mg S 27 o).toNat (-1)) (mt 27) o.toNat (-1))
  | _ => False
def wsN (S : Sto) (o : Int) : Int := mg S 28 o * mg S 10 (mg S 24 o) + mg S 29 o
def s_wastes : Spec := fun as S post => match as with
  | [.inr (.inr (some 2)), .inl o] => MS S ∧ (0 ≤ o ∧ o < 20 ∧ 0 ≤ mg S 24 o ∧ mg S 24 o < 6) ∧ post (.inl (some (vI (wsN S o)))) (updI (updI (updI S (mt 30) o.toNat (mg S 30 o + wsN S o)) (mt 28) o.toNat 0) (mt 29) o.toNat 0)
  | _ => False
def sewU (S : Sto) (d its x y : Int) : Sto := updI (updI S (mt 11) (2240 * d + mnK S d).toNat (x + 16 * y + 256 * its)) (mt 10) d.toNat (mnK S d + 1)
def s_sews : Spec := fun as S post => match as with
  | [.inr (.inr (some 2)), .inl d, .inl its, .inl x, .inl y] => MS S ∧ (0 ≤ d ∧ d < 6 ∧ 0 ≤ mnK S d ∧ mnK S d < 2240) ∧ post (.inl none) (sewU S d its x y)
  | _ => False
/-- r is the lowest shade above k that is enough, -1 without -/
def shP (S : Sto) (its need k r : Int) : Prop := (r = -1 ∧ ∀ j, k < j → j ≤ 2 → mg S 22 (3 * its + j) < need) ∨ (k < r ∧ r ≤ 2 ∧ need ≤ mg S 22 (3 * its + r) ∧ ∀ j, k < j → j < r → mg S 22 (3 * its + j) < need)
theorem shP_lo {S : Sto} {its need k r : Int} (h : shP S its need k r) (hk : mg S 22 (3 * its + k) < need) : shP S its need (k + -1) r := by
  rcases h with ⟨h1, h2⟩ | ⟨h1, h2, h3, h4⟩
  · refine Or.inl ⟨h1, fun j q1 q2 => ?_⟩
    by_cases e : j = k
    · rw [e]; exact hk
    · exact h2 j (by omega) q2
  · refine Or.inr ⟨by omega, h2, h3, fun j q1 q2 => ?_⟩
    by_cases e : j = k
    · rw [e]; exact hk
    · exact h4 j (by omega) q2
theorem shP_hi {S : Sto} {its need k : Int} (h2 : k ≤ 2) (hk : need ≤ mg S 22 (3 * its + k)) : shP S its need (k + -1) k := Or.inr ⟨by omega, h2, hk, fun j q1 q2 => by omega⟩
def needK (S : Sto) (o its : Int) : Int := mg S 25 o * cntC S (mg S 24 o) its (mnK S (mg S 24 o)).toNat
def orOK (S : Sto) (o : Int) : Prop := 0 ≤ o ∧ o < 20 ∧ 1 ≤ mg S 25 o ∧ mg S 25 o ≤ 50 ∧ dsOK S (mg S 24 o)
def stkOK (S : Sto) : Prop := ∀ k, 0 ≤ k → k < 18 → 0 ≤ mg S 22 k ∧ mg S 22 k ≤ 1000000
def s_shadeFor : Spec := sP2 (fun S o its => orOK S o ∧ 0 ≤ its ∧ its < 6 ∧ stkOK S) fun S o its r => shP S its (needK S o its) (-1) r
def s_aheadOf : Spec := sP2 (fun S d its => 0 ≤ d ∧ d < 6 ∧ 0 ≤ its ∧ its < 7 ∧ ∀ k, 0 ≤ k → k ≤ its → shOK S (7 * d + k)) fun S d its r => ∃ A : Nat, r = A ∧ A < 128 ∧ ∀ k : Nat, A.testBit k = true ↔ (k : Int) < its ∧ metP S (7 * d + k) (7 * d + its)
