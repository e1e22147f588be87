/-- a cell is one of a shape that comes, among the first n places, behind the shape its -/
def covN (S : Sto) (d its x y : Int) (n : Int) : Prop := ∃ q, 0 ≤ q ∧ q < n ∧ (∃ p, 0 ≤ p ∧ p < q ∧ seqK S d p = its) ∧ hasK S (7 * d + seqK S d q) x y
def sqOK (S : Sto) (d : Int) : Prop := 0 ≤ d ∧ d < 6 ∧ 1 ≤ shN S d ∧ shN S d ≤ 7 ∧ ∀ p, 0 ≤ p → p < shN S d → 0 ≤ seqK S d p ∧ seqK S d p < 7 ∧ shOK S (7 * d + seqK S d p)
def s_isCovered : Spec := sP4 (fun S d its x y => sqOK S d ∧ (0 ≤ its ∧ its < 7 ∧ 0 ≤ x ∧ x < 100 ∧ 0 ≤ y ∧ y < 100)) fun S d its x y r => isB r (covN S d its x y (shN S d))
