theorem sumTo_e {f g : Nat → Int} (h : ∀ j, f j = g j) (n : Nat) : sumTo f n = sumTo g n := sumTo_congr n fun j _ => h j
/-- what speaks of the designs alone is kept -/
theorem agr.cl {ks : List Nat} {S S' : Sto} (h : agr ks S S') (h3 : 3 ∉ ks) (h11 : 11 ∉ ks) {d j : Int} : clK S' d j = clK S d j := by
  have e : stK S' d j = stK S d j := h.mg h11
  have e2 := h.mg (i := 7 * d + stK S d j / 256) h3
  unfold clK
  rw [e]; exact e2
theorem agr.cnt {ks : List Nat} {S S' : Sto} (h : agr ks S S') (h3 : 3 ∉ ks) (h11 : 11 ∉ ks) {d c : Int} {n : Nat} : cntC S' d c n = cntC S d c n := by
  unfold cntC
  refine sumTo_e (fun j => ?_) n
  rw [h.cl h3 h11]
theorem agr.st {ks : List Nat} {S S' : Sto} (h : agr ks S S') (h11 : 11 ∉ ks) {d j : Int} : stOK S' d j ↔ stOK S d j := by
  have e : stK S' d j = stK S d j := h.mg h11
  unfold stOK
  rw [e]
theorem agr.ds {ks : List Nat} {S S' : Sto} (h : agr ks S S') (h3 : 3 ∉ ks) (h10 : 10 ∉ ks) (h11 : 11 ∉ ks) {d : Int} : dsOK S' d ↔ dsOK S d := by
  have e10 : mnK S' d = mnK S d := h.mg h10
  unfold dsOK
  simp only [h.cl h3 h11, h.st h11, e10]
theorem agr.or {ks : List Nat} {S S' : Sto} (h : agr ks S S') (h3 : 3 ∉ ks) (h10 : 10 ∉ ks) (h11 : 11 ∉ ks) (h24 : 24 ∉ ks) (h25 : 25 ∉ ks) {o : Int} : orOK S' o ↔ orOK S o := by
  unfold orOK
  have e24 : ∀ i : Int, S'.2.1 (mt 24) i.toNat = S.2.1 (mt 24) i.toNat := fun i => h.mg h24
  have e25 : ∀ i : Int, S'.2.1 (mt 25) i.toNat = S.2.1 (mt 25) i.toNat := fun i => h.mg h25
  simp only [h.ds h3 h10 h11, e24, e25]
theorem agr.need {ks : List Nat} {S S' : Sto} (h : agr ks S S') (h3 : 3 ∉ ks) (h10 : 10 ∉ ks) (h11 : 11 ∉ ks) (h24 : 24 ∉ ks) (h25 : 25 ∉ ks) {o c : Int} : needK S' o c = needK S o c := by
  unfold needK
  have e24 : ∀ i : Int, S'.2.1 (mt 24) i.toNat = S.2.1 (mt 24) i.toNat := fun i => h.mg h24
  have e25 : ∀ i : Int, S'.2.1 (mt 25) i.toNat = S.2.1 (mt 25) i.toNat := fun i => h.mg h25
  have e10 : ∀ i : Int, S'.2.1 (mt 10) i.toNat = S.2.1 (mt 10) i.toNat := fun i => h.mg h10
  simp only [h.cnt h3 h11, e24, e25, e10]
theorem agr.stk {ks : List Nat} {S S' : Sto} (h : agr ks S S') (h22 : 22 ∉ ks) : stkOK S' ↔ stkOK S := by
  have e : ∀ i : Int, S'.2.1 (mt 22) i.toNat = S.2.1 (mt 22) i.toNat := fun i => h.mg h22
  unfold stkOK
  simp only [e]
theorem agr.shf {ks : List Nat} {S S' : Sto} (h : agr ks S S') (h22 : 22 ∉ ks) {c n : Int} : shF S' c n = shF S c n := by
  have e : ∀ i : Int, S'.2.1 (mt 22) i.toNat = S.2.1 (mt 22) i.toNat := fun i => h.mg h22
  unfold shF
  simp only [e]
/-- the shade that start gives a colour of an order -/
def giv (S : Sto) (o c : Int) : Int := if cntD S o c = 0 then -1 else shF S c (needK S o c)
/-- the first n colours of an order are given their shades -/
def fillS (S T : Sto) (o : Int) : Nat → Sto
  | 0 => T
  | n + 1 => updI (fillS S T o n) (mt 31) (6 * o + n).toNat (giv S o n)
theorem fillS_ag {S T : Sto} {o : Int} : ∀ n, agr [31] T (fillS S T o n)
  | 0 => agr.rf
  | n + 1 => (fillS_ag n).upd (by simp)
def canSt (S : Sto) (o m : Int) : Prop := mg S 26 o = 0 ∧ mg S 17 m = -1 ∧ fitP S o m
def startR (S : Sto) (o m k : Int) (S' : Sto) : Prop := ((¬ (0 ≤ o ∧ o < nO S ∧ 0 ≤ m ∧ m < nM S) ∧ k = 1) ∨ ((0 ≤ o ∧ o < nO S ∧ 0 ≤ m ∧ m < nM S) ∧ canSt S o m ∧ k = 0) ∨ ((0 ≤ o ∧ o < nO S ∧ 0 ≤ m ∧ m < nM S) ∧ ¬ canSt S o m ∧ k = 2)) ∧ (k ≠ 0 → S' = thr S k) ∧
  (k = 0 → S' = updI (updI (updI (fillS S (thr S 0) o 6) (mt 26) o.toNat 1) (mt 27) o.toNat m) (mt 17) m.toNat o)
def s_start : Spec := fun as S post => match as with
  | [.inr (.inr (some 2)), .inl o, .inl m] => (∃ n, MI n S) ∧ (InR o ∧ InR m) ∧ ∀ k S', startR S o m k S' → post (.inl none) S'
  | _ => False
