/-! THE REFERENCE: its object (tag 2) and its arrays (tag 20 + the field's place) -/
def mRef : Nat → Option Nat := fun k => cond (isM k && Nat.blt k 33) (some (mt k)) none
def mLen : Nat → Nat
  | 1 => 7 | 2 => 49 | 3 => 49 | 4 => 49 | 5 => 49 | 6 => 49 | 7 => 49 | 9 => 42 | 10 => 6 | 11 => 13440 | 12 => 1024 | 14 => 4 | 15 => 4 | 16 => 4 | 17 => 4 | 18 => 4 | 19 => 4 | 20 => 24 | 21 => 24 | 22 => 18
  | 24 => 20 | 25 => 20 | 26 => 20 | 27 => 20 | 28 => 20 | 29 => 20 | 30 => 20 | 31 => 120 | 32 => 7 | _ => 0
def MS (S : Sto) : Prop := S.1 2 = some (7, 33) ∧ S.2.2 2 = mRef ∧ ∀ k, isM k = true → k < 33 → S.1 (mt k) = some (100, mLen k)
theorem ms_o {S : Sto} (h : MS S) : ∃ n, S.1 2 = some (7, n) := ⟨33, h.1⟩
theorem ms_r {S : Sto} (h : MS S) {k : Nat} {i : Int} (hk : isM k = true) (hk2 : Nat.blt k 33 = true) (h0 : 0 ≤ i) (h1 : i < (mLen k : Int)) : ∃ cd n, S.1 (mt k) = some (cd, n) ∧ (cd = 100 ∨ cd = 102) ∧ 0 ≤ i ∧ i < (n : Int) := ⟨100, mLen k, h.2.2 k hk (by simpa using hk2), Or.inl rfl, h0, h1⟩
theorem ms_w {S : Sto} (h : MS S) {k : Nat} {i : Int} (hk : isM k = true) (hk2 : Nat.blt k 33 = true) (h0 : 0 ≤ i) (h1 : i < (mLen k : Int)) : ∃ n, S.1 (mt k) = some (100, n) ∧ 0 ≤ i ∧ i < (n : Int) := ⟨mLen k, h.2.2 k hk (by simpa using hk2), h0, h1⟩
theorem MS.upd {S : Sto} (h : MS S) {t k : Nat} {v : Int} : MS (updI S t k v) := h
def wideF (kd wd row : Int) : Int := if kd = 1 ∧ row + 1 < wd then row + 1 else wd
def hasP (kd lf tp wd hg x y : Int) : Prop := tp ≤ y ∧ y < tp + hg ∧ lf ≤ x ∧ x < lf + wideF kd wd (y - tp)
/-- the data of the shape at place k are in range -/
def shOK (S : Sto) (k : Int) : Prop := 0 ≤ k ∧ k < 49 ∧ (mg S 2 k = 0 ∨ mg S 2 k = 1) ∧ 0 ≤ mg S 3 k ∧ mg S 3 k < 6 ∧ 0 ≤ mg S 4 k ∧ mg S 4 k ≤ 15 ∧ 0 ≤ mg S 5 k ∧ mg S 5 k ≤ 15 ∧ 1 ≤ mg S 6 k ∧ mg S 6 k ≤ 16 - mg S 4 k ∧ 1 ≤ mg S 7 k ∧ mg S 7 k ≤ 16 - mg S 5 k
def hasK (S : Sto) (k x y : Int) : Prop := hasP (mg S 2 k) (mg S 4 k) (mg S 5 k) (mg S 6 k) (mg S 7 k) x y
def s_thrown : Spec := fun as S post => match as with
  | [.inr (.inr (some 2))] => MS S ∧ post (.inl (some (vI (mf S 0)))) S
  | _ => False
def s_holds : Spec := fun as S post => match as with
  | [.inr (.inr (some 2)), .inl p] => MS S ∧ InR p ∧ ∀ r, isB r (p = 0) → post (.inl (some (vI r))) (updI S 2 0 p)
  | _ => False
def s_isIn : Spec := sF3 (fun a b c => InR a ∧ InR b ∧ InR c) fun a b c r => isB r (b ≤ a ∧ a ≤ c)
def s_isNum (k : Nat) : Spec := fun as S post => match as with
  | [.inr (.inr (some 2)), .inl a] => MS S ∧ InR a ∧ (0 ≤ mf S k ∧ mf S k ≤ 20) ∧ ∀ r, isB r (0 ≤ a ∧ a < mf S k) → post (.inl (some (vI r))) S
  | _ => False
def s_wideAt : Spec := fun as S post => match as with
  | [.inr (.inr (some 2)), .inl k, .inl row] => MS S ∧ shOK S k ∧ (0 ≤ row ∧ row ≤ 100) ∧ ∀ r, (r = wideF (mg S 2 k) (mg S 6 k) row ∧ 1 ≤ r ∧ r ≤ mg S 6 k) → post (.inl (some (vI r))) S
  | _ => False
def s_has : Spec := fun as S post => match as with
  | [.inr (.inr (some 2)), .inl k, .inl x, .inl y] => MS S ∧ shOK S k ∧ (-100 ≤ x ∧ x ≤ 100 ∧ -100 ≤ y ∧ y ≤ 100) ∧ ∀ r, isB r (hasK S k x y) → post (.inl (some (vI r))) S
  | _ => False
def s_isNum_8 : Spec := s_isNum 8
def s_isNum_13 : Spec := s_isNum 13
def s_isNum_23 : Spec := s_isNum 23
