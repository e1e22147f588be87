def sP1 (pre : Sto → Int → Prop) (rel : Sto → Int → Int → Prop) : Spec := fun as S post => match as with
  | [.inr (.inr (some 2)), .inl a] => MS S ∧ pre S a ∧ ∀ r : Int, rel S a r → post (.inl (some (vI r))) S
  | _ => False
def sP2 (pre : Sto → Int → Int → Prop) (rel : Sto → Int → Int → Int → Prop) : Spec := fun as S post => match as with
  | [.inr (.inr (some 2)), .inl a, .inl b] => MS S ∧ pre S a b ∧ ∀ r : Int, rel S a b r → post (.inl (some (vI r))) S
  | _ => False
def sP3 (pre : Sto → Int → Int → Int → Prop) (rel : Sto → Int → Int → Int → Int → Prop) : Spec := fun as S post => match as with
  | [.inr (.inr (some 2)), .inl a, .inl b, .inl d] => MS S ∧ pre S a b d ∧ ∀ r : Int, rel S a b d r → post (.inl (some (vI r))) S
  | _ => False
def sP4 (pre : Sto → Int → Int → Int → Int → Prop) (rel : Sto → Int → Int → Int → Int → Int → Prop) : Spec := fun as S post => match as with
  | [.inr (.inr (some 2)), .inl a, .inl b, .inl d, .inl e] => MS S ∧ pre S a b d e ∧ ∀ r : Int, rel S a b d e r → post (.inl (some (vI r))) S
  | _ => False
/-- two shapes have a cell in common -/
def metP (S : Sto) (a b : Int) : Prop := ∃ c : Int, 0 ≤ c ∧ c < 256 ∧ hasK S a (c % 16) (c / 16) ∧ hasK S b (c % 16) (c / 16)
def s_areMet : Spec := sP2 (fun S a b => shOK S a ∧ shOK S b) fun S a b r => isB r (metP S a b)
def s_isOff : Spec := sF2 (fun a b => -1000 ≤ a ∧ a ≤ 1000 ∧ -1000 ≤ b ∧ b ≤ 1000) fun a b r => isB r (a - b > 1 ∨ b - a > 1)
/-- the colour of the shape its of a design -/
def s_change : Spec := sP3 (fun S d a b => 0 ≤ d ∧ d < 7 ∧ 0 ≤ a ∧ a < 7 ∧ 0 ≤ b ∧ b < 7 ∧ InR (colK S d a) ∧ InR (colK S d b)) fun S d a b r => (colK S d a = colK S d b ∧ r = 0) ∨ (colK S d a ≠ colK S d b ∧ r = 1)
/-- a stitch's code, its colour -/
def stOK (S : Sto) (d j : Int) : Prop := 0 ≤ d ∧ d < 6 ∧ 0 ≤ j ∧ j < 2240 ∧ 0 ≤ stK S d j ∧ stK S d j < 1792
def s_colourAt : Spec := sP2 stOK fun S d j r => r = clK S d j
/-- how many of the first n stitches of a design are of a colour (-1: of any) -/
def cntC (S : Sto) (d its : Int) (n : Nat) : Int := sumTo (fun j => if its = -1 ∨ clK S d j = its then 1 else 0) n
theorem cntC_0 {S : Sto} {d its : Int} (n : Nat) : 0 ≤ cntC S d its n ∧ cntC S d its n ≤ n :=
  ⟨sumTo_0n (fun j => by split <;> omega) n, sumTo_le (fun j => by split <;> omega) n⟩
/-- the stitches of a design are in range -/
def dsOK (S : Sto) (d : Int) : Prop := 0 ≤ d ∧ d < 6 ∧ 0 ≤ mnK S d ∧ mnK S d ≤ 2240 ∧ (∀ j, 0 ≤ j → j < mnK S d → stOK S d j ∧ 0 ≤ clK S d j ∧ clK S d j < 6)
def s_manyOf : Spec := sP2 (fun S d its => dsOK S d ∧ InR its) fun S d its r => r = cntC S d its (mnK S d).toNat ∧ 0 ≤ r ∧ r ≤ 2240
