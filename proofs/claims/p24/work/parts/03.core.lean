/-! THE ABSTRACT MACHINE: values are mathematical integers and tags, the store is a memory of ints and one of references over tags (a ghost map gives each tag its address). -/
abbrev AV := Int ⊕ (Int ⊕ Option Nat)
abbrev Sto := (Nat → Option (Nat × Nat)) × (Nat → Nat → Int) × (Nat → Nat → Option Nat)
abbrev Res := Option AV ⊕ Nat
abbrev Spec := List AV → Sto → (Res → Sto → Prop) → Prop
abbrev vI (z : Int) : AV := .inl z
abbrev vL (z : Int) : AV := .inr (.inl z)
abbrev vR (r : Option Nat) : AV := .inr (.inr r)
abbrev vT (t : Nat) : AV := .inr (.inr (some t))
/-- a local of which nothing is known -/
abbrev uu : AV := .inr (.inl 0)
abbrev InR (z : Int) : Prop := -2147483648 ≤ z ∧ z ≤ 2147483647
def bAnd (a b : Int) : Int := (Int32.ofInt a &&& Int32.ofInt b).toInt
def bOr (a b : Int) : Int := (Int32.ofInt a ||| Int32.ofInt b).toInt
def bXor (a b : Int) : Int := (Int32.ofInt a ^^^ Int32.ofInt b).toInt
def bShl (a b : Int) : Int := (Int32.ofInt a <<< (Int32.ofInt b &&& 31)).toInt
def bShr (a b : Int) : Int := (Int32.ofInt a >>> (Int32.ofInt b &&& 31)).toInt
def bUshr (a b : Int) : Int := (((Int32.ofInt a).toUInt32 >>> ((Int32.ofInt b).toUInt32 &&& Int32.toUInt32 31)).toInt32).toInt
theorem oI_add (a b : Int) : Int32.ofInt a + Int32.ofInt b = Int32.ofInt (a + b) := (Int32.toBitVec.inj (by simp [BitVec.ofInt_add]))
theorem oI_neg (a : Int) : - Int32.ofInt a = Int32.ofInt (-a) := Int32.neg_ofInt
theorem oI_sub (a b : Int) : Int32.ofInt a - Int32.ofInt b = Int32.ofInt (a - b) := by rw [Int32.sub_eq_add_neg, oI_neg, oI_add, Int.sub_eq_add_neg]
theorem oI_mul (a b : Int) : Int32.ofInt a * Int32.ofInt b = Int32.ofInt (a * b) := (Int32.toBitVec.inj (by simp [BitVec.ofInt_mul]))
theorem oI_toInt {a : Int} (h : InR a) : (Int32.ofInt a).toInt = a := Int32.toInt_ofInt_of_le (by have := h.1; omega) (by have := h.2; omega)
theorem oI_lt {a b : Int} (ha : InR a) (hb : InR b) : Int32.ofInt a < Int32.ofInt b ↔ a < b := by rw [Int32.lt_iff_toInt_lt, oI_toInt ha, oI_toInt hb]
theorem oI_le {a b : Int} (ha : InR a) (hb : InR b) : Int32.ofInt a ≤ Int32.ofInt b ↔ a ≤ b := by rw [Int32.le_iff_toInt_le, oI_toInt ha, oI_toInt hb]
theorem oI_eq {a b : Int} (ha : InR a) (hb : InR b) : Int32.ofInt a = Int32.ofInt b ↔ a = b := by rw [← Int32.toInt_inj, oI_toInt ha, oI_toInt hb]
theorem oI_0 : (0 : Int32) = Int32.ofInt 0 := rfl
theorem oI_nat {a : Int} (h0 : 0 ≤ a) (h : a ≤ 2147483647) : (Int32.ofInt a).toNatClampNeg = a.toNat := Int32.toNatClampNeg_ofInt_of_le (by omega) (by omega)
theorem oI_div {a b : Int} (h0 : 0 ≤ a) (ha : a ≤ 2147483647) (hb0 : 0 < b) (hb : b ≤ 2147483647) : Int32.ofInt a / Int32.ofInt b = Int32.ofInt (a / b) := by
  have hq : 0 ≤ a / b := Int.ediv_nonneg h0 (by omega)
  have hq2 : a / b ≤ a := Int.ediv_le_self b h0
  rw [← Int32.toInt_inj, Int32.toInt_div_of_ne_left, oI_toInt ⟨by omega, ha⟩, oI_toInt ⟨by omega, hb⟩, oI_toInt ⟨by omega, by omega⟩, Int.tdiv_eq_ediv_of_nonneg h0]
  intro e
  have e2 := congrArg Int32.toInt e
  rw [oI_toInt ⟨by omega, ha⟩] at e2
  have e3 : (Int32.minValue).toInt = -2147483648 := by decide
  omega
theorem oI_rem {a b : Int} (h0 : 0 ≤ a) (ha : a ≤ 2147483647) (hb0 : 0 < b) (hb : b ≤ 2147483647) : Int32.ofInt a - Int32.ofInt a / Int32.ofInt b * Int32.ofInt b = Int32.ofInt (a % b) := by
  rw [oI_div h0 ha hb0 hb, oI_mul, oI_sub, Int.emod_def, Int.mul_comm]
theorem oI_ne0 {b : Int} (hb0 : 0 < b) (hb : b ≤ 2147483647) : ¬ Int32.ofInt b = 0 := by
  rw [oI_0, oI_eq ⟨by omega, hb⟩ ⟨by omega, by omega⟩]; omega
theorem oL_toInt {a : Int} (h : InR a) : (Int64.ofInt a).toInt = a := Int64.toInt_ofInt_of_le (by have := h.1; omega) (by have := h.2; omega)
theorem oI_l {a : Int} (h : InR a) : (Int32.ofInt a).toInt64 = Int64.ofInt a := by rw [← Int64.toInt_inj, Int32.toInt_toInt64, oI_toInt h, oL_toInt h]
theorem oL_lt {a b : Int} (ha : InR a) (hb : InR b) : Int64.ofInt a < Int64.ofInt b ↔ a < b := by rw [Int64.lt_iff_toInt_lt, oL_toInt ha, oL_toInt hb]
theorem oL_eq {a b : Int} (ha : InR a) (hb : InR b) : Int64.ofInt a = Int64.ofInt b ↔ a = b := by rw [← Int64.toInt_inj, oL_toInt ha, oL_toInt hb]
def nth : List AV → Nat → AV
  | [], _ => uu
  | a :: _, 0 => a
  | _ :: l, n + 1 => nth l n
def setn : List AV → Nat → AV → List AV
  | [], _, _ => []
  | _ :: l, 0, x => x :: l
  | a :: l, n + 1, x => a :: setn l n x
def isLong : AV → Bool
  | .inr (.inl _) => true
  | _ => false
theorem nth_setn (l : List AV) (i : Nat) (x : AV) (j : Nat) : nth (setn l i x) j = nth l j ∨ (j = i ∧ nth (setn l i x) j = x) := by
  induction l generalizing i j with
  | nil => exact Or.inl rfl
  | cons a l ih =>
    cases i with
    | zero => cases j with
      | zero => exact Or.inr ⟨rfl, rfl⟩
      | succ j => exact Or.inl rfl
    | succ i => cases j with
      | zero => exact Or.inl rfl
      | succ j =>
        rcases ih i j with h | ⟨h1, h2⟩
        · exact Or.inl h
        · exact Or.inr ⟨by rw [h1], h2⟩
theorem nth_setn_ne {l : List AV} {i j : Nat} {x : AV} (h : j ≠ i) : nth (setn l i x) j = nth l j := by
  rcases nth_setn l i x j with q | ⟨q, -⟩
  · exact q
  · exact absurd q h
theorem nth_setn_eq (l : List AV) (i : Nat) (x : AV) : nth (setn l i x) i = x ∨ nth (setn l i x) i = uu := by
  induction l generalizing i with
  | nil => exact Or.inr rfl
  | cons a l ih => cases i with
    | zero => exact Or.inl rfl
    | succ i => exact ih i
/-- what a value is in the machine -/
def cv (ad : Nat → Nat) : AV → Value
  | .inl z => .int (Int32.ofInt z)
  | .inr (.inl z) => .long (Int64.ofInt z)
  | .inr (.inr r) => va_rf (r.map ad)
theorem cv_cat {ad : Nat → Nat} {a : AV} (h : isLong a = false) : (cv ad a).category = 1 := by
  rcases a with z | z | r
  · rfl
  · cases h
  · cases r <;> rfl
def LocOK (ad : Nat → Nat) (L : List AV) (ls : Array Slot) (nL : Nat) : Prop := ls.size = nL ∧ lv_wf ls ∧ ∀ i : Nat, isLong (nth L i) = false → ls[i]? = some (.val (cv ad (nth L i)))
theorem LocOK.at {ad : Nat → Nat} {L : List AV} {ls : Array Slot} {nL i : Nat} {a : AV} (h : LocOK ad L ls nL) (e : nth L i = a) (ha : isLong a = false) : ls[i]? = some (.val (cv ad a)) := by
  rw [← e] at ha ⊢; exact h.2.2 i ha
theorem LocOK.store {ad : Nat → Nat} {L : List AV} {ls : Array Slot} {nL i : Nat} {v : Value} {a : AV} (h : LocOK ad L ls nL) (hi : i < nL) (hc : v.category = 1) (hv : isLong a = false → v = cv ad a) :
    ∃ ls', storeLocals ls i v = some ls' ∧ LocOK ad (setn L i a) ls' nL := by
  obtain ⟨hs, hw, hl⟩ := h
  obtain ⟨ls', e, h1, h2, h3⟩ := lv_store1 (l := []) (i := i) (v := v) ⟨hs, hw, fun q hq => by cases hq⟩ hi hc
  refine ⟨ls', e, h1, h2, fun j hj => ?_⟩
  by_cases hji : j = i
  · subst hji
    rcases nth_setn_eq L j a with q | q
    · rw [q] at hj ⊢
      rw [← hv hj]
      exact h3 (j, v) (by simp)
    · rw [q] at hj; cases hj
  · rw [nth_setn_ne hji] at hj ⊢
    obtain ⟨ls2, e2, -, -, h5⟩ := lv_store1 (l := [(j, cv ad (nth L j))]) (i := i) (v := v) ⟨hs, hw, fun q hq => by rw [List.mem_singleton.mp hq]; exact hl j hj⟩ hi hc
    cases Option.some.inj (e.symm.trans e2)
    exact h5 (j, cv ad (nth L j)) (List.mem_cons_of_mem _ (List.mem_filter.mpr ⟨List.mem_singleton.mpr rfl, by simp [hji, cv_cat hj]⟩))
