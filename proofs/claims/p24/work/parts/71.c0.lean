/-! THE CLASS: bits, the JDK's small methods, shapes -/
theorem bn_sm : ∀ k : Nat, k < 32 → ((Int32.ofInt (k : Int) &&& 31).toBitVec.smod 32).toNat = k := by decide +kernel
theorem bn_nat {a : Nat} (h : a < 2147483648) : (Int32.ofInt (a : Int)).toBitVec.toNat = a := by
  rw [Int32.toBitVec_ofInt, BitVec.ofInt_natCast, BitVec.toNat_ofNat, Nat.mod_eq_of_lt (by omega)]
theorem bn_int {x : Int32} (h : x.toBitVec.toNat < 2147483648) : x.toInt = (x.toBitVec.toNat : Int) := BitVec.toInt_eq_toNat_of_lt (by omega)
theorem bn_and (a b : Nat) (ha : a < 2147483648) (hb : b < 2147483648) : bAnd (a : Int) (b : Int) = ((a &&& b : Nat) : Int) := by
  have e : (Int32.ofInt (a : Int) &&& Int32.ofInt (b : Int)).toBitVec.toNat = a &&& b := by
    rw [Int32.toBitVec_and, BitVec.toNat_and, bn_nat ha, bn_nat hb]
  unfold bAnd
  rw [bn_int (by rw [e]; exact Nat.lt_of_le_of_lt Nat.and_le_left ha), e]
theorem bn_or (a b : Nat) (ha : a < 2147483648) (hb : b < 2147483648) : bOr (a : Int) (b : Int) = ((a ||| b : Nat) : Int) := by
  have e : (Int32.ofInt (a : Int) ||| Int32.ofInt (b : Int)).toBitVec.toNat = a ||| b := by
    rw [Int32.toBitVec_or, BitVec.toNat_or, bn_nat ha, bn_nat hb]
  unfold bOr
  rw [bn_int (by rw [e]; exact Nat.or_lt_two_pow (n := 31) ha hb), e]
theorem bn_shr (a k : Nat) (ha : a < 2147483648) (hk : k < 32) : bShr (a : Int) (k : Int) = ((a >>> k : Nat) : Int) := by
  unfold bShr
  rw [pk_shr _ _ k (bn_sm k hk), oI_toInt ⟨by omega, by omega⟩]; rfl
theorem bn_shl (a k : Nat) (h : a * 2 ^ k < 2147483648) (hk : k < 32) : bShl (a : Int) (k : Int) = ((a * 2 ^ k : Nat) : Int) := by
  have ha : a < 2147483648 := Nat.lt_of_le_of_lt (Nat.le_mul_of_pos_right a (Nat.two_pow_pos k)) h
  have e := pk_shl (Int32.ofInt (a : Int)) (Int32.ofInt (k : Int) &&& 31) k (bn_sm k hk)
  rw [bn_nat ha, Nat.mod_eq_of_lt (by omega)] at e
  unfold bShl
  rw [bn_int (by rw [e]; exact h), e]
theorem bn_bit (a k : Nat) (ha : a < 2147483648) (hk : k < 32) : bAnd (bShr (a : Int) (k : Int)) 1 = if a.testBit k = true then 1 else 0 := by
  rw [bn_shr a k ha hk]
  have h1 : a >>> k < 2147483648 := Nat.lt_of_le_of_lt (by rw [Nat.shiftRight_eq_div_pow]; exact Nat.div_le_self _ _) ha
  have := bn_and (a >>> k) 1 h1 (by omega)
  rw [show ((1 : Nat) : Int) = 1 from rfl] at this
  rw [this, Nat.and_one_is_mod, Nat.testBit_eq_decide_div_mod_eq, Nat.shiftRight_eq_div_pow]
  by_cases e : a / 2 ^ k % 2 = 1
  · rw [decide_eq_true e, if_pos rfl, e]; rfl
  · rw [decide_eq_false e, if_neg (by simp), show a / 2 ^ k % 2 = 0 by omega]; rfl
/-- how many bits of a number below 64 are set -/
def pc6 (n : Nat) : Nat := bc 6 n
def s_bitCount : Spec := sF1 (fun a => 0 ≤ a ∧ a < 64) fun a r => r = (pc6 a.toNat : Int)
def bcE (x0 : Int) : Int :=
  let x1 := x0 - bAnd (bUshr x0 1) 1431655765
  let x2 := bAnd x1 858993459 + bAnd (bUshr x1 2) 858993459
  let x3 := bAnd (x2 + bUshr x2 4) 252645135
  let x4 := x3 + bUshr x3 8
  let x5 := x4 + bUshr x4 16
  bAnd x5 63
theorem bcE_ok : ∀ n : Nat, n < 64 → bcE (n : Int) = (pc6 n : Int) := by decide +kernel
def spJ6_bitCount_0f7a4 : Nat → CD := spF mdJ6_bitCount_0f7a4 fun i => match i with
  | _ => noR
set_option maxHeartbeats 4000000 in
set_option maxRecDepth 100000 in
theorem sat_J6_bitCount_0f7a4 : Sat mJ6_bitCount_0f7a4 s_bitCount 0 0 1 := by
  refine sat_of (E := eJ6_bitCount_0f7a4) (sp := spJ6_bitCount_0f7a4) (ini := false) (by decide +kernel) (fun h => by cases h) okJ6_bitCount_0f7a4 (fun i => match i with
    | _ => ⟨sat_no _, Nat.le_of_ble_eq_true rfl⟩) ?_
  intro as S post h
  match as, h with
  | [.inl a], h =>
    obtain ⟨h1, h⟩ := h
    refine body0 60 rfl ?_
    repeat' (first
        | omega
        | with_reducible apply And.intro
        | (intro c9; (try simp only [mg, mf, colK, stK, clK, mnK, shN] at c9))
        | (exact kr_i (h _ (by have q := bcE_ok a.toNat (by omega); rw [show ((a.toNat : Nat) : Int) = a by omega] at q; exact q)) (Nat.le_of_ble_eq_true rfl) (Nat.le_of_ble_eq_true rfl))
        | (simp only [mg, mf, colK, stK, clK, mnK, shN]; omega)
        | refine Exists.intro _ (And.intro rfl ?_)
        | ((with_reducible show wp _ _ _ _ _ _ _ _ _ _ _ _ _ _); conv => whnf)
        | ((with_reducible show callK _ _ _ _ _ _ _ _ _); conv => whnf)
        | ((with_reducible show condK _ _ _ _ _); conv => whnf)
        | ((with_reducible show st1 _ _ _ _ _ _ _ _ _ _ _ _); conv => whnf)
        | ((with_reducible show (Prod.fst _ : Spec) _ _ _); conv => whnf)
        | ((with_reducible show shortK _ _); conv => whnf)
        | exact Nat.le_of_ble_eq_true rfl)
/-- a shape of the class, of whose cells P tells -/
def shC (S : Sto) (u : Nat) (P : Int → Int → Prop) : Prop := S.1 u = some (4, 5) ∧ S.2.2 u 2 = some (u + 1) ∧ S.1 (u + 1) = some (100, 16) ∧ (∀ y : Nat, y < 16 → 0 ≤ S.2.1 (u + 1) y ∧ S.2.1 (u + 1) y < 65536 ∧ ∀ x : Nat, x < 16 → ((S.2.1 (u + 1) y).toNat.testBit x = true ↔ P x y)) ∧ ∀ x y, P x y → 0 ≤ x ∧ x < 16 ∧ 0 ≤ y ∧ y < 16
theorem shC.bit {S : Sto} {u : Nat} {P : Int → Int → Prop} (h : shC S u P) {x y : Int} (x0 : 0 ≤ x) (x1 : x < 16) (y0 : 0 ≤ y) (y1 : y < 16) : (bAnd (bShr (S.2.1 (u + 1) y.toNat) x) 1 = 1 ∧ P x y) ∨ (bAnd (bShr (S.2.1 (u + 1) y.toNat) x) 1 = 0 ∧ ¬ P x y) := by
  obtain ⟨a, b, c⟩ := h.2.2.2.1 y.toNat (by omega)
  have e := bn_bit (S.2.1 (u + 1) y.toNat).toNat x.toNat (by omega) (by omega)
  have c := c x.toNat (by omega)
  rw [show (((S.2.1 (u + 1) y.toNat).toNat : Nat) : Int) = S.2.1 (u + 1) y.toNat by omega, show ((x.toNat : Nat) : Int) = x by omega] at e
  rw [show ((x.toNat : Nat) : Int) = x by omega, show ((y.toNat : Nat) : Int) = y by omega] at c
  by_cases q : (S.2.1 (u + 1) y.toNat).toNat.testBit x.toNat = true
  · rw [if_pos q] at e; exact Or.inl ⟨e, c.mp q⟩
  · rw [if_neg q] at e; exact Or.inr ⟨e, fun z => q (c.mpr z)⟩
def edQ (P : Int → Int → Prop) (x y : Int) : Prop := P x y ∧ ¬ (P (x - 1) y ∧ P (x + 1) y ∧ P x (y - 1) ∧ P x (y + 1))
def s_hasCell : Spec := fun as S post => match as with
  | [.inr (.inr (some u)), .inl x, .inl y] => ∃ P, shC S u P ∧ (-100 ≤ x ∧ x ≤ 100 ∧ -100 ≤ y ∧ y ≤ 100) ∧ ∀ r, isB r (P x y) → post (.inl (some (vI r))) S
  | _ => False
def spX4_hasCell : Nat → CD := spF mdX4_hasCell fun i => match i with
  | _ => noR
set_option maxHeartbeats 4000000 in
set_option maxRecDepth 100000 in
theorem sat_X4_hasCell : Sat mX4_hasCell s_hasCell 0 0 1 := by
  refine sat_of (E := eX4_hasCell) (sp := spX4_hasCell) (ini := false) (by decide +kernel) (fun h => by cases h) okX4_hasCell (fun i => match i with
    | _ => ⟨sat_no _, Nat.le_of_ble_eq_true rfl⟩) ?_
  intro as S post h
  match as, h with
  | [.inr (.inr (some u)), .inl x, .inl y], h =>
    obtain ⟨P, hC, hxy, h⟩ := h
    obtain ⟨c1, c2, c3, c4, c5⟩ := hC
    have hb := fun a b c d => shC.bit (S := S) (u := u) (P := P) (x := x) (y := y) ⟨c1, c2, c3, c4, c5⟩ a b c d
    refine body0 60 rfl ?_
    repeat' (first
        | omega
        | with_reducible apply And.intro
        | (intro c9; (try simp only [mg, mf, colK, stK, clK, mnK, shN] at c9))
        | exact ⟨5, c1⟩
        | refine ⟨100, 16, c3, by omega, ?_⟩
        | exact ⟨100, 16, c3, Or.inl rfl, by omega, by omega⟩
        | (have q := hb (by omega) (by omega) (by omega) (by omega); omega)
        | (simp only [mg, mf, colK, stK, clK, mnK, shN]; omega)
        | refine Exists.intro _ (And.intro rfl ?_)
        | refine Exists.intro _ (And.intro (c2) ?_)
        | ((with_reducible show wp _ _ _ _ _ _ _ _ _ _ _ _ _ _); conv => whnf)
        | ((with_reducible show callK _ _ _ _ _ _ _ _ _); conv => whnf)
        | ((with_reducible show condK _ _ _ _ _); conv => whnf)
        | ((with_reducible show st1 _ _ _ _ _ _ _ _ _ _ _ _); conv => whnf)
        | ((with_reducible show (Prod.fst _ : Spec) _ _ _); conv => whnf)
        | ((with_reducible show shortK _ _); conv => whnf)
        | exact Nat.le_of_ble_eq_true rfl)
    all_goals first
      | exact kr_i ( h _ (isBf fun q => by have := c5 x y q; omega) ) (Nat.le_of_ble_eq_true rfl) (Nat.le_of_ble_eq_true rfl)
      | exact kr_i ( h _ (by rcases hb (by omega) (by omega) (by omega) (by omega) with q | q; exact isBt q.2; omega) ) (Nat.le_of_ble_eq_true rfl) (Nat.le_of_ble_eq_true rfl)
      | exact kr_i ( h _ (by rcases hb (by omega) (by omega) (by omega) (by omega) with q | q; omega; exact isBf q.2) ) (Nat.le_of_ble_eq_true rfl) (Nat.le_of_ble_eq_true rfl)
      | trace_state
def s_isEdge : Spec := fun as S post => match as with
  | [.inr (.inr (some u)), .inl x, .inl y] => ∃ P, shC S u P ∧ (0 ≤ x ∧ x ≤ 50 ∧ 0 ≤ y ∧ y ≤ 50) ∧ ∀ r, isB r (edQ P x y) → post (.inl (some (vI r))) S
  | _ => False
def spX4_isEdge : Nat → CD := spF mdX4_isEdge fun i => match i with
  | 1 => (s_hasCell, 0, 0, 1)
  | _ => noR
set_option maxHeartbeats 4000000 in
set_option maxRecDepth 100000 in
theorem sat_X4_isEdge : Sat mX4_isEdge s_isEdge 0 0 2 := by
  refine sat_of (E := eX4_isEdge) (sp := spX4_isEdge) (ini := false) (by decide +kernel) (fun h => by cases h) okX4_isEdge (fun i => match i with
    | 1 => ⟨sat_X4_hasCell, Nat.le_of_ble_eq_true rfl⟩
    | i + 2 => ⟨sat_no _, Nat.le_of_ble_eq_true rfl⟩
    | 0 => ⟨sat_no _, Nat.le_of_ble_eq_true rfl⟩) ?_
  intro as S post h
  match as, h with
  | [.inr (.inr (some u)), .inl x, .inl y], h =>
    obtain ⟨P, hC, hxy, h⟩ := h
    refine bodyL [(50, fun ms L st S' c => ∃ i : Int, L = [vT u, vI x, vI y, vI i] ∧ st = [] ∧ S' = S ∧ c = (0, 0) ∧ ms = 0 ∧ isB i (P (x - 1) y ∧ P (x + 1) y ∧ P x (y - 1) ∧ P x (y + 1)))] 1 60 rfl
      (List.forall_mem_cons.mpr ⟨?_, fun q hq => by cases hq⟩) ?_
    · rintro ms L st S' c ⟨i, rfl, rfl, rfl, rfl, rfl, hi⟩
      have hi01 := isB01 hi
      repeat' (first
          | omega
          | with_reducible apply And.intro
          | (intro c9; (try simp only [mg, mf, colK, stK, clK, mnK, shN] at c9))
          | exact ⟨5, hC.1⟩
          | refine ⟨P, hC, by omega, ?_⟩
          | (simp only [mg, mf, colK, stK, clK, mnK, shN]; omega)
          | refine Exists.intro _ (And.intro rfl ?_)
          | ((with_reducible show wp _ _ _ _ _ _ _ _ _ _ _ _ _ _); conv => whnf)
          | ((with_reducible show callK _ _ _ _ _ _ _ _ _); conv => whnf)
          | ((with_reducible show condK _ _ _ _ _); conv => whnf)
          | ((with_reducible show st1 _ _ _ _ _ _ _ _ _ _ _ _); conv => whnf)
          | ((with_reducible show (Prod.fst _ : Spec) _ _ _); conv => whnf)
          | ((with_reducible show shortK _ _); conv => whnf)
          | exact Nat.le_of_ble_eq_true rfl)
      all_goals first
        | exact kr_i ( h _ (isBf fun q => isB0 ‹isB _ (P x y)› ‹_› q.1) ) (Nat.le_of_ble_eq_true rfl) (Nat.le_of_ble_eq_true rfl)
        | exact kr_i ( h _ (isBf fun q => q.2 (isB1 hi ‹_›)) ) (Nat.le_of_ble_eq_true rfl) (Nat.le_of_ble_eq_true rfl)
        | exact kr_i ( h _ (isBt ⟨isB1 ‹isB _ (P x y)› ‹_›, isB0 hi ‹_›⟩) ) (Nat.le_of_ble_eq_true rfl) (Nat.le_of_ble_eq_true rfl)
    · repeat' (first
          | omega
          | with_reducible apply And.intro
          | (intro c9; (try simp only [mg, mf, colK, stK, clK, mnK, shN] at c9))
          | exact ⟨5, hC.1⟩
          | refine ⟨P, hC, by omega, ?_⟩
          | (simp only [mg, mf, colK, stK, clK, mnK, shN]; omega)
          | refine Exists.intro _ (And.intro rfl ?_)
          | ((with_reducible show wp _ _ _ _ _ _ _ _ _ _ _ _ _ _); conv => whnf)
          | ((with_reducible show callK _ _ _ _ _ _ _ _ _); conv => whnf)
          | ((with_reducible show condK _ _ _ _ _); conv => whnf)
          | ((with_reducible show st1 _ _ _ _ _ _ _ _ _ _ _ _); conv => whnf)
          | ((with_reducible show (Prod.fst _ : Spec) _ _ _); conv => whnf)
          | ((with_reducible show shortK _ _); conv => whnf)
          | exact Nat.le_of_ble_eq_true rfl)
      all_goals first
        | exact ⟨0, by omega, 0, rfl, rfl, rfl, rfl, rfl, isBf fun q => isB0 ‹isB _ (P (x - 1) y)› c9 q.1⟩
        | exact ⟨0, by omega, 0, rfl, rfl, rfl, rfl, rfl, isBf fun q => isB0 ‹isB _ (P (x + 1) y)› c9 q.2.1⟩
        | exact ⟨0, by omega, 0, rfl, rfl, rfl, rfl, rfl, isBf fun q => isB0 ‹isB _ (P x (y - 1))› c9 q.2.2.1⟩
        | exact ⟨0, by omega, 0, rfl, rfl, rfl, rfl, rfl, isBf fun q => isB0 ‹isB _ (P x (y + 1))› c9 q.2.2.2⟩
        | exact ⟨0, by omega, 1, rfl, rfl, rfl, rfl, rfl, isBt ⟨isB1 ‹isB _ (P (x - 1) y)› ‹_›, isB1 ‹isB _ (P (x + 1) y)› ‹_›, isB1 ‹isB _ (P x (y - 1))› ‹_›, isB1 ‹isB _ (P x (y + 1))› ‹_›⟩⟩
theorem rows_and {a b : Int} (ha : 0 ≤ a ∧ a < 65536) (hb : 0 ≤ b ∧ b < 65536) : InR (bAnd a b) ∧ (bAnd a b ≠ 0 ↔ ∃ x : Nat, x < 16 ∧ a.toNat.testBit x = true ∧ b.toNat.testBit x = true) := by
  have e := bn_and a.toNat b.toNat (by omega) (by omega)
  rw [show ((a.toNat : Nat) : Int) = a by omega, show ((b.toNat : Nat) : Int) = b by omega] at e
  rw [e]
  have h1 : a.toNat &&& b.toNat < 65536 := Nat.lt_of_le_of_lt Nat.and_le_left (by omega)
  refine ⟨⟨by omega, by omega⟩, ?_⟩
  constructor
  · intro q
    have hne : a.toNat &&& b.toNat ≠ 0 := by omega
    obtain ⟨x, hx⟩ := Nat.exists_testBit_of_ne_zero hne
    rw [Nat.testBit_and, Bool.and_eq_true] at hx
    refine ⟨x, ?_, hx.1, hx.2⟩
    rcases Nat.lt_or_ge x 16 with z | z
    · exact z
    · have := Nat.testBit_lt_two_pow (x := a.toNat) (i := x) (Nat.lt_of_lt_of_le (show a.toNat < 2 ^ 16 by omega) (Nat.pow_le_pow_right (by omega) z))
      rw [this] at hx; cases hx.1
  · rintro ⟨x, hx, h1, h2⟩ q
    have h3 : a.toNat &&& b.toNat = 0 := by omega
    have h4 : (a.toNat &&& b.toNat).testBit x = true := by rw [Nat.testBit_and, h1, h2]; rfl
    rw [h3] at h4
    simp at h4
def metQ (P Q : Int → Int → Prop) : Prop := ∃ c : Int, 0 ≤ c ∧ c < 256 ∧ P (c % 16) (c / 16) ∧ Q (c % 16) (c / 16)
def s_meets : Spec := fun as S post => match as with
  | [.inr (.inr (some u)), .inr (.inr (some w))] => ∃ P Q, shC S u P ∧ shC S w Q ∧ ∀ r, isB r (metQ P Q) → post (.inl (some (vI r))) S
  | _ => False
def spX4_meets : Nat → CD := spF mdX4_meets fun i => match i with
  | _ => noR
set_option maxHeartbeats 4000000 in
set_option maxRecDepth 100000 in
theorem sat_X4_meets : Sat mX4_meets s_meets 0 0 1 := by
  refine sat_of (E := eX4_meets) (sp := spX4_meets) (ini := false) (by decide +kernel) (fun h => by cases h) okX4_meets (fun i => match i with
    | _ => ⟨sat_no _, Nat.le_of_ble_eq_true rfl⟩) ?_
  intro as S post h
  match as, h with
  | [.inr (.inr (some u)), .inr (.inr (some w))], h =>
    obtain ⟨P, Q, hC, hD, h⟩ := h
    obtain ⟨c1, c2, c3, c4, c5⟩ := hC
    obtain ⟨d1, d2, d3, d4, d5⟩ := hD
    refine bodyL [(2, fun ms L st S' c => ∃ y : Nat, L = [vT u, vT w, vI y] ∧ st = [] ∧ S' = S ∧ c = (0, 0) ∧ ms = 16 - y ∧ y ≤ 16 ∧ ∀ q : Nat, q < y → ∀ x : Nat, x < 16 → ¬ (P x q ∧ Q x q))] 20 60 rfl
      (List.forall_mem_cons.mpr ⟨?_, fun q hq => by cases hq⟩) ?_
    · rintro ms L st S' c ⟨y, rfl, rfl, rfl, rfl, rfl, hy, hn⟩
      have key : y < 16 → InR (bAnd (S'.2.1 (u + 1) (y : Int).toNat) (S'.2.1 (w + 1) (y : Int).toNat)) ∧ (bAnd (S'.2.1 (u + 1) (y : Int).toNat) (S'.2.1 (w + 1) (y : Int).toNat) ≠ 0 ↔ ∃ x : Nat, x < 16 ∧ P x y ∧ Q x y) := fun q => by
        obtain ⟨a1, a2, a3⟩ := c4 y q
        obtain ⟨b1, b2, b3⟩ := d4 y q
        rw [Int.toNat_natCast]
        have r := rows_and ⟨a1, a2⟩ ⟨b1, b2⟩
        refine ⟨r.1, r.2.trans ⟨?_, ?_⟩⟩
        · rintro ⟨x, x0, x1, x2⟩; exact ⟨x, x0, (a3 x x0).mp x1, (b3 x x0).mp x2⟩
        · rintro ⟨x, x0, x1, x2⟩; exact ⟨x, x0, (a3 x x0).mpr x1, (b3 x x0).mpr x2⟩
      repeat' (first
          | omega
          | with_reducible apply And.intro
          | (intro c9; (try simp only [mg, mf, colK, stK, clK, mnK, shN] at c9))
          | exact ⟨5, c1⟩
          | exact ⟨5, d1⟩
          | refine ⟨100, 16, c3, by omega, ?_⟩
          | refine ⟨100, 16, d3, by omega, ?_⟩
          | exact ⟨100, 16, c3, Or.inl rfl, by omega, by omega⟩
          | exact ⟨100, 16, d3, Or.inl rfl, by omega, by omega⟩
          | (with_reducible (have q9 : (some _ : Option Nat) = _ := c9; clear q9; cases c9))
          | exact (key (by omega)).1.1
          | exact (key (by omega)).1.2
          | (simp only [mg, mf, colK, stK, clK, mnK, shN]; omega)
          | refine Exists.intro _ (And.intro rfl ?_)
          | refine Exists.intro _ (And.intro (c2) ?_)
          | refine Exists.intro _ (And.intro (d2) ?_)
          | ((with_reducible show wp _ _ _ _ _ _ _ _ _ _ _ _ _ _); conv => whnf)
          | ((with_reducible show callK _ _ _ _ _ _ _ _ _); conv => whnf)
          | ((with_reducible show condK _ _ _ _ _); conv => whnf)
          | ((with_reducible show st1 _ _ _ _ _ _ _ _ _ _ _ _); conv => whnf)
          | ((with_reducible show (Prod.fst _ : Spec) _ _ _); conv => whnf)
          | ((with_reducible show shortK _ _); conv => whnf)
          | exact Nat.le_of_ble_eq_true rfl)
      · refine kr_i ( h _ (isBf ?_) ) (Nat.le_of_ble_eq_true rfl) (Nat.le_of_ble_eq_true rfl)
        rintro ⟨c, q0, q1, q2, q3⟩
        have e1 : (((c % 16).toNat : Nat) : Int) = c % 16 := by omega
        have e2 : (((c / 16).toNat : Nat) : Int) = c / 16 := by omega
        refine hn (c / 16).toNat (by omega) (c % 16).toNat (by omega) ?_
        rw [e1, e2]; exact ⟨q2, q3⟩
      · exact ⟨16 - (y + 1), by omega, y + 1, by rw [Int.natCast_add]; rfl, rfl, rfl, rfl, rfl, by omega, fun q hq x hx z => by
          by_cases e : q = y
          · subst e; exact ((key (by omega)).2.mpr ⟨x, hx, z⟩) c9
          · exact hn q (by omega) x hx z⟩
      · obtain ⟨x, x0, x1, x2⟩ := (key (by omega)).2.mp c9
        refine kr_i ( h _ (isBt ⟨16 * y + x, by omega, by omega, ?_⟩) ) (Nat.le_of_ble_eq_true rfl) (Nat.le_of_ble_eq_true rfl)
        rw [show (16 * (y : Int) + x) % 16 = x by omega, show (16 * (y : Int) + x) / 16 = y by omega]
        exact ⟨x1, x2⟩
    · repeat' (first
          | omega
          | with_reducible apply And.intro
          | (intro c9; (try simp only [mg, mf, colK, stK, clK, mnK, shN] at c9))
          | (simp only [mg, mf, colK, stK, clK, mnK, shN]; omega)
          | refine Exists.intro _ (And.intro rfl ?_)
          | ((with_reducible show wp _ _ _ _ _ _ _ _ _ _ _ _ _ _); conv => whnf)
          | ((with_reducible show callK _ _ _ _ _ _ _ _ _); conv => whnf)
          | ((with_reducible show condK _ _ _ _ _); conv => whnf)
          | ((with_reducible show st1 _ _ _ _ _ _ _ _ _ _ _ _); conv => whnf)
          | ((with_reducible show (Prod.fst _ : Spec) _ _ _); conv => whnf)
          | ((with_reducible show shortK _ _); conv => whnf)
          | exact Nat.le_of_ble_eq_true rfl)
      exact ⟨16, by omega, 0, rfl, rfl, rfl, rfl, rfl, by omega, fun q hq => by omega⟩
/-- other shapes are of other colours; none is not -/
def s_isUnlike : Spec := fun as S post => match as with
  | [.inr (.inr (some u)), .inr (.inr (some w))] => S.1 u = some (4, 5) ∧ S.1 w = some (4, 5) ∧ (0 ≤ S.2.1 u 1 ∧ S.2.1 u 1 < 6 ∧ 0 ≤ S.2.1 w 1 ∧ S.2.1 w 1 < 6) ∧ ∀ r, isB r (S.2.1 u 1 ≠ S.2.1 w 1) → post (.inl (some (vI r))) S
  | [.inr (.inr (some _)), .inr (.inr none)] => post (.inl (some (vI 0))) S
  | _ => False
def spX4_isUnlike : Nat → CD := spF mdX4_isUnlike fun i => match i with
  | _ => noR
set_option maxHeartbeats 4000000 in
set_option maxRecDepth 100000 in
theorem sat_X4_isUnlike : Sat mX4_isUnlike s_isUnlike 0 0 1 := by
  refine sat_of (E := eX4_isUnlike) (sp := spX4_isUnlike) (ini := false) (by decide +kernel) (fun h => by cases h) okX4_isUnlike (fun i => match i with
    | _ => ⟨sat_no _, Nat.le_of_ble_eq_true rfl⟩) ?_
  intro as S post h
  match as, h with
  | [.inr (.inr (some u)), .inr (.inr (some w))], h =>
    obtain ⟨h1, h2, h3, h⟩ := h
    refine body0 60 rfl ?_
    repeat' (first
        | omega
        | with_reducible apply And.intro
        | (intro c9; (try simp only [mg, mf, colK, stK, clK, mnK, shN] at c9))
        | (with_reducible (have q9 : (some _ : Option Nat) = _ := c9; clear q9; cases c9))
        | exact ⟨5, h1⟩
        | exact ⟨5, h2⟩
        | (simp only [mg, mf, colK, stK, clK, mnK, shN]; omega)
        | refine Exists.intro _ (And.intro rfl ?_)
        | ((with_reducible show wp _ _ _ _ _ _ _ _ _ _ _ _ _ _); conv => whnf)
        | ((with_reducible show callK _ _ _ _ _ _ _ _ _); conv => whnf)
        | ((with_reducible show condK _ _ _ _ _); conv => whnf)
        | ((with_reducible show st1 _ _ _ _ _ _ _ _ _ _ _ _); conv => whnf)
        | ((with_reducible show (Prod.fst _ : Spec) _ _ _); conv => whnf)
        | ((with_reducible show shortK _ _); conv => whnf)
        | exact Nat.le_of_ble_eq_true rfl)
    all_goals first
      | exact kr_i ( h _ (isBt c9) ) (Nat.le_of_ble_eq_true rfl) (Nat.le_of_ble_eq_true rfl)
      | exact kr_i ( h _ (isBf fun z => z c9) ) (Nat.le_of_ble_eq_true rfl) (Nat.le_of_ble_eq_true rfl)
  | [.inr (.inr (some u)), .inr (.inr none)], h =>
    refine body0 60 rfl ?_
    repeat' (first
        | omega
        | with_reducible apply And.intro
        | (intro c9; (try simp only [mg, mf, colK, stK, clK, mnK, shN] at c9))
        | (with_reducible (have q9 : (none : Option Nat) = _ := c9; clear q9; cases c9))
        | exact kr_i ( h ) (Nat.le_of_ble_eq_true rfl) (Nat.le_of_ble_eq_true rfl)
        | (simp only [mg, mf, colK, stK, clK, mnK, shN]; omega)
        | refine Exists.intro _ (And.intro rfl ?_)
        | ((with_reducible show wp _ _ _ _ _ _ _ _ _ _ _ _ _ _); conv => whnf)
        | ((with_reducible show callK _ _ _ _ _ _ _ _ _); conv => whnf)
        | ((with_reducible show condK _ _ _ _ _); conv => whnf)
        | ((with_reducible show st1 _ _ _ _ _ _ _ _ _ _ _ _); conv => whnf)
        | ((with_reducible show (Prod.fst _ : Spec) _ _ _); conv => whnf)
        | ((with_reducible show shortK _ _); conv => whnf)
        | exact Nat.le_of_ble_eq_true rfl)
def s_shapeAt : Spec := fun as S post => match as with
  | [.inr (.inr (some a)), .inl x] => ∃ n, S.1 a = some (114, n) ∧ n ≤ 7 ∧ InR x ∧ ((0 ≤ x ∧ x < n) → post (.inl (some (vR (S.2.2 a x.toNat)))) S) ∧ (¬ (0 ≤ x ∧ x < n) → post (.inl (some (vR none))) S)
  | _ => False
def spX6_shapeAt : Nat → CD := spF mdX6_shapeAt fun i => match i with
  | _ => noR
set_option maxHeartbeats 4000000 in
set_option maxRecDepth 100000 in
theorem sat_X6_shapeAt : Sat mX6_shapeAt s_shapeAt 0 0 1 := by
  refine sat_of (E := eX6_shapeAt) (sp := spX6_shapeAt) (ini := false) (by decide +kernel) (fun h => by cases h) okX6_shapeAt (fun i => match i with
    | _ => ⟨sat_no _, Nat.le_of_ble_eq_true rfl⟩) ?_
  intro as S post h
  match as, h with
  | [.inr (.inr (some a)), .inl x], h =>
    obtain ⟨n, a1, a2, hx, hA, hB⟩ := h
    refine body0 60 rfl ?_
    repeat' (first
        | omega
        | with_reducible apply And.intro
        | (intro c9; (try simp only [mg, mf, colK, stK, clK, mnK, shN] at c9))
        | refine ⟨114, n, a1, by omega, ?_⟩
        | exact ⟨114, n, a1, rfl, by omega, by omega⟩
        | exact hA (by omega)
        | exact hB (by omega)
        | (simp only [mg, mf, colK, stK, clK, mnK, shN]; omega)
        | refine Exists.intro _ (And.intro rfl ?_)
        | ((with_reducible show wp _ _ _ _ _ _ _ _ _ _ _ _ _ _); conv => whnf)
        | ((with_reducible show callK _ _ _ _ _ _ _ _ _); conv => whnf)
        | ((with_reducible show condK _ _ _ _ _); conv => whnf)
        | ((with_reducible show st1 _ _ _ _ _ _ _ _ _ _ _ _); conv => whnf)
        | ((with_reducible show (Prod.fst _ : Spec) _ _ _); conv => whnf)
        | ((with_reducible show shortK _ _); conv => whnf)
        | exact Nat.le_of_ble_eq_true rfl)

