def sP1 (pre : Sto → Int → Prop) (rel : Sto → Int → Int → Prop) : Spec := fun as S post => match as with
  | [.inr (.inr (some 2)), .inl a] => MS S ∧ pre S a ∧ ∀ r : Int, rel S a r → post (.inl (some (vI r))) S
  | _ => False
def sP2 (pre : Sto → Int → Int → Prop) (rel : Sto → Int → Int → Int → Prop) : Spec := fun as S post => match as with
  | [.inr (.inr (some 2)), .inl a, .inl b] => MS S ∧ pre S a b ∧ ∀ r : Int, rel S a b r → post (.inl (some (vI r))) S
  | _ => False
def sP3 (pre : Sto → Int → Int → Int → Prop) (rel : Sto → Int → Int → Int → Int → Prop) : Spec := fun as S post => match as with
  | [.inr (.inr (some 2)), .inl a, .inl b, .inl d] => MS S ∧ pre S a b d ∧ ∀ r : Int, rel S a b d r → post (.inl (some (vI r))) S
  | _ => False
def sP4 (pre : Sto → Int → Int → Int → Int → Prop) (rel : Sto → Int → Int → Int → Int → Int → Prop) : Spec := fun as S post => match as with
  | [.inr (.inr (some 2)), .inl a, .inl b, .inl d, .inl e] => MS S ∧ pre S a b d e ∧ ∀ r : Int, rel S a b d e r → post (.inl (some (vI r))) S
  | _ => False
/-- two shapes have a cell in common -/
def metP (S : Sto) (a b : Int) : Prop := ∃ c : Int, 0 ≤ c ∧ c < 256 ∧ hasK S a (c % 16) (c / 16) ∧ hasK S b (c % 16) (c / 16)
def s_areMet : Spec := sP2 (fun S a b => shOK S a ∧ shOK S b) fun S a b r => isB r (metP S a b)
def s_isOff : Spec := sF2 (fun a b => -1000 ≤ a ∧ a ≤ 1000 ∧ -1000 ≤ b ∧ b ≤ 1000) fun a b r => isB r (a - b > 1 ∨ b - a > 1)
/-- the colour of the shape its of a design -/
def s_change : Spec := sP3 (fun S d a b => 0 ≤ d ∧ d < 7 ∧ 0 ≤ a ∧ a < 7 ∧ 0 ≤ b ∧ b < 7 ∧ InR (colK S d a) ∧ InR (colK S d b)) fun S d a b r => (colK S d a = colK S d b ∧ r = 0) ∨ (colK S d a ≠ colK S d b ∧ r = 1)
/-- a stitch's code, its colour -/
def stOK (S : Sto) (d j : Int) : Prop := 0 ≤ d ∧ d < 6 ∧ 0 ≤ j ∧ j < 2240 ∧ 0 ≤ stK S d j ∧ stK S d j < 1792
def s_colourAt : Spec := sP2 stOK fun S d j r => r = clK S d j
def spX7_isOff : Nat → CD := spF mdX7_isOff fun i => match i with
  | _ => noR
set_option maxHeartbeats 4000000 in
set_option maxRecDepth 100000 in
theorem sat_X7_isOff : Sat mX7_isOff s_isOff 0 0 1 := by
  refine sat_of (E := eX7_isOff) (sp := spX7_isOff) (ini := false) (by decide +kernel) (fun h => by cases h) okX7_isOff (fun i => match i with
    | _ => ⟨sat_no _, Nat.le_of_ble_eq_true rfl⟩) ?_
  intro as S post h
  match as, h with
  | [.inl a, .inl b], h =>
    obtain ⟨h1, h⟩ := h
    refine body0 50 rfl ?_
    repeat' (first
        | omega
        | with_reducible apply And.intro
        | (intro c9; (try simp only [mg, mf, colK, stK, clK, mnK, shN] at c9))
        | (exact kr_i (h _ (by omega)) (Nat.le_of_ble_eq_true rfl) (Nat.le_of_ble_eq_true rfl))
        | (simp only [mg, mf, colK, stK, clK, mnK, shN]; omega)
        | refine Exists.intro _ (And.intro rfl ?_)
        | ((with_reducible show wp _ _ _ _ _ _ _ _ _ _ _ _ _ _); conv => whnf)
        | ((with_reducible show callK _ _ _ _ _ _ _ _ _); conv => whnf)
        | ((with_reducible show condK _ _ _ _ _); conv => whnf)
        | ((with_reducible show st1 _ _ _ _ _ _ _ _ _ _ _ _); conv => whnf)
        | ((with_reducible show (Prod.fst _ : Spec) _ _ _); conv => whnf)
        | ((with_reducible show shortK _ _); conv => whnf)
        | exact Nat.le_of_ble_eq_true rfl)
def spX7_change : Nat → CD := spF mdX7_change fun i => match i with
  | _ => noR
set_option maxHeartbeats 4000000 in
set_option maxRecDepth 100000 in
theorem sat_X7_change : Sat mX7_change s_change 0 0 1 := by
  refine sat_of (E := eX7_change) (sp := spX7_change) (ini := false) (by decide +kernel) (fun h => by cases h) okX7_change (fun i => match i with
    | _ => ⟨sat_no _, Nat.le_of_ble_eq_true rfl⟩) ?_
  intro as S post h
  match as, h with
  | [.inr (.inr (some 2)), .inl d, .inl a, .inl b], h =>
    obtain ⟨hM, hp, h⟩ := h
    have hr := hM.2.1
    try dsimp only [mg, mf, colK, stK, clK, mnK, shN] at *
    refine body0 80 rfl ?_
    repeat' (first
        | omega
        | with_reducible apply And.intro
        | (intro c9; (try simp only [mg, mf, colK, stK, clK, mnK, shN] at c9))
        | exact ms_o hM
        | (refine ms_r hM rfl rfl ?_ ?_ <;> (try simp only [mLen]) <;> omega)
        | (exact kr_i (h _ (by omega)) (Nat.le_of_ble_eq_true rfl) (Nat.le_of_ble_eq_true rfl))
        | (simp only [mg, mf, colK, stK, clK, mnK, shN]; omega)
        | refine Exists.intro _ (And.intro rfl ?_)
        | refine Exists.intro _ (And.intro ((congrFun hr _).trans rfl) ?_)
        | ((with_reducible show wp _ _ _ _ _ _ _ _ _ _ _ _ _ _); conv => whnf)
        | ((with_reducible show callK _ _ _ _ _ _ _ _ _); conv => whnf)
        | ((with_reducible show condK _ _ _ _ _); conv => whnf)
        | ((with_reducible show st1 _ _ _ _ _ _ _ _ _ _ _ _); conv => whnf)
        | ((with_reducible show (Prod.fst _ : Spec) _ _ _); conv => whnf)
        | ((with_reducible show shortK _ _); conv => whnf)
        | exact Nat.le_of_ble_eq_true rfl)
def spX7_colourAt : Nat → CD := spF mdX7_colourAt fun i => match i with
  | _ => noR
set_option maxHeartbeats 4000000 in
set_option maxRecDepth 100000 in
theorem sat_X7_colourAt : Sat mX7_colourAt s_colourAt 0 0 1 := by
  refine sat_of (E := eX7_colourAt) (sp := spX7_colourAt) (ini := false) (by decide +kernel) (fun h => by cases h) okX7_colourAt (fun i => match i with
    | _ => ⟨sat_no _, Nat.le_of_ble_eq_true rfl⟩) ?_
  intro as S post h
  match as, h with
  | [.inr (.inr (some 2)), .inl d, .inl j], h =>
    obtain ⟨hM, hp, h⟩ := h
    have hr := hM.2.1
    unfold stOK at hp
    try dsimp only [mg, mf, colK, stK, clK, mnK, shN] at *
    refine body0 80 rfl ?_
    repeat' (first
        | omega
        | with_reducible apply And.intro
        | (intro c9; (try simp only [mg, mf, colK, stK, clK, mnK, shN] at c9))
        | exact ms_o hM
        | (refine ms_r hM rfl rfl ?_ ?_ <;> (try simp only [mLen]) <;> omega)
        | (exact kr_i (h _ rfl) (Nat.le_of_ble_eq_true rfl) (Nat.le_of_ble_eq_true rfl))
        | (simp only [mg, mf, colK, stK, clK, mnK, shN]; omega)
        | refine Exists.intro _ (And.intro rfl ?_)
        | refine Exists.intro _ (And.intro ((congrFun hr _).trans rfl) ?_)
        | ((with_reducible show wp _ _ _ _ _ _ _ _ _ _ _ _ _ _); conv => whnf)
        | ((with_reducible show callK _ _ _ _ _ _ _ _ _); conv => whnf)
        | ((with_reducible show condK _ _ _ _ _); conv => whnf)
        | ((with_reducible show st1 _ _ _ _ _ _ _ _ _ _ _ _); conv => whnf)
        | ((with_reducible show (Prod.fst _ : Spec) _ _ _); conv => whnf)
        | ((with_reducible show shortK _ _); conv => whnf)
        | exact Nat.le_of_ble_eq_true rfl)
def spX7_areMet : Nat → CD := spF mdX7_areMet fun i => match i with
  | 1 => (s_has, 0, 0, 2)
  | _ => noR
set_option maxHeartbeats 4000000 in
set_option maxRecDepth 100000 in
theorem sat_X7_areMet : Sat mX7_areMet s_areMet 0 0 3 := by
  refine sat_of (E := eX7_areMet) (sp := spX7_areMet) (ini := false) (by decide +kernel) (fun h => by cases h) okX7_areMet (fun i => match i with
    | 1 => ⟨sat_X7_has, Nat.le_of_ble_eq_true rfl⟩
    | i + 2 => ⟨sat_no _, Nat.le_of_ble_eq_true rfl⟩
    | 0 => ⟨sat_no _, Nat.le_of_ble_eq_true rfl⟩) ?_
  intro as S post h
  match as, h with
  | [.inr (.inr (some 2)), .inl a, .inl b], h =>
    obtain ⟨hM, ⟨ha, hb⟩, h⟩ := h
    let P : Int → Prop := fun c => hasK S a (c % 16) (c / 16) ∧ hasK S b (c % 16) (c / 16)
    refine body1 5 (fun n L st S' c => ∃ cell is : Int, L = [vT 2, vI a, vI b, vI is, vI cell] ∧ st = [] ∧ S' = S ∧ c = (0, 0) ∧ n = (256 - cell).toNat ∧ 0 ≤ cell ∧ cell ≤ 256 ∧ isB is (∃ q, 0 ≤ q ∧ q < cell ∧ P q)) 300 100 rfl ?_ ?_
    · rintro n L st S' c ⟨cell, is, rfl, rfl, rfl, rfl, rfl, h0, h1, h2⟩
      have his := isB01 h2
      repeat' (first
          | omega
          | with_reducible apply And.intro
          | (intro c9; (try simp only [mg, mf, colK, stK, clK, mnK, shN] at c9))
          | exact his
          | exact hM
          | exact ms_o hM
          | exact ha
          | exact hb
          | (simp only [mg, mf, colK, stK, clK, mnK, shN]; omega)
          | refine Exists.intro _ (And.intro rfl ?_)
          | ((with_reducible show wp _ _ _ _ _ _ _ _ _ _ _ _ _ _); conv => whnf)
          | ((with_reducible show callK _ _ _ _ _ _ _ _ _); conv => whnf)
          | ((with_reducible show condK _ _ _ _ _); conv => whnf)
          | ((with_reducible show st1 _ _ _ _ _ _ _ _ _ _ _ _); conv => whnf)
          | ((with_reducible show (Prod.fst _ : Spec) _ _ _); conv => whnf)
          | ((with_reducible show shortK _ _); conv => whnf)
          | exact Nat.le_of_ble_eq_true rfl)
      · exact kr_i ( h _ (isBc h2 ⟨fun ⟨q, q0, q1, q2⟩ => ⟨q, q0, by omega, q2⟩, fun ⟨q, q0, q1, q2⟩ => ⟨q, q0, by omega, q2⟩⟩) ) (Nat.le_of_ble_eq_true rfl) (Nat.le_of_ble_eq_true rfl)
      · obtain ⟨q, q0, q1, q2⟩ := isB1 h2 ‹_›
        exact kr_i ( h _ (by rw [show is = 1 by omega]; exact isBt ⟨q, q0, by omega, q2⟩) ) (Nat.le_of_ble_eq_true rfl) (Nat.le_of_ble_eq_true rfl)
      · rename_i r9 hr9
        refine ⟨(256 - (cell + 1)).toNat, by omega, cell + 1, 0, rfl, rfl, rfl, rfl, rfl, by omega, by omega, isBf ?_⟩
        rw [exS h0]
        rintro (q | q)
        · exact isB0 h2 ‹_› q
        · exact isB0 hr9 c9 q.1
      · rename_i r8 hr8 hr81 r9 hr9
        refine ⟨(256 - (cell + 1)).toNat, by omega, cell + 1, 0, rfl, rfl, rfl, rfl, rfl, by omega, by omega, isBf ?_⟩
        rw [exS h0]
        rintro (q | q)
        · exact isB0 h2 ‹_› q
        · exact isB0 hr9 c9 q.2
      · rename_i r8 hr8 hr81 r9 hr9
        exact ⟨(256 - (cell + 1)).toNat, by omega, cell + 1, 1, rfl, rfl, rfl, rfl, rfl, by omega, by omega, isBt ((exS h0).mpr (Or.inr ⟨isB1 hr8 hr81, isB1 hr9 c9⟩))⟩
    · repeat' (first
          | omega
          | with_reducible apply And.intro
          | (intro c9; (try simp only [mg, mf, colK, stK, clK, mnK, shN] at c9))
          | (simp only [mg, mf, colK, stK, clK, mnK, shN]; omega)
          | refine Exists.intro _ (And.intro rfl ?_)
          | ((with_reducible show wp _ _ _ _ _ _ _ _ _ _ _ _ _ _); conv => whnf)
          | ((with_reducible show callK _ _ _ _ _ _ _ _ _); conv => whnf)
          | ((with_reducible show condK _ _ _ _ _); conv => whnf)
          | ((with_reducible show st1 _ _ _ _ _ _ _ _ _ _ _ _); conv => whnf)
          | ((with_reducible show (Prod.fst _ : Spec) _ _ _); conv => whnf)
          | ((with_reducible show shortK _ _); conv => whnf)
          | exact Nat.le_of_ble_eq_true rfl)
      exact ⟨256, by omega, 0, 0, rfl, rfl, rfl, rfl, rfl, by omega, by omega, isBf (fun ⟨q, q0, q1, q2⟩ => by omega)⟩
/-- how many of the first n stitches of a design are of a colour (-1: of any) -/
def cntC (S : Sto) (d its : Int) (n : Nat) : Int := sumTo (fun j => if its = -1 ∨ clK S d j = its then 1 else 0) n
theorem cntC_0 {S : Sto} {d its : Int} (n : Nat) : 0 ≤ cntC S d its n ∧ cntC S d its n ≤ n :=
  ⟨sumTo_0n (fun j => by split <;> omega) n, sumTo_le (fun j => by split <;> omega) n⟩
/-- the stitches of a design are in range -/
def dsOK (S : Sto) (d : Int) : Prop := 0 ≤ d ∧ d < 6 ∧ 0 ≤ mnK S d ∧ mnK S d ≤ 2240 ∧ (∀ j, 0 ≤ j → j < mnK S d → stOK S d j ∧ 0 ≤ clK S d j ∧ clK S d j < 6)
def s_manyOf : Spec := sP2 (fun S d its => dsOK S d ∧ InR its) fun S d its r => r = cntC S d its (mnK S d).toNat ∧ 0 ≤ r ∧ r ≤ 2240
def spX7_manyOf : Nat → CD := spF mdX7_manyOf fun i => match i with
  | 1 => (s_colourAt, 0, 0, 1)
  | _ => noR
set_option maxHeartbeats 4000000 in
set_option maxRecDepth 100000 in
theorem sat_X7_manyOf : Sat mX7_manyOf s_manyOf 0 0 2 := by
  refine sat_of (E := eX7_manyOf) (sp := spX7_manyOf) (ini := false) (by decide +kernel) (fun h => by cases h) okX7_manyOf (fun i => match i with
    | 1 => ⟨sat_X7_colourAt, Nat.le_of_ble_eq_true rfl⟩
    | i + 2 => ⟨sat_no _, Nat.le_of_ble_eq_true rfl⟩
    | 0 => ⟨sat_no _, Nat.le_of_ble_eq_true rfl⟩) ?_
  intro as S post h
  match as, h with
  | [.inr (.inr (some 2)), .inl d, .inl its], h =>
    obtain ⟨hM, ⟨⟨d0, d1, d2, d3, d4⟩, hi⟩, h⟩ := h
    have hr := hM.2.1
    refine body1 5 (fun n L st S' c => ∃ k r : Int, L = [vT 2, vI d, vI its, vI r, vI k] ∧ st = [] ∧ S' = S ∧ c = (0, 0) ∧ n = (2240 - k).toNat ∧ 0 ≤ k ∧ k ≤ mnK S d ∧ r = cntC S d its k.toNat) 3000 100 rfl ?_ ?_
    · rintro n L st S' c ⟨k, r, rfl, rfl, rfl, rfl, rfl, h0, h1, h2⟩
      have hb := cntC_0 (S := S') (d := d) (its := its) k.toNat
      have hst : k < mnK S' d → stOK S' d k := fun q => (d4 k h0 q).1
      have hcl : k < mnK S' d → 0 ≤ clK S' d k ∧ clK S' d k < 6 := fun q => (d4 k h0 q).2
      have e1 : (k + 1).toNat = k.toNat + 1 := by omega
      have e2 : ((k.toNat : Nat) : Int) = k := by omega
      have es : cntC S' d its (k + 1).toNat = cntC S' d its k.toNat + (if its = -1 ∨ clK S' d k = its then 1 else 0) := by
        rw [e1]; unfold cntC; show _ + _ = _; dsimp only; rw [e2]
      dsimp only [mg, mf, colK, stK, clK, mnK, shN] at *
      repeat' (first
          | omega
          | with_reducible apply And.intro
          | (intro c9; (try simp only [mg, mf, colK, stK, clK, mnK, shN] at c9))
          | exact hM
          | exact ms_o hM
          | (refine ms_r hM rfl rfl ?_ ?_ <;> (try simp only [mLen]) <;> omega)
          | exact hst (by omega)
          | (simp only [mg, mf, colK, stK, clK, mnK, shN]; omega)
          | refine Exists.intro _ (And.intro rfl ?_)
          | refine Exists.intro _ (And.intro ((congrFun hr _).trans rfl) ?_)
          | ((with_reducible show wp _ _ _ _ _ _ _ _ _ _ _ _ _ _); conv => whnf)
          | ((with_reducible show callK _ _ _ _ _ _ _ _ _); conv => whnf)
          | ((with_reducible show condK _ _ _ _ _); conv => whnf)
          | ((with_reducible show st1 _ _ _ _ _ _ _ _ _ _ _ _); conv => whnf)
          | ((with_reducible show (Prod.fst _ : Spec) _ _ _); conv => whnf)
          | ((with_reducible show shortK _ _); conv => whnf)
          | exact Nat.le_of_ble_eq_true rfl)
      · have : k = S'.2.1 (mt 10) d.toNat := by omega
        exact h _ ⟨by rw [h2, this], by omega, by omega⟩
      · exact ⟨(2240 - (k + 1)).toNat, by omega, k + 1, r + 1, rfl, rfl, rfl, rfl, rfl, by omega, by omega, by rw [es, if_pos (Or.inl c9), h2]⟩
      · rename_i h5 r9 h6
        exact ⟨(2240 - (k + 1)).toNat, by omega, k + 1, r + 0, rfl, rfl, rfl, rfl, rfl, by omega, by omega, by rw [es, if_neg (by rintro (q | q); exact h5 q; exact c9 (h6.trans q)), h2]⟩
      · rename_i h5 r9 h6
        exact ⟨(2240 - (k + 1)).toNat, by omega, k + 1, r + 1, rfl, rfl, rfl, rfl, rfl, by omega, by omega, by rw [es, if_pos (Or.inr (h6.symm.trans c9)), h2]⟩
    · repeat' (first
          | omega
          | with_reducible apply And.intro
          | (intro c9; (try simp only [mg, mf, colK, stK, clK, mnK, shN] at c9))
          | (simp only [mg, mf, colK, stK, clK, mnK, shN]; omega)
          | refine Exists.intro _ (And.intro rfl ?_)
          | ((with_reducible show wp _ _ _ _ _ _ _ _ _ _ _ _ _ _); conv => whnf)
          | ((with_reducible show callK _ _ _ _ _ _ _ _ _); conv => whnf)
          | ((with_reducible show condK _ _ _ _ _); conv => whnf)
          | ((with_reducible show st1 _ _ _ _ _ _ _ _ _ _ _ _); conv => whnf)
          | ((with_reducible show (Prod.fst _ : Spec) _ _ _); conv => whnf)
          | ((with_reducible show shortK _ _); conv => whnf)
          | exact Nat.le_of_ble_eq_true rfl)
      exact ⟨2240, by omega, 0, 0, rfl, rfl, rfl, rfl, rfl, by omega, by omega, rfl⟩
