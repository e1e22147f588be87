theorem bgN_uniq {P : Nat → Int → Int → Prop} {p p' k : Nat} (h1 : bgN P p ≤ k) (h2 : k < bgN P (p + 1)) (h3 : bgN P p' ≤ k) (h4 : k < bgN P (p' + 1)) : p = p' := by
  rcases Nat.lt_trichotomy p p' with q | q | q
  · have := bgN_mono (P := P) (a := p + 1) p' q; omega
  · exact q
  · have := bgN_mono (P := P) (a := p' + 1) p q; omega
/-- the stitch k of the place p is a jump; one that is hidden, or not -/
def jpP (S : Sto) (t n : Nat) (q : Nat → Nat) (P : Nat → Int → Int → Prop) (hid : Int) (p k : Nat) : Prop := (bgN P p < k ∨ (0 < p ∧ S.2.1 (q (p - 1)) 1 = S.2.1 (q p) 1)) ∧ farP (S.2.1 t (k - 1)) (S.2.1 t k) ∧ (hidP n P p (S.2.1 t (k - 1)) (S.2.1 t k) ↔ hid = 1)
def jjP (S : Sto) (t n : Nat) (q : Nat → Nat) (P : Nat → Int → Int → Prop) (hid : Int) (k : Nat) : Prop := ∃ p, p < n ∧ bgN P p ≤ k ∧ k < bgN P (p + 1) ∧ jpP S t n q P hid p k
theorem jjP_p {S : Sto} {t n : Nat} {q : Nat → Nat} {P : Nat → Int → Int → Prop} {hid : Int} {p k : Nat} (hp : p < n) (h1 : bgN P p ≤ k) (h2 : k < bgN P (p + 1)) : jjP S t n q P hid k ↔ jpP S t n q P hid p k :=
  ⟨fun ⟨p', _, a, b, c⟩ => by rw [bgN_uniq h1 h2 a b]; exact c, fun c => ⟨p, hp, h1, h2, c⟩⟩
/-- shapes laid in a row, with their stitches -/
def laid (S : Sto) (a t n : Nat) (q : Nat → Nat) (P : Nat → Int → Int → Prop) : Prop := sqA S a n q ∧ (∀ k, k < n → shC S (q k) (P k) ∧ clOK (P k)) ∧ S.1 t = some (100, bgN P n) ∧ (∀ p, p < n → S.2.1 (q p) 3 = bgN P p ∧ S.2.1 (q p) 4 = bgN P (p + 1)) ∧ ∀ j, j < bgN P n → 0 ≤ S.2.1 t j ∧ S.2.1 t j < 256
noncomputable def jjN (S : Sto) (t n : Nat) (q : Nat → Nat) (P : Nat → Int → Int → Prop) (hid : Int) (k : Nat) : Int := sumTo (fun j => bI (jjP S t n q P hid (j + 1))) (k - 1)
def s_countJumps : Spec := fun as S post => match as with
  | [.inr (.inr (some a)), .inr (.inr (some t)), .inl hid] => ∃ n q P, laid S a t n q P ∧ (hid = 0 ∨ hid = 1) ∧ post (.inl (some (vI (jjN S t n q P hid (bgN P n))))) S
  | _ => False
def spX0_countJumps : Nat → CD := spF mdX0_countJumps fun i => match i with
  | 1 => (s_max, 0, 0, 1)
  | 2 => (s_shapeAt, 0, 0, 1)
  | 3 => (s_isUnlike, 0, 0, 1)
  | 4 => (s_isFar, 0, 0, 2)
  | 5 => (s_isHiddenJump, 0, 0, 2)
  | _ => noR
set_option maxHeartbeats 4000000 in
set_option maxRecDepth 100000 in
theorem sat_X0_countJumps : Sat mX0_countJumps s_countJumps 0 0 3 := by
  refine sat_of (E := eX0_countJumps) (sp := spX0_countJumps) (ini := false) (by decide +kernel) (fun h => by cases h) okX0_countJumps (fun i => match i with
    | 1 => ⟨sat_J9_max_7cf53, Nat.le_of_ble_eq_true rfl⟩
    | 2 => ⟨sat_X6_shapeAt, Nat.le_of_ble_eq_true rfl⟩
    | 3 => ⟨sat_X4_isUnlike, Nat.le_of_ble_eq_true rfl⟩
    | 4 => ⟨sat_X0_isFar, Nat.le_of_ble_eq_true rfl⟩
    | 5 => ⟨sat_X0_isHiddenJump, Nat.le_of_ble_eq_true rfl⟩
    | i + 6 => ⟨sat_no _, Nat.le_of_ble_eq_true rfl⟩
    | 0 => ⟨sat_no _, Nat.le_of_ble_eq_true rfl⟩) ?_
  intro as S post h
  match as, h with
  | [.inr (.inr (some a)), .inr (.inr (some t)), .inl hid], h =>
    obtain ⟨n, q, P, hL, hh, h⟩ := h
    obtain ⟨hA, hC, hT, hB, hcl⟩ := hL
    have hA2 := hA
    obtain ⟨a1, a2, a3⟩ := hA2
    have hm : bgN P n ≤ 2240 := Nat.le_trans (bgN_le (fun p hp => (hC p hp).2) n (Nat.le_refl _)) (by omega)
    have hJ : ∀ k : Nat, 1 ≤ k → jjN S t n q P hid (k + 1) = jjN S t n q P hid k + bI (jjP S t n q P hid k) := fun k hk => by
      obtain ⟨j, rfl⟩ : ∃ j, k = j + 1 := ⟨k - 1, by omega⟩
      rfl
    have hJr : ∀ k : Nat, 0 ≤ jjN S t n q P hid k ∧ jjN S t n q P hid k ≤ k := fun k => by
      have h1 := sumTo_0n (f := fun j => bI (jjP S t n q P hid (j + 1))) (fun j => (bI_r _).1) (k - 1)
      have h2 := sumTo_le (f := fun j => bI (jjP S t n q P hid (j + 1))) (fun j => (bI_r _).2) (k - 1)
      unfold jjN
      omega
    refine bodyL [(5, fun ms L st S' cc => ∃ (p : Nat) (x5 x6 x7 : AV), L = [vT a, vT t, vI hid, vI (jjN S t n q P hid (bgN P p)), vI p, x5, x6, x7] ∧ st = [] ∧ S' = S ∧ cc = (0, 0) ∧ ms = (7 - p) * 5000 + 4999 ∧ p ≤ n),
      (37, fun ms L st S' cc => ∃ (p k : Nat) (x7 : AV), L = [vT a, vT t, vI hid, vI (jjN S t n q P hid k), vI p, vT (q p), vI k, x7] ∧ st = [] ∧ S' = S ∧ cc = (0, 0) ∧ ms = (7 - p) * 5000 + (2240 - k) * 2 + 1 ∧ p < n ∧ 1 ≤ k ∧ bgN P p ≤ k ∧ k ≤ bgN P (p + 1)),
      (87, fun ms L st S' cc => ∃ (p k : Nat) (i : Int), L = [vT a, vT t, vI hid, vI (jjN S t n q P hid k), vI p, vT (q p), vI k, vI i] ∧ st = [] ∧ S' = S ∧ cc = (0, 0) ∧ ms = (7 - p) * 5000 + (2240 - k) * 2 ∧ p < n ∧ 1 ≤ k ∧ bgN P p ≤ k ∧ k < bgN P (p + 1) ∧ isB i (¬ (bgN P p < k ∨ (0 < p ∧ S.2.1 (q (p - 1)) 1 = S.2.1 (q p) 1))))] 40000 200 rfl
      (List.forall_mem_cons.mpr ⟨?_, List.forall_mem_cons.mpr ⟨?_, List.forall_mem_cons.mpr ⟨?_, fun q hq => by cases hq⟩⟩⟩) ?_
    · rintro ms L st S' cc ⟨p, x5, x6, x7, rfl, rfl, rfl, rfl, rfl, hp⟩
      have h0 := a3 p
      have r0 : p < n → S'.2.2 a (p : Int).toNat = some (q p) := fun z => by rw [Int.toNat_natCast]; exact (h0 z).1
      have b0 := hB p
      have b1 := fun z : p < n => bgN_mono (P := P) (a := p + 1) n z
      have b2 := fun z : p < n => (hC p z).2.2.2
      have b3 : bgN P (p + 1) = bgN P p + (clsL (P p)).length := rfl
      repeat' (first
          | omega
          | with_reducible apply And.intro
          | (intro c9; (try simp only [mg, mf, colK, stK, clK, mnK, shN] at c9))
          | (with_reducible (have q9 : (some _ : Option Nat) = _ := c9; clear q9; cases c9))
          | (rw [r0 (by omega)] at c9; cases c9)
          | refine ⟨114, n, a1, by omega, ?_⟩
          | exact ⟨114, n, a1, rfl, by omega, by omega⟩
          | exact ⟨5, (h0 (by omega)).2.1⟩
          | rw [r0 (by omega)]
          | (rw [(b0 (by omega)).1]; omega)
          | (have := b0 (by omega); omega)
          | (simp only [mg, mf, colK, stK, clK, mnK, shN]; omega)
          | refine Exists.intro _ (And.intro rfl ?_)
          | refine Exists.intro _ (And.intro ((r0 (by omega))) ?_)
          | ((with_reducible show wp _ _ _ _ _ _ _ _ _ _ _ _ _ _); conv => whnf)
          | ((with_reducible show callK _ _ _ _ _ _ _ _ _); conv => whnf)
          | ((with_reducible show condK _ _ _ _ _); conv => whnf)
          | ((with_reducible show st1 _ _ _ _ _ _ _ _ _ _ _ _); conv => whnf)
          | ((with_reducible show (Prod.fst _ : Spec) _ _ _); conv => whnf)
          | ((with_reducible show shortK _ _); conv => whnf)
          | exact Nat.le_of_ble_eq_true rfl)
      · rw [show p = n by omega]; exact h
      · have b0 := b0 (by omega)
        have b1 := b1 (by omega)
        have b2 := b2 (by omega)
        rw [b0.1] at c9
        obtain ⟨k0, hk0⟩ : ∃ k0 : Nat, (k0 : Int) = (if (bgN P p : Int) ≤ 1 then (1 : Int) else (bgN P p : Int)) := by
          by_cases e : (bgN P p : Int) ≤ 1
          · exact ⟨1, by rw [if_pos e]; rfl⟩
          · exact ⟨bgN P p, by rw [if_neg e]⟩
        have hk1 : (bgN P p ≤ 1 ∧ k0 = 1) ∨ (1 < bgN P p ∧ k0 = bgN P p) := by
          split at hk0 <;> omega
        have hj : jjN S' t n q P hid (bgN P p) = jjN S' t n q P hid k0 := by
          rcases hk1 with ⟨z1, z2⟩ | ⟨z1, z2⟩
          · unfold jjN
            rw [z2, show bgN P p - 1 = 0 by omega]
          · rw [z2]
        exact ⟨(7 - p) * 5000 + (2240 - k0) * 2 + 1, by omega, p, k0, _, by rw [hj, c9, ← hk0]; rfl, rfl, rfl, rfl, rfl, by omega, by omega, by omega, by omega⟩
    · rintro ms L st S' cc ⟨p, k, x7, rfl, rfl, rfl, rfl, rfl, hp, hk1, hkb, hke⟩
      have h0 := a3 p hp
      have b0 := hB p hp
      have b1 := bgN_mono (P := P) (a := p + 1) n hp
      have hm1 : 0 < p → S'.2.2 a ((p : Int) - 1).toNat = some (q (p - 1)) ∧ S'.1 (q (p - 1)) = some (4, 5) ∧ 0 ≤ S'.2.1 (q (p - 1)) 1 ∧ S'.2.1 (q (p - 1)) 1 < 6 := fun z => by
        rw [show ((p : Int) - 1).toNat = p - 1 by omega]
        exact a3 (p - 1) (by omega)
      have hb0 : p ≠ 0 ∨ bgN P p = 0 := by
        rcases Nat.eq_zero_or_pos p with e | e
        · exact Or.inr (by rw [e]; rfl)
        · exact Or.inl (by omega)
      repeat' (first
          | omega
          | with_reducible apply And.intro
          | (intro c9; (try simp only [mg, mf, colK, stK, clK, mnK, shN] at c9))
          | refine ⟨100, bgN P n, hT, by omega, ?_⟩
          | exact ⟨5, h0.2.1⟩
          | refine ⟨n, a1, a2.2, ⟨by omega, by omega⟩, ?_⟩
          | rw [(hm1 (by omega)).1]
          | refine ⟨h0.2.1, (hm1 (by omega)).2.1, by have := h0.2.2; have := (hm1 (by omega)).2.2; omega, ?_⟩
          | (rw [b0.1]; omega)
          | (rw [b0.2]; omega)
          | (simp only [mg, mf, colK, stK, clK, mnK, shN]; omega)
          | refine Exists.intro _ (And.intro rfl ?_)
          | ((with_reducible show wp _ _ _ _ _ _ _ _ _ _ _ _ _ _); conv => whnf)
          | ((with_reducible show callK _ _ _ _ _ _ _ _ _); conv => whnf)
          | ((with_reducible show condK _ _ _ _ _); conv => whnf)
          | ((with_reducible show st1 _ _ _ _ _ _ _ _ _ _ _ _); conv => whnf)
          | ((with_reducible show (Prod.fst _ : Spec) _ _ _); conv => whnf)
          | ((with_reducible show shortK _ _); conv => whnf)
          | exact Nat.le_of_ble_eq_true rfl)
      · have e : k = bgN P (p + 1) := by omega
        exact ⟨(7 - (p + 1)) * 5000 + 4999, by omega, p + 1, _, _, _, by rw [e, Int.natCast_add]; rfl, rfl, rfl, rfl, rfl, by omega⟩
      all_goals first
        | exact ⟨(7 - p) * 5000 + (2240 - k) * 2, by omega, p, k, 0, rfl, rfl, rfl, rfl, rfl, hp, hk1, hkb, by omega, isBf (fun z => z (Or.inl (by omega)))⟩
        | exact ⟨(7 - p) * 5000 + (2240 - k) * 2, by omega, p, k, 0, rfl, rfl, rfl, rfl, rfl, hp, hk1, hkb, by omega, isBf (fun z => z (Or.inr ⟨by omega, Classical.byContradiction fun y => isB0 ‹isB _ (S'.2.1 (q p) 1 ≠ S'.2.1 (q (p - 1)) 1)› c9 (fun e => y e.symm)⟩))⟩
        | exact ⟨(7 - p) * 5000 + (2240 - k) * 2, by omega, p, k, 1, rfl, rfl, rfl, rfl, rfl, hp, hk1, hkb, by omega, isBt (fun z => z.elim (fun z => by omega) (fun z => isB1 ‹isB _ (S'.2.1 (q p) 1 ≠ S'.2.1 (q (p - 1)) 1)› c9 z.2.symm))⟩
    · rintro ms L st S' cc ⟨p, k, i, rfl, rfl, rfl, rfl, rfl, hp, hk1, hkb, hke, hi⟩
      have hi01 := isB01 hi
      have b1 := bgN_mono (P := P) (a := p + 1) n hp
      have hk2 := hcl k (by omega)
      have hk3 := hcl (k - 1) (by omega)
      have ek : S'.2.1 t ((k : Int) - 1).toNat = S'.2.1 t (k - 1) := by rw [show ((k : Int) - 1).toNat = k - 1 by omega]
      repeat' (first
          | omega
          | with_reducible apply And.intro
          | (intro c9; (try simp only [mg, mf, colK, stK, clK, mnK, shN, ek, Int.toNat_natCast] at c9))
          | exact ⟨100, bgN P n, hT, Or.inl rfl, by omega, by omega⟩
          | (rw [ek, Int.toNat_natCast])
          | refine ⟨n, q, P, hA, fun j hj => (hC j hj).1, by omega, ?_⟩
          | (simp only [mg, mf, colK, stK, clK, mnK, shN, ek, Int.toNat_natCast]; omega)
          | refine Exists.intro _ (And.intro rfl ?_)
          | ((with_reducible show wp _ _ _ _ _ _ _ _ _ _ _ _ _ _); conv => whnf)
          | ((with_reducible show callK _ _ _ _ _ _ _ _ _); conv => whnf)
          | ((with_reducible show condK _ _ _ _ _); conv => whnf)
          | ((with_reducible show st1 _ _ _ _ _ _ _ _ _ _ _ _); conv => whnf)
          | ((with_reducible show (Prod.fst _ : Spec) _ _ _); conv => whnf)
          | ((with_reducible show shortK _ _); conv => whnf)
          | exact Nat.le_of_ble_eq_true rfl)
      all_goals have hJk := hJ k hk1
      all_goals have hjp := jjP_p (S := S') (t := t) (q := q) (hid := hid) hp hkb hke
      · rw [bI_f (fun z => isB1 hi c9 (hjp.mp z).1)] at hJk
        exact ⟨(7 - p) * 5000 + (2240 - (k + 1)) * 2 + 1, by omega, p, k + 1, _, by rw [hJk, Int.natCast_add, Int.add_zero]; rfl, rfl, rfl, rfl, rfl, hp, by omega, by omega, by omega⟩
      · rw [bI_f (fun z => isB0 ‹isB _ (farP _ _)› c9 (hjp.mp z).2.1)] at hJk
        exact ⟨(7 - p) * 5000 + (2240 - (k + 1)) * 2 + 1, by omega, p, k + 1, _, by rw [hJk, Int.natCast_add, Int.add_zero]; rfl, rfl, rfl, rfl, rfl, hp, by omega, by omega, by omega⟩
      · rw [bI_f (fun z => c9 ((isB_hid ‹isB _ (hidP _ _ _ _ _)› hh).mpr (hjp.mp z).2.2))] at hJk
        exact ⟨(7 - p) * 5000 + (2240 - (k + 1)) * 2 + 1, by omega, p, k + 1, _, by rw [hJk, Int.natCast_add, Int.add_zero]; rfl, rfl, rfl, rfl, rfl, hp, by omega, by omega, by omega⟩
      · rw [bI_t (hjp.mpr ⟨Classical.not_not.mp (isB0 hi ‹i = 0›), isB1 ‹isB _ (farP _ _)› (by assumption), (isB_hid ‹isB _ (hidP _ _ _ _ _)› hh).mp c9⟩)] at hJk
        exact ⟨(7 - p) * 5000 + (2240 - (k + 1)) * 2 + 1, by omega, p, k + 1, _, by rw [hJk, Int.natCast_add]; rfl, rfl, rfl, rfl, rfl, hp, by omega, by omega, by omega⟩
    · repeat' (first
          | omega
          | with_reducible apply And.intro
          | (intro c9; (try simp only [mg, mf, colK, stK, clK, mnK, shN] at c9))
          | (simp only [mg, mf, colK, stK, clK, mnK, shN]; omega)
          | refine Exists.intro _ (And.intro rfl ?_)
          | ((with_reducible show wp _ _ _ _ _ _ _ _ _ _ _ _ _ _); conv => whnf)
          | ((with_reducible show callK _ _ _ _ _ _ _ _ _); conv => whnf)
          | ((with_reducible show condK _ _ _ _ _); conv => whnf)
          | ((with_reducible show st1 _ _ _ _ _ _ _ _ _ _ _ _); conv => whnf)
          | ((with_reducible show (Prod.fst _ : Spec) _ _ _); conv => whnf)
          | ((with_reducible show shortK _ _); conv => whnf)
          | exact Nat.le_of_ble_eq_true rfl)
      exact ⟨39999, by omega, 0, _, _, _, rfl, rfl, rfl, rfl, rfl, by omega⟩
/-! the shapes of a sequence differ -/
theorem gseq_mem {n : Nat} {col : Nat → Int} {nd : Nat → Nat} (hn : n ≤ 7) (hnd : needOK nd n) : ∀ p, p ≤ n → ∀ i, i < p → (gseq n col nd p).1.testBit (gat n col nd i).toNat = true
  | 0, _, i, hi => by omega
  | p + 1, hp, i, hi => by
    obtain ⟨x, g1, g2, g3, g4, -⟩ := gseq_step (col := col) hn hnd (show p < n by omega)
    rw [g4]
    show ((gseq n col nd p).1 ||| 2 ^ x).testBit _ = true
    rw [Nat.testBit_or, Nat.testBit_two_pow, Bool.or_eq_true, decide_eq_true_eq]
    by_cases e : i = p
    · rw [e, g1, Int.toNat_natCast]; exact Or.inr rfl
    · exact Or.inl (gseq_mem hn hnd p (by omega) i (by omega))
theorem gat_ne {n : Nat} {col : Nat → Int} {nd : Nat → Nat} (hn : n ≤ 7) (hnd : needOK nd n) {i j : Nat} (hij : i < j) (hj : j < n) : (gat n col nd i).toNat ≠ (gat n col nd j).toNat := by
  obtain ⟨x, g1, g2, g3, -⟩ := gseq_step (col := col) hn hnd hj
  have h1 := gseq_mem (col := col) hn hnd j (by omega) i hij
  intro e
  rw [e, g1, Int.toNat_natCast, g3] at h1
  cases h1
theorem gat_lt {n : Nat} {col : Nat → Int} {nd : Nat → Nat} (hn : n ≤ 7) (hnd : needOK nd n) {i : Nat} (hi : i < n) : (gat n col nd i).toNat < n := by
  have := gat_r (col := col) hn hnd hi
  omega
/-- S' is S but for a design being made at T: its objects, and its shapes' begins and ends -/
def dsB (S S' : Sto) (T n : Nat) (u : Nat → Nat) (i : Int) : Prop := (∀ t, (t < T ∨ T + 6 < t) → S'.1 t = S.1 t ∧ S'.2.2 t = S.2.2 t) ∧ (∀ t, (t < T ∨ T + 6 < t) → (∀ k, k < n → t ≠ u k) → S'.2.1 t = S.2.1 t) ∧ (∀ k, k < n → ∀ j, j ≠ 3 → j ≠ 4 → S'.2.1 (u k) j = S.2.1 (u k) j) ∧ S'.1 T = some (0, 9) ∧ S'.2.1 T 0 = i
def dsS1 (S' : Sto) (T a n : Nat) (col : Nat → Int) (nd : Nat → Nat) : Prop := ulC S' (T + 1) n col ∧ S'.2.2 T 1 = some (T + 1) ∧ S'.2.2 (T + 1) 0 = some a ∧ S'.2.2 (T + 1) 1 = some (T + 2) ∧ S'.1 (T + 2) = some (100, n) ∧ ∀ k, k < n → S'.2.1 (T + 2) k = nd k
def dsS2 (S' : Sto) (T n : Nat) (u : Nat → Nat) (col : Nat → Int) (nd : Nat → Nat) : Prop := S'.2.2 T 2 = some (T + 4) ∧ S'.1 (T + 4) = some (114, n) ∧ ∀ p, p < n → S'.2.2 (T + 4) p = some (u (gat n col nd p).toNat)
def dsS3 (S' : Sto) (T n : Nat) (q : Nat → Nat) (Q : Nat → Int → Int → Prop) : Prop := S'.2.2 T 3 = some (T + 5) ∧ S'.1 (T + 5) = some (100, bgN Q n) ∧ (∀ p, p < n → S'.2.1 (q p) 3 = bgN Q p ∧ S'.2.1 (q p) 4 = bgN Q (p + 1)) ∧ ∀ p, p < n → ∀ (j : Nat) (v : Int), (clsL (Q p))[j]? = some v → S'.2.1 (T + 5) (bgN Q p + j) = v
/-- the hoop that a design wants -/
def hoopP (S' : Sto) (t m : Nat) (w g : Int) : Prop := (∀ j, j < m → S'.2.1 t j % 16 < w ∧ S'.2.1 t j / 16 < g) ∧ (∃ j, j < m ∧ S'.2.1 t j % 16 + 1 = w) ∧ ∃ j, j < m ∧ S'.2.1 t j / 16 + 1 = g
def chgQ (S : Sto) (q : Nat → Nat) (n : Nat) : Int := sumTo (fun p => if S.2.1 (q p) 1 = S.2.1 (q (p + 1)) 1 then 0 else 1) (n - 1)
def desN (S S' : Sto) (T a n : Nat) (u : Nat → Nat) (P : Nat → Int → Int → Prop) (col : Nat → Int) (i : Int) (nd : Nat → Nat) : Prop := ndQ P nd n ∧ dsB S S' T n u i ∧ dsS1 S' T a n col nd ∧ dsS2 S' T n u col nd ∧ dsS3 S' T n (fun p => u (gat n col nd p).toNat) (fun p => P (gat n col nd p).toNat) ∧
  S'.2.1 T 4 = chgQ S' (fun p => u (gat n col nd p).toNat) n ∧ S'.2.1 T 5 = jjN S' (T + 5) n (fun p => u (gat n col nd p).toNat) (fun p => P (gat n col nd p).toNat) 0 (bgN (fun p => P (gat n col nd p).toNat) n) ∧
  S'.2.1 T 6 = jjN S' (T + 5) n (fun p => u (gat n col nd p).toNat) (fun p => P (gat n col nd p).toNat) 1 (bgN (fun p => P (gat n col nd p).toNat) n) ∧ hoopP S' (T + 5) (bgN (fun p => P (gat n col nd p).toNat) n) (S'.2.1 T 7) (S'.2.1 T 8)
/-- what a shape's codes are -/
def cdOK (P : Int → Int → Prop) : Prop := ∀ v ∈ clsL P, 0 ≤ v ∧ v < 256
/-- the shapes that a design is made of -/
def shpC (S : Sto) (T a n : Nat) (u : Nat → Nat) (P : Nat → Int → Int → Prop) (col : Nat → Int) : Prop := S.1 T = some (0, 9) ∧ (∀ k, 1 ≤ k → k ≤ 6 → S.1 (T + k) = none) ∧ S.1 a = some (114, n) ∧ (1 ≤ n ∧ n ≤ 7) ∧ (∀ k, k < n → S.2.2 a k = some (u k) ∧ shC S (u k) (P k) ∧ S.2.1 (u k) 1 = col k ∧ 0 ≤ col k ∧ col k < 6 ∧ clOK (P k) ∧ cdOK (P k)) ∧ ∀ i j, i < j → j < n → u i ≠ u j
theorem bgN_at {P : Nat → Int → Int → Prop} : ∀ (n k : Nat), k < bgN P n → ∃ p, p < n ∧ bgN P p ≤ k ∧ k < bgN P (p + 1)
  | 0, k, h => by exact absurd h (by show ¬ k < 0; omega)
  | n + 1, k, h => by
    by_cases q : k < bgN P n
    · obtain ⟨p, p1, p2, p3⟩ := bgN_at n k q
      exact ⟨p, by omega, p2, p3⟩
    · exact ⟨n, by omega, by omega, h⟩
theorem dsS3.rng {S' : Sto} {T n : Nat} {q : Nat → Nat} {Q : Nat → Int → Int → Prop} (h : dsS3 S' T n q Q) (hc : ∀ p, p < n → cdOK (Q p)) {j : Nat} (hj : j < bgN Q n) : 0 ≤ S'.2.1 (T + 5) j ∧ S'.2.1 (T + 5) j < 256 := by
  obtain ⟨p, p1, p2, p3⟩ := bgN_at n j hj
  have e : bgN Q (p + 1) = bgN Q p + (clsL (Q p)).length := rfl
  have hl : j - bgN Q p < (clsL (Q p)).length := by omega
  have q1 := h.2.2.2 p p1 (j - bgN Q p) _ (List.getElem?_eq_getElem hl)
  rw [show bgN Q p + (j - bgN Q p) = j by omega] at q1
  rw [q1]
  exact hc p p1 _ (List.getElem_mem hl)

