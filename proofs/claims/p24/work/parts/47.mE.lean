/-- the codes of a row's stitches, in the row's direction -/
def rowK (S : Sto) (k its row : Int) : Nat → List Int
  | 0 => []
  | n + 1 => rowK S k its row n ++ [mg S 4 k + (if row % 2 = 0 then (n : Int) else wideF (mg S 2 k) (mg S 6 k) row - 1 - n) + 16 * (mg S 5 k + row) + 256 * its]
def rowsK (S : Sto) (k its : Int) : Nat → List Int
  | 0 => []
  | r + 1 => rowsK S k its r ++ rowK S k its r (wideF (mg S 2 k) (mg S 6 k) r).toNat
def edgP (S : Sto) (k x y : Int) : Prop := hasK S k x y ∧ ¬ (hasK S k (x - 1) y ∧ hasK S k (x + 1) y ∧ hasK S k x (y - 1) ∧ hasK S k x (y + 1))
noncomputable def edgeK (S : Sto) (k its : Int) : Nat → List Int
  | 0 => []
  | c + 1 => edgeK S k its c ++ @ite _ (edgP S k ((c : Int) % 16) ((c : Int) / 16)) (Classical.propDecidable _) [(c : Int) % 16 + 16 * ((c : Int) / 16) + 256 * its] []
/-- all stitches of a shape -/
noncomputable def stL (S : Sto) (k its : Int) : List Int := rowsK S k its (mg S 7 k).toNat ++ edgeK S k its 256
theorem rowK_len {S : Sto} {k its row : Int} : ∀ n, (rowK S k its row n).length = n
  | 0 => rfl
  | n + 1 => by unfold rowK; rw [List.length_append, rowK_len n]; rfl
theorem wideF_r {S : Sto} {k : Int} (h : shOK S k) (row : Int) (h0 : 0 ≤ row) : 1 ≤ wideF (mg S 2 k) (mg S 6 k) row ∧ wideF (mg S 2 k) (mg S 6 k) row ≤ mg S 6 k := by
  unfold shOK at h
  unfold wideF
  split <;> omega
theorem rowsK_len {S : Sto} {k its : Int} (h : shOK S k) : ∀ n, (rowsK S k its n).length ≤ 16 * n
  | 0 => Nat.le_refl _
  | n + 1 => by
    unfold rowsK
    rw [List.length_append, rowK_len]
    have := rowsK_len (its := its) h n
    have := wideF_r h n (by omega)
    unfold shOK at h
    omega
/-- a bound for the edge's cells ahead of a cell -/
def eBp (lf tp hg w y x : Int) : Int :=
  2 * y + (if y > tp then 14 else 0) + (if y > tp + hg - 1 then 14 else 0) +
  (if y < tp ∨ tp + hg ≤ y then 0 else if y = tp ∨ y = tp + hg - 1 then x else (if x > lf then 1 else 0) + (if x > lf + w - 1 then 1 else 0))
def eB (S : Sto) (k c : Int) : Int := eBp (mg S 4 k) (mg S 5 k) (mg S 7 k) (wideF (mg S 2 k) (mg S 6 k) (c / 16 - mg S 5 k)) (c / 16) (c % 16)
theorem eBp_n {lf tp hg w w2 y : Int} (hh : 1 ≤ hg) (h0 : 0 ≤ lf) : eBp lf tp hg w y 15 ≤ eBp lf tp hg w2 (y + 1) 0 ∧ ((y < tp ∨ tp + hg ≤ y) ∨ eBp lf tp hg w y 15 + 1 ≤ eBp lf tp hg w2 (y + 1) 0 ∨ (tp < y ∧ y < tp + hg - 1 ∧ 15 > lf ∧ 15 > lf + w - 1)) := by
  unfold eBp
  omega
theorem eBp_x {lf tp hg w y x : Int} (hh : 1 ≤ hg) (h0 : 0 ≤ lf) : eBp lf tp hg w y x ≤ eBp lf tp hg w y (x + 1) ∧ (tp ≤ y → y < tp + hg → (y = tp ∨ y = tp + hg - 1 ∨ x = lf ∨ x = lf + w - 1) → eBp lf tp hg w y x + 1 ≤ eBp lf tp hg w y (x + 1)) := by
  unfold eBp
  omega
theorem eBp_m {lf tp hg w y x : Int} (hh : 1 ≤ hg) (h1 : 0 ≤ tp) (h2 : hg ≤ 16 - tp) (hy : 0 ≤ y) (hx : 0 ≤ x) (hc : y < 16 ∧ x < 16 ∨ y = 16 ∧ x = 0) : eBp lf tp hg w y x ≤ 62 := by
  unfold eBp
  omega
theorem eBp_0 {lf tp hg w : Int} (hh : 1 ≤ hg) (h1 : 0 ≤ tp) (h0 : 0 ≤ lf) : 0 ≤ eBp lf tp hg w 0 0 := by
  unfold eBp
  omega
theorem eB_in {S : Sto} {k : Int} (h : shOK S k) (x y : Int) (h0 : edgP S k x y) : mg S 5 k ≤ y ∧ y < mg S 5 k + mg S 7 k ∧ (y = mg S 5 k ∨ y = mg S 5 k + mg S 7 k - 1 ∨ x = mg S 4 k ∨ x = mg S 4 k + wideF (mg S 2 k) (mg S 6 k) (y - mg S 5 k) - 1) := by
  unfold shOK at h
  unfold edgP hasK hasP at h0
  obtain ⟨h1, h2⟩ := h0
  refine ⟨h1.1, h1.2.1, Classical.byContradiction fun q => h2 ?_⟩
  have e1 : y - 1 - mg S 5 k = y - mg S 5 k - 1 := by omega
  have e2 : y + 1 - mg S 5 k = y - mg S 5 k + 1 := by omega
  rw [e1, e2]
  have w1 : wideF (mg S 2 k) (mg S 6 k) (y - mg S 5 k) - 1 ≤ wideF (mg S 2 k) (mg S 6 k) (y - mg S 5 k - 1) := by unfold wideF; split <;> split <;> omega
  have w2 : wideF (mg S 2 k) (mg S 6 k) (y - mg S 5 k) ≤ wideF (mg S 2 k) (mg S 6 k) (y - mg S 5 k + 1) := by unfold wideF; split <;> split <;> omega
  generalize wideF (mg S 2 k) (mg S 6 k) (y - mg S 5 k) = w0 at *
  generalize wideF (mg S 2 k) (mg S 6 k) (y - mg S 5 k - 1) = w3 at *
  generalize wideF (mg S 2 k) (mg S 6 k) (y - mg S 5 k + 1) = w4 at *
  omega
theorem eB_s1 {S : Sto} {k : Int} (h : shOK S k) (c : Int) (c0 : 0 ≤ c) : eB S k c ≤ eB S k (c + 1) := by
  unfold shOK at h
  unfold eB
  by_cases q : c % 16 = 15
  · have e1 : (c + 1) / 16 = c / 16 + 1 := by omega
    have e2 : (c + 1) % 16 = 0 := by omega
    rw [e1, e2, q]
    exact (eBp_n (by omega) (by omega)).1
  · have e1 : (c + 1) / 16 = c / 16 := by omega
    have e2 : (c + 1) % 16 = c % 16 + 1 := by omega
    rw [e1, e2]
    exact (eBp_x (by omega) (by omega)).1
theorem eB_s2 {S : Sto} {k : Int} (h : shOK S k) (c : Int) (c0 : 0 ≤ c) (h0 : edgP S k (c % 16) (c / 16)) : eB S k c + 1 ≤ eB S k (c + 1) := by
  have h1 := eB_in h _ _ h0
  have h3 : hasK S k (c % 16) (c / 16) := h0.1
  unfold hasK hasP at h3
  unfold shOK at h
  unfold eB
  by_cases q : c % 16 = 15
  · have e1 : (c + 1) / 16 = c / 16 + 1 := by omega
    have e2 : (c + 1) % 16 = 0 := by omega
    rw [e1, e2]
    rw [q] at h1 h3 ⊢
    rcases (eBp_n (w := wideF (mg S 2 k) (mg S 6 k) (c / 16 - mg S 5 k)) (w2 := wideF (mg S 2 k) (mg S 6 k) (c / 16 + 1 - mg S 5 k)) (y := c / 16) (tp := mg S 5 k) (lf := mg S 4 k) (hg := mg S 7 k) (by omega) (by omega)).2 with a | a | a
    · omega
    · exact a
    · omega
  · have e1 : (c + 1) / 16 = c / 16 := by omega
    have e2 : (c + 1) % 16 = c % 16 + 1 := by omega
    rw [e1, e2]
    exact (eBp_x (by omega) (by omega)).2 h1.1 h1.2.1 h1.2.2
theorem edgeK_len {S : Sto} {k its : Int} (h : shOK S k) : ∀ c : Nat, ((edgeK S k its c).length : Int) ≤ eB S k c
  | 0 => by
    have h2 := h
    unfold shOK at h2
    unfold eB
    show (0 : Int) ≤ _
    rw [show ((0 : Nat) : Int) / 16 = 0 by omega, show ((0 : Nat) : Int) % 16 = 0 by omega]
    exact eBp_0 (by omega) (by omega) (by omega)
  | c + 1 => by
    have ih := edgeK_len (its := its) h c
    have e : ((c + 1 : Nat) : Int) = (c : Int) + 1 := by omega
    unfold edgeK
    rw [List.length_append, e]
    by_cases q : edgP S k ((c : Int) % 16) ((c : Int) / 16)
    · rw [if_pos q]
      have := eB_s2 h c (by omega) q
      show (((edgeK S k its c).length + 1 : Nat) : Int) ≤ _
      omega
    · rw [if_neg q]
      have := eB_s1 h c (by omega)
      show (((edgeK S k its c).length + 0 : Nat) : Int) ≤ _
      omega
theorem eB_256 {S : Sto} {k : Int} (h : shOK S k) (c : Int) (c0 : 0 ≤ c) (c1 : c ≤ 256) : eB S k c ≤ 62 := by
  unfold shOK at h
  unfold eB
  exact eBp_m (by omega) (by omega) (by omega) (by omega) (by omega) (by omega)
theorem stL_len {S : Sto} {k its : Int} (h : shOK S k) : (stL S k its).length ≤ 320 := by
  unfold stL
  rw [List.length_append]
  have h1 := rowsK_len (its := its) h (mg S 7 k).toNat
  have h2 := edgeK_len (its := its) h 256
  have h3 := eB_256 h ((256 : Nat) : Int) (by omega) (by omega)
  unfold shOK at h
  omega
/-- S' is S but for the design d's stitches l, behind its first m -/
def stA (S S' : Sto) (d m : Int) (l : List Int) : Prop := agr [10, 11] S S' ∧ mnK S' d = m + l.length ∧ (∀ (j : Nat) (v : Int), l[j]? = some v → mg S' 11 (2240 * d + (m + j)) = v) ∧ (∀ i : Int, 0 ≤ i → i ≠ d → mg S' 10 i = mg S 10 i) ∧ ∀ i : Int, 0 ≤ i → (i < 2240 * d + m ∨ 2240 * d + (m + l.length) ≤ i) → mg S' 11 i = mg S 11 i
theorem stA.rf {S : Sto} {d : Int} : stA S S d (mnK S d) [] := ⟨agr.rf, by simp, fun j v h => by simp at h, fun i _ _ => rfl, fun i _ _ => rfl⟩
theorem stA.step {S S' : Sto} {d m : Int} {l : List Int} {its x y : Int} (h : stA S S' d m l) (d0 : 0 ≤ d) (m0 : 0 ≤ m) : stA S (sewU S' d its x y) d m (l ++ [x + 16 * y + 256 * its]) := by
  obtain ⟨h1, h2, h3, h4, h5⟩ := h
  have e0 : mnK S' d = m + l.length := h2
  refine ⟨(h1.upd (by simp)).upd (by simp), ?_, fun j v hj => ?_, fun i i0 hi => ?_, fun i i0 hi => ?_⟩
  · show (if mt 10 = mt 10 ∧ d.toNat = d.toNat then mnK S' d + 1 else _) = _
    rw [if_pos ⟨rfl, rfl⟩, h2, List.length_append]
    show _ = m + ((l.length + 1 : Nat) : Int)
    omega
  · show (if mt 11 = mt 10 ∧ (2240 * d + (m + (j : Int))).toNat = d.toNat then mnK S' d + 1 else if mt 11 = mt 11 ∧ (2240 * d + (m + (j : Int))).toNat = (2240 * d + mnK S' d).toNat then x + 16 * y + 256 * its else mg S' 11 (2240 * d + (m + j))) = v
    rw [if_neg (by rintro ⟨e, -⟩; exact absurd (mt_inj e) (by omega)), e0]
    by_cases q : j = l.length
    · subst q
      rw [if_pos ⟨rfl, rfl⟩]
      simpa using hj
    · rw [if_neg (by rintro ⟨-, e⟩; omega)]
      refine h3 j v ?_
      rw [List.getElem?_append] at hj
      by_cases q2 : j < l.length
      · rw [if_pos q2] at hj; exact hj
      · rw [if_neg q2] at hj
        have : j - l.length ≠ 0 := by omega
        rw [List.getElem?_eq_none (by simp; omega)] at hj
        cases hj
  · show (if mt 10 = mt 10 ∧ i.toNat = d.toNat then mnK S' d + 1 else if mt 10 = mt 11 ∧ i.toNat = (2240 * d + mnK S' d).toNat then x + 16 * y + 256 * its else mg S' 10 i) = _
    rw [if_neg (by rintro ⟨-, e⟩; omega), if_neg (by rintro ⟨e, -⟩; exact absurd (mt_inj e) (by omega)), h4 i i0 hi]
  · rw [List.length_append] at hi
    have e1 : ([x + 16 * y + 256 * its] : List Int).length = 1 := rfl
    rw [e1] at hi
    show (if mt 11 = mt 10 ∧ i.toNat = d.toNat then mnK S' d + 1 else if mt 11 = mt 11 ∧ i.toNat = (2240 * d + mnK S' d).toNat then x + 16 * y + 256 * its else mg S' 11 i) = _
    rw [if_neg (by rintro ⟨e, -⟩; exact absurd (mt_inj e) (by omega)), e0, if_neg (by rintro ⟨-, e⟩; omega), h5 i i0 (by omega)]
theorem agr.has {ks : List Nat} {S S' : Sto} (h : agr ks S S') (hk : ∀ k, 2 ≤ k → k ≤ 7 → k ∉ ks) {k x y : Int} : hasK S' k x y ↔ hasK S k x y := by
  unfold hasK
  simp only [h.mg (k := 2) (hk 2 (by omega) (by omega)), h.mg (k := 4) (hk 4 (by omega) (by omega)), h.mg (k := 5) (hk 5 (by omega) (by omega)), h.mg (k := 6) (hk 6 (by omega) (by omega)), h.mg (k := 7) (hk 7 (by omega) (by omega))]
def s_laysStitches : Spec := fun as S post => match as with
  | [.inr (.inr (some 2)), .inl d, .inl its] => MS S ∧ (0 ≤ d ∧ d < 6 ∧ 0 ≤ its ∧ its < 7 ∧ shOK S (7 * d + its) ∧ 0 ≤ mnK S d ∧ mnK S d ≤ 1920) ∧ ∀ S', stA S S' d (mnK S d) (stL S (7 * d + its) its) → post (.inl none) S'
  | _ => False
