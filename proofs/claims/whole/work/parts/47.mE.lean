/-- the codes of a row's stitches, in the row's direction -/
def rowK (S : Sto) (k its row : Int) : Nat → List Int
  | 0 => []
  | n + 1 => rowK S k its row n ++ [mg S 4 k + (if row % 2 = 0 then (n : Int) else wideF (mg S 2 k) (mg S 6 k) row - 1 - n) + 16 * (mg S 5 k + row) + 256 * its]
def rowsK (S : Sto) (k its : Int) : Nat → List Int
  | 0 => []
  | r + 1 => rowsK S k its r ++ rowK S k its r (wideF (mg S 2 k) (mg S 6 k) r).toNat
def edgP (S : Sto) (k x y : Int) : Prop := hasK S k x y ∧ ¬ (hasK S k (x - 1) y ∧ hasK S k (x + 1) y ∧ hasK S k x (y - 1) ∧ hasK S k x (y + 1))
noncomputable def edgeK (S : Sto) (k its : Int) : Nat → List Int
  | 0 => []
  | c + 1 => edgeK S k its c ++ @ite _ (edgP S k ((c : Int) % 16) ((c : Int) / 16)) (Classical.propDecidable _) [(c : Int) % 16 + 16 * ((c : Int) / 16) + 256 * its] []
/-- all stitches of a shape -/
noncomputable def stL (S : Sto) (k its : Int) : List Int := rowsK S k its (mg S 7 k).toNat ++ edgeK S k its 256
theorem rowK_len {S : Sto} {k its row : Int} : ∀ n, (rowK S k its row n).length = n
  | 0 => rfl
  | n + 1 => by unfold rowK; rw [List.length_append, rowK_len n]; rfl
theorem wideF_r {S : Sto} {k : Int} (h : shOK S k) (row : Int) (h0 : 0 ≤ row) : 1 ≤ wideF (mg S 2 k) (mg S 6 k) row ∧ wideF (mg S 2 k) (mg S 6 k) row ≤ mg S 6 k := by
  unfold shOK at h
  unfold wideF
  split <;> omega
theorem rowsK_len {S : Sto} {k its : Int} (h : shOK S k) : ∀ n, (rowsK S k its n).length ≤ 16 * n
  | 0 => Nat.le_refl _
  | n + 1 => by
    unfold rowsK
    rw [List.length_append, rowK_len]
    have := rowsK_len (its := its) h n
    have := wideF_r h n (by omega)
    unfold shOK at h
    omega
/-- a bound for the edge's cells ahead of a cell -/
def eBp (lf tp hg w y x : Int) : Int :=
  2 * y + (if y > tp then 14 else 0) + (if y > tp + hg - 1 then 14 else 0) +
  (if y < tp ∨ tp + hg ≤ y then 0 else if y = tp ∨ y = tp + hg - 1 then x else (if x > lf then 1 else 0) + (if x > lf + w - 1 then 1 else 0))
def eB (S : Sto) (k c : Int) : Int := eBp (mg S 4 k) (mg S 5 k) (mg S 7 k) (wideF (mg S 2 k) (mg S 6 k) (c / 16 - mg S 5 k)) (c / 16) (c % 16)
theorem eBp_n {lf tp hg w w2 y : Int} (hh : 1 ≤ hg) (h0 : 0 ≤ lf) : eBp lf tp hg w y 15 ≤ eBp lf tp hg w2 (y + 1) 0 ∧ ((y < tp ∨ tp + hg ≤ y) ∨ eBp lf tp hg w y 15 + 1 ≤ eBp lf tp hg w2 (y + 1) 0 ∨ (tp < y ∧ y < tp + hg - 1 ∧ 15 > lf ∧ 15 > lf + w - 1)) := by
  unfold eBp
  omega
theorem eBp_x {lf tp hg w y x : Int} (hh : 1 ≤ hg) (h0 : 0 ≤ lf) : eBp lf tp hg w y x ≤ eBp lf tp hg w y (x + 1) ∧ (tp ≤ y → y < tp + hg → (y = tp ∨ y = tp + hg - 1 ∨ x = lf ∨ x = lf + w - 1) → eBp lf tp hg w y x + 1 ≤ eBp lf tp hg w y (x + 1)) := by
  unfold eBp
  omega
theorem eBp_m {lf tp hg w y x : Int} (hh : 1 ≤ hg) (h1 : 0 ≤ tp) (h2 : hg ≤ 16 - tp) (hy : 0 ≤ y) (hx : 0 ≤ x) (hc : y < 16 ∧ x < 16 ∨ y = 16 ∧ x = 0) : eBp lf tp hg w y x ≤ 62 := by
  unfold eBp
  omega
theorem eBp_0 {lf tp hg w : Int} (hh : 1 ≤ hg) (h1 : 0 ≤ tp) (h0 : 0 ≤ lf) : 0 ≤ eBp lf tp hg w 0 0 := by
  unfold eBp
  omega
theorem eB_in {S : Sto} {k : Int} (h : shOK S k) (x y : Int) (h0 : edgP S k x y) : mg S 5 k ≤ y ∧ y < mg S 5 k + mg S 7 k ∧ (y = mg S 5 k ∨ y = mg S 5 k + mg S 7 k - 1 ∨ x = mg S 4 k ∨ x = mg S 4 k + wideF (mg S 2 k) (mg S 6 k) (y - mg S 5 k) - 1) := by
  unfold shOK at h
  unfold edgP hasK hasP at h0
  obtain ⟨h1, h2⟩ := h0
  refine ⟨h1.1, h1.2.1, Classical.byContradiction fun q => h2 ?_⟩
  have e1 : y - 1 - mg S 5 k = y - mg S 5 k - 1 := by omega
  have e2 : y + 1 - mg S 5 k = y - mg S 5 k + 1 := by omega
  rw [e1, e2]
  have w1 : wideF (mg S 2 k) (mg S 6 k) (y - mg S 5 k) - 1 ≤ wideF (mg S 2 k) (mg S 6 k) (y - mg S 5 k - 1) := by unfold wideF; split <;> split <;> omega
  have w2 : wideF (mg S 2 k) (mg S 6 k) (y - mg S 5 k) ≤ wideF (mg S 2 k) (mg S 6 k) (y - mg S 5 k + 1) := by unfold wideF; split <;> split <;> omega
  generalize wideF (mg S 2 k) (mg S 6 k) (y - mg S 5 k) = w0 at *
  generalize wideF (mg S 2 k) (mg S 6 k) (y - mg S 5 k - 1) = w3 at *
  generalize wideF (mg S 2 k) (mg S 6 k) (y - mg S 5 k + 1) = w4 at *
  omega
theorem eB_s1 {S : Sto} {k : Int} (h : shOK S k) (c : Int) (c0 : 0 ≤ c) : eB S k c ≤ eB S k (c + 1) := by
  unfold shOK at h
  unfold eB
  by_cases q : c % 16 = 15
  · have e1 : (c + 1) / 16 = c / 16 + 1 := by omega
    have e2 : (c + 1) % 16 = 0 := by omega
    rw [e1, e2, q]
    exact (eBp_n (by omega) (by omega)).1
  · have e1 : (c + 1) / 16 = c / 16 := by omega
    have e2 : (c + 1) % 16 = c % 16 + 1 := by omega
    rw [e1, e2]
    exact (eBp_x (by omega) (by omega)).1
theorem eB_s2 {S : Sto} {k : Int} (h : shOK S k) (c : Int) (c0 : 0 ≤ c) (h0 : edgP S k (c % 16) (c / 16)) : eB S k c + 1 ≤ eB S k (c + 1) := by
  have h1 := eB_in h _ _ h0
  have h3 : hasK S k (c % 16) (c / 16) := h0.1
  unfold hasK hasP at h3
  unfold shOK at h
  unfold eB
  by_cases q : c % 16 = 15
  · have e1 : (c + 1) / 16 = c / 16 + 1 := by omega
    have e2 : (c + 1) % 16 = 0 := by omega
    rw [e1, e2]
    rw [q] at h1 h3 ⊢
    rcases (eBp_n (w := wideF (mg S 2 k) (mg S 6 k) (c / 16 - mg S 5 k)) (w2 := wideF (mg S 2 k) (mg S 6 k) (c / 16 + 1 - mg S 5 k)) (y := c / 16) (tp := mg S 5 k) (lf := mg S 4 k) (hg := mg S 7 k) (by omega) (by omega)).2 with a | a | a
    · omega
    · exact a
    · omega
  · have e1 : (c + 1) / 16 = c / 16 := by omega
    have e2 : (c + 1) % 16 = c % 16 + 1 := by omega
    rw [e1, e2]
    exact (eBp_x (by omega) (by omega)).2 h1.1 h1.2.1 h1.2.2
theorem edgeK_len {S : Sto} {k its : Int} (h : shOK S k) : ∀ c : Nat, ((edgeK S k its c).length : Int) ≤ eB S k c
  | 0 => by
    have h2 := h
    unfold shOK at h2
    unfold eB
    show (0 : Int) ≤ _
    rw [show ((0 : Nat) : Int) / 16 = 0 by omega, show ((0 : Nat) : Int) % 16 = 0 by omega]
    exact eBp_0 (by omega) (by omega) (by omega)
  | c + 1 => by
    have ih := edgeK_len (its := its) h c
    have e : ((c + 1 : Nat) : Int) = (c : Int) + 1 := by omega
    unfold edgeK
    rw [List.length_append, e]
    by_cases q : edgP S k ((c : Int) % 16) ((c : Int) / 16)
    · rw [if_pos q]
      have := eB_s2 h c (by omega) q
      show (((edgeK S k its c).length + 1 : Nat) : Int) ≤ _
      omega
    · rw [if_neg q]
      have := eB_s1 h c (by omega)
      show (((edgeK S k its c).length + 0 : Nat) : Int) ≤ _
      omega
theorem eB_256 {S : Sto} {k : Int} (h : shOK S k) (c : Int) (c0 : 0 ≤ c) (c1 : c ≤ 256) : eB S k c ≤ 62 := by
  unfold shOK at h
  unfold eB
  exact eBp_m (by omega) (by omega) (by omega) (by omega) (by omega) (by omega)
theorem stL_len {S : Sto} {k its : Int} (h : shOK S k) : (stL S k its).length ≤ 320 := by
  unfold stL
  rw [List.length_append]
  have h1 := rowsK_len (its := its) h (mg S 7 k).toNat
  have h2 := edgeK_len (its := its) h 256
  have h3 := eB_256 h ((256 : Nat) : Int) (by omega) (by omega)
  unfold shOK at h
  omega
/-- S' is S but for the design d's stitches l, behind its first m -/
def stA (S S' : Sto) (d m : Int) (l : List Int) : Prop := agr [10, 11] S S' ∧ mnK S' d = m + l.length ∧ (∀ (j : Nat) (v : Int), l[j]? = some v → mg S' 11 (2240 * d + (m + j)) = v) ∧ (∀ i : Int, 0 ≤ i → i ≠ d → mg S' 10 i = mg S 10 i) ∧ ∀ i : Int, 0 ≤ i → (i < 2240 * d + m ∨ 2240 * d + (m + l.length) ≤ i) → mg S' 11 i = mg S 11 i
theorem stA.rf {S : Sto} {d : Int} : stA S S d (mnK S d) [] := ⟨agr.rf, by simp, fun j v h => by simp at h, fun i _ _ => rfl, fun i _ _ => rfl⟩
theorem stA.step {S S' : Sto} {d m : Int} {l : List Int} {its x y : Int} (h : stA S S' d m l) (d0 : 0 ≤ d) (m0 : 0 ≤ m) : stA S (sewU S' d its x y) d m (l ++ [x + 16 * y + 256 * its]) := by
  obtain ⟨h1, h2, h3, h4, h5⟩ := h
  have e0 : mnK S' d = m + l.length := h2
  refine ⟨(h1.upd (by simp)).upd (by simp), ?_, fun j v hj => ?_, fun i i0 hi => ?_, fun i i0 hi => ?_⟩
  · show (if mt 10 = mt 10 ∧ d.toNat = d.toNat then mnK S' d + 1 else _) = _
    rw [if_pos ⟨rfl, rfl⟩, h2, List.length_append]
    show _ = m + ((l.length + 1 : Nat) : Int)
    omega
  · show (if mt 11 = mt 10 ∧ (2240 * d + (m + (j : Int))).toNat = d.toNat then mnK S' d + 1 else if mt 11 = mt 11 ∧ (2240 * d + (m + (j : Int))).toNat = (2240 * d + mnK S' d).toNat then x + 16 * y + 256 * its else mg S' 11 (2240 * d + (m + j))) = v
    rw [if_neg (by rintro ⟨e, -⟩; exact absurd (mt_inj e) (by omega)), e0]
    by_cases q : j = l.length
    · subst q
      rw [if_pos ⟨rfl, rfl⟩]
      simpa using hj
    · rw [if_neg (by rintro ⟨-, e⟩; omega)]
      refine h3 j v ?_
      rw [List.getElem?_append] at hj
      by_cases q2 : j < l.length
      · rw [if_pos q2] at hj; exact hj
      · rw [if_neg q2] at hj
        have : j - l.length ≠ 0 := by omega
        rw [List.getElem?_eq_none (by simp; omega)] at hj
        cases hj
  · show (if mt 10 = mt 10 ∧ i.toNat = d.toNat then mnK S' d + 1 else if mt 10 = mt 11 ∧ i.toNat = (2240 * d + mnK S' d).toNat then x + 16 * y + 256 * its else mg S' 10 i) = _
    rw [if_neg (by rintro ⟨-, e⟩; omega), if_neg (by rintro ⟨e, -⟩; exact absurd (mt_inj e) (by omega)), h4 i i0 hi]
  · rw [List.length_append] at hi
    have e1 : ([x + 16 * y + 256 * its] : List Int).length = 1 := rfl
    rw [e1] at hi
    show (if mt 11 = mt 10 ∧ i.toNat = d.toNat then mnK S' d + 1 else if mt 11 = mt 11 ∧ i.toNat = (2240 * d + mnK S' d).toNat then x + 16 * y + 256 * its else mg S' 11 i) = _
    rw [if_neg (by rintro ⟨e, -⟩; exact absurd (mt_inj e) (by omega)), e0, if_neg (by rintro ⟨-, e⟩; omega), h5 i i0 (by omega)]
theorem agr.has {ks : List Nat} {S S' : Sto} (h : agr ks S S') (hk : ∀ k, 2 ≤ k → k ≤ 7 → k ∉ ks) {k x y : Int} : hasK S' k x y ↔ hasK S k x y := by
  unfold hasK
  simp only [h.mg (k := 2) (hk 2 (by omega) (by omega)), h.mg (k := 4) (hk 4 (by omega) (by omega)), h.mg (k := 5) (hk 5 (by omega) (by omega)), h.mg (k := 6) (hk 6 (by omega) (by omega)), h.mg (k := 7) (hk 7 (by omega) (by omega))]
def s_laysStitches : Spec := fun as S post => match as with
  | [.inr (.inr (some 2)), .inl d, .inl its] => MS S ∧ (0 ≤ d ∧ d < 6 ∧ 0 ≤ its ∧ its < 7 ∧ shOK S (7 * d + its) ∧ 0 ≤ mnK S d ∧ mnK S d ≤ 1920) ∧ ∀ S', stA S S' d (mnK S d) (stL S (7 * d + its) its) → post (.inl none) S'
  | _ => False
def spX7_laysStitches : Nat → CD := spF mdX7_laysStitches fun i => match i with
  | 1 => (s_wideAt, 0, 0, 1)
  | 2 => (s_sews, 0, 0, 1)
  | 3 => (s_has, 0, 0, 2)
  | _ => noR
set_option maxHeartbeats 4000000 in
set_option maxRecDepth 100000 in
theorem sat_X7_laysStitches : Sat mX7_laysStitches s_laysStitches 0 0 3 := by
  refine sat_of (E := eX7_laysStitches) (sp := spX7_laysStitches) (ini := false) (by decide +kernel) (fun h => by cases h) okX7_laysStitches (fun i => match i with
    | 1 => ⟨sat_X7_wideAt, Nat.le_of_ble_eq_true rfl⟩
    | 2 => ⟨sat_X7_sews, Nat.le_of_ble_eq_true rfl⟩
    | 3 => ⟨sat_X7_has, Nat.le_of_ble_eq_true rfl⟩
    | i + 4 => ⟨sat_no _, Nat.le_of_ble_eq_true rfl⟩
    | 0 => ⟨sat_no _, Nat.le_of_ble_eq_true rfl⟩) ?_
  intro as S post h
  match as, h with
  | [.inr (.inr (some 2)), .inl d, .inl its], h =>
    obtain ⟨hM, ⟨d0, d1, i0, i1, hsh, m0, m1⟩, h⟩ := h
    generalize hm : mnK S d = m at *
    generalize hk : 7 * d + its = k at *
    have hsh2 := hsh
    unfold shOK at hsh2
    obtain ⟨g, hg⟩ : ∃ g : Nat, mg S 7 k = g := ⟨(mg S 7 k).toNat, by omega⟩
    have hks : ∀ q, 2 ≤ q → q ≤ 7 → q ∉ [10, 11] := fun q q1 q2 => by simp; omega
    refine bodyL [(10, fun ms L st S' c => ∃ (row : Nat) (x5 x6 x7 : AV), L = [vT 2, vI d, vI its, vI k, vI row, x5, x6, x7] ∧ st = [] ∧ c = (0, 0) ∧ ms = 1000 + (16 - row) * 100 + 50 ∧ row ≤ g ∧ stA S S' d m (rowsK S k its row)),
      (33, fun ms L st S' c => ∃ (row n : Nat) (x7 : AV), L = [vT 2, vI d, vI its, vI k, vI row, vI (wideF (mg S 2 k) (mg S 6 k) row), vI n, x7] ∧ st = [] ∧ c = (0, 0) ∧ ms = 1000 + (16 - row) * 100 + (16 - n) ∧ row < g ∧ n ≤ wideF (mg S 2 k) (mg S 6 k) row ∧ stA S S' d m (rowsK S k its row ++ rowK S k its row n)),
      (96, fun ms L st S' c => ∃ (cell : Nat) (x5 x6 x7 : AV), L = [vT 2, vI d, vI its, vI k, vI cell, x5, x6, x7] ∧ st = [] ∧ c = (0, 0) ∧ ms = 256 - cell ∧ cell ≤ 256 ∧ stA S S' d m (rowsK S k its g ++ edgeK S k its cell))] 4000 200 rfl
      (List.forall_mem_cons.mpr ⟨?_, List.forall_mem_cons.mpr ⟨?_, List.forall_mem_cons.mpr ⟨?_, fun q hq => by cases hq⟩⟩⟩) ?_
    · rintro ms L st S' c ⟨row, x5, x6, x7, rfl, rfl, rfl, rfl, hr9, hst⟩
      have hM := hst.1.ms hM
      have hr := hM.2.1
      have e7 : S'.2.1 (mt 7) k.toNat = g := (hst.1.mg (k := 7) (by simp)).trans hg
      have hshS := (hst.1.sh hks).mpr hsh
      have hpos := wideF_r hsh row (by omega)
      repeat' (first
          | omega
          | with_reducible apply And.intro
          | (intro c9; (try simp only [mg, mf, colK, stK, clK, mnK, shN] at c9))
          | exact hM
          | exact ms_o hM
          | (refine ms_r hM rfl rfl ?_ ?_ <;> (try simp only [mLen]) <;> omega)
          | (refine ms_w hM rfl rfl ?_ ?_ <;> (try simp only [mLen]) <;> omega)
          | exact hshS
          | (simp only [mg, mf, colK, stK, clK, mnK, shN]; omega)
          | refine Exists.intro _ (And.intro rfl ?_)
          | refine Exists.intro _ (And.intro ((congrFun hr _).trans rfl) ?_)
          | refine Exists.intro _ (And.intro (e7) ?_)
          | ((with_reducible show wp _ _ _ _ _ _ _ _ _ _ _ _ _ _); conv => whnf)
          | ((with_reducible show callK _ _ _ _ _ _ _ _ _); conv => whnf)
          | ((with_reducible show condK _ _ _ _ _); conv => whnf)
          | ((with_reducible show st1 _ _ _ _ _ _ _ _ _ _ _ _); conv => whnf)
          | ((with_reducible show (Prod.fst _ : Spec) _ _ _); conv => whnf)
          | ((with_reducible show shortK _ _); conv => whnf)
          | exact Nat.le_of_ble_eq_true rfl)
      · have e : row = g := by omega
        subst e
        exact ⟨256, by omega, 0, x5, x6, x7, rfl, rfl, rfl, rfl, by omega, by rw [show edgeK S k its 0 = [] from rfl, List.append_nil]; exact hst⟩
      · rename_i r9
        have q2 : S'.2.1 (mt 2) k.toNat = mg S 2 k := hst.1.mg (by simp)
        have q6 : S'.2.1 (mt 6) k.toNat = mg S 6 k := hst.1.mg (by simp)
        have e9 : r9 = wideF (mg S 2 k) (mg S 6 k) row := by rw [c9.1, q2, q6]
        subst e9
        exact ⟨1000 + (16 - row) * 100 + (16 - 0), by omega, row, 0, x7, rfl, rfl, rfl, rfl, by omega, by omega, by rw [show rowK S k its row 0 = [] from rfl, List.append_nil]; exact hst⟩
    · rintro ms L st S' c ⟨row, n, x7, rfl, rfl, rfl, rfl, hr9, hn, hst⟩
      have hM := hst.1.ms hM
      have hr := hM.2.1
      have e4 : S'.2.1 (mt 4) k.toNat = mg S 4 k := (hst.1.mg (k := 4) (by simp))
      have e5 : S'.2.1 (mt 5) k.toNat = mg S 5 k := (hst.1.mg (k := 5) (by simp))
      have hpos := wideF_r hsh row (by omega)
      have hlen : mnK S' d = m + (rowsK S k its row ++ rowK S k its row n).length := hst.2.1
      rw [List.length_append, rowK_len] at hlen
      have hl2 := rowsK_len (its := its) hsh row
      repeat' (first
          | omega
          | with_reducible apply And.intro
          | (intro c9; (try simp only [mg, mf, colK, stK, clK, mnK, shN] at c9))
          | exact hM
          | exact ms_o hM
          | (refine ms_r hM rfl rfl ?_ ?_ <;> (try simp only [mLen]) <;> omega)
          | (refine ms_w hM rfl rfl ?_ ?_ <;> (try simp only [mLen]) <;> omega)
          | (simp only [mg, mf, colK, stK, clK, mnK, shN]; omega)
          | refine Exists.intro _ (And.intro rfl ?_)
          | refine Exists.intro _ (And.intro ((congrFun hr _).trans rfl) ?_)
          | refine Exists.intro _ (And.intro (e4) ?_)
          | refine Exists.intro _ (And.intro (e5) ?_)
          | ((with_reducible show wp _ _ _ _ _ _ _ _ _ _ _ _ _ _); conv => whnf)
          | ((with_reducible show callK _ _ _ _ _ _ _ _ _); conv => whnf)
          | ((with_reducible show condK _ _ _ _ _); conv => whnf)
          | ((with_reducible show st1 _ _ _ _ _ _ _ _ _ _ _ _); conv => whnf)
          | ((with_reducible show (Prod.fst _ : Spec) _ _ _); conv => whnf)
          | ((with_reducible show shortK _ _); conv => whnf)
          | exact Nat.le_of_ble_eq_true rfl)
      · have e : (n : Int) = wideF (mg S 2 k) (mg S 6 k) row := Int.le_antisymm hn c9
        have e2 : (wideF (mg S 2 k) (mg S 6 k) row).toNat = n := by omega
        refine ⟨1000 + (16 - (row + 1)) * 100 + 50, by omega, row + 1, _, _, x7, by rw [Int.natCast_add]; rfl, rfl, rfl, rfl, by omega, ?_⟩
        rw [show rowsK S k its (row + 1) = rowsK S k its row ++ rowK S k its row (wideF (mg S 2 k) (mg S 6 k) row).toNat from rfl, e2]
        exact hst
      · have q : (n : Int) < wideF (mg S 2 k) (mg S 6 k) row := ‹(n : Int) < wideF _ _ _›
        refine ⟨1000 + (16 - row) * 100 + (16 - (n + 1)), by omega, row, n + 1, _, by rw [Int.natCast_add]; rfl, rfl, rfl, rfl, hr9, by omega, ?_⟩
        rw [show rowK S k its row (n + 1) = rowK S k its row n ++ [mg S 4 k + (if (row : Int) % 2 = 0 then (n : Int) else wideF (mg S 2 k) (mg S 6 k) row - 1 - n) + 16 * (mg S 5 k + row) + 256 * its] from rfl, if_neg c9, ← List.append_assoc, ← e4, ← e5]
        exact hst.step d0 m0
      · have q : (n : Int) < wideF (mg S 2 k) (mg S 6 k) row := ‹(n : Int) < wideF _ _ _›
        refine ⟨1000 + (16 - row) * 100 + (16 - (n + 1)), by omega, row, n + 1, _, by rw [Int.natCast_add]; rfl, rfl, rfl, rfl, hr9, by omega, ?_⟩
        rw [show rowK S k its row (n + 1) = rowK S k its row n ++ [mg S 4 k + (if (row : Int) % 2 = 0 then (n : Int) else wideF (mg S 2 k) (mg S 6 k) row - 1 - n) + 16 * (mg S 5 k + row) + 256 * its] from rfl, if_pos c9, ← List.append_assoc, ← e4, ← e5]
        exact hst.step d0 m0
    · rintro ms L st S' c ⟨cell, x5, x6, x7, rfl, rfl, rfl, rfl, hc9, hst⟩
      have hM := hst.1.ms hM
      have hr := hM.2.1
      have hshS := (hst.1.sh hks).mpr hsh
      have hlen : mnK S' d = m + (rowsK S k its g ++ edgeK S k its cell).length := hst.2.1
      rw [List.length_append] at hlen
      have hl2 := rowsK_len (its := its) hsh g
      have hl3 := edgeK_len (its := its) hsh cell
      have hl4 := eB_256 hsh cell (by omega) (by omega)
      have he : ∀ x y, hasK S' k x y ↔ hasK S k x y := fun x y => hst.1.has hks
      have dN : ∀ {y7 : AV}, ¬ edgP S k ((cell : Int) % 16) ((cell : Int) / 16) → (cell : Int) < 256 → ∃ q, q < 256 - cell ∧ ∃ (c2 : Nat) (z5 z6 z7 : AV), [vT 2, vI d, vI its, vI k, vI ((cell : Int) + 1), vI ((cell : Int) % 16), vI ((cell : Int) / 16), y7] = [vT 2, vI d, vI its, vI k, vI c2, z5, z6, z7] ∧ ([] : List AV) = [] ∧ ((0, 0) : Nat × Nat) = (0, 0) ∧ q = 256 - c2 ∧ c2 ≤ 256 ∧ stA S S' d m (rowsK S k its g ++ edgeK S k its c2)   := fun hq hc =>
        ⟨256 - (cell + 1), by omega, cell + 1, _, _, _, by rw [Int.natCast_add]; rfl, rfl, rfl, rfl, by omega, by
          unfold edgeK
          rw [if_neg hq, List.append_nil]; exact hst⟩
      have dE : ∀ {y7 : AV}, edgP S k ((cell : Int) % 16) ((cell : Int) / 16) → (cell : Int) < 256 → ∃ q, q < 256 - cell ∧ ∃ (c2 : Nat) (z5 z6 z7 : AV), [vT 2, vI d, vI its, vI k, vI ((cell : Int) + 1), vI ((cell : Int) % 16), vI ((cell : Int) / 16), y7] = [vT 2, vI d, vI its, vI k, vI c2, z5, z6, z7] ∧ ([] : List AV) = [] ∧ ((0, 0) : Nat × Nat) = (0, 0) ∧ q = 256 - c2 ∧ c2 ≤ 256 ∧ stA S (sewU S' d its ((cell : Int) % 16) ((cell : Int) / 16)) d m (rowsK S k its g ++ edgeK S k its c2)   := fun hq hc =>
        ⟨256 - (cell + 1), by omega, cell + 1, _, _, _, by rw [Int.natCast_add]; rfl, rfl, rfl, rfl, by omega, by
          unfold edgeK
          rw [if_pos hq, ← List.append_assoc]; exact hst.step d0 m0⟩
      repeat' (first
          | omega
          | with_reducible apply And.intro
          | (intro c9; (try simp only [mg, mf, colK, stK, clK, mnK, shN] at c9))
          | exact hM
          | exact ms_o hM
          | (refine ms_r hM rfl rfl ?_ ?_ <;> (try simp only [mLen]) <;> omega)
          | (refine ms_w hM rfl rfl ?_ ?_ <;> (try simp only [mLen]) <;> omega)
          | exact hshS
          | (simp only [mg, mf, colK, stK, clK, mnK, shN]; omega)
          | refine Exists.intro _ (And.intro rfl ?_)
          | refine Exists.intro _ (And.intro ((congrFun hr _).trans rfl) ?_)
          | ((with_reducible show wp _ _ _ _ _ _ _ _ _ _ _ _ _ _); conv => whnf)
          | ((with_reducible show callK _ _ _ _ _ _ _ _ _); conv => whnf)
          | ((with_reducible show condK _ _ _ _ _); conv => whnf)
          | ((with_reducible show st1 _ _ _ _ _ _ _ _ _ _ _ _); conv => whnf)
          | ((with_reducible show (Prod.fst _ : Spec) _ _ _); conv => whnf)
          | ((with_reducible show shortK _ _); conv => whnf)
          | exact Nat.le_of_ble_eq_true rfl)
      · exact h _ (by
          have e : cell = 256 := by omega
          subst e
          unfold stL
          rw [show (mg S 7 k).toNat = g by omega]
          exact hst)
      · rename_i r9 hr9
        exact dN (fun q => isB0 hr9 c9 ((he _ _).mpr q.1)) (by omega)
      · rename_i r1 h1 c1 r9 hr9 c9'
        exact dE ⟨(he _ _).mp (isB1 hr9 c9'), fun q => isB0 h1 c1 ((he _ _).mpr q.1)⟩ (by omega)
      · rename_i r9 hr9
        exact dN (fun q => isB0 hr9 c9 ((he _ _).mpr q.1)) (by omega)
      · rename_i r1 h1 c1 r9 hr9 c9'
        exact dE ⟨(he _ _).mp (isB1 hr9 c9'), fun q => isB0 h1 c1 ((he _ _).mpr q.2.1)⟩ (by omega)
      · rename_i r9 hr9
        exact dN (fun q => isB0 hr9 c9 ((he _ _).mpr q.1)) (by omega)
      · rename_i r1 h1 c1 r9 hr9 c9'
        exact dE ⟨(he _ _).mp (isB1 hr9 c9'), fun q => isB0 h1 c1 ((he _ _).mpr q.2.2.1)⟩ (by omega)
      · rename_i r9 hr9
        exact dN (fun q => isB0 hr9 c9 ((he _ _).mpr q.1)) (by omega)
      · rename_i r1 h1 c1 r9 hr9 c9'
        exact dE ⟨(he _ _).mp (isB1 hr9 c9'), fun q => isB0 h1 c1 ((he _ _).mpr q.2.2.2)⟩ (by omega)
      · rename_i r9 hr9
        exact dN (fun q => isB0 hr9 c9 ((he _ _).mpr q.1)) (by omega)
      · rename_i r1 h1 c1 r2 h2 c2 r3 h3 c3 r4 h4 c4 r9 hr9 c9'
        exact dN (fun q => q.2 ⟨(he _ _).mp (isB1 h1 c1), (he _ _).mp (isB1 h2 c2), (he _ _).mp (isB1 h3 c3), (he _ _).mp (isB1 h4 c4)⟩) (by omega)
    · have hr := hM.2.1
      repeat' (first
          | omega
          | with_reducible apply And.intro
          | (intro c9; (try simp only [mg, mf, colK, stK, clK, mnK, shN] at c9))
          | exact hM
          | exact ms_o hM
          | (refine ms_r hM rfl rfl ?_ ?_ <;> (try simp only [mLen]) <;> omega)
          | (refine ms_w hM rfl rfl ?_ ?_ <;> (try simp only [mLen]) <;> omega)
          | (simp only [mg, mf, colK, stK, clK, mnK, shN]; omega)
          | refine Exists.intro _ (And.intro rfl ?_)
          | refine Exists.intro _ (And.intro ((congrFun hr _).trans rfl) ?_)
          | ((with_reducible show wp _ _ _ _ _ _ _ _ _ _ _ _ _ _); conv => whnf)
          | ((with_reducible show callK _ _ _ _ _ _ _ _ _); conv => whnf)
          | ((with_reducible show condK _ _ _ _ _); conv => whnf)
          | ((with_reducible show st1 _ _ _ _ _ _ _ _ _ _ _ _); conv => whnf)
          | ((with_reducible show (Prod.fst _ : Spec) _ _ _); conv => whnf)
          | ((with_reducible show shortK _ _); conv => whnf)
          | exact Nat.le_of_ble_eq_true rfl)
      exact ⟨1000 + (16 - 0) * 100 + 50, by omega, 0, uu, uu, uu, by rw [← hk]; rfl, rfl, rfl, rfl, by omega, by rw [← hm]; exact stA.rf⟩
