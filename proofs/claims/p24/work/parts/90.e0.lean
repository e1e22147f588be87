/-! CLASS AGAINST REFERENCE: a shape -/
theorem wideC_e {kd wd i : Int} (h : kd = 0 ∨ kd = 1) : wideC kd wd i = wideF kd wd i := by
  unfold wideC wideF
  rcases h with rfl | rfl
  · rw [if_pos rfl, if_neg (by omega)]
  · rw [if_neg (by omega)]
    split <;> split <;> omega
theorem row_n {c x : Nat} (h : x + c ≤ 16) : bShl (bShl 1 (c : Int) - 1) (x : Int) = (((2 ^ c - 1) * 2 ^ x : Nat) : Int) := by
  have hc : 2 ^ c ≤ 2 ^ 16 := Nat.pow_le_pow_right (by omega) (by omega)
  have hx : 2 ^ x * 2 ^ c ≤ 2 ^ 16 := by rw [← Nat.pow_add]; exact Nat.pow_le_pow_right (by omega) h
  have h1 := bn_shl 1 c (by omega) (by omega)
  have hp := Nat.two_pow_pos c
  have h2 := bn_shl (2 ^ c - 1) x (Nat.lt_of_le_of_lt (Nat.mul_le_mul_right _ (Nat.sub_le _ _)) (by rw [Nat.mul_comm]; omega)) (by omega)
  rw [show ((1 : Nat) : Int) = 1 from rfl, Nat.one_mul] at h1
  rw [h1, ← h2, Int.natCast_sub hp]; rfl
theorem rows_bit {kd x y w g : Int} (hk : kd = 0 ∨ kd = 1) (hx : 0 ≤ x ∧ x < 16 ∧ 1 ≤ w ∧ w ≤ 16 - x) (hy : 0 ≤ y ∧ y < 16 ∧ 1 ≤ g ∧ g ≤ 16 - y) (j : Nat) : 0 ≤ rowsF kd x y w g j ∧ rowsF kd x y w g j < 65536 ∧ ∀ i : Nat, i < 16 → ((rowsF kd x y w g j).toNat.testBit i = true ↔ hasP kd x y w g i j) := by
  unfold rowsF
  by_cases e : y ≤ j ∧ (j : Int) < y + g
  · rw [if_pos e]
    unfold rowE
    rw [wideC_e hk]
    have hw : 1 ≤ wideF kd w (j - y) ∧ wideF kd w (j - y) ≤ w := by unfold wideF; split <;> omega
    obtain ⟨c, hc⟩ : ∃ c : Nat, wideF kd w (j - y) = c := ⟨_, (Int.toNat_of_nonneg (by omega)).symm⟩
    obtain ⟨x', hx'⟩ : ∃ x' : Nat, x = x' := ⟨_, (Int.toNat_of_nonneg (by omega)).symm⟩
    have hr := row_n (c := c) (x := x') (by omega)
    have h16 : 2 ^ x' * 2 ^ c ≤ 2 ^ 16 := by rw [← Nat.pow_add]; exact Nat.pow_le_pow_right (by omega) (by omega)
    have hlt : (2 ^ c - 1) * 2 ^ x' < 65536 := by
      have := Nat.two_pow_pos x'
      rw [Nat.sub_mul, Nat.mul_comm (2 ^ c)]
      omega
    have hb : ∀ i, ((2 ^ c - 1) * 2 ^ x').testBit i = true ↔ x' ≤ i ∧ i < x' + c := fun i => by
      rw [Nat.testBit_mul_two_pow, Nat.testBit_two_pow_sub_one]
      simp only [Bool.and_eq_true, decide_eq_true_eq]
      omega
    unfold hasP
    rw [hc, hx', hr, Int.toNat_natCast]
    refine ⟨by omega, by omega, fun i hi => ?_⟩
    rw [hb i]
    omega
  · rw [if_neg e]
    refine ⟨by omega, by omega, fun i hi => ?_⟩
    unfold hasP
    simp only [Int.toNat_zero, Nat.zero_testBit]
    constructor
    · intro q; cases q
    · intro q; omega
/-- a list by its entries -/
def segL (f : Nat → Int) : Nat → List Int
  | 0 => []
  | n + 1 => segL f n ++ [f n]
theorem segL_congr {f g : Nat → Int} : ∀ n, (∀ i, i < n → f i = g i) → segL f n = segL g n
  | 0, _ => rfl
  | n + 1, h => by unfold segL; rw [segL_congr n (fun i hi => h i (by omega)), h n (by omega)]
theorem cRow_seg {P : Int → Int → Prop} {y : Int} {r : Bool} {a w : Nat} (h : ∀ b : Nat, b < 16 → (P (xsF r b) y ↔ a ≤ b ∧ b < a + w)) : ∀ b : Nat, b ≤ 16 → cRow P y r b = segL (fun i => y * 16 + xsF r (a + i)) (min (b - a) w)
  | 0, _ => by rw [Nat.zero_sub, Nat.zero_min]; rfl
  | b + 1, hb => by
    unfold cRow
    rw [cRow_seg h b (by omega)]
    by_cases e : P (xsF r b) y
    · rw [if_pos e]
      have q := (h b (by omega)).mp e
      rw [show min (b - a) w = b - a by omega, show min (b + 1 - a) w = b - a + 1 by omega]
      show _ = segL _ (b - a) ++ [y * 16 + xsF r (a + (b - a))]
      rw [show a + (b - a) = b by omega]
    · rw [if_neg e, List.append_nil]
      have q : ¬ (a ≤ b ∧ b < a + w) := fun z => e ((h b (by omega)).mpr z)
      rw [show min (b + 1 - a) w = min (b - a) w by omega]
theorem rowK_seg {S : Sto} {k its row : Int} : ∀ n, (rowK S k its row n).map (fun v => v % 256) = segL (fun i => (mg S 4 k + (if row % 2 = 0 then (i : Int) else wideF (mg S 2 k) (mg S 6 k) row - 1 - i) + 16 * (mg S 5 k + row) + 256 * its) % 256) n
  | 0 => rfl
  | n + 1 => by unfold rowK segL; rw [List.map_append, rowK_seg n]; rfl
/-- the class's row of a shape is the reference's -/
theorem cRow_K {S : Sto} {k its : Int} (h : shOK S k) (r : Nat) (hr : (r : Int) < mg S 7 k) (b : Bool) (hb : b = decide (r % 2 = 0)) : cRow (hasK S k) (mg S 5 k + r) b 16 = (rowK S k its r (wideF (mg S 2 k) (mg S 6 k) r).toNat).map (fun v => v % 256) := by
  have hw := wideF_r h r (by omega)
  unfold shOK at h
  rw [rowK_seg]
  obtain ⟨w, hw'⟩ : ∃ w : Nat, wideF (mg S 2 k) (mg S 6 k) r = w := ⟨_, (Int.toNat_of_nonneg (by omega)).symm⟩
  obtain ⟨lf, hl⟩ : ∃ l : Nat, mg S 4 k = l := ⟨_, (Int.toNat_of_nonneg (by omega)).symm⟩
  have hP : ∀ x : Int, hasK S k x (mg S 5 k + r) ↔ (lf : Int) ≤ x ∧ x < lf + w := fun x => by
    unfold hasK hasP
    rw [show mg S 5 k + r - mg S 5 k = (r : Int) by omega, hw', hl]
    omega
  rw [hw', Int.toNat_natCast]
  by_cases e : r % 2 = 0
  · rw [decide_eq_true e] at hb
    subst hb
    have := cRow_seg (P := hasK S k) (y := mg S 5 k + r) (r := true) (a := lf) (w := w) (fun b hb => by
      show hasK S k (b : Int) _ ↔ _
      rw [hP]; omega) 16 (by omega)
    rw [this, show min (16 - lf) w = w by omega]
    refine segL_congr w fun i hi => ?_
    show (mg S 5 k + r) * 16 + ((lf + i : Nat) : Int) = _
    rw [if_pos (by omega), hl]
    omega
  · rw [decide_eq_false e] at hb
    subst hb
    have := cRow_seg (P := hasK S k) (y := mg S 5 k + r) (r := false) (a := 16 - lf - w) (w := w) (fun b hb => by
      show hasK S k (15 - (b : Int)) _ ↔ _
      rw [hP]; omega) 16 (by omega)
    rw [this, show min (16 - (16 - lf - w)) w = w by omega]
    refine segL_congr w fun i hi => ?_
    show (mg S 5 k + r) * 16 + (15 - ((16 - lf - w + i : Nat) : Int)) = _
    rw [if_neg (by omega), hl]
    omega
/-- a row of the class is empty where the shape has no cell -/
theorem cRow_0 {P : Int → Int → Prop} {y : Int} {r : Bool} (h : ∀ x, ¬ P x y) : ∀ b, cRow P y r b = []
  | 0 => rfl
  | b + 1 => by unfold cRow; rw [cRow_0 h b, if_neg (h _)]; rfl
theorem hasK_y {S : Sto} {k x y : Int} (h : hasK S k x y) : mg S 5 k ≤ y ∧ y < mg S 5 k + mg S 7 k := ⟨h.1, h.2.1⟩
theorem hasK_ex {S : Sto} {k : Int} (h : shOK S k) {y : Int} (h1 : mg S 5 k ≤ y) (h2 : y < mg S 5 k + mg S 7 k) : hasK S k (mg S 4 k) y := by
  have hw := wideF_r h (y - mg S 5 k) (by omega)
  exact ⟨h1, h2, by omega, by omega⟩
theorem rows_K {S : Sto} {k its : Int} (h : shOK S k) : ∀ n : Nat, cRows (hasK S k) n = (rowsK S k its (min (n - (mg S 5 k).toNat) (mg S 7 k).toNat)).map (fun v => v % 256) ∧ rsB (hasK S k) n = decide (min (n - (mg S 5 k).toNat) (mg S 7 k).toNat % 2 = 0)
  | 0 => by
    rw [Nat.zero_sub, Nat.zero_min]
    exact ⟨rfl, rfl⟩
  | n + 1 => by
    obtain ⟨ih1, ih2⟩ := rows_K (its := its) h n
    have hs := h
    unfold shOK at hs
    show cRows (hasK S k) n ++ cRow (hasK S k) n (rsB (hasK S k) n) 16 = _ ∧ @ite _ (∃ x, hasK S k x n) (Classical.propDecidable _) (!rsB (hasK S k) n) (rsB (hasK S k) n) = _
    by_cases e : mg S 5 k ≤ n ∧ (n : Int) < mg S 5 k + mg S 7 k
    · have e1 : min (n - (mg S 5 k).toNat) (mg S 7 k).toNat = n - (mg S 5 k).toNat := by omega
      have e2 : min (n + 1 - (mg S 5 k).toNat) (mg S 7 k).toNat = n - (mg S 5 k).toNat + 1 := by omega
      rw [e1] at ih1 ih2
      rw [e2, ih1]
      have hc := cRow_K (its := its) h (n - (mg S 5 k).toNat) (by omega) (rsB (hasK S k) n) ih2
      rw [show mg S 5 k + ((n - (mg S 5 k).toNat : Nat) : Int) = n by omega] at hc
      refine ⟨?_, ?_⟩
      · rw [hc, ← List.map_append]
        rfl
      · rw [if_pos ⟨_, hasK_ex h e.1 e.2⟩, ih2]
        by_cases q : (n - (mg S 5 k).toNat) % 2 = 0
        · rw [decide_eq_true q, decide_eq_false (by omega)]; rfl
        · rw [decide_eq_false q, decide_eq_true (by omega)]; rfl
    · have e1 : min (n + 1 - (mg S 5 k).toNat) (mg S 7 k).toNat = min (n - (mg S 5 k).toNat) (mg S 7 k).toNat := by omega
      rw [e1, cRow_0 (fun x q => e (hasK_y q)), List.append_nil, if_neg (fun ⟨x, q⟩ => e (hasK_y q))]
      exact ⟨ih1, ih2⟩
theorem edge_K {S : Sto} {k its : Int} (h0 : 0 ≤ its) : ∀ n : Nat, n ≤ 256 → cEdge (hasK S k) n = (edgeK S k its n).map (fun v => v % 256)
  | 0, _ => rfl
  | n + 1, hn => by
    unfold cEdge edgeK
    rw [edge_K h0 n (by omega), List.map_append]
    by_cases e : edgP S k ((n : Int) % 16) ((n : Int) / 16)
    · rw [if_pos e, if_pos (show edQ (hasK S k) _ _ from e)]
      show _ = _ ++ [((n : Int) % 16 + 16 * ((n : Int) / 16) + 256 * its) % 256]
      rw [show (n : Int) / 16 * 16 + (n : Int) % 16 = ((n : Int) % 16 + 16 * ((n : Int) / 16) + 256 * its) % 256 by omega]
    · rw [if_neg e, if_neg (show ¬ edQ (hasK S k) _ _ from e)]; rfl
/-- the class's stitches of a shape are the reference's -/
theorem cls_st {S : Sto} {k its : Int} (h : shOK S k) (h0 : 0 ≤ its) : clsL (hasK S k) = (stL S k its).map (fun v => v % 256) := by
  unfold clsL stL
  rw [(rows_K (its := its) h 16).1, edge_K h0 256 (by omega), List.map_append]
  unfold shOK at h
  rw [show min (16 - (mg S 5 k).toNat) (mg S 7 k).toNat = (mg S 7 k).toNat by omega]
theorem sum_rev (g : Nat → Int) : sumTo (fun b => g (15 - b)) 16 = sumTo g 16 := by
  simp only [sumTo, Nat.sub_zero, Nat.reduceSub, Nat.sub_self]
  omega
theorem cRow_len {P : Int → Int → Prop} {y : Int} {r : Bool} : ∀ b : Nat, ((cRow P y r b).length : Int) = sumTo (fun i => bI (P (xsF r i) y)) b
  | 0 => rfl
  | b + 1 => by
    unfold cRow
    rw [List.length_append, Int.natCast_add, cRow_len b]
    show _ = sumTo _ b + bI _
    by_cases e : P (xsF r b) y
    · rw [if_pos e, bI_t e]; rfl
    · rw [if_neg e, bI_f e]; rfl
theorem cRow_16 {P : Int → Int → Prop} {y : Int} {r : Bool} : ((cRow P y r 16).length : Int) = sumTo (fun i => bI (P (i : Int) y)) 16 := by
  rw [cRow_len]
  cases r with
  | true => rfl
  | false =>
    refine Eq.trans (sumTo_congr 16 fun j hj => ?_) (sum_rev (fun i => bI (P (i : Int) y)))
    show bI (P (15 - (j : Int)) y) = bI (P ((15 - j : Nat) : Int) y)
    rw [show ((15 - j : Nat) : Int) = 15 - (j : Int) by omega]
theorem sum_add {f : Nat → Int} : ∀ a b : Nat, sumTo f (a + b) = sumTo f a + sumTo (fun i => f (a + i)) b
  | a, 0 => by rw [Nat.add_zero]; show _ = _ + 0; omega
  | a, b + 1 => by
    show sumTo f (a + b) + f (a + b) = sumTo f a + (sumTo (fun i => f (a + i)) b + f (a + b))
    rw [sum_add a b]; omega
theorem rows_sum {P : Int → Int → Prop} : ∀ y : Nat, ((cRows P y).length : Int) = sumTo (fun c => bI (P ((c : Int) % 16) ((c : Int) / 16))) (16 * y)
  | 0 => rfl
  | y + 1 => by
    unfold cRows
    rw [List.length_append, Int.natCast_add, rows_sum y, cRow_16, show 16 * (y + 1) = 16 * y + 16 by omega, sum_add]
    refine congrArg _ (sumTo_congr 16 fun j hj => ?_)
    rw [show (((16 * y + j : Nat) : Int)) % 16 = j by omega, show (((16 * y + j : Nat) : Int)) / 16 = y by omega]
theorem edge_sum {P : Int → Int → Prop} : ∀ n : Nat, ((cEdge P n).length : Int) = sumTo (fun c => bI (edQ P ((c : Int) % 16) ((c : Int) / 16))) n
  | 0 => rfl
  | n + 1 => by
    unfold cEdge
    rw [List.length_append, Int.natCast_add, edge_sum n]
    show _ = sumTo _ n + bI _
    by_cases e : edQ P ((n : Int) % 16) ((n : Int) / 16)
    · rw [if_pos e, bI_t e]; rfl
    · rw [if_neg e, bI_f e]; rfl
theorem sum_split {f g : Nat → Int} : ∀ n : Nat, sumTo (fun c => f c + g c) n = sumTo f n + sumTo g n
  | 0 => rfl
  | n + 1 => by
    show sumTo (fun c => f c + g c) n + (f n + g n) = sumTo f n + f n + (sumTo g n + g n)
    rw [sum_split n]; omega
theorem cls_cnt (P : Int → Int → Prop) : cntQ P 256 = (clsL P).length := by
  unfold clsL cntQ
  rw [List.length_append, Int.natCast_add, rows_sum, edge_sum, sum_split]
theorem cls_ok {S : Sto} {k : Int} (h : shOK S k) : clOK (hasK S k) ∧ cdOK (hasK S k) := by
  have e := cls_st (its := 0) h (Int.le_refl _)
  have hl : (clsL (hasK S k)).length = (stL S k 0).length := by rw [e, List.length_map]
  refine ⟨⟨cls_cnt _, by rw [hl]; exact stL_len h, ?_⟩, fun v hv => ?_⟩
  · have c1 := rows_K (its := 0) h 16
    have hs := h
    unfold shOK at hs
    have hw := wideF_r h 0 (by omega)
    rw [hl]
    unfold stL
    rw [List.length_append]
    obtain ⟨n, hn⟩ : ∃ n : Nat, (mg S 7 k).toNat = n + 1 := ⟨(mg S 7 k).toNat - 1, by omega⟩
    have h2 := wideF_r h (n : Int) (by omega)
    rw [hn]
    unfold rowsK
    rw [List.length_append, rowK_len]
    omega
  · rw [e] at hv
    obtain ⟨a, -, rfl⟩ := List.mem_map.mp hv
    exact ⟨by omega, by omega⟩

