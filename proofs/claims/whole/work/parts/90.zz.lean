/-! CLASS AGAINST REFERENCE: a shape -/
theorem wideC_e {kd wd i : Int} (h : kd = 0 ∨ kd = 1) : wideC kd wd i = wideF kd wd i := by
  unfold wideC wideF
  rcases h with rfl | rfl
  · rw [if_pos rfl, if_neg (by omega)]
  · rw [if_neg (by omega)]
    split <;> split <;> omega
theorem row_n {c x : Nat} (h : x + c ≤ 16) : bShl (bShl 1 (c : Int) - 1) (x : Int) = (((2 ^ c - 1) * 2 ^ x : Nat) : Int) := by
  have hc : 2 ^ c ≤ 2 ^ 16 := Nat.pow_le_pow_right (by omega) (by omega)
  have hx : 2 ^ x * 2 ^ c ≤ 2 ^ 16 := by rw [← Nat.pow_add]; exact Nat.pow_le_pow_right (by omega) h
  have h1 := bn_shl 1 c (by omega) (by omega)
  have hp := Nat.two_pow_pos c
  have h2 := bn_shl (2 ^ c - 1) x (Nat.lt_of_le_of_lt (Nat.mul_le_mul_right _ (Nat.sub_le _ _)) (by rw [Nat.mul_comm]; omega)) (by omega)
  rw [show ((1 : Nat) : Int) = 1 from rfl, Nat.one_mul] at h1
  rw [h1, ← h2, Int.natCast_sub hp]; rfl
theorem rows_bit {kd x y w g : Int} (hk : kd = 0 ∨ kd = 1) (hx : 0 ≤ x ∧ x < 16 ∧ 1 ≤ w ∧ w ≤ 16 - x) (hy : 0 ≤ y ∧ y < 16 ∧ 1 ≤ g ∧ g ≤ 16 - y) (j : Nat) : 0 ≤ rowsF kd x y w g j ∧ rowsF kd x y w g j < 65536 ∧ ∀ i : Nat, i < 16 → ((rowsF kd x y w g j).toNat.testBit i = true ↔ hasP kd x y w g i j) := by
  unfold rowsF
  by_cases e : y ≤ j ∧ (j : Int) < y + g
  · rw [if_pos e]
    unfold rowE
    rw [wideC_e hk]
    have hw : 1 ≤ wideF kd w (j - y) ∧ wideF kd w (j - y) ≤ w := by unfold wideF; split <;> omega
    obtain ⟨c, hc⟩ : ∃ c : Nat, wideF kd w (j - y) = c := ⟨_, (Int.toNat_of_nonneg (by omega)).symm⟩
    obtain ⟨x', hx'⟩ : ∃ x' : Nat, x = x' := ⟨_, (Int.toNat_of_nonneg (by omega)).symm⟩
    have hr := row_n (c := c) (x := x') (by omega)
    have h16 : 2 ^ x' * 2 ^ c ≤ 2 ^ 16 := by rw [← Nat.pow_add]; exact Nat.pow_le_pow_right (by omega) (by omega)
    have hlt : (2 ^ c - 1) * 2 ^ x' < 65536 := by
      have := Nat.two_pow_pos x'
      rw [Nat.sub_mul, Nat.mul_comm (2 ^ c)]
      omega
    have hb : ∀ i, ((2 ^ c - 1) * 2 ^ x').testBit i = true ↔ x' ≤ i ∧ i < x' + c := fun i => by
      rw [Nat.testBit_mul_two_pow, Nat.testBit_two_pow_sub_one]
      simp only [Bool.and_eq_true, decide_eq_true_eq]
      omega
    unfold hasP
    rw [hc, hx', hr, Int.toNat_natCast]
    refine ⟨by omega, by omega, fun i hi => ?_⟩
    rw [hb i]
    omega
  · rw [if_neg e]
    refine ⟨by omega, by omega, fun i hi => ?_⟩
    unfold hasP
    simp only [Int.toNat_zero, Nat.zero_testBit]
    constructor
    · intro q; cases q
    · intro q; omega
/-- a list by its entries -/
def segL (f : Nat → Int) : Nat → List Int
  | 0 => []
  | n + 1 => segL f n ++ [f n]
theorem segL_congr {f g : Nat → Int} : ∀ n, (∀ i, i < n → f i = g i) → segL f n = segL g n
  | 0, _ => rfl
  | n + 1, h => by unfold segL; rw [segL_congr n (fun i hi => h i (by omega)), h n (by omega)]
theorem cRow_seg {P : Int → Int → Prop} {y : Int} {r : Bool} {a w : Nat} (h : ∀ b : Nat, b < 16 → (P (xsF r b) y ↔ a ≤ b ∧ b < a + w)) : ∀ b : Nat, b ≤ 16 → cRow P y r b = segL (fun i => y * 16 + xsF r (a + i)) (min (b - a) w)
  | 0, _ => by rw [Nat.zero_sub, Nat.zero_min]; rfl
  | b + 1, hb => by
    unfold cRow
    rw [cRow_seg h b (by omega)]
    by_cases e : P (xsF r b) y
    · rw [if_pos e]
      have q := (h b (by omega)).mp e
      rw [show min (b - a) w = b - a by omega, show min (b + 1 - a) w = b - a + 1 by omega]
      show _ = segL _ (b - a) ++ [y * 16 + xsF r (a + (b - a))]
      rw [show a + (b - a) = b by omega]
    · rw [if_neg e, List.append_nil]
      have q : ¬ (a ≤ b ∧ b < a + w) := fun z => e ((h b (by omega)).mpr z)
      rw [show min (b + 1 - a) w = min (b - a) w by omega]
theorem rowK_seg {S : Sto} {k its row : Int} : ∀ n, (rowK S k its row n).map (fun v => v % 256) = segL (fun i => (mg S 4 k + (if row % 2 = 0 then (i : Int) else wideF (mg S 2 k) (mg S 6 k) row - 1 - i) + 16 * (mg S 5 k + row) + 256 * its) % 256) n
  | 0 => rfl
  | n + 1 => by unfold rowK segL; rw [List.map_append, rowK_seg n]; rfl
/-- the class's row of a shape is the reference's -/
theorem cRow_K {S : Sto} {k its : Int} (h : shOK S k) (r : Nat) (hr : (r : Int) < mg S 7 k) (b : Bool) (hb : b = decide (r % 2 = 0)) : cRow (hasK S k) (mg S 5 k + r) b 16 = (rowK S k its r (wideF (mg S 2 k) (mg S 6 k) r).toNat).map (fun v => v % 256) := by
  have hw := wideF_r h r (by omega)
  unfold shOK at h
  rw [rowK_seg]
  obtain ⟨w, hw'⟩ : ∃ w : Nat, wideF (mg S 2 k) (mg S 6 k) r = w := ⟨_, (Int.toNat_of_nonneg (by omega)).symm⟩
  obtain ⟨lf, hl⟩ : ∃ l : Nat, mg S 4 k = l := ⟨_, (Int.toNat_of_nonneg (by omega)).symm⟩
  have hP : ∀ x : Int, hasK S k x (mg S 5 k + r) ↔ (lf : Int) ≤ x ∧ x < lf + w := fun x => by
    unfold hasK hasP
    rw [show mg S 5 k + r - mg S 5 k = (r : Int) by omega, hw', hl]
    omega
  rw [hw', Int.toNat_natCast]
  by_cases e : r % 2 = 0
  · rw [decide_eq_true e] at hb
    subst hb
    have := cRow_seg (P := hasK S k) (y := mg S 5 k + r) (r := true) (a := lf) (w := w) (fun b hb => by
      show hasK S k (b : Int) _ ↔ _
      rw [hP]; omega) 16 (by omega)
    rw [this, show min (16 - lf) w = w by omega]
    refine segL_congr w fun i hi => ?_
    show (mg S 5 k + r) * 16 + ((lf + i : Nat) : Int) = _
    rw [if_pos (by omega), hl]
    omega
  · rw [decide_eq_false e] at hb
    subst hb
    have := cRow_seg (P := hasK S k) (y := mg S 5 k + r) (r := false) (a := 16 - lf - w) (w := w) (fun b hb => by
      show hasK S k (15 - (b : Int)) _ ↔ _
      rw [hP]; omega) 16 (by omega)
    rw [this, show min (16 - (16 - lf - w)) w = w by omega]
    refine segL_congr w fun i hi => ?_
    show (mg S 5 k + r) * 16 + (15 - ((16 - lf - w + i : Nat) : Int)) = _
    rw [if_neg (by omega), hl]
    omega
/-- a row of the class is empty where the shape has no cell -/
theorem cRow_0 {P : Int → Int → Prop} {y : Int} {r : Bool} (h : ∀ x, ¬ P x y) : ∀ b, cRow P y r b = []
  | 0 => rfl
  | b + 1 => by unfold cRow; rw [cRow_0 h b, if_neg (h _)]; rfl
theorem hasK_y {S : Sto} {k x y : Int} (h : hasK S k x y) : mg S 5 k ≤ y ∧ y < mg S 5 k + mg S 7 k := ⟨h.1, h.2.1⟩
theorem hasK_ex {S : Sto} {k : Int} (h : shOK S k) {y : Int} (h1 : mg S 5 k ≤ y) (h2 : y < mg S 5 k + mg S 7 k) : hasK S k (mg S 4 k) y := by
  have hw := wideF_r h (y - mg S 5 k) (by omega)
  exact ⟨h1, h2, by omega, by omega⟩
theorem rows_K {S : Sto} {k its : Int} (h : shOK S k) : ∀ n : Nat, cRows (hasK S k) n = (rowsK S k its (min (n - (mg S 5 k).toNat) (mg S 7 k).toNat)).map (fun v => v % 256) ∧ rsB (hasK S k) n = decide (min (n - (mg S 5 k).toNat) (mg S 7 k).toNat % 2 = 0)
  | 0 => by
    rw [Nat.zero_sub, Nat.zero_min]
    exact ⟨rfl, rfl⟩
  | n + 1 => by
    obtain ⟨ih1, ih2⟩ := rows_K (its := its) h n
    have hs := h
    unfold shOK at hs
    show cRows (hasK S k) n ++ cRow (hasK S k) n (rsB (hasK S k) n) 16 = _ ∧ @ite _ (∃ x, hasK S k x n) (Classical.propDecidable _) (!rsB (hasK S k) n) (rsB (hasK S k) n) = _
    by_cases e : mg S 5 k ≤ n ∧ (n : Int) < mg S 5 k + mg S 7 k
    · have e1 : min (n - (mg S 5 k).toNat) (mg S 7 k).toNat = n - (mg S 5 k).toNat := by omega
      have e2 : min (n + 1 - (mg S 5 k).toNat) (mg S 7 k).toNat = n - (mg S 5 k).toNat + 1 := by omega
      rw [e1] at ih1 ih2
      rw [e2, ih1]
      have hc := cRow_K (its := its) h (n - (mg S 5 k).toNat) (by omega) (rsB (hasK S k) n) ih2
      rw [show mg S 5 k + ((n - (mg S 5 k).toNat : Nat) : Int) = n by omega] at hc
      refine ⟨?_, ?_⟩
      · rw [hc, ← List.map_append]
        rfl
      · rw [if_pos ⟨_, hasK_ex h e.1 e.2⟩, ih2]
        by_cases q : (n - (mg S 5 k).toNat) % 2 = 0
        · rw [decide_eq_true q, decide_eq_false (by omega)]; rfl
        · rw [decide_eq_false q, decide_eq_true (by omega)]; rfl
    · have e1 : min (n + 1 - (mg S 5 k).toNat) (mg S 7 k).toNat = min (n - (mg S 5 k).toNat) (mg S 7 k).toNat := by omega
      rw [e1, cRow_0 (fun x q => e (hasK_y q)), List.append_nil, if_neg (fun ⟨x, q⟩ => e (hasK_y q))]
      exact ⟨ih1, ih2⟩
theorem edge_K {S : Sto} {k its : Int} (h0 : 0 ≤ its) : ∀ n : Nat, n ≤ 256 → cEdge (hasK S k) n = (edgeK S k its n).map (fun v => v % 256)
  | 0, _ => rfl
  | n + 1, hn => by
    unfold cEdge edgeK
    rw [edge_K h0 n (by omega), List.map_append]
    by_cases e : edgP S k ((n : Int) % 16) ((n : Int) / 16)
    · rw [if_pos e, if_pos (show edQ (hasK S k) _ _ from e)]
      show _ = _ ++ [((n : Int) % 16 + 16 * ((n : Int) / 16) + 256 * its) % 256]
      rw [show (n : Int) / 16 * 16 + (n : Int) % 16 = ((n : Int) % 16 + 16 * ((n : Int) / 16) + 256 * its) % 256 by omega]
    · rw [if_neg e, if_neg (show ¬ edQ (hasK S k) _ _ from e)]; rfl
/-- the class's stitches of a shape are the reference's -/
theorem cls_st {S : Sto} {k its : Int} (h : shOK S k) (h0 : 0 ≤ its) : clsL (hasK S k) = (stL S k its).map (fun v => v % 256) := by
  unfold clsL stL
  rw [(rows_K (its := its) h 16).1, edge_K h0 256 (by omega), List.map_append]
  unfold shOK at h
  rw [show min (16 - (mg S 5 k).toNat) (mg S 7 k).toNat = (mg S 7 k).toNat by omega]
theorem sum_rev (g : Nat → Int) : sumTo (fun b => g (15 - b)) 16 = sumTo g 16 := by
  simp only [sumTo, Nat.sub_zero, Nat.reduceSub, Nat.sub_self]
  omega
theorem cRow_len {P : Int → Int → Prop} {y : Int} {r : Bool} : ∀ b : Nat, ((cRow P y r b).length : Int) = sumTo (fun i => bI (P (xsF r i) y)) b
  | 0 => rfl
  | b + 1 => by
    unfold cRow
    rw [List.length_append, Int.natCast_add, cRow_len b]
    show _ = sumTo _ b + bI _
    by_cases e : P (xsF r b) y
    · rw [if_pos e, bI_t e]; rfl
    · rw [if_neg e, bI_f e]; rfl
theorem cRow_16 {P : Int → Int → Prop} {y : Int} {r : Bool} : ((cRow P y r 16).length : Int) = sumTo (fun i => bI (P (i : Int) y)) 16 := by
  rw [cRow_len]
  cases r with
  | true => rfl
  | false =>
    refine Eq.trans (sumTo_congr 16 fun j hj => ?_) (sum_rev (fun i => bI (P (i : Int) y)))
    show bI (P (15 - (j : Int)) y) = bI (P ((15 - j : Nat) : Int) y)
    rw [show ((15 - j : Nat) : Int) = 15 - (j : Int) by omega]
theorem sum_add {f : Nat → Int} : ∀ a b : Nat, sumTo f (a + b) = sumTo f a + sumTo (fun i => f (a + i)) b
  | a, 0 => by rw [Nat.add_zero]; show _ = _ + 0; omega
  | a, b + 1 => by
    show sumTo f (a + b) + f (a + b) = sumTo f a + (sumTo (fun i => f (a + i)) b + f (a + b))
    rw [sum_add a b]; omega
theorem rows_sum {P : Int → Int → Prop} : ∀ y : Nat, ((cRows P y).length : Int) = sumTo (fun c => bI (P ((c : Int) % 16) ((c : Int) / 16))) (16 * y)
  | 0 => rfl
  | y + 1 => by
    unfold cRows
    rw [List.length_append, Int.natCast_add, rows_sum y, cRow_16, show 16 * (y + 1) = 16 * y + 16 by omega, sum_add]
    refine congrArg _ (sumTo_congr 16 fun j hj => ?_)
    rw [show (((16 * y + j : Nat) : Int)) % 16 = j by omega, show (((16 * y + j : Nat) : Int)) / 16 = y by omega]
theorem edge_sum {P : Int → Int → Prop} : ∀ n : Nat, ((cEdge P n).length : Int) = sumTo (fun c => bI (edQ P ((c : Int) % 16) ((c : Int) / 16))) n
  | 0 => rfl
  | n + 1 => by
    unfold cEdge
    rw [List.length_append, Int.natCast_add, edge_sum n]
    show _ = sumTo _ n + bI _
    by_cases e : edQ P ((n : Int) % 16) ((n : Int) / 16)
    · rw [if_pos e, bI_t e]; rfl
    · rw [if_neg e, bI_f e]; rfl
theorem sum_split {f g : Nat → Int} : ∀ n : Nat, sumTo (fun c => f c + g c) n = sumTo f n + sumTo g n
  | 0 => rfl
  | n + 1 => by
    show sumTo (fun c => f c + g c) n + (f n + g n) = sumTo f n + f n + (sumTo g n + g n)
    rw [sum_split n]; omega
theorem cls_cnt (P : Int → Int → Prop) : cntQ P 256 = (clsL P).length := by
  unfold clsL cntQ
  rw [List.length_append, Int.natCast_add, rows_sum, edge_sum, sum_split]
theorem cls_ok {S : Sto} {k : Int} (h : shOK S k) : clOK (hasK S k) ∧ cdOK (hasK S k) := by
  have e := cls_st (its := 0) h (Int.le_refl _)
  have hl : (clsL (hasK S k)).length = (stL S k 0).length := by rw [e, List.length_map]
  refine ⟨⟨cls_cnt _, by rw [hl]; exact stL_len h, ?_⟩, fun v hv => ?_⟩
  · have c1 := rows_K (its := 0) h 16
    have hs := h
    unfold shOK at hs
    have hw := wideF_r h 0 (by omega)
    rw [hl]
    unfold stL
    rw [List.length_append]
    obtain ⟨n, hn⟩ : ∃ n : Nat, (mg S 7 k).toNat = n + 1 := ⟨(mg S 7 k).toNat - 1, by omega⟩
    have h2 := wideF_r h (n : Int) (by omega)
    rw [hn]
    unfold rowsK
    rw [List.length_append, rowK_len]
    omega
  · rw [e] at hv
    obtain ⟨a, -, rfl⟩ := List.mem_map.mp hv
    exact ⟨by omega, by omega⟩
/-! CLASS AGAINST REFERENCE: a design -/
theorem canB_nd {n : Nat} {nd nd' : Nat → Nat} (h : ∀ q, q < n → nd q = nd' q) (s x : Nat) : canB nd n s x = canB nd' n s x := by
  unfold canB
  by_cases e : x < n
  · rw [h x e]
  · rw [decide_eq_false e]; rfl
theorem dpF_nd {n : Nat} {col : Nat → Int} {nd nd' : Nat → Nat} (h : ∀ q, q < n → nd q = nd' q) : ∀ f s l, dpF n col nd f s l = dpF n col nd' f s l
  | 0, _, _ => rfl
  | f + 1, s, l => by
    unfold dpF
    refine minTo_congr n fun x _ => ?_
    rw [canB_nd h, dpF_nd h f]
theorem gseq_nd {n : Nat} {col : Nat → Int} {nd nd' : Nat → Nat} (h : ∀ q, q < n → nd q = nd' q) : ∀ p, gseq n col nd p = gseq n col nd' p
  | 0 => rfl
  | p + 1 => by
    have e : pick n col nd (gseq n col nd' p).1 (gseq n col nd' p).2 = pick n col nd' (gseq n col nd' p).1 (gseq n col nd' p).2 := by
      unfold pick
      refine argTo_congr n fun x _ => ?_
      unfold pkG dpV
      rw [canB_nd h, dpF_nd h]
    show ((gseq n col nd p).1 ||| 2 ^ (pick n col nd (gseq n col nd p).1 (gseq n col nd p).2).toNat, pick n col nd (gseq n col nd p).1 (gseq n col nd p).2) = _
    rw [gseq_nd h p, e]; rfl
theorem gat_nd {n : Nat} {col : Nat → Int} {nd nd' : Nat → Nat} (h : ∀ q, q < n → nd q = nd' q) (p : Nat) : gat n col nd p = gat n col nd' p := by unfold gat; rw [gseq_nd h]
/-- the cells of a design's shapes -/
abbrev dP (R : Sto) (d : Int) : Nat → Int → Int → Prop := fun k => hasK R (7 * d + k)
theorem desI.gat {R : Sto} {d : Int} (h : desI R d) {nd : Nat → Nat} (hn : ndQ (dP R d) nd (shN R d).toNat) (p : Nat) (hp : p < (shN R d).toNat) : seqK R d p = gat (shN R d).toNat (colF R d) nd p := by
  obtain ⟨-, ⟨nd', h1, h2⟩, -⟩ := h
  rw [h2 p hp]
  refine gat_nd (fun q hq => Nat.eq_of_testBit_eq fun j => ?_) p
  have a := (h1 q hq).2 j
  have b := (hn q hq).2 j
  by_cases e : (nd' q).testBit j = true
  · rw [e]; exact (b.mpr (a.mp e)).symm
  · have e2 : ¬ (nd q).testBit j = true := fun w => e (a.mpr (b.mp w))
    rw [Bool.not_eq_true] at e e2
    rw [e, e2]
/-- along the sequence -/
def stepC (n : Nat) (col : Nat → Int) (nd : Nat → Nat) (q : Nat) : Int := chgL col (gseq n col nd q).2 (gat n col nd q).toNat
theorem dpR_tel {n : Nat} {col : Nat → Int} {nd : Nat → Nat} (hn : n ≤ 7) (hnd : needOK nd n) : ∀ k, k ≤ n → dpR n col nd 0 (-1) = sumTo (stepC n col nd) k + dpR n col nd (gseq n col nd k).1 (gseq n col nd k).2
  | 0, _ => by show _ = 0 + dpR n col nd 0 (-1); omega
  | k + 1, hk => by
    rw [dpR_tel hn hnd k (by omega)]
    obtain ⟨x, g1, g2, g3, g4, g5, g6, g7⟩ := gseq_step (col := col) hn hnd (p := k) (by omega)
    obtain ⟨b1, b2, -⟩ := gseq_ok (col := col) hn hnd k (by omega)
    obtain ⟨c1, -⟩ := gseq_ok (col := col) hn hnd (k + 1) hk
    have hne : (gseq n col nd k).1 ≠ 2 ^ n - 1 := fun e => by
      rw [e, bc_full n n (Nat.le_refl n)] at b2; omega
    have e1 : dpR n col nd (gseq n col nd k).1 (gseq n col nd k).2 = dpV n col nd ((gseq n col nd k).1 ||| 2 ^ x) x + chgL col (gseq n col nd k).2 x := by
      have e2 : dpR n col nd (gseq n col nd k).1 (gseq n col nd k).2 = minTo (pkG n col nd (gseq n col nd k).1 (gseq n col nd k).2) 1000 n := by
        unfold dpR
        rw [if_neg hne]; rfl
      rw [e2, g7]
      unfold pkG
      rw [if_pos g5]; rfl
    rw [g4] at c1 ⊢
    show _ = sumTo (stepC n col nd) k + stepC n col nd k + dpR n col nd ((gseq n col nd k).1 ||| 2 ^ x) (x : Int)
    have c2 : (gseq n col nd k).1 ||| 2 ^ x < 2 ^ n := c1
    rw [e1, dpR_nat hn c2]
    unfold stepC
    rw [g1, Int.toNat_natCast]
    omega
theorem dpR_seq {n : Nat} {col : Nat → Int} {nd : Nat → Nat} (h1 : 1 ≤ n) (hn : n ≤ 7) (hnd : needOK nd n) : dpR n col nd 0 (-1) = sumTo (fun p => if col (gat n col nd p).toNat = col (gat n col nd (p + 1)).toNat then 0 else 1) (n - 1) := by
  obtain ⟨b1, b2, -⟩ := gseq_ok (col := col) hn hnd n (Nat.le_refl n)
  rw [dpR_tel hn hnd n (Nat.le_refl n), dpR_full hn hnd b1 (by omega), Int.add_zero]
  obtain ⟨m, rfl⟩ : ∃ m, n = 1 + m := ⟨n - 1, by omega⟩
  rw [sum_add, show 1 + m - 1 = m by omega]
  have e0 : sumTo (stepC (1 + m) col nd) 1 = 0 := rfl
  rw [e0, Int.zero_add]
  refine sumTo_congr m fun q hq => ?_
  obtain ⟨-, -, -, g4⟩ := gseq_ok (col := col) hn hnd (q + 1) (by omega)
  have g5 := g4 (by omega)
  rw [show 1 + q = q + 1 by omega]
  unfold stepC chgL chg
  rw [if_neg (by omega)]
  rfl
theorem desI.dpR {R : Sto} {d : Int} (h : desI R d) {nd : Nat → Nat} (hn : ndQ (dP R d) nd (shN R d).toNat) : dpR (shN R d).toNat (colF R d) nd 0 (-1) = chgN R d (shN R d).toNat := by
  have h7 : 1 ≤ shN R d ∧ shN R d ≤ 7 := ⟨h.1.2.2.1, h.1.2.2.2.1⟩
  rw [dpR_seq (by omega) (by omega) hn.ok]
  unfold chgN
  refine sumTo_congr _ fun p hp => ?_
  have e1 := h.gat hn p (by omega)
  have e2 := h.gat hn (p + 1) (by omega)
  have s1 := h.seq (p := p) (by omega) (by omega)
  have s2 := h.seq (p := ((p + 1 : Nat) : Int)) (by omega) (by omega)
  rw [← e1, ← e2, show ((p : Int) + 1) = ((p + 1 : Nat) : Int) by omega]
  unfold colF
  rw [Int.toNat_of_nonneg s1.1, Int.toNat_of_nonneg s2.1]
/-- the class's places of a design's stitches -/
abbrev dQ (R : Sto) (d : Int) : Nat → Int → Int → Prop := fun p => hasK R (7 * d + seqK R d p)
theorem desI.shq {R : Sto} {d : Int} (h : desI R d) (p : Nat) (hp : (p : Int) < shN R d) : shOK R (7 * d + seqK R d p) ∧ 0 ≤ seqK R d p := by
  have s1 := h.seq (p := p) (by omega) hp
  exact ⟨h.1.2.2.2.2 _ s1.1 s1.2, s1.1⟩
theorem desI.bg {R : Sto} {d : Int} (h : desI R d) : ∀ p : Nat, (p : Int) ≤ shN R d → bgN (dQ R d) p = (dstL R d p).length
  | 0, _ => rfl
  | p + 1, hp => by
    have s1 := h.shq p (by omega)
    unfold bgN dstL
    rw [h.bg p (by omega), List.length_append, cls_st s1.1 s1.2, List.length_map]
theorem desI.at {R : Sto} {d : Int} (h : desI R d) : ∀ n : Nat, (n : Int) ≤ shN R d → ∀ p, p < n → ∀ i, i < (clsL (dQ R d p)).length → (dstL R d n)[bgN (dQ R d) p + i]? = (stL R (7 * d + seqK R d p) (seqK R d p))[i]?
  | 0, _, p, hp, _, _ => by omega
  | n + 1, hn, p, hp, i, hi => by
    have hb := h.bg n (by omega)
    unfold dstL
    by_cases e : p < n
    · have h1 : bgN (dQ R d) (p + 1) = bgN (dQ R d) p + (clsL (dQ R d p)).length := rfl
      have h2 := bgN_mono (P := dQ R d) (a := p + 1) n (by omega)
      rw [List.getElem?_append_left (by omega)]
      exact h.at n (by omega) p e i hi
    · have e2 : p = n := by omega
      subst e2
      rw [List.getElem?_append_right (by omega), hb, Nat.add_sub_cancel_left]
theorem desI.code {R : Sto} {d : Int} (h : desI R d) {p : Nat} (hp : (p : Int) < shN R d) {i : Nat} (hi : i < (clsL (dQ R d p)).length) : stK R d ((bgN (dQ R d) p + i : Nat) : Int) / 256 = seqK R d p ∧ (clsL (dQ R d p))[i]? = some (stK R d ((bgN (dQ R d) p + i : Nat) : Int) % 256) := by
  have s1 := h.shq p hp
  have h3 := h.1.2.2.1
  have hc := cls_st s1.1 s1.2
  have hl : i < (stL R (7 * d + seqK R d p) (seqK R d p)).length := by
    have hi2 := hi
    rw [show clsL (dQ R d p) = _ from hc, List.length_map] at hi2
    exact hi2
  have ha := h.at (shN R d).toNat (by omega) p (by omega) i hi
  rw [List.getElem?_eq_getElem hl] at ha
  have hv := h.2.2.2 _ _ ha
  have hm := (stL_in s1.1 s1.2 _ (List.getElem_mem hl)).1
  rw [← hv] at hm
  refine ⟨hm, ?_⟩
  rw [show clsL (dQ R d p) = _ from hc, List.getElem?_map, List.getElem?_eq_getElem hl, hv]
  rfl
theorem desI.end {R : Sto} {d : Int} (h : desI R d) : (bgN (dQ R d) (shN R d).toNat : Int) = mnK R d := by
  have h3 := h.1.2.2.1
  rw [h.bg _ (by omega), h.2.2.1]
/-- a stitch is one of the shape at a place -/
theorem desI.pl {R : Sto} {d : Int} (h : desI R d) {j : Nat} (hj : (j : Int) < mnK R d) : ∃ p : Nat, (p : Int) < shN R d ∧ bgN (dQ R d) p ≤ j ∧ j < bgN (dQ R d) (p + 1) ∧ stK R d j / 256 = seqK R d p ∧ (clsL (dQ R d p))[j - bgN (dQ R d) p]? = some (stK R d j % 256) := by
  have h3 := h.1.2.2.1
  obtain ⟨p, p1, p2, p3⟩ := bgN_at (P := dQ R d) (shN R d).toNat j (by have := h.end; omega)
  have h1 : bgN (dQ R d) (p + 1) = bgN (dQ R d) p + (clsL (dQ R d p)).length := rfl
  have hc := h.code (p := p) (by omega) (i := j - bgN (dQ R d) p) (by omega)
  rw [show bgN (dQ R d) p + (j - bgN (dQ R d) p) = j by omega] at hc
  exact ⟨p, by omega, p2, p3, hc.1, hc.2⟩
/-! CLASS AGAINST REFERENCE: a design's stitches, jumps, hoop, colours -/
theorem desI.inj {R : Sto} {d : Int} (h : desI R d) {a b : Int} (a0 : 0 ≤ a) (ab : a < b) (hb : b < shN R d) : seqK R d a ≠ seqK R d b := by
  obtain ⟨⟨-, -, n1, n7, -⟩, ⟨nd, h1, h2⟩, -⟩ := h
  intro e
  have e1 := h2 a.toNat (by omega)
  have e2 := h2 b.toNat (by omega)
  rw [Int.toNat_of_nonneg a0] at e1
  rw [Int.toNat_of_nonneg (by omega)] at e2
  refine gat_ne (col := colF R d) (n := (shN R d).toNat) (nd := nd) (by omega) h1.ok (i := a.toNat) (j := b.toNat) (by omega) (by omega) ?_
  rw [← e1, ← e2, e]
theorem bgN_uq {P : Nat → Int → Int → Prop} {a b k : Nat} (a1 : bgN P a ≤ k) (a2 : k < bgN P (a + 1)) (b1 : bgN P b ≤ k) (b2 : k < bgN P (b + 1)) : a = b := by
  rcases Nat.lt_trichotomy a b with q | q | q
  · have := bgN_mono (P := P) (a := a + 1) b (by omega); omega
  · exact q
  · have := bgN_mono (P := P) (a := b + 1) a (by omega); omega
/-- the class's array t holds a design's cells, its shapes q have their colours -/
def celT (S R : Sto) (d : Int) (t : Nat) (q : Nat → Nat) : Prop := (∀ k : Nat, (k : Int) < mnK R d → S.2.1 t k = stK R d k % 256) ∧ ∀ p : Nat, (p : Int) < shN R d → S.2.1 (q p) 1 = colK R d (seqK R d p)
theorem jmp_e {S R : Sto} {d : Int} {t : Nat} {q : Nat → Nat} {hid : Int} (h : desI R d) (hc : celT S R d t q) {k : Nat} (k1 : 1 ≤ k) (k2 : (k : Int) < mnK R d) : jjP S t (shN R d).toNat q (dQ R d) hid k ↔ jmpP R d hid k := by
  obtain ⟨p, p1, p2, p3, p4, -⟩ := h.pl k2
  obtain ⟨p', p1', p2', p3', p4', -⟩ := h.pl (j := k - 1) (by omega)
  have hk1 : ((k - 1 : Nat) : Int) = (k : Int) - 1 := by omega
  rw [hk1] at p4'
  have c1 := hc.1 k k2
  have c2 := hc.1 (k - 1) (by omega)
  rw [hk1] at c2
  have hcl : (bgN (dQ R d) p < k ∨ (0 < p ∧ S.2.1 (q (p - 1)) 1 = S.2.1 (q p) 1)) ↔ clK R d k = clK R d ((k : Int) - 1) := by
    have x1 : clK R d k = colK R d (seqK R d p) := by show mg R 3 (7 * d + stK R d k / 256) = _; rw [p4]
    have x2 : clK R d ((k : Int) - 1) = colK R d (seqK R d p') := by show mg R 3 (7 * d + stK R d ((k : Int) - 1) / 256) = _; rw [p4']
    rw [x1, x2]
    by_cases e : bgN (dQ R d) p < k
    · have := bgN_uq (P := dQ R d) (a := p) (b := p') (k := k - 1) (by omega) (by omega) p2' p3'
      rw [← this]
      exact ⟨fun _ => rfl, fun _ => Or.inl e⟩
    · have p0 : 0 < p := by
        rcases Nat.eq_zero_or_pos p with z | z
        · exfalso
          rw [z] at e
          have : bgN (dQ R d) 0 = 0 := rfl
          omega
        · exact z
      have hl := h.shq (p - 1) (by omega)
      have hpos := (cls_ok hl.1).1.2.2
      have e2 : bgN (dQ R d) (p - 1 + 1) = bgN (dQ R d) (p - 1) + (clsL (dQ R d (p - 1))).length := rfl
      have e3 := bgN_uq (P := dQ R d) (a := p - 1) (b := p') (k := k - 1) (by rw [show p - 1 + 1 = p by omega] at e2; have : 1 ≤ (clsL (dQ R d (p - 1))).length := hpos; omega) (by rw [show p - 1 + 1 = p by omega]; omega) p2' p3'
      rw [← e3, hc.2 p p1, hc.2 (p - 1) (by omega)]
      constructor
      · rintro (w | ⟨-, w⟩)
        · exact absurd w e
        · exact w.symm
      · intro w
        exact Or.inr ⟨p0, w.symm⟩
  have hfar : farP (S.2.1 t (k - 1)) (S.2.1 t k) ↔ (offP (stK R d k % 16) (stK R d ((k : Int) - 1) % 16) ∨ offP (stK R d k / 16 % 16) (stK R d ((k : Int) - 1) / 16 % 16)) := by
    rw [c1, c2]
    unfold farP offP
    omega
  have hhid : hidP (shN R d).toNat (dQ R d) p (S.2.1 t (k - 1)) (S.2.1 t k) ↔ covN R d (stK R d k / 256) ((stK R d k % 16 + stK R d ((k : Int) - 1) % 16) / 2) ((stK R d k / 16 % 16 + stK R d ((k : Int) - 1) / 16 % 16) / 2) (shN R d) := by
    rw [c1, c2, p4]
    unfold hidP covN
    have m1 : (stK R d ((k : Int) - 1) % 256 % 16 + stK R d k % 256 % 16) / 2 = (stK R d k % 16 + stK R d ((k : Int) - 1) % 16) / 2 := by omega
    have m2 : (stK R d ((k : Int) - 1) % 256 / 16 + stK R d k % 256 / 16) / 2 = (stK R d k / 16 % 16 + stK R d ((k : Int) - 1) / 16 % 16) / 2 := by omega
    rw [m1, m2]
    constructor
    · rintro ⟨r, r1, r2, r3⟩
      exact ⟨r, by omega, by omega, ⟨p, by omega, r1, rfl⟩, r3⟩
    · rintro ⟨r, r0, r1, ⟨s, s0, s1, s2⟩, r3⟩
      have e : s = p := by
        rcases Int.lt_trichotomy s p with w | w | w
        · exact absurd s2 (h.inj s0 w p1)
        · exact w
        · exact absurd s2.symm (h.inj (by omega) w (by omega))
      refine ⟨r.toNat, by omega, by omega, ?_⟩
      show hasK R (7 * d + seqK R d ((r.toNat : Nat) : Int)) _ _
      rw [Int.toNat_of_nonneg r0]
      exact r3
  constructor
  · rintro ⟨p9, q1, q2, q3, j1, j2, j3⟩
    have e := bgN_uq q2 q3 p2 p3
    subst e
    exact ⟨hcl.mp j1, hfar.mp j2, by rw [← hhid]; exact j3⟩
  · rintro ⟨j1, j2, j3⟩
    exact ⟨p, by omega, p2, p3, hcl.mpr j1, hfar.mpr j2, by rw [hhid]; exact j3⟩
theorem jmpN_e {S R : Sto} {d : Int} {t : Nat} {q : Nat → Nat} {hid : Int} (h : desI R d) (hc : celT S R d t q) : jjN S t (shN R d).toNat q (dQ R d) hid (mnK R d).toNat = jmpN R d hid (mnK R d).toNat := by
  have hm := h.mn
  unfold jjN jmpN
  refine sumTo_congr _ fun j hj => ?_
  have e := jmp_e (hid := hid) h hc (k := j + 1) (by omega) (by omega)
  unfold jmpI
  rw [show ((j : Int) + 1) = ((j + 1 : Nat) : Int) by omega]
  by_cases x : jjP S t (shN R d).toNat q (dQ R d) hid (j + 1)
  · rw [bI_t x, if_pos (e.mp x)]
  · rw [bI_f x, if_neg (fun y => x (e.mpr y))]
theorem hoop_e {S R : Sto} {d : Int} {t : Nat} {q : Nat → Nat} {w g : Int} (h : desI R d) (hc : celT S R d t q) (hh : hoopP S t (mnK R d).toNat w g) (a b : Int) : (w ≤ a ∧ g ≤ b) ↔ ∀ j, 0 ≤ j → j < mnK R d → stK R d j % 16 < a ∧ stK R d j / 16 % 16 < b := by
  have hm := h.mn
  obtain ⟨h1, ⟨j1, h2, h3⟩, ⟨j2, h4, h5⟩⟩ := hh
  constructor
  · rintro ⟨x, y⟩ j j0 jm
    have z := h1 j.toNat (by omega)
    rw [hc.1 _ (by omega), Int.toNat_of_nonneg j0] at z
    omega
  · intro z
    have z1 := z j1 (by omega) (by omega)
    have z2 := z j2 (by omega) (by omega)
    rw [hc.1 _ (by omega)] at h3 h5
    omega
theorem sum_const {f : Nat → Int} {v : Int} : ∀ n : Nat, (∀ i, i < n → f i = v) → sumTo f n = v * n
  | 0, _ => by show (0 : Int) = v * 0; omega
  | n + 1, h => by
    show sumTo f n + f n = _
    rw [sum_const n (fun i hi => h i (by omega)), h n (by omega), Int.natCast_add, Int.mul_add]
    simp
theorem cnt_e {S R : Sto} {d : Int} {t : Nat} {q : Nat → Nat} {c : Int} (h : desI R d) (hc : celT S R d t q) (c0 : 0 ≤ c) : ∀ p : Nat, (p : Int) ≤ shN R d → ndS S q (fun p => (bgN (dQ R d) p : Int)) c p = cntC R d c (bgN (dQ R d) p)
  | 0, _ => rfl
  | p + 1, hp => by
    have ih := cnt_e h hc c0 p (by omega)
    have e : bgN (dQ R d) (p + 1) = bgN (dQ R d) p + (clsL (dQ R d p)).length := rfl
    show ndS S q (fun p => (bgN (dQ R d) p : Int)) c p + (if S.2.1 (q p) 1 = c then ((bgN (dQ R d) (p + 1) : Nat) : Int) - bgN (dQ R d) p else 0) = _
    have hcl : ∀ i, i < (clsL (dQ R d p)).length → clK R d ((bgN (dQ R d) p + i : Nat) : Int) = colK R d (seqK R d p) := fun i hi => by
      show mg R 3 (7 * d + stK R d _ / 256) = _
      rw [(h.code (p := p) (by omega) hi).1]
    have key : (if S.2.1 (q p) 1 = c then ((bgN (dQ R d) (p + 1) : Nat) : Int) - bgN (dQ R d) p else 0) = sumTo (fun i : Nat => if c = -1 ∨ clK R d ((bgN (dQ R d) p + i : Nat) : Int) = c then (1 : Int) else 0) (clsL (dQ R d p)).length := by
      rw [hc.2 p (by omega)]
      by_cases x : colK R d (seqK R d p) = c
      · rw [if_pos x, sum_const (v := 1) _ (fun i hi => by rw [hcl i hi, if_pos (Or.inr x)]), e]
        omega
      · rw [if_neg x, sum_const (v := 0) _ (fun i hi => by rw [hcl i hi, if_neg (fun w => w.elim (fun y => by omega) x)])]
        omega
    have key2 : cntC R d c (bgN (dQ R d) (p + 1)) = cntC R d c (bgN (dQ R d) p) + sumTo (fun i : Nat => if c = -1 ∨ clK R d ((bgN (dQ R d) p + i : Nat) : Int) = c then (1 : Int) else 0) (clsL (dQ R d p)).length := by
      rw [e]
      exact sum_add _ _
    rw [ih, key, key2]
/-! CLASS AGAINST REFERENCE: what ties the class's memory S to the reference's R. B: the first number of a design's shapes among all shapes made; N: how many were made -/
def uT (B : Nat → Nat) (d k : Nat) : Nat := 8192 + 16 * (B d + k)
def qT (R : Sto) (B : Nat → Nat) (d p : Nat) : Nat := uT B d (seqK R d p).toNat
def dsI (B : Nat → Nat) (S R : Sto) (d : Nat) : Prop := (S.2.2 5 d = some (4096 + 16 * d) ∧ S.2.2 (4096 + 16 * d) 1 = some (4096 + 16 * d + 1)) ∧ (∃ nd, ndQ (dP R d) nd (shN R d).toNat ∧ sqC S (4096 + 16 * d + 1) (4096 + 16 * d + 7) (shN R d).toNat (uT B d) (colF R d) nd) ∧
  dgC S (4096 + 16 * d) (shN R d).toNat (qT R B d) (fun p => (bgN (dQ R d) p : Int)) (mnK R d).toNat ∧ celT S R d (4096 + 16 * d + 5) (qT R B d) ∧ (∀ p : Nat, (p : Int) < shN R d → S.2.1 (qT R B d p) 0 = seqK R d p) ∧
  (S.2.1 (4096 + 16 * d) 0 = d ∧ S.2.1 (4096 + 16 * d) 4 = chgN R d (shN R d).toNat ∧ S.2.1 (4096 + 16 * d) 5 = jmpN R d 0 (mnK R d).toNat ∧ S.2.1 (4096 + 16 * d) 6 = jmpN R d 1 (mnK R d).toNat) ∧ hoopP S (4096 + 16 * d + 5) (mnK R d).toNat (S.2.1 (4096 + 16 * d) 7) (S.2.1 (4096 + 16 * d) 8)
def mcI (S R : Sto) (i : Nat) : Prop := (S.2.2 6 i = some (1024 + 16 * i) ∧ mcC S (1024 + 16 * i)) ∧ (S.2.1 (1024 + 16 * i) 0 = i ∧ S.2.1 (1024 + 16 * i) 1 = mg R 14 i ∧ S.2.1 (1024 + 16 * i) 2 = mg R 15 i ∧ S.2.1 (1024 + 16 * i) 3 = mg R 16 i ∧ S.2.1 (1024 + 16 * i) 5 = mg R 18 i ∧ S.2.1 (1024 + 16 * i) 6 = (hset R i (mg R 14 i).toNat : Nat) ∧ S.2.1 (1024 + 16 * i) 7 = mg R 19 i) ∧
  S.2.2 (1024 + 16 * i) 4 = (if mg R 17 i = -1 then none else some (2048 + 16 * (mg R 17 i).toNat)) ∧ (∀ c : Nat, c < 6 → 0 ≤ S.2.1 (1024 + 16 * i + 1) c ∧ S.2.1 (1024 + 16 * i + 1) c ≤ mg R 19 i) ∧ ∀ k, 0 ≤ k → k < mg R 14 i → hdK R i k ≠ -1 → S.2.1 (1024 + 16 * i + 1) (hdK R i k).toNat = ltK R i k
def odI (S R : Sto) (o : Nat) : Prop := (S.2.2 7 o = some (2048 + 16 * o) ∧ orC S (2048 + 16 * o) (4096 + 16 * (mg R 24 o).toNat)) ∧ (S.2.1 (2048 + 16 * o) 0 = o ∧ S.2.1 (2048 + 16 * o) 2 = mg R 25 o ∧ S.2.1 (2048 + 16 * o) 4 = mg R 26 o ∧ S.2.1 (2048 + 16 * o) 5 = mg R 28 o ∧ S.2.1 (2048 + 16 * o) 6 = mg R 29 o ∧ S.2.1 (2048 + 16 * o) 7 = mg R 30 o) ∧
  S.2.2 (2048 + 16 * o) 8 = (if mg R 27 o = -1 then none else some (1024 + 16 * (mg R 27 o).toNat)) ∧ ∀ c : Nat, c < 6 → S.2.1 (2048 + 16 * o + 1) c = sdK R o c
def dfI (N : Nat) (S R : Sto) (k : Nat) : Prop := S.2.2 4 k = some (8192 + 16 * (N - (shN R 6).toNat + k)) ∧ shC S (8192 + 16 * (N - (shN R 6).toNat + k)) (hasK R (42 + k)) ∧ S.2.1 (8192 + 16 * (N - (shN R 6).toNat + k)) 1 = mg R 3 (42 + k) ∧ S.2.1 (8192 + 16 * (N - (shN R 6).toNat + k)) 0 = k
def frI (N : Nat) (S R : Sto) : Prop := (∀ t, 8192 + 16 * N ≤ t → S.1 t = none) ∧ (∀ d j : Nat, nD R ≤ d → d < 6 → j < 16 → S.1 (4096 + 16 * d + j) = none) ∧ (∀ i j : Nat, nM R ≤ i → i < 4 → j < 16 → S.1 (1024 + 16 * i + j) = none) ∧ ∀ o j : Nat, nO R ≤ o → o < 20 → j < 16 → S.1 (2048 + 16 * o + j) = none
def CI (B : Nat → Nat) (N : Nat) (S R : Sto) : Prop := cfC S ∧ (S.2.1 1 1 = shN R 6 ∧ S.2.1 1 3 = nD R ∧ S.2.1 1 5 = nM R ∧ S.2.1 1 7 = nO R) ∧ ((shN R 6).toNat ≤ N ∧ ∀ k : Nat, (k : Int) < shN R 6 → dfI N S R k) ∧ (∀ d : Nat, (d : Int) < nD R → B d + (shN R d).toNat ≤ N - (shN R 6).toNat ∧ dsI B S R d) ∧
  (∀ i : Nat, (i : Int) < nM R → mcI S R i) ∧ (∀ o : Nat, (o : Int) < nO R → odI S R o) ∧ (∀ k : Nat, k < 18 → S.2.1 9 k = mg R 22 k) ∧ frI N S R
noncomputable def wOf (B : Nat → Nat) (R : Sto) : GW := (fun d => (shN R d).toNat, fun d => qT R B d, fun d p => (bgN (dQ R d) p : Int), fun d => (mnK R d).toNat, fun d => chgN R d (shN R d).toNat, fun o => (mg R 24 o).toNat, fun i => hset R i (mg R 14 i).toNat)
theorem CI.cw {n : Int} {B : Nat → Nat} {N : Nat} {S R : Sto} (h : CI B N S R) (hI : MI n R) : CW (wOf B R) S := by
  obtain ⟨h1, ⟨e1, e3, e5, e7⟩, -, hd, hm, ho, hs, -⟩ := h
  obtain ⟨-, hN, hdr, hdes, hmac, hord, -, hstk⟩ := hI
  have hdr1 := hdr.1
  have hdr2 := hdr.2.1
  refine ⟨h1, by omega, fun d hd' => ?_, fun i hi => ?_, fun o ho' => ?_, fun k k0 k1 => ?_⟩
  · rw [e3] at hd'
    obtain ⟨-, ⟨a1, a2⟩, ⟨nd, a3, a4⟩, a5, a6, -, -, a7⟩ := hd d hd'
    have hD := hdes d (by omega) hd'
    have hmn := hD.mn
    refine ⟨a1, a5, a2, ⟨_, _, _, _, a4, hD.dpR a3⟩, fun j hj => ?_, ?_⟩
    · have hj' : j < (mnK R d).toNat := hj
      rw [a6.1 j (by omega)]
      omega
    · obtain ⟨-, ⟨j1, b1, b2⟩, ⟨j2, b3, b4⟩⟩ := a7
      rw [a6.1 _ (by omega)] at b2 b4
      omega
  · rw [e5] at hi
    obtain ⟨⟨a1, a2⟩, ⟨-, b1, b2, b3, -, b6, -⟩, a3, a4, -⟩ := hm i hi
    obtain ⟨c14, c15, c16, c18, c19, ch, -, cj⟩ := hmac i (by omega) hi
    refine ⟨a1, a2, ⟨hset_lt (fun k k0 k6 => ⟨(ch k k0 k6).1, (ch k k0 k6).2.1⟩) _ (by omega), b6⟩, fun c hc => ?_, by rw [b1, b2, b3]; omega, ?_⟩
    · have := a4 c hc
      unfold InR
      omega
    · by_cases e : mg R 17 i = -1
      · rw [a3, if_pos e]; exact Or.inl rfl
      · have hj := cj.2.2 (by omega)
        obtain ⟨-, -, o3, -⟩ := ho (mg R 17 i).toNat (by omega)
        rw [Int.toNat_of_nonneg (by omega), hj.2, if_neg (by omega)] at o3
        rw [a3, if_neg e]
        exact Or.inr ⟨(mg R 17 i).toNat, by omega, rfl, by rw [o3, Int.toNat_natCast]⟩
  · rw [e7] at ho'
    obtain ⟨⟨a1, a2⟩, ⟨-, b2, b4, b5, b6, -⟩, a3, a4⟩ := ho o ho'
    obtain ⟨c24, c25, c26, ⟨c1, c2, c3, c4⟩, c28, c30, cs⟩ := hord o (by omega) ho'
    have hmn := (hdes _ c24.1 c24.2).mn
    refine ⟨a1, a2, ?_, by rw [b2, b4]; omega, by rw [b5]; omega, ?_, fun c hc => ?_, ?_⟩
    · show ((mg R 24 o).toNat : Int) < S.2.1 1 3
      omega
    · rw [b6]
      show 0 ≤ mg R 29 o ∧ mg R 29 o < ((mnK R ((mg R 24 o).toNat : Nat)).toNat : Int)
      rw [Int.toNat_of_nonneg c24.1]
      omega
    · rw [a4 c hc]
      exact ⟨(cs c (by omega) (by omega)).1, (cs c (by omega) (by omega)).2.1⟩
    · by_cases e : mg R 27 o = -1
      · rw [a3, if_pos e]; exact Or.inl rfl
      · have hj := c3 (by omega)
        obtain ⟨-, -, o3, -⟩ := hm (mg R 27 o).toNat (by omega)
        rw [Int.toNat_of_nonneg (by omega), hj, if_neg (by omega)] at o3
        rw [a3, if_neg e]
        exact Or.inr ⟨(mg R 27 o).toNat, by omega, rfl, by rw [o3, Int.toNat_natCast]⟩
  · have := hstk k k0 k1
    rw [hs k.toNat (by omega), Int.toNat_of_nonneg k0]
    exact this
/-! CLASS AGAINST REFERENCE: what ties a design speaks of the design's places alone -/
theorem bgN_congr {P P' : Nat → Int → Int → Prop} : ∀ n : Nat, (∀ p, p < n → P' p = P p) → bgN P' n = bgN P n
  | 0, _ => rfl
  | n + 1, h => by
    show bgN P' n + (clsL (P' n)).length = bgN P n + (clsL (P n)).length
    rw [bgN_congr n (fun p hp => h p (by omega)), h n (by omega)]
theorem dgC.congr {S : Sto} {T n : Nat} {q q' : Nat → Nat} {b b' : Nat → Int} {m : Nat} (h : dgC S T n q b m) (hq : ∀ p, p < n → q' p = q p) (hb : ∀ p, p ≤ n → b' p = b p) : dgC S T n q' b' m := by
  obtain ⟨d1, d2, d3, d4, d5, d6, ⟨d7, d7', d7''⟩, d8⟩ := h
  refine ⟨d1, d2, d3, d4, d5, d6, ⟨by rw [hb 0 (by omega)]; exact d7, by rw [hb n (Nat.le_refl n)]; exact d7', fun p hp => by rw [hb p (by omega), hb (p + 1) hp]; exact d7'' p hp⟩, fun p hp => ?_⟩
  rw [hq p hp, hb p (by omega), hb (p + 1) hp]
  exact d8 p hp
theorem sqC.congr {S : Sto} {s a n : Nat} {u : Nat → Nat} {col col' : Nat → Int} {nd : Nat → Nat} (h : sqC S s a n u col nd) (hc : ∀ k, k < n → col' k = col k) : sqC S s a n u col' nd := by
  obtain ⟨a1, a2, a3, a4, a5, a6, a7, a8⟩ := h
  refine ⟨⟨a1.1, a1.2.1, a1.2.2.1, fun k hk => ?_⟩, a2, a3, a4, a5, a6, fun k hk => ?_, a8⟩
  · obtain ⟨w, w1, w2, w3⟩ := a1.2.2.2 k hk
    exact ⟨w, w1, w2, fun j hj => by rw [hc k hk, hc j hj]; exact w3 j hj⟩
  · rw [hc k hk]; exact a7 k hk
theorem ndQ.congr {P P' : Nat → Int → Int → Prop} {nd : Nat → Nat} {n : Nat} (h : ndQ P nd n) (hP : ∀ k, k < n → P' k = P k) : ndQ P' nd n := fun q hq => by
  refine ⟨(h q hq).1, fun j => ?_⟩
  rw [(h q hq).2 j]
  constructor
  · rintro ⟨x, y⟩
    exact ⟨x, by rw [hP j (by omega), hP q hq]; exact y⟩
  · rintro ⟨x, y⟩
    exact ⟨x, by rw [hP j (by omega), hP q hq] at y; exact y⟩
theorem desEq.hs {R R' : Sto} {d : Int} (e : desEq R R' d) {k : Int} (k0 : 0 ≤ k) (k1 : k < shN R d) : hasK R' (7 * d + k) = hasK R (7 * d + k) := by
  funext x y
  exact (e.2.1 k k0 k1).hs
theorem desEq.sq {R R' : Sto} {d : Int} (e : desEq R R' d) {p : Int} (p0 : 0 ≤ p) (p1 : p < shN R d) : seqK R' d p = seqK R d p := e.2.2.1 p p0 p1
theorem desEq.co {R R' : Sto} {d : Int} (e : desEq R R' d) {k : Int} (k0 : 0 ≤ k) (k1 : k < shN R d) : colK R' d k = colK R d k := e.2.1 k k0 k1 3 (by omega) (by omega)
theorem desEq.cov {R R' : Sto} {d : Int} (h : desI R d) (e : desEq R R' d) {its x y : Int} : covN R' d its x y (shN R d) ↔ covN R d its x y (shN R d) := by
  unfold covN
  constructor
  · rintro ⟨q, q0, q1, ⟨p, p0, p1, p2⟩, q2⟩
    have s := h.seq q0 q1
    rw [e.sq q0 q1, e.hs s.1 s.2] at q2
    rw [e.sq p0 (by omega)] at p2
    exact ⟨q, q0, q1, ⟨p, p0, p1, p2⟩, q2⟩
  · rintro ⟨q, q0, q1, ⟨p, p0, p1, p2⟩, q2⟩
    have s := h.seq q0 q1
    rw [← e.hs s.1 s.2, ← e.sq q0 q1] at q2
    rw [← e.sq p0 (by omega)] at p2
    exact ⟨q, q0, q1, ⟨p, p0, p1, p2⟩, q2⟩
theorem desEq.jmp {R R' : Sto} {d : Int} (h : desI R d) (e : desEq R R' d) (hid : Int) : jmpN R' d hid (mnK R' d).toNat = jmpN R d hid (mnK R d).toNat := by
  have hm := h.mn
  rw [e.2.2.2.1]
  unfold jmpN
  refine sumTo_congr _ fun j hj => ?_
  have c1 := desEq.cl h e (j := (j : Int) + 1) (by omega) (by omega)
  have c2 := desEq.cl h e (j := (j : Int) + 1 - 1) (by omega) (by omega)
  have s1 : stK R' d ((j : Int) + 1) = stK R d ((j : Int) + 1) := e.2.2.2.2 _ (by omega) (by omega)
  have s2 : stK R' d ((j : Int) + 1 - 1) = stK R d ((j : Int) + 1 - 1) := e.2.2.2.2 _ (by omega) (by omega)
  have hc := fun x y => desEq.cov h e (its := stK R d ((j : Int) + 1) / 256) (x := x) (y := y)
  have hp : jmpP R' d hid ((j : Int) + 1) ↔ jmpP R d hid ((j : Int) + 1) := by
    unfold jmpP
    rw [c1, c2, s1, s2, e.1, hc]
  unfold jmpI
  by_cases x : jmpP R d hid ((j : Int) + 1)
  · rw [if_pos x, if_pos (hp.mpr x)]
  · rw [if_neg x, if_neg (fun y => x (hp.mp y))]
theorem desEq.chg {R R' : Sto} {d : Int} (h : desI R d) (e : desEq R R' d) : chgN R' d (shN R' d).toNat = chgN R d (shN R d).toNat := by
  have h3 := h.1.2.2.1
  rw [e.1]
  unfold chgN
  refine sumTo_congr _ fun p hp => ?_
  have s1 := h.seq (p := p) (by omega) (by omega)
  have s2 := h.seq (p := (p : Int) + 1) (by omega) (by omega)
  rw [e.sq (p := p) (by omega) (by omega), e.sq (p := (p : Int) + 1) (by omega) (by omega), e.co s1.1 s1.2, e.co s2.1 s2.2]
theorem dsI.eqR {B : Nat → Nat} {S R R' : Sto} {d : Nat} (hD : desI R d) (e : desEq R R' d) (h : dsI B S R d) : dsI B S R' d := by
  have h3 := hD.1.2.2.1
  obtain ⟨a1, ⟨nd, a2, a3⟩, a4, a5, a6, ⟨a7, a8, a9, a10⟩, a11⟩ := h
  have hq : ∀ p : Nat, (p : Int) < shN R d → qT R' B d p = qT R B d p := fun p hp => by
    unfold qT
    rw [e.sq (by omega) hp]
  have hQ : ∀ p : Nat, (p : Int) < shN R d → dQ R' d p = dQ R d p := fun p hp => by
    have s := hD.seq (p := p) (by omega) hp
    show hasK R' (7 * d + seqK R' d p) = hasK R (7 * d + seqK R d p)
    rw [e.sq (by omega) hp, e.hs s.1 s.2]
  have em := e.2.2.2.1
  refine ⟨a1, ⟨nd, ?_, ?_⟩, ?_, ⟨fun k hk => ?_, fun p hp => ?_⟩, fun p hp => ?_, ⟨a7, by rw [desEq.chg hD e]; exact a8, by rw [desEq.jmp hD e]; exact a9, by rw [desEq.jmp hD e]; exact a10⟩, by rw [em]; exact a11⟩
  · rw [e.1]
    exact a2.congr fun k hk => e.hs (by omega) (by omega)
  · rw [e.1]
    exact a3.congr fun k hk => e.co (by omega) (by omega)
  · rw [e.1, em]
    refine a4.congr (fun p hp => hq p (by omega)) fun p hp => ?_
    show ((bgN (dQ R' d) p : Nat) : Int) = (bgN (dQ R d) p : Nat)
    rw [bgN_congr p (fun p' hp' => hQ p' (by omega))]
  · rw [em] at hk
    rw [a5.1 k hk, show stK R' d k = stK R d k from e.2.2.2.2 k (by omega) hk]
  · rw [e.1] at hp
    have s := hD.seq (p := p) (by omega) hp
    rw [hq p hp, a5.2 p hp, e.sq (by omega) hp, e.co s.1 s.2]
  · rw [e.1] at hp
    rw [hq p hp, a6 p hp, e.sq (by omega) hp]
theorem th_mg' {R : Sto} {q : Int} {a : Nat} {i : Int} : mg (thr R q) a i = mg R a i := by
  show (if mt a = 2 ∧ i.toNat = 0 then q else R.2.1 (mt a) i.toNat) = _
  rw [if_neg (fun w => by have := w.1; unfold mt at this; omega)]
theorem thr_des {R : Sto} {q d : Int} : desEq R (thr R q) d := ⟨th_mg', fun _ _ _ _ _ _ => th_mg', fun _ _ _ => th_mg', th_mg', fun _ _ _ => th_mg'⟩
theorem th_hset {R : Sto} {q i : Int} : ∀ k, hset (thr R q) i k = hset R i k
  | 0 => rfl
  | k + 1 => by
    unfold hset
    rw [show hdK (thr R q) i k = hdK R i k from th_mg', th_hset k]
theorem th_has {R : Sto} {q k : Int} : hasK (thr R q) k = hasK R k := by
  funext x y
  exact shEq.hs (fun _ _ _ => th_mg')
theorem CI.th {n : Int} {B : Nat → Nat} {N : Nat} {S R : Sto} (h : CI B N S R) (hI : MI n R) (q : Int) : CI B N S (thr R q) := by
  obtain ⟨h1, ⟨e1, e3, e5, e7⟩, ⟨d1, d2⟩, hd, hm, ho, hs, f1, f2, f3, f4⟩ := h
  have s6 : shN (thr R q) 6 = shN R 6 := th_mg'
  refine ⟨h1, ⟨by rw [s6]; exact e1, e3, e5, e7⟩, ⟨by rw [s6]; exact d1, fun k hk => ?_⟩, fun d hd' => ?_, fun i hi => ?_, fun o ho' => ?_, fun k hk => by rw [th_mg']; exact hs k hk, f1, f2, f3, f4⟩
  · rw [s6] at hk
    obtain ⟨a1, a2, a3, a4⟩ := d2 k hk
    unfold dfI
    rw [s6, th_has, th_mg']
    exact ⟨a1, a2, a3, a4⟩
  · obtain ⟨a1, a2⟩ := hd d hd'
    rw [s6, show shN (thr R q) d = shN R d from th_mg']
    exact ⟨a1, a2.eqR (hI.2.2.2.1 d (by omega) hd') thr_des⟩
  · obtain ⟨a1, a2, a3, a4, a5⟩ := hm i hi
    unfold mcI
    simp only [th_mg', th_hset]
    exact ⟨a1, a2, a3, a4, a5⟩
  · obtain ⟨a1, a2, a3, a4⟩ := ho o ho'
    unfold odI
    simp only [th_mg']
    exact ⟨a1, a2, a3, a4⟩
/-- the answer of a call of the class, and of the reference; em: the codes of the exceptions -/
def agA (em : Nat → Int) (k v : Int) (r : Res) : Prop := match r with
  | .inl (some (.inl x)) => k = 0 ∧ v = x
  | .inl none => k = 0
  | .inr e => k = em e
  | _ => False
/-- the exceptions that a call may throw; what a call may not make -/
def okr (s : List Nat) (r : Res) : Bool := match r with
  | .inr e => s.contains e
  | .inl (some (.inl _)) => true
  | _ => false
def okv (s : List Nat) (r : Res) : Bool := match r with
  | .inr e => s.contains e
  | .inl none => true
  | _ => false
abbrev inF (t : Nat) : Prop := t = 2 ∨ t = 3 ∨ 10 ≤ t ∧ t ≤ 100
def tyF (S S1 : Sto) : Prop := ∀ t, inF t → S1.1 t = S.1 t
/-- the call ends with an answer like the reference's, and in a memory tied to the reference's -/
def agC (em : Nat → Int) (op : Int → Int → Sto → Prop) (r : Res) (S1 : Sto) : Prop := ∀ k v R', op k v R' → agA em k v r ∧ ∃ B N, CI B N S1 R'
def em1 : Nat → Int := fun e => e + 1
theorem ag_changes {n : Int} {B : Nat → Nat} {N : Nat} {S R : Sto} {d : Int} (h : CI B N S R) (hI : MI n R) (hd : InR d) {post : Res → Sto → Prop} (hp : ∀ r S1, okr [0] r = true → tyF S S1 → agC em1 (changesR R d) r S1 → post r S1) : s_changesC [vT 1, vI d] S post := by
  refine ⟨wOf B R, h.cw hI, hd, fun hn => hp _ _ rfl (fun _ _ => rfl) fun k v R' ho => ?_, fun hv => hp _ _ rfl (fun _ _ => rfl) fun k v R' ho => ?_⟩
  · obtain ⟨o1, o2, o3⟩ := ho
    rw [h.2.1.2.1] at hn
    rw [if_neg hn] at o1
    rw [o2]
    exact ⟨o1, B, N, h.th hI _⟩
  · obtain ⟨o1, o2, o3⟩ := ho
    rw [h.2.1.2.1] at hv
    rw [if_pos hv] at o1
    rw [o2]
    obtain ⟨-, -, -, -, -, -, ⟨-, a8, -⟩, -⟩ := h.2.2.2.1 d.toNat (by omega)
    rw [Int.toNat_of_nonneg hv.1] at a8
    exact ⟨⟨o1, by rw [o3 o1]; exact a8.symm⟩, B, N, h.th hI _⟩
theorem ag_jumps {n : Int} {B : Nat → Nat} {N : Nat} {S R : Sto} {d i : Int} (h : CI B N S R) (hI : MI n R) (hd : InR d) (hi : i = 0 ∨ i = 1) {post : Res → Sto → Prop} (hp : ∀ r S1, okr [0] r = true → tyF S S1 → agC em1 (jumpsR R d i) r S1 → post r S1) : s_jumpsC [vT 1, vI d, vI i] S post := by
  refine ⟨wOf B R, h.cw hI, ⟨hd, hi⟩, fun hn => hp _ _ rfl (fun _ _ => rfl) fun k v R' ho => ?_, fun hv => hp _ _ rfl (fun _ _ => rfl) fun k v R' ho => ?_⟩
  · obtain ⟨o1, o2, o3⟩ := ho
    rw [h.2.1.2.1] at hn
    rw [if_neg hn] at o1
    rw [o2]
    exact ⟨o1, B, N, h.th hI _⟩
  · obtain ⟨o1, o2, o3⟩ := ho
    rw [h.2.1.2.1] at hv
    rw [if_pos hv] at o1
    rw [o2]
    obtain ⟨-, -, -, -, -, -, ⟨-, -, a9, a10⟩, -⟩ := h.2.2.2.1 d.toNat (by omega)
    rw [Int.toNat_of_nonneg hv.1] at a9 a10
    refine ⟨⟨o1, ?_⟩, B, N, h.th hI _⟩
    rw [o3 o1]
    rcases hi with rfl | rfl
    · exact a9.symm
    · exact a10.symm
theorem ag_changesAnew {n : Int} {B : Nat → Nat} {N : Nat} {S R : Sto} {d : Int} (h : CI B N S R) (hI : MI n R) (hd : InR d) {post : Res → Sto → Prop} (hp : ∀ r S1, okr [0] r = true → tyF S S1 → agC em1 (changesR R d) r S1 → post r S1) : s_changesAnewC [vT 1, vI d] S post := by
  refine ⟨wOf B R, h.cw hI, hd, fun hn => hp _ _ rfl (fun _ _ => rfl) fun k v R' ho => ?_, fun hv => hp _ _ rfl (fun _ _ => rfl) fun k v R' ho => ?_⟩
  · obtain ⟨o1, o2, o3⟩ := ho
    rw [h.2.1.2.1] at hn
    rw [if_neg hn] at o1
    rw [o2]
    exact ⟨o1, B, N, h.th hI _⟩
  · obtain ⟨o1, o2, o3⟩ := ho
    rw [h.2.1.2.1] at hv
    rw [if_pos hv] at o1
    rw [o2]
    refine ⟨⟨o1, ?_⟩, B, N, h.th hI _⟩
    rw [o3 o1]
    show chgN R d _ = chgN R ((d.toNat : Nat) : Int) _
    rw [Int.toNat_of_nonneg hv.1]
theorem ag_sequence {n : Int} {B : Nat → Nat} {N : Nat} {S R : Sto} {d p : Int} (h : CI B N S R) (hI : MI n R) (hd : InR d) (hp' : InR p) {post : Res → Sto → Prop} (hp : ∀ r S1, okr [0] r = true → tyF S S1 → agC em1 (sequenceR R d p) r S1 → post r S1) : s_sequenceC [vT 1, vI d, vI p] S post := by
  refine ⟨wOf B R, h.cw hI, ⟨hd, hp'⟩, fun hn => hp _ _ rfl (fun _ _ => rfl) fun k v R' ho => ?_, fun hv => hp _ _ rfl (fun _ _ => rfl) fun k v R' ho => ?_⟩
  · obtain ⟨o1, o2, o3⟩ := ho
    rw [h.2.1.2.1] at hn
    rw [if_neg hn] at o1
    rw [o2]
    exact ⟨o1, B, N, h.th hI _⟩
  · obtain ⟨o1, o2, o3⟩ := ho
    rw [h.2.1.2.1] at hv
    rw [if_pos hv] at o1
    rw [o2]
    refine ⟨⟨o1, ?_⟩, B, N, h.th hI _⟩
    rw [o3 o1]
    have hD := hI.2.2.2.1 d hv.1 hv.2.1
    have h3 := hD.1.2.2.1
    obtain ⟨-, -, -, -, -, a6, -⟩ := h.2.2.2.1 d.toNat (by omega)
    rw [Int.toNat_of_nonneg hv.1] at a6
    show (if p < shN R d then seqK R d p else -1) = (if p < ((shN R ((d.toNat : Nat) : Int)).toNat : Int) then S.2.1 (qT R B d.toNat p.toNat) 0 else -1)
    rw [Int.toNat_of_nonneg hv.1, Int.toNat_of_nonneg (by omega)]
    by_cases e : p < shN R d
    · have := a6 p.toNat (by omega)
      rw [Int.toNat_of_nonneg hv.2.2] at this
      rw [if_pos e, if_pos e, this]
    · rw [if_neg e, if_neg e]
theorem ag_left {n : Int} {B : Nat → Nat} {N : Nat} {S R : Sto} {c s : Int} (h : CI B N S R) (hI : MI n R) (hc : InR c) (hs : InR s) {post : Res → Sto → Prop} (hp : ∀ r S1, okr [0] r = true → tyF S S1 → agC em1 (leftR R c s) r S1 → post r S1) : s_leftC [vT 1, vI c, vI s] S post := by
  refine ⟨wOf B R, h.cw hI, ⟨hc, hs⟩, fun hn => hp _ _ rfl (fun _ _ => rfl) fun k v R' ho => ?_, fun hv => hp _ _ rfl (fun _ _ => rfl) fun k v R' ho => ?_⟩
  · obtain ⟨o1, o2, o3⟩ := ho
    rw [if_neg hn] at o1
    rw [o2]
    exact ⟨o1, B, N, h.th hI _⟩
  · obtain ⟨o1, o2, o3⟩ := ho
    rw [if_pos hv] at o1
    rw [o2]
    refine ⟨⟨o1, ?_⟩, B, N, h.th hI _⟩
    have := h.2.2.2.2.2.2.1 (3 * c + s).toNat (by omega)
    rw [Int.toNat_of_nonneg (by omega)] at this
    rw [o3 o1]
    exact this.symm
theorem ag_shadeOf {n : Int} {B : Nat → Nat} {N : Nat} {S R : Sto} {o c : Int} (h : CI B N S R) (hI : MI n R) (ho : InR o) (hc : InR c) {post : Res → Sto → Prop} (hp : ∀ r S1, okr [0] r = true → tyF S S1 → agC em1 (shadeOfR R o c) r S1 → post r S1) : s_shadeOfC [vT 1, vI o, vI c] S post := by
  refine ⟨wOf B R, h.cw hI, ⟨ho, hc⟩, fun hn => hp _ _ rfl (fun _ _ => rfl) fun k v R' ho => ?_, fun hv => hp _ _ rfl (fun _ _ => rfl) fun k v R' ho => ?_⟩
  · obtain ⟨o1, o2, o3⟩ := ho
    rw [h.2.1.2.2.2] at hn
    rw [if_neg hn] at o1
    rw [o2]
    exact ⟨o1, B, N, h.th hI _⟩
  · obtain ⟨o1, o2, o3⟩ := ho
    rw [h.2.1.2.2.2] at hv
    rw [if_pos hv] at o1
    rw [o2]
    refine ⟨⟨o1, ?_⟩, B, N, h.th hI _⟩
    obtain ⟨-, -, -, a4⟩ := h.2.2.2.2.2.1 o.toNat (by omega)
    have := a4 c.toNat (by omega)
    rw [Int.toNat_of_nonneg hv.1, Int.toNat_of_nonneg hv.2.2.1] at this
    rw [o3 o1]
    exact this.symm
theorem ag_stitches {n : Int} {B : Nat → Nat} {N : Nat} {S R : Sto} {d c : Int} (h : CI B N S R) (hI : MI n R) (hd : InR d) (hc : InR c) {post : Res → Sto → Prop} (hp : ∀ r S1, okr [0] r = true → tyF S S1 → agC em1 (stitchesR R d c) r S1 → post r S1) : s_stitchesC [vT 1, vI d, vI c] S post := by
  refine ⟨wOf B R, h.cw hI, ⟨hd, hc⟩, fun hn => hp _ _ rfl (fun _ _ => rfl) fun k v R' ho => ?_, fun hv => hp _ _ rfl (fun _ _ => rfl) fun k v R' ho => ?_⟩
  · obtain ⟨o1, o2, o3⟩ := ho
    rw [h.2.1.2.1] at hn
    rw [if_neg hn] at o1
    rw [o2]
    exact ⟨o1, B, N, h.th hI _⟩
  · obtain ⟨o1, o2, o3⟩ := ho
    rw [h.2.1.2.1] at hv
    rw [if_pos hv] at o1
    rw [o2]
    refine ⟨⟨o1, ?_⟩, B, N, h.th hI _⟩
    rw [o3 o1]
    have hD := hI.2.2.2.1 d hv.1 hv.2.1
    have h3 := hD.1.2.2.1
    have hm := hD.mn
    obtain ⟨-, -, -, -, a5, -⟩ := h.2.2.2.1 d.toNat (by omega)
    rw [Int.toNat_of_nonneg hv.1] at a5
    show cntC R d c (mnK R d).toNat = (if c = -1 then ((mnK R ((d.toNat : Nat) : Int)).toNat : Int) else ndS S (qT R B d.toNat) (fun p => (bgN (dQ R ((d.toNat : Nat) : Int)) p : Int)) c (shN R ((d.toNat : Nat) : Int)).toNat)
    rw [Int.toNat_of_nonneg hv.1]
    by_cases e : c = -1
    · rw [if_pos e]
      unfold cntC
      rw [sum_const (v := 1) _ (fun i _ => by rw [if_pos (Or.inl e)])]
      omega
    · rw [if_neg e, cnt_e hD a5 (by omega) _ (by omega), show bgN (dQ R d) (shN R d).toNat = (mnK R d).toNat by have := hD.end; omega]
theorem ag_stitch {n : Int} {B : Nat → Nat} {N : Nat} {S R : Sto} {d x w : Int} (h : CI B N S R) (hI : MI n R) (hd : InR d) (hx : InR x) (hw : InR w) {post : Res → Sto → Prop} (hp : ∀ r S1, okr [0, 1] r = true → tyF S S1 → agC em1 (stitchR R d x w) r S1 → post r S1) : s_stitchC [vT 1, vI d, vI x, vI w] S post := by
  have e3 := h.2.1.2.1
  refine ⟨wOf B R, h.cw hI, ⟨hd, hx, hw⟩, fun hn => hp _ _ rfl (fun _ _ => rfl) fun k v R' ho => ?_, fun hv hn => hp _ _ rfl (fun _ _ => rfl) fun k v R' ho => ?_, fun hv hw' => ⟨fun hn => hp _ _ rfl (fun _ _ => rfl) fun k v R' ho => ?_, fun p hin => hp _ _ rfl (fun _ _ => rfl) fun k v R' ho => ?_⟩⟩
  · obtain ⟨o1, o2, o3⟩ := ho
    rw [e3] at hn
    rw [if_pos (by omega)] at o1
    rw [o2]
    exact ⟨o1, B, N, h.th hI _⟩
  · obtain ⟨o1, o2, o3⟩ := ho
    rw [e3] at hv
    rw [if_neg (by omega), if_neg hn] at o1
    rw [o2]
    exact ⟨o1, B, N, h.th hI _⟩
  · obtain ⟨o1, o2, o3⟩ := ho
    rw [e3] at hv
    rw [if_neg (by omega), if_pos hw'] at o1
    rw [o2]
    refine ⟨⟨o1, ?_⟩, B, N, h.th hI _⟩
    have hD := hI.2.2.2.1 d hv.1 hv.2.1
    rw [o3 o1]
    refine if_pos ?_
    rcases (show x < mnK R d ∨ mnK R d ≤ x by omega) with q | q
    · exfalso
      obtain ⟨p, p1, p2, p3, -⟩ := hD.pl (j := x.toNat) (by omega)
      refine hn p ?_
      show p < (shN R ((d.toNat : Nat) : Int)).toNat ∧ (bgN (dQ R ((d.toNat : Nat) : Int)) p : Int) ≤ x ∧ x < (bgN (dQ R ((d.toNat : Nat) : Int)) (p + 1) : Int)
      rw [Int.toNat_of_nonneg hv.1]
      omega
    · exact q
  · obtain ⟨o1, o2, o3⟩ := ho
    rw [e3] at hv
    rw [if_neg (by omega), if_pos hw'] at o1
    rw [o2]
    refine ⟨⟨o1, ?_⟩, B, N, h.th hI _⟩
    have hD := hI.2.2.2.1 d hv.1 hv.2.1
    obtain ⟨-, -, -, -, a5, a6, -⟩ := h.2.2.2.1 d.toNat (by omega)
    have hin2 : p < (shN R ((d.toNat : Nat) : Int)).toNat ∧ (bgN (dQ R ((d.toNat : Nat) : Int)) p : Int) ≤ x ∧ x < (bgN (dQ R ((d.toNat : Nat) : Int)) (p + 1) : Int) := hin
    rw [Int.toNat_of_nonneg hv.1] at a5 a6 hin2
    have hend := hD.end
    have hmo := bgN_mono (P := dQ R d) (a := p + 1) (shN R d).toNat (by omega)
    obtain ⟨p', p1, p2, p3, p4, -⟩ := hD.pl (j := x.toNat) (by omega)
    have e := bgN_uq (P := dQ R d) (a := p) (b := p') (k := x.toNat) (by omega) (by omega) p2 p3
    subst e
    have c1 := a5.1 x.toNat (by omega)
    rw [Int.toNat_of_nonneg hv.2.2] at c1 p4
    have c2 := a6 p (by omega)
    rw [o3 o1, if_neg (by omega)]
    show _ = (if w = 2 then S.2.1 (qT R B d.toNat p) 0 else if w = 0 then S.2.1 (4096 + 16 * d.toNat + 5) x.toNat % 16 else S.2.1 (4096 + 16 * d.toNat + 5) x.toNat / 16)
    rw [c1, c2, p4]
    by_cases w2 : w = 2
    · rw [if_neg (by omega), if_neg (by omega), if_pos w2]
    · rw [if_neg w2]
      by_cases w0 : w = 0
      · rw [if_pos w0, if_pos w0]; omega
      · rw [if_neg w0, if_neg w0, if_pos (by omega)]; omega
theorem ag_ofMachine {n : Int} {B : Nat → Nat} {N : Nat} {S R : Sto} {i w : Int} (h : CI B N S R) (hI : MI n R) (hi : InR i) (hw : InR w) {post : Res → Sto → Prop} (hp : ∀ r S1, okr [0, 1] r = true → tyF S S1 → agC em1 (ofMachineR R i w) r S1 → post r S1) : s_ofMachineC [vT 1, vI i, vI w] S post := by
  have e5 := h.2.1.2.2.1
  have e7 := h.2.1.2.2.2
  refine ⟨wOf B R, h.cw hI, ⟨hi, hw⟩, fun hn => hp _ _ rfl (fun _ _ => rfl) fun k v R' ho => ?_, fun hv hn => hp _ _ rfl (fun _ _ => rfl) fun k v R' ho => ?_, fun hv hw' => ?_⟩
  · obtain ⟨o1, o2, o3⟩ := ho
    rw [e5] at hn
    rw [if_pos hn] at o1
    rw [o2]
    exact ⟨o1, B, N, h.th hI _⟩
  · obtain ⟨o1, o2, o3⟩ := ho
    rw [e5] at hv
    rw [if_neg (fun y => y hv), if_neg hn] at o1
    rw [o2]
    exact ⟨o1, B, N, h.th hI _⟩
  · rw [e5] at hv
    obtain ⟨-, ⟨b0, b1, b2, b3, b5, b6, b7⟩, a3, -⟩ := h.2.2.2.2.1 i.toNat (by omega)
    rw [Int.toNat_of_nonneg hv.1] at a3 b5 b6 b7
    have hj := (hI.2.2.2.2.1 i hv.1 hv.2).2.2.2.2.2.2.2
    have key : ∀ x, (∀ k v R', ofMachineR R i w k v R' → k = 0 → v = x) → post (.inl (some (vI x))) S := fun x hx => hp _ _ rfl (fun _ _ => rfl) fun k v R' ho => by
      have hx' := hx k v R' ho
      obtain ⟨o1, o2, o3⟩ := ho
      rw [if_neg (fun y => y hv), if_pos hw'] at o1
      rw [o2]
      exact ⟨⟨o1, hx' o1⟩, B, N, h.th hI _⟩
    refine ⟨fun w0 hn => key _ fun k v R' ho k0 => ?_, fun o w0 ho' => key _ fun k v R' ho k0 => ?_, fun w1 => key _ fun k v R' ho k0 => ?_, fun w2 => key _ fun k v R' ho k0 => ?_, fun w3 => key _ fun k v R' ho k0 => ?_⟩
    · rw [ho.2.2 k0, if_pos w0]
      by_cases e : mg R 17 i = -1
      · exact e
      · rw [a3, if_neg e] at hn; cases hn
    · rw [ho.2.2 k0, if_pos w0]
      by_cases e : mg R 17 i = -1
      · rw [a3, if_pos e] at ho'; cases ho'
      · rw [a3, if_neg e] at ho'
        have e2 := Option.some.inj ho'
        have e3 : (mg R 17 i).toNat = o := by omega
        obtain ⟨-, ⟨c0, -⟩, -⟩ := h.2.2.2.2.2.1 o (by omega)
        rw [c0]; omega
    · rw [ho.2.2 k0, if_neg (by omega), if_pos w1, b5]
    · rw [ho.2.2 k0, if_neg (by omega), if_neg (by omega), if_pos w2, b6]
    · rw [ho.2.2 k0, if_neg (by omega), if_neg (by omega), if_neg (by omega), b7]
theorem ag_ofOrder {n : Int} {B : Nat → Nat} {N : Nat} {S R : Sto} {o w : Int} (h : CI B N S R) (hI : MI n R) (hi : InR o) (hw : InR w) {post : Res → Sto → Prop} (hp : ∀ r S1, okr [0, 1] r = true → tyF S S1 → agC em1 (ofOrderR R o w) r S1 → post r S1) : s_ofOrderC [vT 1, vI o, vI w] S post := by
  have e5 := h.2.1.2.2.1
  have e7 := h.2.1.2.2.2
  refine ⟨wOf B R, h.cw hI, ⟨hi, hw⟩, fun hn => hp _ _ rfl (fun _ _ => rfl) fun k v R' ho => ?_, fun hv hn => hp _ _ rfl (fun _ _ => rfl) fun k v R' ho => ?_, fun hv hw' => ?_⟩
  · obtain ⟨o1, o2, o3⟩ := ho
    rw [e7] at hn
    rw [if_pos hn] at o1
    rw [o2]
    exact ⟨o1, B, N, h.th hI _⟩
  · obtain ⟨o1, o2, o3⟩ := ho
    rw [e7] at hv
    rw [if_neg (fun y => y hv), if_neg hn] at o1
    rw [o2]
    exact ⟨o1, B, N, h.th hI _⟩
  · rw [e7] at hv
    obtain ⟨-, ⟨b0, b2, b4, b5, b6, b7⟩, a3, -⟩ := h.2.2.2.2.2.1 o.toNat (by omega)
    rw [Int.toNat_of_nonneg hv.1] at a3 b2 b4 b5 b6 b7
    obtain ⟨c24, -, -, hj, -⟩ := hI.2.2.2.2.2.1 o hv.1 hv.2
    have key : ∀ x, (∀ k v R', ofOrderR R o w k v R' → k = 0 → v = x) → post (.inl (some (vI x))) S := fun x hx => hp _ _ rfl (fun _ _ => rfl) fun k v R' ho => by
      have hx' := hx k v R' ho
      obtain ⟨o1, o2, o3⟩ := ho
      rw [if_neg (fun y => y hv), if_pos hw'] at o1
      rw [o2]
      exact ⟨⟨o1, hx' o1⟩, B, N, h.th hI _⟩
    refine ⟨fun w0 hn => key _ fun k v R' ho k0 => ?_, fun i w0 ho' => key _ fun k v R' ho k0 => ?_, fun w1 => key _ fun k v R' ho k0 => ?_, fun w1 => key _ fun k v R' ho k0 => ?_, fun w1 => key _ fun k v R' ho k0 => ?_, fun w1 => key _ fun k v R' ho k0 => ?_, fun w1 => key _ fun k v R' ho k0 => ?_, fun w1 => key _ fun k v R' ho k0 => ?_⟩
    · rw [ho.2.2 k0, w0]
      by_cases e : mg R 27 o = -1
      · exact e
      · rw [a3, if_neg e] at hn; cases hn
    · rw [ho.2.2 k0, w0]
      by_cases e : mg R 27 o = -1
      · rw [a3, if_pos e] at ho'; cases ho'
      · rw [a3, if_neg e] at ho'
        have e2 := Option.some.inj ho'
        have e3 : (mg R 27 o).toNat = i := by omega
        obtain ⟨-, ⟨c0, -⟩, -⟩ := h.2.2.2.2.1 i (by omega)
        show mg R 27 o = _
        rw [c0]; omega
    · rw [ho.2.2 k0, w1, b4]; rfl
    · rw [ho.2.2 k0, w1]
      obtain ⟨-, -, -, -, -, -, ⟨c0, -⟩, -⟩ := h.2.2.2.1 (mg R 24 o).toNat (by omega)
      show mg R 24 o = S.2.1 (4096 + 16 * (mg R 24 ((o.toNat : Nat) : Int)).toNat) 0
      rw [Int.toNat_of_nonneg hv.1, c0]; omega
    · rw [ho.2.2 k0, w1, b2]; rfl
    · rw [ho.2.2 k0, w1, b5]; rfl
    · rw [ho.2.2 k0, w1, b6]; rfl
    · rw [ho.2.2 k0, w1, b7]; rfl
/-! CLASS AGAINST REFERENCE: calls that change -/
def sm (S S' : Sto) (t : Nat) : Prop := S'.1 t = S.1 t ∧ S'.2.1 t = S.2.1 t ∧ S'.2.2 t = S.2.2 t
theorem uT_r {B : Nat → Nat} {d k M n : Nat} (hB : B d + n ≤ M) (hk : k < n) : 8192 ≤ uT B d k ∧ uT B d k + 16 ≤ 8192 + 16 * M := by
  unfold uT
  omega
theorem dsI.eqS {B : Nat → Nat} {S S' R : Sto} {d M : Nat} (hD : desI R d) (h : dsI B S R d) (hB : B d + (shN R d).toNat ≤ M) (e5 : S'.2.2 5 d = S.2.2 5 d) (e : ∀ t, 4096 + 16 * d ≤ t → t < 4096 + 16 * d + 16 → sm S S' t) (e2 : ∀ t, 8192 ≤ t → t < 8192 + 16 * M → sm S S' t) : dsI B S' R d := by
  have h3 := hD.1.2.2.1
  have hu : ∀ k, k < (shN R d).toNat → sm S S' (uT B d k) := fun k hk => e2 _ (uT_r hB hk).1 (by have := (uT_r hB hk).2; omega)
  have hq : ∀ p : Nat, (p : Int) < shN R d → sm S S' (qT R B d p) := fun p hp => by
    have s := hD.seq (p := p) (by omega) hp
    exact hu _ (by omega)
  obtain ⟨⟨a1, a1'⟩, ⟨nd, a2, a3⟩, a4, a5, a6, ⟨a7, a8, a9, a10⟩, a11⟩ := h
  have t0 := e (4096 + 16 * d) (by omega) (by omega)
  have t1 := e (4096 + 16 * d + 1) (by omega) (by omega)
  have t2 := e (4096 + 16 * d + 2) (by omega) (by omega)
  have t4 := e (4096 + 16 * d + 4) (by omega) (by omega)
  have t5 := e (4096 + 16 * d + 5) (by omega) (by omega)
  have t6 := e (4096 + 16 * d + 7) (by omega) (by omega)
  have t7 := e (4096 + 16 * d + 1 + 5) (by omega) (by omega)
  refine ⟨⟨by rw [e5]; exact a1, by rw [t0.2.2]; exact a1'⟩, ⟨nd, a2, ?_⟩, ?_, ⟨fun k hk => by rw [t5.2.1]; exact a5.1 k hk, fun p hp => by rw [(hq p hp).2.1]; exact a5.2 p hp⟩, fun p hp => by rw [(hq p hp).2.1]; exact a6 p hp, ?_, ?_⟩
  · obtain ⟨b1, b2, b3, b4, b5, b6, b7, b8, b9⟩ := a3
    refine ⟨b1.eq t1.1 t1.2.2 t7.1 t7.2.1, by rw [t1.2.2]; exact b2, by rw [t1.2.2]; exact b3, by rw [t6.1]; exact b4, by rw [show 4096 + 16 * d + 1 + 1 = 4096 + 16 * d + 2 by omega, t2.1]; exact b5, b6, fun k hk => ?_, fun k hk => ?_, b9⟩
    · obtain ⟨c1, c2, c3⟩ := b7 k hk
      rw [t6.2.2, (hu k hk).1, (hu k hk).2.1]
      exact ⟨c1, c2, c3⟩
    · rw [show 4096 + 16 * d + 1 + 1 = 4096 + 16 * d + 2 by omega, t2.2.1]
      exact b8 k hk
  · obtain ⟨b1, b2, b3, b4, b5, b6, b7, b8⟩ := a4
    refine ⟨by rw [t0.1]; exact b1, by rw [t0.2.2]; exact b2, by rw [t4.1]; exact b3, by rw [t0.2.2]; exact b4, by rw [t5.1]; exact b5, b6, b7, fun p hp => ?_⟩
    have hqp := hq p (by omega)
    rw [t4.2.2, hqp.1, hqp.2.1]
    exact b8 p hp
  · rw [t0.2.1]; exact ⟨a7, a8, a9, a10⟩
  · rw [t0.2.1]
    unfold hoopP at a11 ⊢
    rw [t5.2.1]; exact a11
theorem dfI.eq {N : Nat} {S S' R R' : Sto} {k : Nat} (h : dfI N S R k) (h6 : shN R' 6 = shN R 6) (hR : shEq R R' (42 + k)) (h4 : S'.2.2 4 = S.2.2 4) (e : ∀ t, 8192 ≤ t → sm S S' t) : dfI N S' R' k := by
  obtain ⟨a1, a2, a3, a4⟩ := h
  unfold dfI
  rw [h6]
  have e1 := e (8192 + 16 * (N - (shN R 6).toNat + k)) (by omega)
  have e2 := e (8192 + 16 * (N - (shN R 6).toNat + k) + 1) (by omega)
  have hh : hasK R' (42 + k) = hasK R (42 + k) := by funext x y; exact hR.hs
  rw [hh, h4, e1.2.1, hR 3 (by omega) (by omega)]
  exact ⟨a1, a2.eq e1.1 e2.1 e1.2.2 e2.2.1, a3, a4⟩
/-- draft and designs, where a call leaves them -/
theorem CI.upper {n : Int} {B : Nat → Nat} {N : Nat} {S R S' R' : Sto} (h : CI B N S R) (hI : MI n R) (hS : ∀ t, 4096 ≤ t → sm S S' t) (h4 : S'.2.2 4 = S.2.2 4) (h5 : S'.2.2 5 = S.2.2 5) (hR : ∀ (a : Nat) (i : Int), (1 ≤ a ∧ a ≤ 7 ∨ 9 ≤ a ∧ a ≤ 11) → mg R' a i = mg R a i) (hn : nD R' = nD R) : ((shN R' 6).toNat ≤ N ∧ ∀ k : Nat, (k : Int) < shN R' 6 → dfI N S' R' k) ∧ ∀ d : Nat, (d : Int) < nD R' → B d + (shN R' d).toNat ≤ N - (shN R' 6).toNat ∧ dsI B S' R' d := by
  obtain ⟨-, -, ⟨d1, d2⟩, hd, -⟩ := h
  have s6 : shN R' 6 = shN R 6 := hR 1 6 (by omega)
  refine ⟨⟨by rw [s6]; exact d1, fun k hk => ?_⟩, fun d hd' => ?_⟩
  · rw [s6] at hk
    exact (d2 k hk).eq s6 (fun a a2 a7 => hR a _ (by omega)) h4 (fun t ht => hS t (by omega))
  · rw [hn] at hd'
    obtain ⟨a1, a2⟩ := hd d hd'
    have hD := hI.2.2.2.1 d (by omega) hd'
    have eq : desEq R R' d := ⟨hR 1 _ (by omega), fun k _ _ a a2 a7 => hR a _ (by omega), fun p _ _ => hR 9 _ (by omega), hR 10 _ (by omega), fun j _ _ => hR 11 _ (by omega)⟩
    rw [s6, show shN R' d = shN R d from hR 1 _ (by omega)]
    exact ⟨a1, (a2.eqS hD a1 (by rw [h5]) (fun t t1 t2 => hS t (by omega)) (fun t t1 t2 => hS t (by omega))).eqR hD eq⟩
theorem hset_e {R R' : Sto} {i : Int} (h : ∀ k, mg R' 20 k = mg R 20 k) : ∀ k, hset R' i k = hset R i k
  | 0 => rfl
  | k + 1 => by
    unfold hset
    rw [show hdK R' i k = hdK R i k from h _, hset_e h k]
theorem mcI.fr {S S' R R' : Sto} {i : Nat} (h : mcI S R i) (h6 : S'.2.2 6 = S.2.2 6) (s1 : sm S S' (1024 + 16 * i)) (s2 : sm S S' (1024 + 16 * i + 1)) (hR : ∀ (a : Nat) (j : Int), 14 ≤ a ∧ a ≤ 21 → mg R' a j = mg R a j) : mcI S' R' i := by
  obtain ⟨⟨a1, a2, a3, a4⟩, b, c, d, e⟩ := h
  unfold mcI
  rw [h6, s1.2.1, s2.2.1, s1.2.2, hR 14 _ (by omega), hR 15 _ (by omega), hR 16 _ (by omega), hR 17 _ (by omega), hR 18 _ (by omega), hR 19 _ (by omega), hset_e (fun k => hR 20 k (by omega))]
  refine ⟨⟨a1, ?_⟩, b, c, d, fun k k0 k1 k2 => ?_⟩
  · exact ⟨by rw [s1.1]; exact a2, by rw [s1.2.2]; exact a3, by rw [s2.1]; exact a4⟩
  · rw [show hdK R' i k = hdK R i k from hR 20 _ (by omega)] at k2 ⊢
    rw [show ltK R' i k = ltK R i k from hR 21 _ (by omega)]
    exact e k k0 k1 k2
theorem odI.fr {S S' R R' : Sto} {o : Nat} (h : odI S R o) (h7 : S'.2.2 7 = S.2.2 7) (s1 : sm S S' (2048 + 16 * o)) (s2 : sm S S' (2048 + 16 * o + 1)) (hR : ∀ (a : Nat) (j : Int), 24 ≤ a ∧ a ≤ 31 → mg R' a j = mg R a j) : odI S' R' o := by
  obtain ⟨⟨a1, a2, a3, a4, a5⟩, b, c, d⟩ := h
  unfold odI
  rw [h7, s1.2.1, s2.2.1, s1.2.2, hR 24 _ (by omega), hR 25 _ (by omega), hR 26 _ (by omega), hR 27 _ (by omega), hR 28 _ (by omega), hR 29 _ (by omega), hR 30 _ (by omega)]
  refine ⟨⟨a1, ?_⟩, b, c, fun k hk => ?_⟩
  · exact ⟨by rw [s1.1]; exact a2, by rw [s1.2.2]; exact a3, by rw [s2.1]; exact a4, by rw [s1.2.2]; exact a5⟩
  · rw [show sdK R' o k = sdK R o k from hR 31 _ (by omega)]
    exact d k hk
theorem frI.fr {N : Nat} {S S' R R' : Sto} (h : frI N S R) (hS : S'.1 = S.1) (e : nD R' = nD R ∧ nM R' = nM R ∧ nO R' = nO R) : frI N S' R' := by
  unfold frI at h ⊢
  rw [hS, e.1, e.2.1, e.2.2]; exact h
theorem cfC.nl {S : Sto} (h : cfC S) : nlA S := h.2.2.2.2.2.2.2.2.2.2.2
theorem cfC.fr {S S' : Sto} (h : cfC S) (h1 : S'.1 = S.1) (h2 : S'.2.2 1 = S.2.2 1 ∧ S'.2.2 8 = S.2.2 8) (h3 : nlA S') : cfC S' := by
  obtain ⟨a1, a2, a3, a4, a5, a6, a7, a8, a9, a10, ⟨b1, b2, b3⟩, c⟩ := h
  refine ⟨?_, ?_, ?_, ?_, ?_, ?_, ?_, ?_, ?_, ?_, ⟨?_, ?_, ?_⟩, h3⟩ <;> (first | rw [h1] | rw [h2.1] | rw [h2.2]) <;> assumption
theorem sm_upd {S : Sto} {t k : Nat} {v : Int} {t' : Nat} (h : t' ≠ t) : sm S (updI S t k v) t' := ⟨rfl, by
  funext j
  rw [updI_2, if_neg (fun q => h q.1)], rfl⟩
theorem ag_stock {n : Int} {B : Nat → Nat} {N : Nat} {S R : Sto} {c s x : Int} (h : CI B N S R) (hI : MI n R) (hc : InR c) (hs : InR s) (hx : InR x) {post : Res → Sto → Prop} (hp : ∀ r S1, okr [0, 1, 2] r = true → tyF S S1 → agC em1 (stockR R c s x) r S1 → post r S1) : s_stockC [vT 1, vI c, vI s, vI x] S post := by
  have hsp : 0 ≤ c ∧ c < 6 ∧ 0 ≤ s ∧ s < 3 → spK S 8 c s = mg R 22 (3 * c + s) := fun z => by
    have := h.2.2.2.2.2.2.1 (3 * c + s).toNat (by omega)
    rw [Int.toNat_of_nonneg (by omega)] at this
    exact this
  refine ⟨wOf B R, h.cw hI, ⟨hc, hs, hx⟩, fun hn => hp _ _ rfl (fun _ _ => rfl) fun k v R' ho => ?_, fun hv hn => hp _ _ rfl (fun _ _ => rfl) fun k v R' ho => ?_, fun hv hw hn => hp _ _ rfl (fun _ _ => rfl) fun k v R' ho => ?_, fun hv hw hn => hp _ _ rfl (fun _ _ => rfl) fun k v R' ho => ?_⟩
  · obtain ⟨o1, o2, -⟩ := ho
    rw [if_pos hn] at o1
    rw [o2 (by omega)]
    exact ⟨o1, B, N, h.th hI _⟩
  · obtain ⟨o1, o2, -⟩ := ho
    rw [if_neg (fun y => y hv), if_pos hn] at o1
    rw [o2 (by omega)]
    exact ⟨o1, B, N, h.th hI _⟩
  · obtain ⟨o1, o2, -⟩ := ho
    rw [hsp hv] at hn
    rw [if_neg (fun y => y hv), if_neg (fun y => y hw), if_pos hn] at o1
    rw [o2 (by omega)]
    exact ⟨o1, B, N, h.th hI _⟩
  · obtain ⟨o1, -, o3⟩ := ho
    rw [hsp hv] at hn ⊢
    rw [if_neg (fun y => y hv), if_neg (fun y => y hw), if_neg (by omega)] at o1
    obtain ⟨o4, o5⟩ := o3 o1
    have hg : ∀ (a : Nat) (i : Int), a ≠ 22 → mg R' a i = mg R a i := fun a i ha => by
      rw [o5, mgU, if_neg (fun y => ha y.1)]; exact th_mg'
    have hN : nD R' = nD R ∧ nM R' = nM R ∧ nO R' = nO R := by rw [o5]; exact ⟨rfl, rfl, rfl⟩
    refine ⟨⟨o1, o4⟩, B, N, ?_⟩
    obtain ⟨u1, u2⟩ := h.upper (R' := R') (S' := updI S 9 (3 * c + s).toNat (mg R 22 (3 * c + s) + x)) hI (fun t ht => sm_upd (by omega)) rfl rfl (fun a i ha => hg a i (by omega)) hN.1
    obtain ⟨h1, ⟨e1, e3, e5, e7⟩, -, -, hm, ho', hst, hf⟩ := h
    refine ⟨h1.to rfl rfl (by funext k; rw [updI_2, if_neg (by omega)]), ⟨?_, ?_, ?_, ?_⟩, u1, u2, fun i hi => ?_, fun o ho'' => ?_, fun k hk => ?_, hf.fr rfl hN⟩
    · rw [updI_2, if_neg (by omega), e1]; exact (hg 1 6 (by omega)).symm
    · rw [updI_2, if_neg (by omega), e3, hN.1]
    · rw [updI_2, if_neg (by omega), e5, hN.2.1]
    · rw [updI_2, if_neg (by omega), e7, hN.2.2]
    · rw [hN.2.1] at hi
      exact (hm i hi).fr rfl (sm_upd (by omega)) (sm_upd (by omega)) (fun a j ha => hg a j (by omega))
    · rw [hN.2.2] at ho''
      exact (ho' o ho'').fr rfl (sm_upd (by omega)) (sm_upd (by omega)) (fun a j ha => hg a j (by omega))
    · rw [o5, mgU, updI_2]
      by_cases e : k = (3 * c + s).toNat
      · rw [if_pos ⟨rfl, e⟩, if_pos ⟨rfl, by omega⟩]
      · rw [if_neg (fun y => e y.2), if_neg (by omega), hst k hk]; exact th_mg'.symm
theorem ag_wipe {n : Int} {B : Nat → Nat} {N : Nat} {S R : Sto} (h : CI B N S R) (hI : MI n R) {post : Res → Sto → Prop} (hp : ∀ r S1, okr [] r = true → tyF S S1 → agC em1 (wipeR R) r S1 → post r S1) : s_wipeC [vT 1] S post := by
  refine ⟨h.1, hp _ _ rfl (fun _ _ => rfl) fun k v R' ho => ?_⟩
  obtain ⟨o1, o2, o3⟩ := ho
  obtain ⟨h1, ⟨e1, e3, e5, e7⟩, ⟨d1, d2⟩, hd, hm, ho', hst, hf⟩ := h
  have hg : ∀ (a : Nat) (i : Int), ¬ (a = 1 ∧ i.toNat = 6) → mg R' a i = mg R a i := fun a i ha => by
    rw [o3, mgU, if_neg ha]; exact th_mg'
  have hN : nD R' = nD R ∧ nM R' = nM R ∧ nO R' = nO R := by rw [o3]; exact ⟨rfl, rfl, rfl⟩
  have s6 : shN R' 6 = 0 := by
    show mg R' 1 6 = 0
    rw [o3, mgU, if_pos ⟨rfl, rfl⟩]
  refine ⟨⟨o1, by rw [o2]; exact e1.symm⟩, B, N, h1.fr rfl ⟨rfl, rfl⟩ (h1.nl.fr (by rw [updI_2, if_neg (by omega)]) (by rw [updI_2, if_neg (by omega)]) (by rw [updI_2, if_neg (by omega)]) rfl rfl rfl), ⟨?_, ?_, ?_, ?_⟩, ⟨by rw [s6]; exact Nat.zero_le _, fun k hk => by rw [s6] at hk; omega⟩, fun d hd' => ?_, fun i hi => ?_, fun o ho'' => ?_, fun k hk => ?_, hf.fr rfl hN⟩
  · rw [updI_2, if_pos ⟨rfl, rfl⟩, s6]
  · rw [updI_2, if_neg (by omega), e3, hN.1]
  · rw [updI_2, if_neg (by omega), e5, hN.2.1]
  · rw [updI_2, if_neg (by omega), e7, hN.2.2]
  · rw [hN.1] at hd'
    have hd6 : d < 6 := by have := hI.2.1; omega
    obtain ⟨a1, a2⟩ := hd d hd'
    have hD := hI.2.2.2.1 d (by omega) hd'
    have sd : shN R' d = shN R d := hg 1 d (by omega)
    have eq : desEq R R' d := ⟨sd, fun k _ _ a a2 a7 => hg a _ (by omega), fun p _ _ => hg 9 _ (by omega), hg 10 _ (by omega), fun j _ _ => hg 11 _ (by omega)⟩
    rw [s6, sd]
    exact ⟨by show B d + (shN R d).toNat ≤ N - 0; omega, (a2.eqS (S' := updI S 1 1 0) hD a1 rfl (fun t t1 t2 => sm_upd (by omega)) (fun t t1 t2 => sm_upd (by omega))).eqR hD eq⟩
  · rw [hN.2.1] at hi
    exact (hm i hi).fr rfl (sm_upd (by omega)) (sm_upd (by omega)) (fun a j ha => hg a j (by omega))
  · rw [hN.2.2] at ho''
    exact (ho' o ho'').fr rfl (sm_upd (by omega)) (sm_upd (by omega)) (fun a j ha => hg a j (by omega))
  · rw [hg 22 _ (by omega), updI_2, if_neg (by omega)]; exact hst k hk
/-- an order changes in its own fields -/
theorem odI.own {S S' R R' : Sto} {o : Nat} (h : odI S R o) (h7 : S'.2.2 7 = S.2.2 7) (h1 : S'.1 = S.1) (s2 : S'.2.1 (2048 + 16 * o + 1) = S.2.1 (2048 + 16 * o + 1)) (sR : ∀ k, k ≠ 8 → S'.2.2 (2048 + 16 * o) k = S.2.2 (2048 + 16 * o) k) (hk : ∀ k, k ≠ 4 → k ≠ 5 → k ≠ 6 → k ≠ 7 → S'.2.1 (2048 + 16 * o) k = S.2.1 (2048 + 16 * o) k)
    (h24 : mg R' 24 o = mg R 24 o) (h25 : mg R' 25 o = mg R 25 o) (h31 : ∀ c : Nat, c < 6 → sdK R' o c = sdK R o c) (k4 : S'.2.1 (2048 + 16 * o) 4 = mg R' 26 o) (k5 : S'.2.1 (2048 + 16 * o) 5 = mg R' 28 o) (k6 : S'.2.1 (2048 + 16 * o) 6 = mg R' 29 o) (k7 : S'.2.1 (2048 + 16 * o) 7 = mg R' 30 o)
    (k8 : S'.2.2 (2048 + 16 * o) 8 = (if mg R' 27 o = -1 then none else some (1024 + 16 * (mg R' 27 o).toNat))) : odI S' R' o := by
  obtain ⟨⟨a1, a2, a3, a4, a5⟩, ⟨b0, b2, -⟩, -, d⟩ := h
  refine ⟨⟨by rw [h7]; exact a1, by rw [h1]; exact a2, by rw [sR 3 (by omega)]; exact a3, by rw [h1]; exact a4, by rw [sR 1 (by omega), h24]; exact a5⟩, ⟨by rw [hk 0 (by omega) (by omega) (by omega) (by omega)]; exact b0, by rw [hk 2 (by omega) (by omega) (by omega) (by omega), h25]; exact b2, k4, k5, k6, k7⟩, k8, fun c hc => by rw [s2, h31 c hc]; exact d c hc⟩
def em2 : Nat → Int := fun e => if e = 0 then 1 else 2
theorem sm.tr {S S1 S2 : Sto} {t : Nat} (h : sm S S1 t) (h2 : sm S1 S2 t) : sm S S2 t := ⟨h2.1.trans h.1, h2.2.1.trans h.2.1, h2.2.2.trans h.2.2⟩
theorem ag_snap {n : Int} {B : Nat → Nat} {N : Nat} {S R : Sto} {m : Int} (h : CI B N S R) (hI : MI n R) (hm' : InR m) {post : Res → Sto → Prop} (hp : ∀ r S1, okr [0, 2] r = true → tyF S S1 → agC em2 (snapR R m) r S1 → post r S1) : s_snapC [vT 1, vI m] S post := by
  have e5 := h.2.1.2.2.1
  have e7 := h.2.1.2.2.2
  refine ⟨wOf B R, h.cw hI, hm', fun hn => hp _ _ rfl (fun _ _ => rfl) fun k v R' ho => ?_, fun hv => ?_⟩
  · obtain ⟨o1, o2, -⟩ := ho
    rw [e5] at hn
    rw [if_pos hn] at o1
    rw [o2 (by omega)]
    exact ⟨o1, B, N, h.th hI _⟩
  · rw [e5] at hv
    have hmI := h.2.2.2.2.1 m.toNat (by omega)
    obtain ⟨-, -, a3, -⟩ := hmI
    rw [Int.toNat_of_nonneg hv.1] at a3
    have hj := (hI.2.2.2.2.1 m hv.1 hv.2).2.2.2.2.2.2.2
    refine ⟨fun hn => hp _ _ rfl (fun _ _ => rfl) fun k v R' ho => ?_, fun o u g hu hg ho' hr => ?_⟩
    · obtain ⟨o1, o2, -⟩ := ho
      have e : mg R 17 m = -1 := by
        by_cases e : mg R 17 m = -1
        · exact e
        · rw [a3, if_neg e] at hn; cases hn
      rw [if_neg (fun y => y hv), if_pos (Or.inl e)] at o1
      rw [o2 (by omega)]
      exact ⟨o1, B, N, h.th hI _⟩
    · have hne : mg R 17 m ≠ -1 := fun e => by rw [a3, if_pos e] at hr; cases hr
      rw [a3, if_neg hne, hu] at hr
      have eo : mg R 17 m = o := by have := Option.some.inj hr; omega
      rw [e7] at ho'
      have hoI := h.2.2.2.2.2.1 o ho'
      have hoI2 := hoI
      obtain ⟨-, ⟨-, -, b4, b5, b6, b7⟩, k8, -⟩ := hoI2
      rw [← hu] at b4 b5 b6 b7 k8
      obtain ⟨c24, -, -, -, c28, -, -⟩ := hI.2.2.2.2.2.1 o (by omega) ho'
      have hD := hI.2.2.2.1 _ c24.1 c24.2
      have hg2 : g = (mg R 24 o).toNat := hg
      have hdd : ((g : Nat) : Int) = mg R 24 o := by rw [hg2]; exact Int.toNat_of_nonneg c24.1
      rw [← hdd] at hD c28
      have hend := hD.end
      refine ⟨fun hn => hp _ _ rfl (fun _ _ => rfl) fun k v R' ho => ?_, fun p kk hin hkk => hp _ _ rfl (fun _ _ => rfl) fun k v R' ho => ?_⟩
      · obtain ⟨o1, o2, -⟩ := ho
        have e : mg R 29 (mg R 17 m) = 0 := by
          rw [eo]
          by_cases e : mg R 29 o = 0
          · exact e
          · exfalso
            obtain ⟨p, p1, p2, p3, -⟩ := hD.pl (j := (mg R 29 o - 1).toNat) (by omega)
            refine hn p ?_
            show p < (shN R (g : Int)).toNat ∧ (bgN (dQ R (g : Int)) p : Int) ≤ S.2.1 u 6 - 1 ∧ S.2.1 u 6 - 1 < (bgN (dQ R (g : Int)) (p + 1) : Int)
            rw [b6]; omega
        rw [if_neg (fun y => y hv), if_pos (Or.inr e)] at o1
        rw [o2 (by omega)]
        exact ⟨o1, B, N, h.th hI _⟩
      · obtain ⟨o1, -, o3⟩ := ho
        have hin2 : p < (shN R (g : Int)).toNat ∧ (bgN (dQ R (g : Int)) p : Int) ≤ S.2.1 u 6 - 1 ∧ S.2.1 u 6 - 1 < (bgN (dQ R (g : Int)) (p + 1) : Int) := hin
        rw [b6] at hin2
        rw [if_neg (fun y => y hv), if_neg (by rw [eo]; omega)] at o1
        obtain ⟨o9, q0, q1, q2, q3, q4, q5, q6, q7, q8, q9⟩ := o3 o1
        rw [eo] at q0
        subst q0
        rw [← hdd] at q4 q5
        have hst : ∀ j : Int, (bgN (dQ R (g : Int)) p : Int) ≤ j → j < mg R 29 o → stK R g j / 256 = seqK R g p := fun j j0 j1 => by
          obtain ⟨p', p1', p2', p3', p4', -⟩ := hD.pl (j := j.toNat) (by omega)
          have e := bgN_uq (P := dQ R (g : Int)) (a := p) (b := p') (k := j.toNat) (by omega) (by omega) p2' p3'
          rw [Int.toNat_of_nonneg (by omega), ← e] at p4'
          exact p4'
        have hlo : ∀ j : Int, 0 ≤ j → j < (bgN (dQ R (g : Int)) p : Int) → stK R g j / 256 ≠ seqK R g p := fun j j0 j1 e => by
          obtain ⟨p', p1', p2', p3', p4', -⟩ := hD.pl (j := j.toNat) (by omega)
          rw [Int.toNat_of_nonneg (by omega), e] at p4'
          have hpp : p' < p := by
            rcases Nat.lt_or_ge p' p with w | w
            · exact w
            · have := bgN_mono (P := dQ R (g : Int)) (a := p) p' w; omega
          exact hD.inj (a := p') (b := p) (by omega) (by omega) (by omega) p4'.symm
        have hb1 := hst (mg R 29 o - 1) (by omega) (by omega)
        rw [hb1] at q4 q5
        have hkk2 : kk = (if 5 ≤ S.2.1 u 6 - (bgN (dQ R (g : Int)) p : Int) then 5 else S.2.1 u 6 - (bgN (dQ R (g : Int)) p : Int)) := hkk
        rw [b6] at hkk2
        have hle : v ≤ mg R 29 o - (bgN (dQ R (g : Int)) p : Int) := by
          rcases (show v ≤ mg R 29 o - (bgN (dQ R (g : Int)) p : Int) ∨ mg R 29 o - (bgN (dQ R (g : Int)) p : Int) < v by omega) with w | w
          · exact w
          · exact absurd (q4 (mg R 29 o - v) (by omega) (by omega)) (hlo _ (by omega) (by omega))
        have hvk : v = kk := by
          rw [hkk2]
          rcases q5 with w | w | w
          · rw [if_pos (by omega)]; exact w
          · have hb0 : (bgN (dQ R (g : Int)) p : Int) = 0 := by omega
            split <;> omega
          · by_cases e5' : v = 5
            · rw [if_pos (by omega)]; exact e5'
            · by_cases e6 : v = mg R 29 o - (bgN (dQ R (g : Int)) p : Int)
              · rw [if_neg (by omega)]; exact e6
              · exact absurd (hst _ (by omega) (by omega)) w
        rw [← hvk]
        refine ⟨⟨o1, rfl⟩, B, N, ?_⟩
        have hgg : ∀ (a : Nat) (i : Int), a ≠ 29 → a ≠ 30 → mg R' a i = mg R a i := fun a i x y => (q6.mg (by simp; omega)).trans th_mg'
        have h2 : R'.2.1 2 = (thr R 0).2.1 2 := q6.2.2 2 (fun k hk e => by unfold mt at e; omega)
        have hN : nD R' = nD R ∧ nM R' = nM R ∧ nO R' = nO R := ⟨congrFun h2 8, congrFun h2 13, congrFun h2 23⟩
        obtain ⟨S2, hS2⟩ : ∃ S2, S2 = updI (updI S u 6 (S.2.1 u 6 - v)) u 7 (S.2.1 u 7 + v) := ⟨_, rfl⟩
        rw [← hS2]
        have hsm : ∀ t, t ≠ u → sm S S2 t := fun t ht => by rw [hS2]; exact (sm_upd ht).tr (sm_upd ht)
        have r1 : S2.1 = S.1 := by rw [hS2]; rfl
        have r3 : S2.2.2 = S.2.2 := by rw [hS2]; rfl
        have ru : ∀ k, S2.2.1 u k = if k = 7 then S.2.1 u 7 + v else if k = 6 then S.2.1 u 6 - v else S.2.1 u k := fun k => by
          rw [hS2, updI_2, updI_2]
          by_cases x : k = 7
          · rw [if_pos ⟨rfl, x⟩, if_pos x]
          · rw [if_neg (fun y => x y.2), if_neg x]
            by_cases y : k = 6
            · rw [if_pos ⟨rfl, y⟩, if_pos y]
            · rw [if_neg (fun w => y w.2), if_neg y]
        have hN1 := hI.2.1
        obtain ⟨u1, u2⟩ := h.upper (R' := R') (S' := S2) hI (fun t ht => hsm t (by omega)) (by rw [r3]) (by rw [r3]) (fun a i ha => hgg a i (by omega) (by omega)) hN.1
        obtain ⟨h1, ⟨e1, e3, e5', e7'⟩, -, -, hm, hoo, hst', hf⟩ := h
        have f1 := hsm 1 (by omega)
        refine ⟨h1.fr r1 ⟨by rw [r3], by rw [r3]⟩ (h1.nl.fr (by rw [f1.2.1]) (by rw [f1.2.1]) (by rw [f1.2.1]) (by rw [r3]) (by rw [r3]) (by rw [r3])), ⟨?_, ?_, ?_, ?_⟩, u1, u2, fun i hi => ?_, fun o2 ho2 => ?_, fun k hk => ?_, hf.fr r1 hN⟩
        · rw [f1.2.1, e1]; exact (hgg 1 6 (by omega) (by omega)).symm
        · rw [f1.2.1, e3, hN.1]
        · rw [f1.2.1, e5', hN.2.1]
        · rw [f1.2.1, e7', hN.2.2]
        · rw [hN.2.1] at hi
          exact (hm i hi).fr (by rw [r3]) (hsm _ (by omega)) (hsm _ (by omega)) (fun a j ha => hgg a j (by omega) (by omega))
        · rw [hN.2.2] at ho2
          have hI2 := hoo o2 ho2
          have hI3 := hI2
          obtain ⟨-, ⟨-, -, c4, c5, c6, c7⟩, c8, -⟩ := hI3
          by_cases x : o2 = o
          · subst x
            refine hI2.own (by rw [r3]) r1 (by rw [(hsm _ (by omega)).2.1]) (fun k _ => by rw [r3]) (fun k x4 x5 x6 x7 => ?_) (hgg 24 _ (by omega) (by omega)) (hgg 25 _ (by omega) (by omega)) (fun c hc => hgg 31 _ (by omega) (by omega)) ?_ ?_ ?_ ?_ ?_
            · rw [← hu, ru, if_neg x7, if_neg x6]
            · rw [← hu, ru, if_neg (by omega), if_neg (by omega), hgg 26 _ (by omega) (by omega), hu]; exact c4
            · rw [← hu, ru, if_neg (by omega), if_neg (by omega), hgg 28 _ (by omega) (by omega), hu]; exact c5
            · rw [← hu, ru, if_neg (by omega), if_pos rfl, q7, b6]
            · rw [← hu, ru, if_pos rfl, q8, b7]
            · rw [r3, hgg 27 _ (by omega) (by omega)]; exact c8
          · have y1 := hsm (2048 + 16 * o2) (by omega)
            obtain ⟨z1, z2⟩ := q9 o2 (by omega) (by omega)
            refine hI2.own (by rw [r3]) r1 (by rw [(hsm _ (by omega)).2.1]) (fun k _ => by rw [r3]) (fun k _ _ _ _ => by rw [y1.2.1]) (hgg 24 _ (by omega) (by omega)) (hgg 25 _ (by omega) (by omega)) (fun c hc => hgg 31 _ (by omega) (by omega)) ?_ ?_ ?_ ?_ ?_
            · rw [y1.2.1, hgg 26 _ (by omega) (by omega)]; exact c4
            · rw [y1.2.1, hgg 28 _ (by omega) (by omega)]; exact c5
            · rw [y1.2.1, z1]; exact c6
            · rw [y1.2.1, z2]; exact c7
            · rw [r3, hgg 27 _ (by omega) (by omega)]; exact c8
        · rw [(hsm 9 (by omega)).2.1, hgg 22 _ (by omega) (by omega)]; exact hst' k hk
/-- a call that changes one order's whole, begun, waste and shades -/
theorem CI.ord1 {n : Int} {B : Nat → Nat} {N : Nat} {S R S2 R' : Sto} {o : Nat} (h : CI B N S R) (hI : MI n R) (ho : (o : Int) < nO R) (r1 : S2.1 = S.1) (r3 : S2.2.2 = S.2.2) (hsm : ∀ t, t ≠ 2048 + 16 * o → t ≠ 2048 + 16 * o + 1 → sm S S2 t) (hgg : ∀ (a : Nat) (i : Int), ¬ (28 ≤ a ∧ a ≤ 31) → mg R' a i = mg R a i) (hN : nD R' = nD R ∧ nM R' = nM R ∧ nO R' = nO R)
    (hq : ∀ q : Nat, q ≠ o → (q : Int) < nO R → mg R' 28 q = mg R 28 q ∧ mg R' 29 q = mg R 29 q ∧ mg R' 30 q = mg R 30 q ∧ ∀ c : Nat, c < 6 → sdK R' q c = sdK R q c) (hk : ∀ k, k ≠ 5 → k ≠ 6 → k ≠ 7 → S2.2.1 (2048 + 16 * o) k = S.2.1 (2048 + 16 * o) k)
    (k5 : S2.2.1 (2048 + 16 * o) 5 = mg R' 28 o) (k6 : S2.2.1 (2048 + 16 * o) 6 = mg R' 29 o) (k7 : S2.2.1 (2048 + 16 * o) 7 = mg R' 30 o) (ks : ∀ c : Nat, c < 6 → S2.2.1 (2048 + 16 * o + 1) c = sdK R' o c) : CI B N S2 R' := by
  have hN1 := hI.2.1
  obtain ⟨u1, u2⟩ := h.upper (R' := R') (S' := S2) hI (fun t ht => hsm t (by omega) (by omega)) (by rw [r3]) (by rw [r3]) (fun a i ha => hgg a i (by omega)) hN.1
  obtain ⟨h1, ⟨e1, e3, e5', e7'⟩, -, -, hm, hoo, hst', hf⟩ := h
  have f1 := hsm 1 (by omega) (by omega)
  refine ⟨h1.fr r1 ⟨by rw [r3], by rw [r3]⟩ (h1.nl.fr (by rw [f1.2.1]) (by rw [f1.2.1]) (by rw [f1.2.1]) (by rw [r3]) (by rw [r3]) (by rw [r3])), ⟨?_, ?_, ?_, ?_⟩, u1, u2, fun i hi => ?_, fun o2 ho2 => ?_, fun k hk => ?_, hf.fr r1 hN⟩
  · rw [f1.2.1, e1]; exact (hgg 1 6 (by omega)).symm
  · rw [f1.2.1, e3, hN.1]
  · rw [f1.2.1, e5', hN.2.1]
  · rw [f1.2.1, e7', hN.2.2]
  · rw [hN.2.1] at hi
    exact (hm i hi).fr (by rw [r3]) (hsm _ (by omega) (by omega)) (hsm _ (by omega) (by omega)) (fun a j ha => hgg a j (by omega))
  · rw [hN.2.2] at ho2
    obtain ⟨⟨a1, a2, a3, a4, a5⟩, ⟨c0, c2, c4, c5, c6, c7⟩, c8, c9⟩ := hoo o2 ho2
    by_cases x : o2 = o
    · subst x
      refine ⟨⟨by rw [r3]; exact a1, by rw [r1]; exact a2, by rw [r3]; exact a3, by rw [r1]; exact a4, by rw [r3, hgg 24 _ (by omega)]; exact a5⟩, ⟨by rw [hk 0 (by omega) (by omega) (by omega)]; exact c0, by rw [hk 2 (by omega) (by omega) (by omega), hgg 25 _ (by omega)]; exact c2, by rw [hk 4 (by omega) (by omega) (by omega), hgg 26 _ (by omega)]; exact c4, k5, k6, k7⟩, by rw [r3, hgg 27 _ (by omega)]; exact c8, ks⟩
    · have y1 := hsm (2048 + 16 * o2) (by omega) (by omega)
      have y2 := hsm (2048 + 16 * o2 + 1) (by omega) (by omega)
      obtain ⟨z1, z2, z3, z4⟩ := hq o2 x ho2
      refine ⟨⟨by rw [r3]; exact a1, by rw [r1]; exact a2, by rw [r3]; exact a3, by rw [r1]; exact a4, by rw [r3, hgg 24 _ (by omega)]; exact a5⟩, ⟨by rw [y1.2.1]; exact c0, by rw [y1.2.1, hgg 25 _ (by omega)]; exact c2, by rw [y1.2.1, hgg 26 _ (by omega)]; exact c4, by rw [y1.2.1, z1]; exact c5, by rw [y1.2.1, z2]; exact c6, by rw [y1.2.1, z3]; exact c7⟩, by rw [r3, hgg 27 _ (by omega)]; exact c8, fun c hc => by rw [y2.2.1, z4 c hc]; exact c9 c hc⟩
  · rw [(hsm 9 (by omega) (by omega)).2.1, hgg 22 _ (by omega)]; exact hst' k hk
/-- what an order needs, in the class and in the reference -/
theorem need_e {n : Int} {B : Nat → Nat} {N : Nat} {S R : Sto} {o : Nat} {c : Int} (h : CI B N S R) (hI : MI n R) (ho : (o : Int) < nO R) (c0 : 0 ≤ c) : S.2.1 (2048 + 16 * o) 2 * ndS S ((wOf B R).q ((wOf B R).g o)) ((wOf B R).b ((wOf B R).g o)) c ((wOf B R).n ((wOf B R).g o)) = needK R o c := by
  obtain ⟨-, ⟨-, c2, -⟩, -⟩ := h.2.2.2.2.2.1 o ho
  obtain ⟨c24, -⟩ := hI.2.2.2.2.2.1 o (by omega) ho
  obtain ⟨-, -, -, -, a5, -⟩ := h.2.2.2.1 (mg R 24 o).toNat (by omega)
  have hD := hI.2.2.2.1 _ c24.1 c24.2
  have hdd : (((mg R 24 o).toNat : Nat) : Int) = mg R 24 o := Int.toNat_of_nonneg c24.1
  show S.2.1 (2048 + 16 * o) 2 * ndS S (qT R B (mg R 24 o).toNat) (fun p => (bgN (dQ R ((mg R 24 o).toNat : Nat)) p : Int)) c (shN R ((mg R 24 o).toNat : Nat)).toNat = _
  rw [hdd] at a5 ⊢
  have h3 := hD.1.2.2.1
  rw [cnt_e hD a5 c0 _ (by omega), c2, show bgN (dQ R (mg R 24 o)) (shN R (mg R 24 o)).toNat = (mnK R (mg R 24 o)).toNat by have := hD.end; omega]
  rfl
/-- a colour is sewn, in the class and in the reference -/
theorem sewn_e {n : Int} {B : Nat → Nat} {N : Nat} {S R : Sto} {o : Nat} {c : Int} (h : CI B N S R) (hI : MI n R) (ho : (o : Int) < nO R) : (0 < S.2.1 (2048 + 16 * o) 5 ∨ ∃ p : Nat, p < (wOf B R).n ((wOf B R).g o) ∧ S.2.1 ((wOf B R).q ((wOf B R).g o) p) 1 = c ∧ (wOf B R).b ((wOf B R).g o) p < S.2.1 (2048 + 16 * o) 6) ↔ sewnP R o c (mg R 29 o) := by
  obtain ⟨-, ⟨-, -, -, c5, c6, -⟩, -⟩ := h.2.2.2.2.2.1 o ho
  obtain ⟨c24, -, -, -, c28, -⟩ := hI.2.2.2.2.2.1 o (by omega) ho
  obtain ⟨-, -, -, -, a5, -⟩ := h.2.2.2.1 (mg R 24 o).toNat (by omega)
  have hD := hI.2.2.2.1 _ c24.1 c24.2
  have hdd : (((mg R 24 o).toNat : Nat) : Int) = mg R 24 o := Int.toNat_of_nonneg c24.1
  show (0 < S.2.1 (2048 + 16 * o) 5 ∨ ∃ p : Nat, p < (shN R ((mg R 24 o).toNat : Nat)).toNat ∧ S.2.1 (qT R B (mg R 24 o).toNat p) 1 = c ∧ (bgN (dQ R ((mg R 24 o).toNat : Nat)) p : Int) < S.2.1 (2048 + 16 * o) 6) ↔ _
  rw [hdd] at a5 ⊢
  rw [c5, c6]
  unfold sewnP
  have hend := hD.end
  constructor
  · rintro (w | ⟨p, p1, p2, p3⟩)
    · exact Or.inl w
    · have hl := hD.shq p (by omega)
      have hpos : 1 ≤ (clsL (dQ R (mg R 24 o) p)).length := (cls_ok hl.1).1.2.2
      have hc := (hD.code (p := p) (by omega) (i := 0) hpos).1
      rw [Nat.add_zero] at hc
      refine Or.inr ⟨_, by omega, p3, ?_⟩
      rw [a5.2 p (by omega)] at p2
      show mg R 3 (7 * mg R 24 o + stK R (mg R 24 o) _ / 256) = c
      rw [hc]; exact p2
  · rintro (w | ⟨j, j0, j1, j2⟩)
    · exact Or.inl w
    · obtain ⟨p, p1, p2, p3, p4, -⟩ := hD.pl (j := j.toNat) (by omega)
      rw [Int.toNat_of_nonneg j0] at p4
      refine Or.inr ⟨p, by omega, ?_, by omega⟩
      rw [a5.2 p p1, ← j2]
      show mg R 3 (7 * mg R 24 o + seqK R (mg R 24 o) p) = mg R 3 (7 * mg R 24 o + stK R (mg R 24 o) j / 256)
      rw [p4]
theorem ag_match {n : Int} {B : Nat → Nat} {N : Nat} {S R : Sto} {o c s : Int} (h : CI B N S R) (hI : MI n R) (hio : InR o) (hic : InR c) (his : InR s) {post : Res → Sto → Prop} (hp : ∀ r S1, okr [0, 2] r = true → tyF S S1 → agC em2 (matchR R o c s) r S1 → post r S1) : s_matchC [vT 1, vI o, vI c, vI s] S post := by
  have e7 := h.2.1.2.2.2
  refine ⟨wOf B R, h.cw hI, ⟨hio, hic, his⟩, fun hn => hp _ _ rfl (fun _ _ => rfl) fun k v R' ho => ?_, fun hv => ⟨2048 + 16 * o.toNat, (wOf B R).g o.toNat, needK R o c, rfl, rfl, ?_, fun hn => hp _ _ rfl (fun _ _ => rfl) fun k v R' ho => ?_, fun hy => ?_⟩⟩
  · obtain ⟨o1, o2, -⟩ := ho
    rw [e7] at hn
    have k1 : k = 1 := by
      rcases o1 with w | w | w
      · exact w.2
      · exact absurd w.1 hn
      · exact absurd w.1 hn
    rw [o2 (by omega)]
    exact ⟨k1, B, N, h.th hI _⟩
  · rw [e7] at hv
    have := need_e (o := o.toNat) (c := c) h hI (by omega) hv.2.2.1
    rw [Int.toNat_of_nonneg hv.1] at this
    exact this.symm
  · rw [e7] at hv
    obtain ⟨-, ⟨-, -, b4, -⟩, -, d9⟩ := h.2.2.2.2.2.1 o.toNat (by omega)
    have d9' := d9 c.toNat (by omega)
    rw [Int.toNat_of_nonneg hv.1] at b4 d9'
    rw [Int.toNat_of_nonneg hv.2.2.1] at d9'
    have hst := h.2.2.2.2.2.2.1 (3 * c + s).toNat (by omega)
    rw [Int.toNat_of_nonneg (by omega)] at hst
    have hst' : spK S 8 c s = mg R 22 (3 * c + s) := hst
    rw [b4, d9', hst'] at hn
    obtain ⟨o1, o2, -⟩ := ho
    have k2 : k = 2 := by
      rcases o1 with w | w | w
      · exact absurd hv w.1
      · obtain ⟨-, ⟨x1, x2, x3, x4⟩, -⟩ := w
        exact absurd ⟨x1, by omega, x3, x4⟩ hn
      · exact w.2.2
    rw [o2 (by omega)]
    exact ⟨k2, B, N, h.th hI _⟩
  · rw [e7] at hv
    have hoI := h.2.2.2.2.2.1 o.toNat (by omega)
    obtain ⟨-, ⟨-, -, b4, b5, b6, b7⟩, -, d9⟩ := hoI
    have d9' := d9 c.toNat (by omega)
    have hoo : ((o.toNat : Nat) : Int) = o := Int.toNat_of_nonneg hv.1
    have hst := h.2.2.2.2.2.2.1 (3 * c + s).toNat (by omega)
    rw [Int.toNat_of_nonneg (by omega)] at hst
    have hst' : spK S 8 c s = mg R 22 (3 * c + s) := hst
    rw [hoo] at b4 b5 b6 b7 d9'
    rw [Int.toNat_of_nonneg hv.2.2.1] at d9'
    have hsew := sewn_e (o := o.toNat) (c := c) h hI (by omega)
    rw [hoo] at hsew
    obtain ⟨c24, c25, -, -, c28, -⟩ := hI.2.2.2.2.2.1 o hv.1 hv.2.1
    have hN1 := hI.2.1
    have hnn : 0 ≤ needK R o c := by
      unfold needK
      exact Int.mul_nonneg (by omega) (sumTo_0n (fun j => by split <;> omega) _)
    have can : canMa R o c s := ⟨by rw [← b4]; exact hy.1, by have := hy.2.1; omega, by rw [← d9']; exact hy.2.2.1, by rw [← hst']; exact hy.2.2.2⟩
    have hcase : ∀ k v R', matchR R o c s k v R' → k = 0 ∧ ((¬ sewnP R o c (mg R 29 o) ∧ v = 0 ∧ R' = updI (thr R 0) (mt 31) (6 * o + c).toNat s) ∨ (sewnP R o c (mg R 29 o) ∧ v = mg R 28 o + (if 0 < mg R 29 o then 1 else 0) ∧ R' = wsU (updI (thr R 0) (mt 31) (6 * o + c).toNat s) o)) := fun k v R' ho => by
      obtain ⟨o1, -, o3⟩ := ho
      have k0 : k = 0 := by
        rcases o1 with w | w | w
        · exact absurd hv w.1
        · exact w.2.2
        · exact absurd can w.2.1
      exact ⟨k0, o3 k0⟩
    refine ⟨fun hns => hp _ _ rfl (fun _ _ => rfl) fun k v R' ho => ?_, fun hs S' hob f5 f6 f7 => hp _ _ rfl (fun t _ => congrFun hob.1 t) fun k v R' ho => ?_⟩
    · obtain ⟨k0, hc⟩ := hcase k v R' ho
      have hns' : ¬ sewnP R o c (mg R 29 o) := fun w => hns (hsew.mpr w)
      rcases hc with ⟨-, hv0, hR⟩ | ⟨w, -⟩
      · have hgg : ∀ (a : Nat) (i : Int), ¬ (a = 31 ∧ i.toNat = (6 * o + c).toNat) → mg R' a i = mg R a i := fun a i ha => by
          rw [hR, mgU, if_neg ha]; exact th_mg'
        refine ⟨⟨k0, hv0⟩, B, N, h.ord1 (o := o.toNat) hI (by omega) rfl rfl (fun t t1 t2 => sm_upd t2) (fun a i ha => hgg a i (by omega)) (by rw [hR]; exact ⟨rfl, rfl, rfl⟩) (fun q hq hq2 => ⟨hgg 28 _ (by omega), hgg 29 _ (by omega), hgg 30 _ (by omega), fun c' hc' => hgg 31 _ (by omega)⟩) (fun k _ _ _ => by rw [updI_2, if_neg (by omega)]) ?_ ?_ ?_ (fun c' hc' => ?_)⟩
        · rw [updI_2, if_neg (by omega), hoo, hgg 28 _ (by omega)]; exact b5
        · rw [updI_2, if_neg (by omega), hoo, hgg 29 _ (by omega)]; exact b6
        · rw [updI_2, if_neg (by omega), hoo, hgg 30 _ (by omega)]; exact b7
        · rw [updI_2, hoo]
          show _ = mg R' 31 (6 * o + c')
          by_cases x : c' = c.toNat
          · rw [if_pos ⟨rfl, x⟩, hR, mgU, if_pos ⟨rfl, by omega⟩]
          · rw [if_neg (fun y => x y.2), hgg 31 _ (by omega)]
            have := d9 c' hc'
            rw [hoo] at this
            exact this
      · exact absurd w hns'
    · obtain ⟨k0, hc⟩ := hcase k v R' ho
      have hs' := hsew.mp hs
      rcases hc with ⟨w, -⟩ | ⟨-, hv0, hR⟩
      · exact absurd hs' w
      · obtain ⟨X, hX⟩ : ∃ X, X = updI (thr R 0) (mt 31) (6 * o + c).toNat s := ⟨_, rfl⟩
        have hgX : ∀ (a : Nat) (i : Int), ¬ (a = 31 ∧ i.toNat = (6 * o + c).toNat) → mg X a i = mg R a i := fun a i ha => by
          rw [hX, mgU, if_neg ha]; exact th_mg'
        rw [← hX] at hR
        have hW : wsN X o = mg R 28 o * mnK R (mg R 24 o) + mg R 29 o := by
          unfold wsN
          rw [hgX 28 _ (by omega), hgX 29 _ (by omega), hgX 24 _ (by omega), hgX 10 _ (by omega)]
        unfold wsU at hR
        rw [hW, hgX 30 _ (by omega)] at hR
        have g28 : ∀ i : Int, mg R' 28 i = if i.toNat = o.toNat then 0 else mg R 28 i := fun i => by
          rw [hR, mgU, if_neg (by omega), mgU]
          by_cases x : i.toNat = o.toNat
          · rw [if_pos ⟨rfl, x⟩, if_pos x]
          · rw [if_neg (fun y => x y.2), if_neg x, mgU, if_neg (by omega), hgX _ _ (by omega)]
        have g29 : ∀ i : Int, mg R' 29 i = if i.toNat = o.toNat then 0 else mg R 29 i := fun i => by
          rw [hR, mgU]
          by_cases x : i.toNat = o.toNat
          · rw [if_pos ⟨rfl, x⟩, if_pos x]
          · rw [if_neg (fun y => x y.2), if_neg x, mgU, if_neg (by omega), mgU, if_neg (by omega), hgX _ _ (by omega)]
        have g30 : ∀ i : Int, mg R' 30 i = if i.toNat = o.toNat then mg R 30 o + (mg R 28 o * mnK R (mg R 24 o) + mg R 29 o) else mg R 30 i := fun i => by
          rw [hR, mgU, if_neg (by omega), mgU, if_neg (by omega), mgU]
          by_cases x : i.toNat = o.toNat
          · rw [if_pos ⟨rfl, x⟩, if_pos x]
          · rw [if_neg (fun y => x y.2), if_neg x, hgX _ _ (by omega)]
        have gX : ∀ (a : Nat) (i : Int), ¬ (28 ≤ a ∧ a ≤ 30) → mg R' a i = mg X a i := fun a i ha => by
          rw [hR, mgU, if_neg (by omega), mgU, if_neg (by omega), mgU, if_neg (by omega)]
        obtain ⟨w1, w2, w3, w4⟩ := hob
        have hwm : ((wOf B R).m ((wOf B R).g o.toNat) : Int) = mnK R (mg R 24 o) := by
          show ((mnK R (((mg R 24 ((o.toNat : Nat) : Int)).toNat : Nat) : Int)).toNat : Int) = _
          rw [hoo, Int.toNat_of_nonneg c24.1]
          have := (hI.2.2.2.1 _ c24.1 c24.2).mn
          omega
        refine ⟨⟨k0, ?_⟩, B, N, h.ord1 (o := o.toNat) hI (by omega) w1 w2 (fun t t1 t2 => ?_) (fun a i ha => by rw [gX a i (by omega), hgX a i (by omega)]) (by rw [hR, hX]; exact ⟨rfl, rfl, rfl⟩) (fun q hq hq2 => ⟨by rw [g28, if_neg (by omega)], by rw [g29, if_neg (by omega)], by rw [g30, if_neg (by omega)], fun c' hc' => by rw [show sdK R' q c' = sdK X q c' from gX 31 _ (by omega)]; exact hgX 31 _ (by omega)⟩) (fun k x5 x6 x7 => ?_) ?_ ?_ ?_ (fun c' hc' => ?_)⟩
        · rw [hv0, b5, b6]
        · exact ⟨congrFun w1 t, by rw [w3 t t1]; exact (sm_upd t2).2.1, congrFun w2 t⟩
        · rw [w4 k (by simp; omega), updI_2, if_neg (by omega)]
        · rw [f5, hoo, g28, if_pos rfl]
        · rw [f6, hoo, g29, if_pos rfl]
        · rw [f7, hoo, g30, if_pos rfl, b5, b6, b7, hwm]
        · rw [w3 _ (by omega), updI_2, hoo, show sdK R' o c' = sdK X o c' from gX 31 _ (by omega)]
          show _ = mg X 31 (6 * o + c')
          by_cases x : c' = c.toNat
          · rw [if_pos ⟨rfl, x⟩, hX, mgU, if_pos ⟨rfl, by omega⟩]
          · rw [if_neg (fun y => x y.2), hgX 31 _ (by omega)]
            have := d9 c' hc'
            rw [hoo] at this
            exact this
theorem ag_cancel {n : Int} {B : Nat → Nat} {N : Nat} {S R : Sto} {o : Int} (h : CI B N S R) (hI : MI n R) (hio : InR o) {post : Res → Sto → Prop} (hp : ∀ r S1, okr [0, 2] r = true → tyF S S1 → agC em2 (cancelR R o) r S1 → post r S1) : s_cancelC [vT 1, vI o] S post := by
  have e7 := h.2.1.2.2.2
  refine ⟨wOf B R, h.cw hI, hio, fun hn => hp _ _ rfl (fun _ _ => rfl) fun k v R' ho => ?_, fun hv => ⟨2048 + 16 * o.toNat, rfl, fun hn => hp _ _ rfl (fun _ _ => rfl) fun k v R' ho => ?_, fun hn S' hob f5 f6 f7 => hp _ _ rfl (fun t _ => (congrFun hob.1 t).trans (congrFun endS_1 t)) fun k v R' ho => ?_⟩⟩
  · obtain ⟨o1, o2, -⟩ := ho
    rw [e7] at hn
    rw [if_pos hn] at o1
    rw [o2 (by omega)]
    exact ⟨o1, B, N, h.th hI _⟩
  · rw [e7] at hv
    obtain ⟨-, ⟨-, -, b4, -⟩, -⟩ := h.2.2.2.2.2.1 o.toNat (by omega)
    rw [Int.toNat_of_nonneg hv.1] at b4
    rw [b4] at hn
    obtain ⟨o1, o2, -⟩ := ho
    rw [if_neg (fun y => y hv), if_pos hn] at o1
    rw [o2 (by omega)]
    exact ⟨o1, B, N, h.th hI _⟩
  · rw [e7] at hv
    have hoo : ((o.toNat : Nat) : Int) = o := Int.toNat_of_nonneg hv.1
    obtain ⟨-, ⟨-, -, b4, b5, b6, b7⟩, k8, -⟩ := h.2.2.2.2.2.1 o.toNat (by omega)
    rw [hoo] at b4 b5 b6 b7 k8
    rw [b4] at hn
    obtain ⟨c24, c25, c26, ⟨j1, j2, j3, j4⟩, c28, -⟩ := hI.2.2.2.2.2.1 o hv.1 hv.2
    have hN1 := hI.2.1
    obtain ⟨o1, -, o3⟩ := ho
    rw [if_neg (fun y => y hv), if_neg (by omega)] at o1
    obtain ⟨T, hT, hv0, hR⟩ := o3 o1
    have hwm : ((wOf B R).m ((wOf B R).g o.toNat) : Int) = mnK R (mg R 24 o) := by
      show ((mnK R (((mg R 24 ((o.toNat : Nat) : Int)).toNat : Nat) : Int)).toNat : Int) = _
      rw [hoo, Int.toNat_of_nonneg c24.1]
      have := (hI.2.2.2.1 _ c24.1 c24.2).mn
      omega
    refine ⟨⟨o1, ?_⟩, B, N, ?_⟩
    · rw [hv0, hwm, b5, b6]; rfl
    · obtain ⟨w1, w2, w3, w4⟩ := hob
      rw [endS_1] at w1
      have hj27 : mg R 27 o = -1 ∨ 0 ≤ mg R 27 o := by omega
      have gT : ∀ (a : Nat) (i : Int), a ≠ 17 → a ≠ 27 → mg T a i = mg R a i := fun a i x y => by
        rw [hT]
        split
        · rw [mgU, if_neg (fun q => y q.1), mgU, if_neg (fun q => x q.1)]; exact th_mg'
        · exact th_mg'
      have gR : ∀ (a : Nat) (i : Int), ¬ (a = 26 ∨ a = 28 ∨ a = 29 ∨ a = 30) → mg R' a i = mg T a i := fun a i x => by
        rw [hR, mgU, if_neg (by omega), mgU, if_neg (by omega), mgU, if_neg (by omega), mgU, if_neg (by omega)]
      have hgg : ∀ (a : Nat) (i : Int), ¬ (a = 17 ∨ a = 26 ∨ a = 27 ∨ a = 28 ∨ a = 29 ∨ a = 30) → mg R' a i = mg R a i := fun a i x => by
        rw [gR a i (by omega), gT a i (by omega) (by omega)]
      have g17 : ∀ i : Nat, mg R' 17 i = if (i : Int) = mg R 27 o then -1 else mg R 17 i := fun i => by
        rw [gR 17 _ (by omega), hT]
        by_cases x : mg R 26 o = 1
        · have := j4.mp x
          rw [if_pos x, mgU, if_neg (by omega), mgU]
          by_cases y : (i : Int) = mg R 27 o
          · rw [if_pos ⟨rfl, by omega⟩, if_pos y]
          · rw [if_neg (by omega), if_neg y]; exact th_mg'
        · have : mg R 27 o = -1 := by
            rcases hj27 with w | w
            · exact w
            · exact absurd (j4.mpr w) x
          rw [if_neg x, if_neg (by omega)]; exact th_mg'
      have g27 : ∀ q : Nat, mg R' 27 q = if (q : Int) = o then -1 else mg R 27 q := fun q => by
        rw [gR 27 _ (by omega), hT]
        by_cases x : mg R 26 o = 1
        · rw [if_pos x, mgU]
          by_cases y : (q : Int) = o
          · rw [if_pos ⟨rfl, by omega⟩, if_pos y]
          · rw [if_neg (by omega), if_neg y, mgU, if_neg (by omega)]; exact th_mg'
        · have e : mg R 27 o = -1 := by
            rcases hj27 with w | w
            · exact w
            · exact absurd (j4.mpr w) x
          rw [if_neg x]
          by_cases y : (q : Int) = o
          · rw [if_pos y, y, ← e]; exact th_mg'
          · rw [if_neg y]; exact th_mg'
      have gq : ∀ q : Nat, (q : Int) ≠ o → mg R' 26 q = mg R 26 q ∧ mg R' 28 q = mg R 28 q ∧ mg R' 29 q = mg R 29 q ∧ mg R' 30 q = mg R 30 q := fun q hq => by
        rw [hR]
        simp only [mgU]
        rw [if_neg (by omega), if_neg (by omega), if_neg (by omega), if_neg (by omega), if_neg (by omega), if_neg (by omega), if_neg (by omega), if_neg (by omega), if_neg (by omega), if_neg (by omega), if_neg (by omega), if_neg (by omega), if_neg (by omega), if_neg (by omega), if_neg (by omega), if_neg (by omega)]
        exact ⟨gT _ _ (by omega) (by omega), gT _ _ (by omega) (by omega), gT _ _ (by omega) (by omega), gT _ _ (by omega) (by omega)⟩
      have go : mg R' 26 o = 3 ∧ mg R' 28 o = 0 ∧ mg R' 29 o = 0 ∧ mg R' 30 o = mg R 30 o + wsN R o := by
        rw [hR]; simp [mgU]
      have hN : nD R' = nD R ∧ nM R' = nM R ∧ nO R' = nO R := by rw [hR, hT]; split <;> exact ⟨rfl, rfl, rfl⟩
      have hu1 : ∀ t, t ≠ 2048 + 16 * o.toNat → S'.2.1 t = S.2.1 t := fun t ht => by rw [w3 t ht]; funext k; rw [endS_2, if_neg (fun y => ht y.1)]
      have huk : ∀ k, k ≠ 4 → k ≠ 5 → k ≠ 6 → k ≠ 7 → S'.2.1 (2048 + 16 * o.toNat) k = S.2.1 (2048 + 16 * o.toNat) k := fun k x4 x5 x6 x7 => by rw [w4 k (by simp; omega), endS_2, if_neg (fun y => x4 y.2)]
      have hu4 : S'.2.1 (2048 + 16 * o.toNat) 4 = 3 := by rw [w4 4 (by simp), endS_2, if_pos ⟨rfl, rfl⟩]
      have hr : ∀ t k, S'.2.2 t k = if t = 2048 + 16 * o.toNat ∧ k = 8 then none else if S.2.2 (2048 + 16 * o.toNat) 8 = some t ∧ k = 4 then none else S.2.2 t k := fun t k => by rw [w2, endS_3]
      have hm8 : ∀ t, S.2.2 (2048 + 16 * o.toNat) 8 = some t → 0 ≤ mg R 27 o ∧ t = 1024 + 16 * (mg R 27 o).toNat := fun t ht => by
        by_cases x : mg R 27 o = -1
        · rw [k8, if_pos x] at ht; cases ht
        · rw [k8, if_neg x] at ht
          exact ⟨by omega, (Option.some.inj ht).symm⟩
      have hsm : ∀ t, t ≠ 2048 + 16 * o.toNat → (∀ i : Nat, i < 4 → t ≠ 1024 + 16 * i) → sm S S' t := fun t ht hi => ⟨congrFun w1 t, hu1 t ht, by
        funext k
        rw [hr, if_neg (fun y => ht y.1), if_neg (fun y => by have z := hm8 t y.1; exact hi _ (by omega) z.2)]⟩
      obtain ⟨u1, u2⟩ := h.upper (R' := R') (S' := S') hI (fun t ht => hsm t (by omega) (fun i hi => by omega)) (hsm 4 (by omega) (fun i hi => by omega)).2.2 (hsm 5 (by omega) (fun i hi => by omega)).2.2 (fun a i ha => hgg a i (by omega)) hN.1
      obtain ⟨h1, ⟨e1, e3, e5', e7'⟩, -, -, hm, hoo', hst', hf⟩ := h
      have f1 := hsm 1 (by omega) (fun i hi => by omega)
      refine ⟨h1.fr w1 ⟨f1.2.2, (hsm 8 (by omega) (fun i hi => by omega)).2.2⟩ (h1.nl.fr (by rw [f1.2.1]) (by rw [f1.2.1]) (by rw [f1.2.1]) (hsm 5 (by omega) (fun i hi => by omega)).2.2 (hsm 6 (by omega) (fun i hi => by omega)).2.2 (hsm 7 (by omega) (fun i hi => by omega)).2.2), ⟨?_, ?_, ?_, ?_⟩, u1, u2, fun i hi => ?_, fun q hq => ?_, fun k hk => ?_, hf.fr w1 hN⟩
      · rw [f1.2.1, e1]; exact (hgg 1 6 (by omega)).symm
      · rw [f1.2.1, e3, hN.1]
      · rw [f1.2.1, e5', hN.2.1]
      · rw [f1.2.1, e7', hN.2.2]
      · rw [hN.2.1] at hi
        obtain ⟨⟨a1, a2, a3, a4⟩, b, c, d, e⟩ := hm i hi
        have y1 := hu1 (1024 + 16 * i) (by omega)
        have y2 := hu1 (1024 + 16 * i + 1) (by omega)
        unfold mcI
        rw [y1, y2, hgg 14 _ (by omega), hgg 15 _ (by omega), hgg 16 _ (by omega), hgg 18 _ (by omega), hgg 19 _ (by omega), hset_e (fun k => hgg 20 k (by omega)), (hsm 6 (by omega) (fun i hi => by omega)).2.2]
        refine ⟨⟨a1, by rw [w1]; exact a2, by rw [hr, if_neg (by omega), if_neg (by omega)]; exact a3, by rw [w1]; exact a4⟩, b, ?_, d, fun k k0 k1 k2 => ?_⟩
        · rw [hr, if_neg (by omega), g17]
          by_cases x : (i : Int) = mg R 27 o
          · rw [if_pos x, if_pos rfl, if_pos ⟨by rw [k8, if_neg (by omega), ← x, Int.toNat_natCast], rfl⟩]
          · rw [if_neg x, if_neg (fun y => by have z := hm8 _ y.1; omega)]
            exact c
        · rw [show hdK R' i k = hdK R i k from hgg 20 _ (by omega)] at k2 ⊢
          rw [show ltK R' i k = ltK R i k from hgg 21 _ (by omega)]
          exact e k k0 k1 k2
      · rw [hN.2.2] at hq
        have hI2 := hoo' q hq
        have hI3 := hI2
        obtain ⟨-, ⟨-, -, c4, c5, c6, c7⟩, c8, -⟩ := hI3
        have r7 := (hsm 7 (by omega) (fun i hi => by omega)).2.2
        by_cases x : q = o.toNat
        · subst x
          refine hI2.own r7 w1 (hu1 _ (by omega)) (fun k hk => by rw [hr, if_neg (fun y => hk y.2), if_neg (fun y => by have z := hm8 _ y.1; omega)]) huk (hgg 24 _ (by omega)) (hgg 25 _ (by omega)) (fun c hc => hgg 31 _ (by omega)) ?_ ?_ ?_ ?_ ?_
          · rw [hu4, hoo]; exact go.1.symm
          · rw [f5, hoo]; exact go.2.1.symm
          · rw [f6, hoo]; exact go.2.2.1.symm
          · rw [f7, hoo, go.2.2.2, b5, b6, b7, hwm]; rfl
          · rw [hr, if_pos ⟨rfl, rfl⟩, g27, if_pos hoo, if_pos rfl]
        · have y1 := hsm (2048 + 16 * q) (by omega) (fun i hi => by omega)
          obtain ⟨z1, z2, z3, z4⟩ := gq q (by omega)
          refine hI2.own r7 w1 (hu1 _ (by omega)) (fun k _ => by rw [y1.2.2]) (fun k _ _ _ _ => by rw [y1.2.1]) (hgg 24 _ (by omega)) (hgg 25 _ (by omega)) (fun c hc => hgg 31 _ (by omega)) ?_ ?_ ?_ ?_ ?_
          · rw [y1.2.1, z1]; exact c4
          · rw [y1.2.1, z2]; exact c5
          · rw [y1.2.1, z3]; exact c6
          · rw [y1.2.1, z4]; exact c7
          · rw [y1.2.2, g27, if_neg (show ¬ (q : Int) = o by omega)]; exact c8
      · rw [hu1 9 (by omega), hgg 22 _ (by omega)]; exact hst' k hk
/-! what stays of one machine, one order, one draft where a call changes others -/
theorem hset_fl {R R' : Sto} {i : Int} (h : ∀ k, 0 ≤ k → k < 6 → hdK R' i k = hdK R i k) : ∀ k : Nat, k ≤ 6 → hset R' i k = hset R i k
  | 0, _ => rfl
  | k + 1, hk => by
    unfold hset
    rw [h k (by omega) (by omega), hset_fl h k (by omega)]
theorem mcI.fl {S S' R R' : Sto} {i : Nat} (h : mcI S R i) (h14 : mg R 14 i ≤ 6) (h6 : S'.2.2 6 i = S.2.2 6 i) (s1 : sm S S' (1024 + 16 * i)) (s2 : sm S S' (1024 + 16 * i + 1)) (hR : ∀ a : Nat, 14 ≤ a → a ≤ 19 → mg R' a i = mg R a i) (h20 : ∀ k, 0 ≤ k → k < 6 → hdK R' i k = hdK R i k ∧ ltK R' i k = ltK R i k) : mcI S' R' i := by
  obtain ⟨⟨a1, a2, a3, a4⟩, b, c, d, e⟩ := h
  unfold mcI
  rw [h6, s1.2.1, s2.2.1, s1.2.2, hR 14 (by omega) (by omega), hR 15 (by omega) (by omega), hR 16 (by omega) (by omega), hR 17 (by omega) (by omega), hR 18 (by omega) (by omega), hR 19 (by omega) (by omega), hset_fl (fun k k0 k6 => (h20 k k0 k6).1) _ (by omega)]
  refine ⟨⟨a1, ?_⟩, b, c, d, fun k k0 k1 k2 => ?_⟩
  · exact ⟨by rw [s1.1]; exact a2, by rw [s1.2.2]; exact a3, by rw [s2.1]; exact a4⟩
  · obtain ⟨x1, x2⟩ := h20 k k0 (by omega)
    rw [x1] at k2 ⊢
    rw [x2]
    exact e k k0 k1 k2
theorem odI.fl {S S' R R' : Sto} {o : Nat} (h : odI S R o) (h7 : S'.2.2 7 o = S.2.2 7 o) (s1 : sm S S' (2048 + 16 * o)) (s2 : sm S S' (2048 + 16 * o + 1)) (hR : ∀ a : Nat, 24 ≤ a → a ≤ 30 → mg R' a o = mg R a o) (h31 : ∀ c : Nat, c < 6 → sdK R' o c = sdK R o c) : odI S' R' o := by
  obtain ⟨⟨a1, a2, a3, a4, a5⟩, b, c, d⟩ := h
  unfold odI
  rw [h7, s1.2.1, s2.2.1, s1.2.2, hR 24 (by omega) (by omega), hR 25 (by omega) (by omega), hR 26 (by omega) (by omega), hR 27 (by omega) (by omega), hR 28 (by omega) (by omega), hR 29 (by omega) (by omega), hR 30 (by omega) (by omega)]
  refine ⟨⟨a1, ?_⟩, b, c, fun k hk => ?_⟩
  · exact ⟨by rw [s1.1]; exact a2, by rw [s1.2.2]; exact a3, by rw [s2.1]; exact a4, by rw [s1.2.2]; exact a5⟩
  · rw [h31 k hk]
    exact d k hk
theorem cfC.fl {S S' : Sto} (h : cfC S) (h1 : ∀ t, t ≤ 9 → S'.1 t = S.1 t) (h2 : S'.2.2 1 = S.2.2 1 ∧ S'.2.2 8 = S.2.2 8) (h3 : nlA S') : cfC S' := by
  obtain ⟨a1, a2, a3, a4, a5, a6, a7, a8, a9, a10, ⟨b1, b2, b3⟩, c⟩ := h
  refine ⟨?_, ?_, ?_, ?_, ?_, ?_, ?_, ?_, ?_, ?_, ⟨?_, ?_, ?_⟩, h3⟩ <;> (first | rw [h1 _ (by omega)] | rw [h2.1] | rw [h2.2]) <;> assumption
theorem orF_1 {S : Sto} {u T : Nat} {i p : Int} {t : Nat} : (orFin S u T i p).1 t = if t = u + 1 then some (100, 6) else if t = u then some (2, 9) else S.1 t := rfl
theorem orF_2 {S : Sto} {u T : Nat} {i p : Int} {t k : Nat} : (orFin S u T i p).2.1 t k = if t = u + 1 then (if k < 6 then -1 else 0) else if t = u then (if k = 2 then p else if k = 0 then i else 0) else S.2.1 t k := by
  show (fillO (orN (newS S u (2, clN 2)) u T i p) u 6).2.1 t k = _
  by_cases e : t = u + 1
  · subst e
    rw [fillO_v, if_pos rfl]
    by_cases x : k < 6
    · rw [if_pos x, if_pos x]
    · rw [if_neg x, if_neg x]
      unfold orN
      rw [updI_2, if_neg (by omega), updR_2, updI_2, if_neg (by omega), updI_2, if_neg (by omega), updR_2, newS_2, if_pos rfl]
  · rcases fillO_ag (T := orN (newS S u (2, clN 2)) u T i p) (u := u) 6 with h | h
    · obtain ⟨-, -, h3, -⟩ := h
      rw [h3 t e, if_neg e]
      unfold orN
      rw [updI_2]
      by_cases y : t = u
      · rw [if_pos y]
        by_cases z : k = 2
        · rw [if_pos ⟨y, z⟩, if_pos z]
        · rw [if_neg (fun q => z q.2), if_neg z, updR_2, updI_2]
          by_cases w : k = 0
          · rw [if_pos ⟨y, w⟩, if_pos w]
          · rw [if_neg (fun q => w q.2), if_neg w, updI_2]
            by_cases v : k = 4
            · rw [if_pos ⟨y, v⟩]
            · rw [if_neg (fun q => v q.2), updR_2, newS_2, if_neg e, newS_2, if_pos y]
      · rw [if_neg (fun q => y q.1), updR_2, updI_2, if_neg (fun q => y q.1), updI_2, if_neg (fun q => y q.1), updR_2, newS_2, if_neg e, newS_2, if_neg y, if_neg y]
    · omega
theorem orF_3 {S : Sto} {u T : Nat} {i p : Int} {t k : Nat} (hu : u ≠ 7) : (orFin S u T i p).2.2 t k = if t = 7 ∧ k = i.toNat then some u else if t = u + 1 then none else if t = u then (if k = 1 then some T else if k = 3 then some (u + 1) else none) else S.2.2 t k := by
  show (if t = 7 ∧ k = i.toNat then some u else (if t = u ∧ k = 1 then some T else if t = u ∧ k = 3 then some (u + 1) else if t = u + 1 then none else if t = u then none else S.2.2 t k)) = _
  by_cases a : t = 7 ∧ k = i.toNat
  · rw [if_pos a, if_pos a]
  · rw [if_neg a, if_neg a]
    by_cases b : t = u
    · by_cases c : k = 1
      · rw [if_pos ⟨b, c⟩, if_neg (by omega), if_pos b, if_pos c]
      · by_cases d : k = 3
        · rw [if_neg (fun q => c q.2), if_pos ⟨b, d⟩, if_neg (show ¬ t = u + 1 by omega), if_pos b, if_neg c, if_pos d]
        · rw [if_neg (fun q => c q.2), if_neg (fun q => d q.2), if_neg (show ¬ t = u + 1 by omega), if_pos b, if_neg (show ¬ t = u + 1 by omega), if_pos b, if_neg c, if_neg d]
    · rw [if_neg (fun q => b q.1), if_neg (fun q => b q.1), if_neg b, if_neg b]
theorem ag_order {n : Int} {B : Nat → Nat} {N : Nat} {S R : Sto} {d p : Int} (h : CI B N S R) (hI : MI n R) (hd : InR d) (hpp : InR p) {post : Res → Sto → Prop} (hp : ∀ r S1, okr [0, 1, 2] r = true → tyF S S1 → agC em1 (orderR R d p) r S1 → post r S1) : s_orderC [vT 1, vI d, vI p] S post := by
  have e3 := h.2.1.2.1
  have e7 := h.2.1.2.2.2
  have hN1 := hI.2.1
  refine ⟨wOf B R, h.cw hI, ⟨hd, hpp⟩, fun hn => hp _ _ rfl (fun _ _ => rfl) fun k v R' ho => ?_, fun hv hn => hp _ _ rfl (fun _ _ => rfl) fun k v R' ho => ?_, fun hv hw hn => hp _ _ rfl (fun _ _ => rfl) fun k v R' ho => ?_, fun hv hw hx => ?_⟩
  · obtain ⟨o1, o2, -⟩ := ho
    rw [e3] at hn
    rw [if_pos hn] at o1
    rw [o2 (by omega)]
    exact ⟨o1, B, N, h.th hI _⟩
  · obtain ⟨o1, o2, -⟩ := ho
    rw [e3] at hv
    rw [if_neg (fun y => y hv), if_pos hn] at o1
    rw [o2 (by omega)]
    exact ⟨o1, B, N, h.th hI _⟩
  · obtain ⟨o1, o2, -⟩ := ho
    rw [e3] at hv
    rw [e7] at hn
    rw [if_neg (fun y => y hv), if_neg (fun y => y hw), if_pos hn] at o1
    rw [o2 (by omega)]
    exact ⟨o1, B, N, h.th hI _⟩
  · rw [e3] at hv
    rw [e7] at hx
    obtain ⟨-, -, -, ff⟩ := h.2.2.2.2.2.2.2
    refine ⟨_, rfl, ?_, ?_, hp _ _ rfl (fun t ht => by rw [updI_1, orF_1, if_neg (by omega), if_neg (by omega)]) fun k v R' ho => ?_⟩
    · have := ff (nO R).toNat 0 (by omega) (by omega) (by omega)
      rw [e7]; exact this
    · have := ff (nO R).toNat 1 (by omega) (by omega) (by omega)
      rw [e7]; exact this
    · obtain ⟨o1, -, o3⟩ := ho
      rw [if_neg (fun y => y hv), if_neg (fun y => y hw), if_neg (by omega)] at o1
      obtain ⟨o4, o5⟩ := o3 o1
      refine ⟨⟨o1, by rw [o4, e7]⟩, B, N, ?_⟩
      rw [e7]
      obtain ⟨q, hq⟩ : ∃ q : Nat, q = (nO R).toNat := ⟨_, rfl⟩
      have hqi : nO R = (q : Int) := by omega
      rw [← hq]
      rw [← hq] at o5
      have hgg : ∀ (a : Nat) (i : Int), ¬ ((a = 24 ∨ a = 25 ∨ a = 27) ∧ i.toNat = q) → mg R' a i = mg R a i := fun a i x => by
        rw [o5, mgF, mgU, if_neg (by omega), mgU, if_neg (by omega), mgU, if_neg (by omega)]; exact th_mg'
      have g24 : mg R' 24 q = d := by rw [o5]; simp [mgF, mgU]
      have g25 : mg R' 25 q = p := by rw [o5]; simp [mgF, mgU]
      have g27 : mg R' 27 q = -1 := by rw [o5]; simp [mgF, mgU]
      have n8 : nD R' = nD R := by rw [o5]; rfl
      have n13 : nM R' = nM R := by rw [o5]; rfl
      have n23 : nO R' = (q : Int) + 1 := by rw [o5, hqi]; rfl
      obtain ⟨z26, z28, z29, z30, z31⟩ := hI.2.2.2.2.2.2.1.2.2 q (by omega) (by omega)
      obtain ⟨S2, hS2⟩ : ∃ S2, S2 = updI (orFin S (2048 + 16 * q) (4096 + 16 * d.toNat) (nO R) p) 1 7 (nO R + 1) := ⟨_, rfl⟩
      rw [← hS2]
      have t1 : ∀ t, S2.1 t = if t = 2048 + 16 * q + 1 then some (100, 6) else if t = 2048 + 16 * q then some (2, 9) else S.1 t := fun t => by rw [hS2, updI_1]; exact orF_1
      have t2 : ∀ t k, S2.2.1 t k = if t = 1 ∧ k = 7 then nO R + 1 else if t = 2048 + 16 * q + 1 then (if k < 6 then -1 else 0) else if t = 2048 + 16 * q then (if k = 2 then p else if k = 0 then nO R else 0) else S.2.1 t k := fun t k => by rw [hS2, updI_2, orF_2]
      have t3 : ∀ t k, S2.2.2 t k = if t = 7 ∧ k = q then some (2048 + 16 * q) else if t = 2048 + 16 * q + 1 then none else if t = 2048 + 16 * q then (if k = 1 then some (4096 + 16 * d.toNat) else if k = 3 then some (2048 + 16 * q + 1) else none) else S.2.2 t k := fun t k => by rw [hS2, updI_3, orF_3 (by omega), hq]
      have hsm : ∀ t, t ≠ 1 → t ≠ 7 → t ≠ 2048 + 16 * q → t ≠ 2048 + 16 * q + 1 → sm S S2 t := fun t a b c e => ⟨by rw [t1, if_neg e, if_neg c], by funext k; rw [t2, if_neg (by omega), if_neg e, if_neg c], by funext k; rw [t3, if_neg (by omega), if_neg e, if_neg c]⟩
      obtain ⟨u1, u2⟩ := h.upper (R' := R') (S' := S2) hI (fun t ht => hsm t (by omega) (by omega) (by omega) (by omega)) (hsm 4 (by omega) (by omega) (by omega) (by omega)).2.2 (hsm 5 (by omega) (by omega) (by omega) (by omega)).2.2 (fun a i ha => hgg a i (by omega)) n8
      obtain ⟨h1, ⟨e1, e3, e5, e7⟩, -, -, hm, hoo, hst', hf⟩ := h
      have r1 : S2.2.2 1 = S.2.2 1 := by funext k; rw [t3, if_neg (by omega), if_neg (by omega), if_neg (by omega)]
      have f1 : ∀ k, k ≠ 7 → S2.2.1 1 k = S.2.1 1 k := fun k hk => by rw [t2, if_neg (by omega), if_neg (by omega), if_neg (by omega)]
      have hnl : nlA S2 := ⟨h1.nl.1.fr (f1 3 (by omega)) (hsm 5 (by omega) (by omega) (by omega) (by omega)).2.2, h1.nl.2.1.fr (f1 5 (by omega)) (hsm 6 (by omega) (by omega) (by omega) (by omega)).2.2, h1.nl.2.2.add (u := 2048 + 16 * q) (by omega) (by rw [t2, if_pos ⟨rfl, rfl⟩, e7]) fun k => by
        rw [t3, show (S.2.1 1 7).toNat = q by omega]
        by_cases y : k = q
        · rw [if_pos ⟨rfl, y⟩, if_pos y]
        · rw [if_neg (fun z => y z.2), if_neg (by omega), if_neg (by omega), if_neg y]⟩
      refine ⟨h1.fl (fun t ht => by rw [t1, if_neg (by omega), if_neg (by omega)]) ⟨r1, (hsm 8 (by omega) (by omega) (by omega) (by omega)).2.2⟩ hnl, ⟨?_, ?_, ?_, ?_⟩, u1, u2, fun i hi => ?_, fun o2 ho2 => ?_, fun k hk => ?_, ?_⟩
      · rw [f1 1 (by omega), e1]; exact (hgg 1 6 (by omega)).symm
      · rw [f1 3 (by omega), e3, n8]
      · rw [f1 5 (by omega), e5, n13]
      · rw [t2, if_pos ⟨rfl, rfl⟩, n23, hqi]
      · rw [n13] at hi
        exact (hm i hi).fr (hsm 6 (by omega) (by omega) (by omega) (by omega)).2.2 (hsm _ (by omega) (by omega) (by omega) (by omega)) (hsm _ (by omega) (by omega) (by omega) (by omega)) (fun a j ha => hgg a j (by omega))
      · rw [n23] at ho2
        by_cases x : o2 = q
        · subst x
          refine ⟨⟨by rw [t3, if_pos ⟨rfl, rfl⟩], by rw [t1, if_neg (by omega), if_pos rfl], by rw [t3, if_neg (by omega), if_neg (by omega), if_pos rfl, if_neg (by omega), if_pos rfl], by rw [t1, if_pos rfl], by rw [t3, if_neg (by omega), if_neg (by omega), if_pos rfl, if_pos rfl, g24]⟩, ⟨?_, ?_, ?_, ?_, ?_, ?_⟩, ?_, fun c hc => ?_⟩
          · rw [t2, if_neg (by omega), if_neg (by omega), if_pos rfl, if_neg (by omega), if_pos rfl, hqi]
          · rw [t2, if_neg (by omega), if_neg (by omega), if_pos rfl, if_pos rfl, g25]
          · rw [t2, if_neg (by omega), if_neg (by omega), if_pos rfl, if_neg (by omega), if_neg (by omega), hgg 26 _ (by omega), z26]
          · rw [t2, if_neg (by omega), if_neg (by omega), if_pos rfl, if_neg (by omega), if_neg (by omega), hgg 28 _ (by omega), z28]
          · rw [t2, if_neg (by omega), if_neg (by omega), if_pos rfl, if_neg (by omega), if_neg (by omega), hgg 29 _ (by omega), z29]
          · rw [t2, if_neg (by omega), if_neg (by omega), if_pos rfl, if_neg (by omega), if_neg (by omega), hgg 30 _ (by omega), z30]
          · rw [t3, if_neg (by omega), if_neg (by omega), if_pos rfl, if_neg (by omega), if_neg (by omega), g27, if_pos rfl]
          · rw [t2, if_neg (by omega), if_pos rfl, if_pos hc, show sdK R' o2 c = sdK R o2 c from hgg 31 _ (by omega), z31 c (by omega) (by omega)]
        · exact (hoo o2 (by omega)).fl (by rw [t3, if_neg (by omega), if_neg (by omega), if_neg (by omega)]) (hsm _ (by omega) (by omega) (by omega) (by omega)) (hsm _ (by omega) (by omega) (by omega) (by omega)) (fun a a1 a2 => hgg a _ (by omega)) (fun c hc => hgg 31 _ (by omega))
      · rw [(hsm 9 (by omega) (by omega) (by omega) (by omega)).2.1, hgg 22 _ (by omega)]; exact hst' k hk
      · obtain ⟨y1, y2, y3, y4⟩ := hf
        refine ⟨fun t ht => ?_, fun d j a b c => ?_, fun i j a b c => ?_, fun o j a b c => ?_⟩
        · rw [t1, if_neg (by omega), if_neg (by omega)]; exact y1 t ht
        · rw [n8] at a
          rw [t1, if_neg (by omega), if_neg (by omega)]; exact y2 d j a b c
        · rw [n13] at a
          rw [t1, if_neg (by omega), if_neg (by omega)]; exact y3 i j a b c
        · rw [n23] at a
          rw [t1, if_neg (by omega), if_neg (by omega)]; exact y4 o j (by omega) b c
theorem hset_0 {R : Sto} {i : Int} (h : ∀ k, 0 ≤ k → k < 6 → hdK R i k = -1) : ∀ k : Nat, k ≤ 6 → hset R i k = 0
  | 0, _ => rfl
  | k + 1, hk => by
    unfold hset
    rw [h k (by omega) (by omega), if_pos rfl, hset_0 h k (by omega)]
theorem mcF_1 {S : Sto} {u : Nat} {i a w g : Int} {t : Nat} : (mcFin S u i a w g).1 t = if t = u + 1 then some (100, 6) else if t = u then some (1, 9) else S.1 t := rfl
theorem mcF_2 {S : Sto} {u : Nat} {i a w g : Int} {t k : Nat} : (mcFin S u i a w g).2.1 t k = if t = u ∧ k = 3 then g else if t = u ∧ k = 2 then w else if t = u ∧ k = 1 then a else if t = u ∧ k = 0 then i else if t = u + 1 then 0 else if t = u then 0 else S.2.1 t k := rfl
theorem mcF_3 {S : Sto} {u : Nat} {i a w g : Int} {t k : Nat} : (mcFin S u i a w g).2.2 t k = if t = 6 ∧ k = i.toNat then some u else if t = u ∧ k = 8 then some (u + 1) else if t = u + 1 then none else if t = u then none else S.2.2 t k := rfl
def em0 : Nat → Int := fun e => e
theorem ag_machine {n : Int} {B : Nat → Nat} {N : Nat} {S R : Sto} {a w g : Int} (h : CI B N S R) (hI : MI n R) (ha : InR a) (hw : InR w) (hg : InR g) {post : Res → Sto → Prop} (hp : ∀ r S1, okr [1, 2] r = true → tyF S S1 → agC em0 (machineR R a w g) r S1 → post r S1) : s_machineC [vT 1, vI a, vI w, vI g] S post := by
  have e5 := h.2.1.2.2.1
  have hN1 := hI.2.1
  refine ⟨wOf B R, h.cw hI, ⟨ha, hw, hg⟩, fun hn => hp _ _ rfl (fun _ _ => rfl) fun k v R' ho => ?_, fun hv hn => hp _ _ rfl (fun _ _ => rfl) fun k v R' ho => ?_, fun hv hx => ?_⟩
  · obtain ⟨o1, o2, -⟩ := ho
    rw [if_pos hn] at o1
    rw [o2 (by omega)]
    exact ⟨o1, B, N, h.th hI _⟩
  · obtain ⟨o1, o2, -⟩ := ho
    rw [e5] at hn
    rw [if_neg (fun y => y hv), if_pos hn] at o1
    rw [o2 (by omega)]
    exact ⟨o1, B, N, h.th hI _⟩
  · rw [e5] at hx
    obtain ⟨-, -, ff, -⟩ := h.2.2.2.2.2.2.2
    refine ⟨_, rfl, ?_, ?_, hp _ _ rfl (fun t ht => by rw [updI_1, mcF_1, if_neg (by omega), if_neg (by omega)]) fun k v R' ho => ?_⟩
    · have := ff (nM R).toNat 0 (by omega) (by omega) (by omega)
      rw [e5]; exact this
    · have := ff (nM R).toNat 1 (by omega) (by omega) (by omega)
      rw [e5]; exact this
    · obtain ⟨o1, -, o3⟩ := ho
      rw [if_neg (fun y => y hv), if_neg (by omega)] at o1
      obtain ⟨o4, o5⟩ := o3 o1
      refine ⟨⟨o1, by rw [o4, e5]⟩, B, N, ?_⟩
      rw [e5]
      obtain ⟨q, hq⟩ : ∃ q : Nat, q = (nM R).toNat := ⟨_, rfl⟩
      have hqi : nM R = (q : Int) := by omega
      rw [← hq]
      rw [← hq, hqi] at o5
      obtain ⟨X, hX⟩ : ∃ X, X = updI (updI (updI (updI (thr R 0) (mt 14) q a) (mt 15) q w) (mt 16) q g) (mt 17) q (-1) := ⟨_, rfl⟩
      rw [← hX] at o5
      have gX : ∀ (b : Nat) (i : Int), b ≠ 20 → mg R' b i = mg X b i := fun b i x => by
        rw [o5, mgF]; exact (fillH_ag 6).mg (by simp; omega)
      have hgg : ∀ (b : Nat) (i : Int), b ≠ 20 → ¬ ((14 ≤ b ∧ b ≤ 17) ∧ i.toNat = q) → mg R' b i = mg R b i := fun b i y x => by
        rw [gX b i y, hX, mgU, if_neg (by omega), mgU, if_neg (by omega), mgU, if_neg (by omega), mgU, if_neg (by omega)]; exact th_mg'
      have g20 : ∀ j : Int, 0 ≤ j → mg R' 20 j = if 6 * (q : Int) ≤ j ∧ j < 6 * q + 6 then -1 else mg R 20 j := fun j j0 => by
        rw [o5, mgF, fillH_v (by omega) 6 20 j j0]
        by_cases y : 6 * (q : Int) ≤ j ∧ j < 6 * q + 6
        · rw [if_pos ⟨rfl, y⟩, if_pos y]
        · rw [if_neg (fun z => y z.2), if_neg y, hX, mgU, if_neg (by omega), mgU, if_neg (by omega), mgU, if_neg (by omega), mgU, if_neg (by omega)]; exact th_mg'
      have g14 : mg R' 14 q = a := by rw [gX 14 _ (by omega), hX]; simp [mgU]
      have g15 : mg R' 15 q = w := by rw [gX 15 _ (by omega), hX]; simp [mgU]
      have g16 : mg R' 16 q = g := by rw [gX 16 _ (by omega), hX]; simp [mgU]
      have g17 : mg R' 17 q = -1 := by rw [gX 17 _ (by omega), hX]; simp [mgU]
      have n8 : nD R' = nD R := by rw [o5]; exact ((mfF.trans (if_neg (by omega))).trans (fillH_ag 6).mf).trans (by rw [hX]; rfl)
      have n23 : nO R' = nO R := by rw [o5]; exact ((mfF.trans (if_neg (by omega))).trans (fillH_ag 6).mf).trans (by rw [hX]; rfl)
      have n13 : nM R' = (q : Int) + 1 := by rw [o5]; exact mfF.trans (if_pos rfl)
      obtain ⟨z18, z19, z21⟩ := hI.2.2.2.2.2.2.1.2.1 q (by omega) (by omega)
      have hmac := hI.2.2.2.2.1
      obtain ⟨S2, hS2⟩ : ∃ S2, S2 = updI (mcFin S (1024 + 16 * q) (nM R) a w g) 1 5 (nM R + 1) := ⟨_, rfl⟩
      rw [← hS2]
      have t1 : ∀ t, S2.1 t = if t = 1024 + 16 * q + 1 then some (100, 6) else if t = 1024 + 16 * q then some (1, 9) else S.1 t := fun t => by rw [hS2, updI_1]; exact mcF_1
      have t2 : ∀ t k, S2.2.1 t k = if t = 1 ∧ k = 5 then nM R + 1 else if t = 1024 + 16 * q ∧ k = 3 then g else if t = 1024 + 16 * q ∧ k = 2 then w else if t = 1024 + 16 * q ∧ k = 1 then a else if t = 1024 + 16 * q ∧ k = 0 then nM R else if t = 1024 + 16 * q + 1 then 0 else if t = 1024 + 16 * q then 0 else S.2.1 t k := fun t k => by rw [hS2, updI_2, mcF_2]
      have t3 : ∀ t k, S2.2.2 t k = if t = 6 ∧ k = q then some (1024 + 16 * q) else if t = 1024 + 16 * q ∧ k = 8 then some (1024 + 16 * q + 1) else if t = 1024 + 16 * q + 1 then none else if t = 1024 + 16 * q then none else S.2.2 t k := fun t k => by rw [hS2, updI_3, mcF_3, hq]
      have hsm : ∀ t, t ≠ 1 → t ≠ 6 → t ≠ 1024 + 16 * q → t ≠ 1024 + 16 * q + 1 → sm S S2 t := fun t x b c e => ⟨by rw [t1, if_neg e, if_neg c], by funext k; rw [t2, if_neg (by omega), if_neg (by omega), if_neg (by omega), if_neg (by omega), if_neg (by omega), if_neg e, if_neg c], by funext k; rw [t3, if_neg (by omega), if_neg (by omega), if_neg e, if_neg c]⟩
      obtain ⟨u1, u2⟩ := h.upper (R' := R') (S' := S2) hI (fun t ht => hsm t (by omega) (by omega) (by omega) (by omega)) (hsm 4 (by omega) (by omega) (by omega) (by omega)).2.2 (hsm 5 (by omega) (by omega) (by omega) (by omega)).2.2 (fun a i ha => hgg a i (by omega) (by omega)) n8
      obtain ⟨h1, ⟨e1, e3, e5, e7⟩, -, -, hm, hoo, hst', hf⟩ := h
      have r1 : S2.2.2 1 = S.2.2 1 := by funext k; rw [t3, if_neg (by omega), if_neg (by omega), if_neg (by omega), if_neg (by omega)]
      have f1 : ∀ k, k ≠ 5 → S2.2.1 1 k = S.2.1 1 k := fun k hk => by rw [t2, if_neg (by omega), if_neg (by omega), if_neg (by omega), if_neg (by omega), if_neg (by omega), if_neg (by omega), if_neg (by omega)]
      have fu : ∀ k, k ≠ 0 → k ≠ 1 → k ≠ 2 → k ≠ 3 → S2.2.1 (1024 + 16 * q) k = 0 := fun k k0 k1 k2 k3 => by rw [t2, if_neg (by omega), if_neg (fun y => k3 y.2), if_neg (fun y => k2 y.2), if_neg (fun y => k1 y.2), if_neg (fun y => k0 y.2), if_neg (by omega), if_pos rfl]
      have hnl : nlA S2 := ⟨h1.nl.1.fr (f1 3 (by omega)) (hsm 5 (by omega) (by omega) (by omega) (by omega)).2.2, h1.nl.2.1.add (u := 1024 + 16 * q) (by omega) (by rw [t2, if_pos ⟨rfl, rfl⟩, e5]) fun k => by
        rw [t3, show (S.2.1 1 5).toNat = q by omega]
        by_cases y : k = q
        · rw [if_pos ⟨rfl, y⟩, if_pos y]
        · rw [if_neg (fun z => y z.2), if_neg (by omega), if_neg (by omega), if_neg (by omega), if_neg y], h1.nl.2.2.fr (f1 7 (by omega)) (hsm 7 (by omega) (by omega) (by omega) (by omega)).2.2⟩
      refine ⟨h1.fl (fun t ht => by rw [t1, if_neg (by omega), if_neg (by omega)]) ⟨r1, (hsm 8 (by omega) (by omega) (by omega) (by omega)).2.2⟩ hnl, ⟨?_, ?_, ?_, ?_⟩, u1, u2, fun i hi => ?_, fun o2 ho2 => ?_, fun k hk => ?_, ?_⟩
      · rw [f1 1 (by omega), e1]; exact (hgg 1 6 (by omega) (by omega)).symm
      · rw [f1 3 (by omega), e3, n8]
      · rw [t2, if_pos ⟨rfl, rfl⟩, n13, hqi]
      · rw [f1 7 (by omega), e7, n23]
      · rw [n13] at hi
        by_cases x : i = q
        · subst x
          have hh : ∀ k, 0 ≤ k → k < 6 → hdK R' i k = -1 := fun k k0 k6 => by
            rw [show hdK R' i k = _ from g20 _ (by omega), if_pos (by omega)]
          refine ⟨⟨by rw [t3, if_pos ⟨rfl, rfl⟩], by rw [t1, if_neg (by omega), if_pos rfl], by rw [t3, if_neg (by omega), if_pos ⟨rfl, rfl⟩], by rw [t1, if_pos rfl]⟩, ⟨?_, ?_, ?_, ?_, ?_, ?_, ?_⟩, ?_, fun c hc => ?_, fun k k0 k1 k2 => ?_⟩
          · rw [t2, if_neg (by omega), if_neg (by omega), if_neg (by omega), if_neg (by omega), if_pos ⟨rfl, rfl⟩, hqi]
          · rw [t2, if_neg (by omega), if_neg (by omega), if_neg (by omega), if_pos ⟨rfl, rfl⟩, g14]
          · rw [t2, if_neg (by omega), if_neg (by omega), if_pos ⟨rfl, rfl⟩, g15]
          · rw [t2, if_neg (by omega), if_pos ⟨rfl, rfl⟩, g16]
          · rw [fu 5 (by omega) (by omega) (by omega) (by omega), hgg 18 _ (by omega) (by omega), z18]
          · rw [fu 6 (by omega) (by omega) (by omega) (by omega), g14, hset_0 hh _ (by omega)]; rfl
          · rw [fu 7 (by omega) (by omega) (by omega) (by omega), hgg 19 _ (by omega) (by omega), z19]
          · rw [t3, if_neg (by omega), if_neg (by omega), if_neg (by omega), if_pos rfl, g17, if_pos rfl]
          · rw [t2, if_neg (by omega), if_neg (by omega), if_neg (by omega), if_neg (by omega), if_neg (by omega), if_pos rfl, hgg 19 _ (by omega) (by omega), z19]; omega
          · exact absurd (hh k k0 (by omega)) k2
        · have hmi := hmac i (by omega) (by omega)
          refine (hm i (by omega)).fl hmi.1.2 (by rw [t3, if_neg (by omega), if_neg (by omega), if_neg (by omega), if_neg (by omega)]) (hsm _ (by omega) (by omega) (by omega) (by omega)) (hsm _ (by omega) (by omega) (by omega) (by omega)) (fun a a1 a2 => hgg a _ (by omega) (by omega)) (fun k k0 k6 => ⟨?_, hgg 21 _ (by omega) (by omega)⟩)
          rw [show hdK R' i k = _ from g20 _ (by omega), if_neg (by omega)]
      · rw [n23] at ho2
        exact (hoo o2 ho2).fr (hsm 7 (by omega) (by omega) (by omega) (by omega)).2.2 (hsm _ (by omega) (by omega) (by omega) (by omega)) (hsm _ (by omega) (by omega) (by omega) (by omega)) (fun a j ha => hgg a j (by omega) (by omega))
      · rw [(hsm 9 (by omega) (by omega) (by omega) (by omega)).2.1, hgg 22 _ (by omega) (by omega)]; exact hst' k hk
      · obtain ⟨y1, y2, y3, y4⟩ := hf
        refine ⟨fun t ht => ?_, fun d j a b c => ?_, fun i j a b c => ?_, fun o j a b c => ?_⟩
        · rw [t1, if_neg (by omega), if_neg (by omega)]; exact y1 t ht
        · rw [n8] at a
          rw [t1, if_neg (by omega), if_neg (by omega)]; exact y2 d j a b c
        · rw [n13] at a
          rw [t1, if_neg (by omega), if_neg (by omega)]; exact y3 i j (by omega) b c
        · rw [n23] at a
          rw [t1, if_neg (by omega), if_neg (by omega)]; exact y4 o j a b c
theorem shF_1 {X : Sto} {U : Nat} {i c : Int} {t : Nat} : (shNew X U i c).1 t = if t = U then some (4, 5) else X.1 t := rfl
theorem shF_2 {X : Sto} {U : Nat} {i c : Int} {t k : Nat} : (shNew X U i c).2.1 t k = if t = U ∧ k = 1 then c else if t = U ∧ k = 0 then i else if t = U then 0 else X.2.1 t k := rfl
theorem shF_3 {X : Sto} {U : Nat} {i c : Int} {t k : Nat} : (shNew X U i c).2.2 t k = if t = 4 ∧ k = i.toNat then some U else if t = U ∧ k = 2 then some (U + 1) else if t = U then none else X.2.2 t k := rfl
theorem ag_shape {n : Int} {B : Nat → Nat} {N : Nat} {S R : Sto} {kd c x y w g : Int} (h : CI B N S R) (hI : MI n R) (hkd : InR kd) (hc : InR c) (hx : InR x) (hy : InR y) (hw : InR w) (hg : InR g) {post : Res → Sto → Prop} (hp : ∀ r S1, okr [0, 1, 2] r = true → tyF S S1 → agC em1 (shapeR R kd c x y w g) r S1 → post r S1) : s_shapeC [vT 1, vI kd, vI c, vI x, vI y, vI w, vI g] S post := by
  have e1 := h.2.1.1
  have hN1 := hI.2.1
  have hdr := hI.2.2.1
  refine ⟨wOf B R, h.cw hI, ⟨hkd, hc, hx, hy, hw, hg⟩, fun hn => hp _ _ rfl (fun _ _ => rfl) fun k v R' ho => ?_, fun hv => ⟨fun hn => hp _ _ rfl (fun _ _ => rfl) fun k v R' ho => ?_, fun hz => ⟨fun hn => hp _ _ rfl (fun _ _ => rfl) fun k v R' ho => ?_, fun h7 => ?_⟩⟩⟩
  · obtain ⟨o1, o2, -⟩ := ho
    rw [if_pos (by omega)] at o1
    rw [o2 (by omega)]
    exact ⟨o1, B, N, h.th hI _⟩
  · obtain ⟨o1, o2, -⟩ := ho
    rw [if_neg (by omega), if_pos (by omega)] at o1
    rw [o2 (by omega)]
    exact ⟨o1, B, N, h.th hI _⟩
  · obtain ⟨o1, o2, -⟩ := ho
    rw [e1] at hn
    rw [if_neg (by omega), if_neg (by omega), if_pos hn] at o1
    rw [o2 (by omega)]
    exact ⟨o1, B, N, h.th hI _⟩
  · rw [e1] at h7
    obtain ⟨ff, -, -, -⟩ := h.2.2.2.2.2.2.2
    refine ⟨8192 + 16 * N, by omega, ff _ (by omega), ff _ (by omega), fun X hX => hp _ _ rfl (fun t ht => by rw [updI_1, shF_1, if_neg (by omega), hX.1, newS_1, if_neg (by omega)]) fun k v R' ho => ?_⟩
    obtain ⟨o1, -, o3⟩ := ho
    rw [if_neg (by omega), if_neg (by omega), if_neg (by omega)] at o1
    obtain ⟨o4, o5⟩ := o3 o1
    refine ⟨⟨o1, by rw [o4, e1]⟩, B, N + 1, ?_⟩
    rw [e1]
    obtain ⟨q, hq⟩ : ∃ q : Nat, shN R 6 = (q : Int) := ⟨_, (Int.toNat_of_nonneg hdr.1).symm⟩
    have hqn : (shN R 6).toNat = q := by omega
    have hqN : q ≤ N := by have := h.2.2.1.1; omega
    rw [hq] at o5
    have hgg : ∀ (a : Nat) (i : Int), ¬ ((2 ≤ a ∧ a ≤ 7) ∧ i.toNat = (42 + (q : Int)).toNat) → ¬ (a = 1 ∧ i.toNat = 6) → mg R' a i = mg R a i := fun a i x z => by
      rw [o5, mgU, if_neg z, mgU, if_neg (by omega), mgU, if_neg (by omega), mgU, if_neg (by omega), mgU, if_neg (by omega), mgU, if_neg (by omega), mgU, if_neg (by omega)]; exact th_mg'
    have s6 : shN R' 6 = (q : Int) + 1 := by
      show mg R' 1 6 = _
      rw [o5, mgU, if_pos ⟨rfl, rfl⟩]
    have g2 : mg R' 2 (42 + q) = kd := by rw [o5]; simp [mgU]
    have g3 : mg R' 3 (42 + q) = c := by rw [o5]; simp [mgU]
    have g4 : mg R' 4 (42 + q) = x := by rw [o5]; simp [mgU]
    have g5 : mg R' 5 (42 + q) = y := by rw [o5]; simp [mgU]
    have g6 : mg R' 6 (42 + q) = w := by rw [o5]; simp [mgU]
    have g7 : mg R' 7 (42 + q) = g := by rw [o5]; simp [mgU]
    have hN : nD R' = nD R ∧ nM R' = nM R ∧ nO R' = nO R := by rw [o5]; exact ⟨rfl, rfl, rfl⟩
    obtain ⟨x1, x2, x3, x4⟩ := hX
    obtain ⟨S2, hS2⟩ : ∃ S2, S2 = updI (shNew X (8192 + 16 * N) (shN R 6) c) 1 1 (shN R 6 + 1) := ⟨_, rfl⟩
    rw [← hS2]
    have t1 : ∀ t, S2.1 t = if t = 8192 + 16 * N then some (4, 5) else if t = 8192 + 16 * N + 1 then some (100, 16) else S.1 t := fun t => by rw [hS2, updI_1, shF_1, x1, newS_1]
    have t2 : ∀ t k, S2.2.1 t k = if t = 1 ∧ k = 1 then (q : Int) + 1 else if t = 8192 + 16 * N ∧ k = 1 then c else if t = 8192 + 16 * N ∧ k = 0 then (q : Int) else if t = 8192 + 16 * N then 0 else if t = 8192 + 16 * N + 1 then rowsF kd x y w g k else S.2.1 t k := fun t k => by
      rw [hS2, updI_2, shF_2, hq]
      by_cases e : t = 8192 + 16 * N + 1
      · rw [e, x4 k, if_pos rfl]
      · rw [x3 t e, newS_2, if_neg e, if_neg e]
    have t3 : ∀ t k, S2.2.2 t k = if t = 4 ∧ k = q then some (8192 + 16 * N) else if t = 8192 + 16 * N ∧ k = 2 then some (8192 + 16 * N + 1) else if t = 8192 + 16 * N then none else if t = 8192 + 16 * N + 1 then none else S.2.2 t k := fun t k => by
      rw [hS2, updI_3, shF_3, hqn, x2, newS_3]
    have hsm : ∀ t, t ≠ 1 → t ≠ 4 → t < 8192 + 16 * N → sm S S2 t := fun t x b c => ⟨by rw [t1, if_neg (by omega), if_neg (by omega)], by funext k; rw [t2, if_neg (by omega), if_neg (by omega), if_neg (by omega), if_neg (by omega), if_neg (by omega)], by funext k; rw [t3, if_neg (by omega), if_neg (by omega), if_neg (by omega), if_neg (by omega)]⟩
    obtain ⟨h1, ⟨e1, e3, e5, e7⟩, ⟨d1, d2⟩, hd, hm, ho', hst, hf⟩ := h
    have r1 : S2.2.2 1 = S.2.2 1 := by funext k; rw [t3, if_neg (by omega), if_neg (by omega), if_neg (by omega), if_neg (by omega)]
    have f1 : ∀ k, k ≠ 1 → S2.2.1 1 k = S.2.1 1 k := fun k hk => by rw [t2, if_neg (by omega), if_neg (by omega), if_neg (by omega), if_neg (by omega), if_neg (by omega)]
    have eN : N + 1 - (shN R' 6).toNat = N - (shN R 6).toNat := by rw [s6, hqn]; omega
    refine ⟨h1.fl (fun t ht => by rw [t1, if_neg (by omega), if_neg (by omega)]) ⟨r1, (hsm 8 (by omega) (by omega) (by omega)).2.2⟩ (h1.nl.fr (f1 3 (by omega)) (f1 5 (by omega)) (f1 7 (by omega)) (hsm 5 (by omega) (by omega) (by omega)).2.2 (hsm 6 (by omega) (by omega) (by omega)).2.2 (hsm 7 (by omega) (by omega) (by omega)).2.2), ⟨?_, ?_, ?_, ?_⟩, ⟨by rw [s6]; omega, fun k hk => ?_⟩, fun d hd' => ?_, fun i hi => ?_, fun o ho'' => ?_, fun k hk => ?_, ?_⟩
    · rw [t2, if_pos ⟨rfl, rfl⟩, s6]
    · rw [f1 3 (by omega), e3, hN.1]
    · rw [f1 5 (by omega), e5, hN.2.1]
    · rw [f1 7 (by omega), e7, hN.2.2]
    · rw [s6] at hk
      unfold dfI
      rw [eN, hqn]
      by_cases z : k = q
      · subst z
        have hU : N - k + k = N := by omega
        rw [hU, g3]
        have hh : ∀ i j, hasK R' (42 + k) i j ↔ hasP kd x y w g i j := fun i j => by
          show hasP (mg R' 2 (42 + k)) (mg R' 4 (42 + k)) (mg R' 5 (42 + k)) (mg R' 6 (42 + k)) (mg R' 7 (42 + k)) i j ↔ _
          rw [g2, g4, g5, g6, g7]
        refine ⟨by rw [t3, if_pos ⟨rfl, rfl⟩], ⟨by rw [t1, if_pos rfl], by rw [t3, if_neg (by omega), if_pos ⟨rfl, rfl⟩], by rw [t1, if_neg (by omega), if_pos rfl], fun j hj => ?_, fun i j hij => ?_⟩, ?_, ?_⟩
        · rw [t2, if_neg (by omega), if_neg (by omega), if_neg (by omega), if_neg (by omega), if_pos rfl]
          obtain ⟨b1, b2, b3⟩ := rows_bit hv.1 ⟨hz.1.1, hz.1.2.1, hz.1.2.2⟩ ⟨hz.2.1, hz.2.2.1, hz.2.2.2⟩ j
          exact ⟨b1, b2, fun i hi => (b3 i hi).trans (hh i j).symm⟩
        · have b := (hh i j).mp hij
          unfold hasP wideF at b
          split at b <;> omega
        · rw [t2, if_neg (by omega), if_pos ⟨rfl, rfl⟩]
        · rw [t2, if_neg (by omega), if_neg (by omega), if_pos ⟨rfl, rfl⟩]
      · obtain ⟨a1, a2, a3, a4⟩ := d2 k (by omega)
        rw [hqn] at a1 a2 a3 a4
        have y1 := hsm (8192 + 16 * (N - q + k)) (by omega) (by omega) (by omega)
        have y2 := hsm (8192 + 16 * (N - q + k) + 1) (by omega) (by omega) (by omega)
        have hR : shEq R R' (42 + k) := fun a a2 a7 => hgg a _ (by omega) (by omega)
        have hh : hasK R' (42 + k) = hasK R (42 + k) := by funext x y; exact hR.hs
        rw [hh, y1.2.1, hgg 3 _ (by omega) (by omega)]
        exact ⟨by rw [t3, if_neg (by omega), if_neg (by omega), if_neg (by omega), if_neg (by omega)]; exact a1, a2.eq y1.1 y2.1 y1.2.2 y2.2.1, a3, a4⟩
    · rw [hN.1] at hd'
      obtain ⟨a1, a2⟩ := hd d hd'
      have hD := hI.2.2.2.1 d (by omega) hd'
      have sd : shN R' d = shN R d := hgg 1 d (by omega) (by omega)
      have hs7 := hD.1.2.2.2.1
      have eq : desEq R R' d := ⟨sd, fun k k0 k1 a a2 a7 => hgg a _ (by omega) (by omega), fun p _ _ => hgg 9 _ (by omega) (by omega), hgg 10 _ (by omega) (by omega), fun j _ _ => hgg 11 _ (by omega) (by omega)⟩
      rw [eN, sd]
      exact ⟨a1, (a2.eqS hD a1 (hsm 5 (by omega) (by omega) (by omega) |>.2.2 ▸ rfl) (fun t t1 t2 => hsm t (by omega) (by omega) (by omega)) (fun t t1 t2 => hsm t (by omega) (by omega) (by omega))).eqR hD eq⟩
    · rw [hN.2.1] at hi
      exact (hm i hi).fr (hsm 6 (by omega) (by omega) (by omega)).2.2 (hsm _ (by omega) (by omega) (by omega)) (hsm _ (by omega) (by omega) (by omega)) (fun a j ha => hgg a j (by omega) (by omega))
    · rw [hN.2.2] at ho''
      exact (ho' o ho'').fr (hsm 7 (by omega) (by omega) (by omega)).2.2 (hsm _ (by omega) (by omega) (by omega)) (hsm _ (by omega) (by omega) (by omega)) (fun a j ha => hgg a j (by omega) (by omega))
    · rw [(hsm 9 (by omega) (by omega) (by omega)).2.1, hgg 22 _ (by omega) (by omega)]; exact hst k hk
    · obtain ⟨y1, y2, y3, y4⟩ := hf
      refine ⟨fun t ht => ?_, fun d j a b c => ?_, fun i j a b c => ?_, fun o j a b c => ?_⟩
      · rw [t1, if_neg (by omega), if_neg (by omega)]; exact y1 t (by omega)
      · rw [hN.1] at a
        rw [t1, if_neg (by omega), if_neg (by omega)]; exact y2 d j a b c
      · rw [hN.2.1] at a
        rw [t1, if_neg (by omega), if_neg (by omega)]; exact y3 i j a b c
      · rw [hN.2.2] at a
        rw [t1, if_neg (by omega), if_neg (by omega)]; exact y4 o j a b c
/-- an order that waits has no shades -/
def SI0 (R : Sto) : Prop := ∀ o : Nat, (o : Int) < nO R → mg R 26 o = 0 → ∀ c : Nat, c < 6 → sdK R o c = -1
theorem fillG_v {S : Sto} {u : Nat} {nd sf : Int → Int} : ∀ (n j : Nat), (fillG S u nd sf n).2.1 (u + 1) j = if j < n ∧ 0 < nd j then sf j else S.2.1 (u + 1) j
  | 0, j => by rw [if_neg (by omega)]; rfl
  | n + 1, j => by
    have ih := fillG_v (S := S) (u := u) (nd := nd) (sf := sf) n j
    unfold fillG
    by_cases e : 0 < nd n
    · rw [if_pos e, updI_2]
      by_cases z : j = n
      · subst z
        rw [if_pos ⟨rfl, (Int.toNat_natCast j).symm⟩, if_pos ⟨by omega, e⟩]
      · rw [if_neg (by rw [Int.toNat_natCast]; omega), ih]
        by_cases y : j < n ∧ 0 < nd j
        · rw [if_pos y, if_pos ⟨by omega, y.2⟩]
        · rw [if_neg y, if_neg (fun q => y ⟨by omega, q.2⟩)]
    · rw [if_neg e, ih]
      by_cases y : j < n ∧ 0 < nd j
      · rw [if_pos y, if_pos ⟨by omega, y.2⟩]
      · rw [if_neg y, if_neg (fun q => y ⟨by
          rcases (show j < n ∨ j = n by omega) with w | w
          · exact w
          · subst w; exact absurd q.2 e, q.2⟩)]
theorem spK_e {B : Nat → Nat} {N : Nat} {S R : Sto} (h : CI B N S R) {c s : Int} (hc : 0 ≤ c ∧ c < 6) (hs : 0 ≤ s ∧ s < 3) : spK S 8 c s = mg R 22 (3 * c + s) := by
  have := h.2.2.2.2.2.2.1 (3 * c + s).toNat (by omega)
  rw [Int.toNat_of_nonneg (by omega)] at this
  exact this
theorem nd_0 {p c : Int} (hp : 1 ≤ p) (hc : 0 ≤ c) : (p * c ≤ 0 ↔ c = 0) ∧ (0 < p * c ↔ c ≠ 0) := by
  by_cases e : c = 0
  · subst e; rw [Int.mul_zero]; omega
  · have := Int.mul_pos (show (0 : Int) < p by omega) (show (0 : Int) < c by omega); omega
theorem ag_start {n : Int} {B : Nat → Nat} {N : Nat} {S R : Sto} {o m : Int} (h : CI B N S R) (hI : MI n R) (h0 : SI0 R) (hio : InR o) (him : InR m) {post : Res → Sto → Prop} (hp : ∀ r S1, okv [0, 2] r = true → tyF S S1 → agC em2 (fun k _ R' => startR R o m k R') r S1 → post r S1) : s_startC [vT 1, vI o, vI m] S post := by
  have e5 := h.2.1.2.2.1
  have e7 := h.2.1.2.2.2
  have hN1 := hI.2.1
  refine ⟨wOf B R, h.cw hI, ⟨hio, him⟩, fun hn => hp _ _ rfl (fun _ _ => rfl) fun k v R' ho => ?_, fun hv => ?_⟩
  · obtain ⟨o1, o2, -⟩ := ho
    rw [e5, e7] at hn
    have k1 : k = 1 := by
      rcases o1 with w | w | w
      · exact w.2
      · exact absurd w.1 hn
      · exact absurd w.1 hn
    rw [o2 (by omega)]
    exact ⟨k1, B, N, h.th hI _⟩
  · rw [e5, e7] at hv
    have hoo : ((o.toNat : Nat) : Int) = o := Int.toNat_of_nonneg hv.1
    have hmm : ((m.toNat : Nat) : Int) = m := Int.toNat_of_nonneg hv.2.2.1
    have hoI := h.2.2.2.2.2.1 o.toNat (by omega)
    have hmI := h.2.2.2.2.1 m.toNat (by omega)
    obtain ⟨c24, c25, -⟩ := hI.2.2.2.2.2.1 o hv.1 hv.2.1
    obtain ⟨-, a2'⟩ := h.2.2.2.1 (mg R 24 o).toNat (by omega)
    have hD := hI.2.2.2.1 _ c24.1 c24.2
    have hdd : (((mg R 24 o).toNat : Nat) : Int) = mg R 24 o := Int.toNat_of_nonneg c24.1
    have hnd : ∀ c : Int, 0 ≤ c → ndO (wOf B R) S o.toNat c = needK R o c := fun c c0 => by
      have := need_e (o := o.toNat) (c := c) h hI (by omega) c0
      rw [hoo] at this
      exact this
    have hsf : ∀ c : Int, 0 ≤ c → c < 6 → sfO (wOf B R) S o.toNat c = shF R c (needK R o c) := fun c c0 c6 => by
      unfold sfO shF
      rw [hnd c c0, spK_e h ⟨c0, c6⟩ (s := 0) (by omega), spK_e h ⟨c0, c6⟩ (s := 1) (by omega), spK_e h ⟨c0, c6⟩ (s := 2) (by omega), Int.add_zero]
    have hcn : ∀ c : Int, (needK R o c ≤ 0 ↔ cntD R o c = 0) ∧ (0 < needK R o c ↔ cntD R o c ≠ 0) := fun c => nd_0 c25.1 (cntC_0 _).1
    have b4 : S.2.1 (2048 + 16 * o.toNat) 4 = mg R 26 o := by
      have := hoI.2.1.2.2.1
      rw [hoo] at this; exact this
    have a3 : S.2.2 (1024 + 16 * m.toNat) 4 = if mg R 17 m = -1 then none else some (2048 + 16 * (mg R 17 m).toNat) := by
      have := hmI.2.2.1
      rw [hmm] at this; exact this
    have hfit : (S.2.1 (4096 + 16 * (wOf B R).g o.toNat) 7 ≤ S.2.1 (1024 + 16 * m.toNat) 2 ∧ S.2.1 (4096 + 16 * (wOf B R).g o.toNat) 8 ≤ S.2.1 (1024 + 16 * m.toNat) 3) ↔ fitA R o m (mnK R (mg R 24 o)) := by
      obtain ⟨-, -, -, a5, -, -, a7⟩ := a2'
      rw [hdd] at a5 a7
      have m2 := hmI.2.1.2.2.1
      have m3 := hmI.2.1.2.2.2.1
      rw [hmm] at m2 m3
      rw [m2, m3]
      have hg : (wOf B R).g o.toNat = (mg R 24 o).toNat := by show (mg R 24 ((o.toNat : Nat) : Int)).toNat = _; rw [hoo]
      rw [hg]
      exact hoop_e hD a5 a7 _ _
    have hcan : canC (wOf B R) S o.toNat m.toNat ↔ canSt R o m := by
      unfold canC canSt fitP fitB
      rw [b4, a3]
      have q1 : (if mg R 17 m = -1 then none else some (2048 + 16 * (mg R 17 m).toNat)) = none ↔ mg R 17 m = -1 := by
        by_cases e : mg R 17 m = -1
        · rw [if_pos e]; exact ⟨fun _ => e, fun _ => rfl⟩
        · rw [if_neg e]; exact ⟨(fun z => by cases z), (fun z => absurd z e)⟩
      have q2 : (∀ c : Nat, c < 6 → ndO (wOf B R) S o.toNat c ≤ 0 ∨ sfO (wOf B R) S o.toNat c ≠ -1) ↔ ∀ c, 0 ≤ c → c < 6 → cntD R o c = 0 ∨ shF R c (needK R o c) ≠ -1 := by
        constructor
        · intro w c c0 c6
          have := w c.toNat (by omega)
          rw [Int.toNat_of_nonneg c0, hnd c c0, hsf c c0 c6, (hcn c).1] at this
          exact this
        · intro w c c6
          have := w c (by omega) (by omega)
          rw [hnd c (by omega), hsf c (by omega) (by omega), (hcn c).1]
          exact this
      rw [q1, q2, ← hfit]
      constructor
      · rintro ⟨z1, z2, z3, z4, z5⟩; exact ⟨z1, z2, ⟨z3, z4⟩, z5⟩
      · rintro ⟨z1, z2, ⟨z3, z4⟩, z5⟩; exact ⟨z1, z2, z3, z4, z5⟩
    refine ⟨fun hn => hp _ _ rfl (fun _ _ => rfl) fun k v R' ho => ?_, fun hy => hp _ _ rfl (fun t _ => congrFun (fillG_ag 6 (by omega)).1 t) fun k v R' ho => ?_⟩
    · obtain ⟨o1, o2, -⟩ := ho
      have k2 : k = 2 := by
        rcases o1 with w | w | w
        · exact absurd hv w.1
        · exact absurd (hcan.mpr w.2.1) hn
        · exact w.2.2
      rw [o2 (by omega)]
      exact ⟨k2, B, N, h.th hI _⟩
    · have hy' := hcan.mp hy
      obtain ⟨o1, -, o3⟩ := ho
      have k0 : k = 0 := by
        rcases o1 with w | w | w
        · exact absurd hv w.1
        · exact w.2.2
        · exact absurd hy' w.2.1
      have hR := o3 k0
      refine ⟨k0, B, N, ?_⟩
      have hsd := h0 o.toNat (by omega) (by rw [hoo]; exact hy'.1)
      rw [hoo] at hsd
      have g31 : ∀ j : Int, 0 ≤ j → mg R' 31 j = if 6 * o ≤ j ∧ j < 6 * o + 6 then giv R o (j - 6 * o) else mg R 31 j := fun j j0 => by
        rw [hR, mgU, if_neg (by omega), mgU, if_neg (by omega), mgU, if_neg (by omega), fillS_v hv.1 6 31 j j0]
        by_cases y : 6 * o ≤ j ∧ j < 6 * o + 6
        · rw [if_pos ⟨rfl, y⟩, if_pos y]
        · rw [if_neg (fun z => y z.2), if_neg y]; exact th_mg'
      have hgg : ∀ (a : Nat) (i : Int), a ≠ 31 → ¬ (a = 26 ∧ i.toNat = o.toNat) → ¬ (a = 27 ∧ i.toNat = o.toNat) → ¬ (a = 17 ∧ i.toNat = m.toNat) → mg R' a i = mg R a i := fun a i x y z w => by
        rw [hR, mgU, if_neg w, mgU, if_neg z, mgU, if_neg y]
        exact ((fillS_ag 6).mg (by simp; omega)).trans th_mg'
      have g26 : mg R' 26 o = 1 := by rw [hR, mgU, if_neg (by omega), mgU, if_neg (by omega), mgU, if_pos ⟨rfl, rfl⟩]
      have g27 : mg R' 27 o = m := by rw [hR, mgU, if_neg (by omega), mgU, if_pos ⟨rfl, rfl⟩]
      have g17 : mg R' 17 m = o := by rw [hR, mgU, if_pos ⟨rfl, rfl⟩]
      have hN : nD R' = nD R ∧ nM R' = nM R ∧ nO R' = nO R := by
        rw [hR]
        have ha := fillS_ag (S := R) (T := thr R 0) (o := o) 6
        exact ⟨ha.mf (k := 8), ha.mf (k := 13), ha.mf (k := 23)⟩
      obtain ⟨u, hu⟩ : ∃ u, u = 2048 + 16 * o.toNat := ⟨_, rfl⟩
      obtain ⟨w, hw⟩ : ∃ w, w = 1024 + 16 * m.toNat := ⟨_, rfl⟩
      rw [← hu, ← hw]
      obtain ⟨F, hF⟩ : ∃ F, F = fillG S u (ndO (wOf B R) S o.toNat) (sfO (wOf B R) S o.toNat) 6 := ⟨_, rfl⟩
      rw [← hF]
      have ag := fillG_ag (S := S) (u := u) (nd := ndO (wOf B R) S o.toNat) (sf := sfO (wOf B R) S o.toNat) 6 (by omega)
      have fv : ∀ j : Nat, j < 6 → F.2.1 (u + 1) j = giv R o j := fun j hj => by
        rw [hF, fillG_v 6 j, hnd j (by omega), hsf j (by omega) (by omega)]
        unfold giv
        by_cases e : cntD R o j = 0
        · rw [if_pos e, if_neg (fun q => (hcn j).2.mp q.2 e), hu]
          have d9 := hoI.2.2.2 j hj
          rw [hoo] at d9
          rw [d9]; exact hsd j hj
        · rw [if_neg e, if_pos ⟨hj, (hcn j).2.mpr e⟩]
      rw [← hF] at ag
      obtain ⟨ag1, ag2, ag3, -⟩ := ag
      obtain ⟨S2, hS2⟩ : ∃ S2, S2 = updR (updR (updI F u 4 1) u 8 (some w)) w 4 (some u) := ⟨_, rfl⟩
      rw [← hS2]
      have t1 : S2.1 = S.1 := by rw [hS2]; exact ag1
      have t2 : ∀ t k, S2.2.1 t k = if t = u ∧ k = 4 then 1 else F.2.1 t k := fun t k => by rw [hS2]; rfl
      have t3 : ∀ t k, S2.2.2 t k = if t = w ∧ k = 4 then some u else if t = u ∧ k = 8 then some w else S.2.2 t k := fun t k => by
        rw [hS2, updR_3, updR_3, updI_3, ag2]
      have hsm : ∀ t, t ≠ u → t ≠ u + 1 → t ≠ w → sm S S2 t := fun t x y z => ⟨congrFun t1 t, by funext k; rw [t2, if_neg (fun q => x q.1), ag3 t y], by funext k; rw [t3, if_neg (fun q => z q.1), if_neg (fun q => x q.1)]⟩
      obtain ⟨u1, u2⟩ := h.upper (R' := R') (S' := S2) hI (fun t ht => hsm t (by omega) (by omega) (by omega)) (hsm 4 (by omega) (by omega) (by omega)).2.2 (hsm 5 (by omega) (by omega) (by omega)).2.2 (fun a i ha => hgg a i (by omega) (by omega) (by omega) (by omega)) hN.1
      have hmac := hI.2.2.2.2.1
      obtain ⟨h1, ⟨e1, e3, e5', e7'⟩, -, -, hm, hoo', hst', hf⟩ := h
      have f1 := hsm 1 (by omega) (by omega) (by omega)
      have fu : ∀ k, k ≠ 4 → S2.2.1 u k = S.2.1 u k := fun k hk => by rw [t2, if_neg (fun q => hk q.2), ag3 u (by omega)]
      refine ⟨h1.fr t1 ⟨f1.2.2, (hsm 8 (by omega) (by omega) (by omega)).2.2⟩ (h1.nl.fr (by rw [f1.2.1]) (by rw [f1.2.1]) (by rw [f1.2.1]) (hsm 5 (by omega) (by omega) (by omega)).2.2 (hsm 6 (by omega) (by omega) (by omega)).2.2 (hsm 7 (by omega) (by omega) (by omega)).2.2), ⟨?_, ?_, ?_, ?_⟩, u1, u2, fun i hi => ?_, fun q hq => ?_, fun k hk => ?_, hf.fr t1 hN⟩
      · rw [f1.2.1, e1]; exact (hgg 1 6 (by omega) (by omega) (by omega) (by omega)).symm
      · rw [f1.2.1, e3, hN.1]
      · rw [f1.2.1, e5', hN.2.1]
      · rw [f1.2.1, e7', hN.2.2]
      · rw [hN.2.1] at hi
        have r6 := (hsm 6 (by omega) (by omega) (by omega)).2.2
        by_cases x : i = m.toNat
        · subst x
          obtain ⟨⟨a1, a2, a3, a4⟩, b, c, d, e⟩ := hm m.toNat hi
          rw [← hw] at a1 a2 a3 a4 b c d e
          rw [hmm] at b c d e
          refine ⟨⟨by rw [r6, ← hw]; exact a1, by rw [t1, ← hw]; exact a2, by rw [t3, ← hw, if_neg (by omega), if_neg (by omega)]; exact a3, by rw [t1, ← hw]; exact a4⟩, ?_, ?_, ?_, ?_⟩
          · rw [← hw, hmm]
            have y : S2.2.1 w = S.2.1 w := by funext k; rw [t2, if_neg (by omega), ag3 w (by omega)]
            rw [y, hgg 14 _ (by omega) (by omega) (by omega) (by omega), hgg 15 _ (by omega) (by omega) (by omega) (by omega), hgg 16 _ (by omega) (by omega) (by omega) (by omega), hgg 18 _ (by omega) (by omega) (by omega) (by omega), hgg 19 _ (by omega) (by omega) (by omega) (by omega), hset_e (fun k => hgg 20 k (by omega) (by omega) (by omega) (by omega))]
            exact b
          · rw [← hw, hmm, t3, if_pos ⟨rfl, rfl⟩, g17, if_neg (by omega), hu]
          · intro c' hc'
            have y : S2.2.1 (w + 1) = S.2.1 (w + 1) := by funext k; rw [t2, if_neg (by omega), ag3 (w + 1) (by omega)]
            rw [← hw, hmm, y, hgg 19 _ (by omega) (by omega) (by omega) (by omega)]
            exact d c' hc'
          · intro k k0 k1 k2
            have y : S2.2.1 (w + 1) = S.2.1 (w + 1) := by funext k; rw [t2, if_neg (by omega), ag3 (w + 1) (by omega)]
            rw [hmm] at k1 k2 ⊢
            rw [hgg 14 _ (by omega) (by omega) (by omega) (by omega)] at k1
            rw [show hdK R' m k = hdK R m k from hgg 20 _ (by omega) (by omega) (by omega) (by omega)] at k2 ⊢
            rw [← hw, y, show ltK R' m k = ltK R m k from hgg 21 _ (by omega) (by omega) (by omega) (by omega)]
            exact e k k0 k1 k2
        · have hmi := hmac i (by omega) (by omega)
          exact (hm i hi).fl hmi.1.2 (by rw [r6]) (hsm _ (by omega) (by omega) (by omega)) (hsm _ (by omega) (by omega) (by omega)) (fun a a1 a2 => hgg a _ (by omega) (by omega) (by omega) (by omega)) (fun k k0 k6 => ⟨hgg 20 _ (by omega) (by omega) (by omega) (by omega), hgg 21 _ (by omega) (by omega) (by omega) (by omega)⟩)
      · rw [hN.2.2] at hq
        have r7 := (hsm 7 (by omega) (by omega) (by omega)).2.2
        by_cases x : q = o.toNat
        · subst x
          obtain ⟨⟨a1, a2, a3, a4, a5⟩, ⟨c0, c2, c4, c5, c6, c7⟩, c8, c9⟩ := hoo' o.toNat hq
          rw [← hu] at a1 a2 a3 a4 a5 c0 c2 c4 c5 c6 c7 c8 c9
          rw [hoo] at a5 c0 c2 c4 c5 c6 c7 c8 c9
          refine ⟨⟨by rw [r7, ← hu]; exact a1, by rw [t1, ← hu]; exact a2, by rw [t3, ← hu, if_neg (by omega), if_neg (by omega)]; exact a3, by rw [t1, ← hu]; exact a4, ?_⟩, ⟨?_, ?_, ?_, ?_, ?_, ?_⟩, ?_, fun c hc => ?_⟩
          · rw [t3, ← hu, if_neg (by omega), if_neg (by omega), hoo, hgg 24 _ (by omega) (by omega) (by omega) (by omega)]; exact a5
          · rw [← hu, fu 0 (by omega), hoo]; exact c0
          · rw [← hu, fu 2 (by omega), hoo, hgg 25 _ (by omega) (by omega) (by omega) (by omega)]; exact c2
          · rw [← hu, t2, if_pos ⟨rfl, rfl⟩, hoo]; exact g26.symm
          · rw [← hu, fu 5 (by omega), hoo, hgg 28 _ (by omega) (by omega) (by omega) (by omega)]; exact c5
          · rw [← hu, fu 6 (by omega), hoo, hgg 29 _ (by omega) (by omega) (by omega) (by omega)]; exact c6
          · rw [← hu, fu 7 (by omega), hoo, hgg 30 _ (by omega) (by omega) (by omega) (by omega)]; exact c7
          · rw [← hu, hoo, t3, if_neg (by omega), if_pos ⟨rfl, rfl⟩, g27, if_neg (by omega), hw]
          · rw [← hu, hoo, t2, if_neg (by omega), fv c hc, show sdK R' o c = _ from g31 _ (by omega), if_pos (by omega), show 6 * o + (c : Int) - 6 * o = c by omega]
        · refine (hoo' q hq).fl (by rw [r7]) (hsm _ (by omega) (by omega) (by omega)) (hsm _ (by omega) (by omega) (by omega)) (fun a a1 a2 => hgg a _ (by omega) (by omega) (by omega) (by omega)) (fun c hc => ?_)
          rw [show sdK R' q c = _ from g31 _ (by omega), if_neg (by omega)]
      · rw [(hsm 9 (by omega) (by omega) (by omega)).2.1, hgg 22 _ (by omega) (by omega) (by omega) (by omega)]; exact hst' k hk
/-! a machine's heads as a set of colours -/
theorem or_pc : ∀ b : Nat, b < 64 → ∀ c : Nat, c < 6 → b.testBit c = false → pc6 (b ||| 2 ^ c) = pc6 b + 1 := by decide +kernel
theorem sub_bt : ∀ b : Nat, b < 64 → ∀ q : Nat, q < 6 → b.testBit q = true → ∀ x : Nat, x < 6 → (b - 2 ^ q).testBit x = (b.testBit x && !(x == q)) := by decide +kernel
theorem eq64 {a b : Nat} (ha : a < 64) (hb : b < 64) (h : ∀ x : Nat, x < 6 → (a.testBit x = true ↔ b.testBit x = true)) : a = b := by
  apply Nat.eq_of_testBit_eq
  intro x
  by_cases hx : x < 6
  · exact Bool.eq_iff_iff.mpr (h x hx)
  · have h6 : 2 ^ 6 ≤ 2 ^ x := Nat.pow_le_pow_right (by omega) (by omega)
    rw [Nat.testBit_lt_two_pow (by omega), Nat.testBit_lt_two_pow (by omega)]
theorem hset_b {R : Sto} {i : Int} (h : ∀ k, 0 ≤ k → k < 6 → -1 ≤ hdK R i k ∧ hdK R i k < 6) (x : Nat) : ∀ n : Nat, n ≤ 6 → ((hset R i n).testBit x = true ↔ ∃ k : Nat, k < n ∧ hdK R i k = x)
  | 0, _ => by
    unfold hset
    simp
  | n + 1, hn => by
    have ih := hset_b h x n (by omega)
    have hh := h n (by omega) (by omega)
    unfold hset
    by_cases e : hdK R i n = -1
    · rw [if_pos e, ih]
      constructor
      · rintro ⟨k, k1, k2⟩; exact ⟨k, by omega, k2⟩
      · rintro ⟨k, k1, k2⟩
        rcases (show k < n ∨ k = n by omega) with w | w
        · exact ⟨k, w, k2⟩
        · subst w; omega
    · rw [if_neg e, Nat.testBit_or, Bool.or_eq_true, ih, Nat.testBit_two_pow, decide_eq_true_eq]
      constructor
      · rintro (⟨k, k1, k2⟩ | w)
        · exact ⟨k, by omega, k2⟩
        · exact ⟨n, by omega, by omega⟩
      · rintro ⟨k, k1, k2⟩
        rcases (show k < n ∨ k = n by omega) with w | w
        · exact Or.inl ⟨k, w, k2⟩
        · subst w; exact Or.inr (by omega)
/-- how many of the first n heads are taken -/
def cH (R : Sto) (i : Int) : Nat → Nat
  | 0 => 0
  | k + 1 => cH R i k + (if hdK R i k = -1 then 0 else 1)
theorem cH_le {R : Sto} {i : Int} : ∀ n : Nat, cH R i n ≤ n
  | 0 => Nat.le_refl _
  | n + 1 => by
    have := cH_le (R := R) (i := i) n
    unfold cH
    split <;> omega
theorem cH_lt {R : Sto} {i : Int} {k : Nat} (e : hdK R i k = -1) : ∀ n : Nat, k < n → cH R i n < n
  | n + 1, hk => by
    unfold cH
    rcases (show k < n ∨ k = n by omega) with w | w
    · have := cH_lt e n w
      split <;> omega
    · subst w
      have := cH_le (R := R) (i := i) k
      rw [if_pos e]; omega
theorem cH_eq {R : Sto} {i : Int} : ∀ n : Nat, (∀ k : Nat, k < n → hdK R i k ≠ -1) → cH R i n = n
  | 0, _ => rfl
  | n + 1, h => by
    unfold cH
    rw [cH_eq n (fun k hk => h k (by omega)), if_neg (h n (by omega))]
theorem hset_pc {R : Sto} {i : Int} (h : ∀ k, 0 ≤ k → k < 6 → -1 ≤ hdK R i k ∧ hdK R i k < 6) (hd : ∀ k l, 0 ≤ k → k < l → l < 6 → hdK R i k ≠ -1 → hdK R i k ≠ hdK R i l) : ∀ n : Nat, n ≤ 6 → pc6 (hset R i n) = cH R i n
  | 0, _ => by show pc6 0 = 0; decide
  | n + 1, hn => by
    have ih := hset_pc h hd n (by omega)
    have hh := h n (by omega) (by omega)
    have hl := hset_lt h n (by omega)
    unfold hset cH
    by_cases e : hdK R i n = -1
    · rw [if_pos e, if_pos e, ih]; rfl
    · rw [if_neg e, if_neg e, or_pc _ hl _ (by omega) ?_, ih]
      rw [← Bool.not_eq_true]
      intro w
      obtain ⟨k, k1, k2⟩ := (hset_b h _ n (by omega)).mp w
      exact hd k n (by omega) (by omega) (by omega) (by omega) (by omega)
/-- a colour comes upon the head r -/
theorem hset_new {R R' : Sto} {i : Int} {n r c : Nat} (h : ∀ k, 0 ≤ k → k < 6 → -1 ≤ hdK R i k ∧ hdK R i k < 6) (hd : ∀ k l, 0 ≤ k → k < l → l < 6 → hdK R i k ≠ -1 → hdK R i k ≠ hdK R i l) (hn : n ≤ 6) (hr : r < n) (hc : c < 6) (h' : ∀ k : Nat, k < 6 → hdK R' i k = if k = r then (c : Int) else hdK R i k) :
    hset R' i n = (if hdK R i r = -1 then hset R i n else hset R i n - 2 ^ (hdK R i r).toNat) ||| 2 ^ c := by
  have hr' := h r (by omega) (by omega)
  have hl := hset_lt h n hn
  have h6 : ∀ k, 0 ≤ k → k < 6 → -1 ≤ hdK R' i k ∧ hdK R' i k < 6 := fun k k0 k6 => by
    have a := h' k.toNat (by omega)
    rw [Int.toNat_of_nonneg k0] at a
    have b := h k k0 k6
    rw [a]
    split <;> omega
  have h2 : 2 ^ c < 64 := Nat.lt_of_lt_of_le (Nat.pow_lt_pow_right (by omega) hc) (by omega)
  have hor : ∀ a : Nat, a < 64 → a ||| 2 ^ c < 64 := fun a ha => Nat.or_lt_two_pow (n := 6) ha h2
  refine eq64 (hset_lt h6 n hn) (hor _ (by
    split
    · exact hl
    · exact Nat.lt_of_le_of_lt (Nat.sub_le _ _) hl)) fun x hx => ?_
  rw [hset_b h6 x n hn, Nat.testBit_or, Bool.or_eq_true, Nat.testBit_two_pow, decide_eq_true_eq]
  by_cases e : hdK R i r = -1
  · rw [if_pos e, hset_b h x n hn]
    constructor
    · rintro ⟨k, k1, k2⟩
      rw [h' k (by omega)] at k2
      by_cases w : k = r
      · rw [if_pos w] at k2; exact Or.inr (by omega)
      · rw [if_neg w] at k2; exact Or.inl ⟨k, k1, k2⟩
    · rintro (⟨k, k1, k2⟩ | w)
      · exact ⟨k, k1, by rw [h' k (by omega), if_neg (by rintro rfl; omega)]; exact k2⟩
      · exact ⟨r, hr, by rw [h' r (by omega), if_pos rfl]; omega⟩
  · have hb : (hset R i n).testBit (hdK R i r).toNat = true := (hset_b h _ n hn).mpr ⟨r, hr, by omega⟩
    rw [if_neg e, sub_bt _ hl _ (by omega) hb x hx, Bool.and_eq_true, hset_b h x n hn]
    simp only [Bool.not_eq_true', beq_eq_false_iff_ne, ne_eq]
    constructor
    · rintro ⟨k, k1, k2⟩
      rw [h' k (by omega)] at k2
      by_cases w : k = r
      · rw [if_pos w] at k2; exact Or.inr (by omega)
      · rw [if_neg w] at k2
        refine Or.inl ⟨⟨k, k1, k2⟩, fun z => ?_⟩
        rcases (show k < r ∨ r < k by omega) with v | v
        · exact hd k r (by omega) (by omega) (by omega) (by omega) (by omega)
        · exact hd r k (by omega) (by omega) (by omega) (by omega) (by omega)
    · rintro (⟨⟨k, k1, k2⟩, z⟩ | w)
      · exact ⟨k, k1, by rw [h' k (by omega), if_neg (by rintro rfl; omega)]; exact k2⟩
      · exact ⟨r, hr, by rw [h' r (by omega), if_pos rfl]; omega⟩
/-- the class loads the colour that the reference loads -/
theorem ld_e {S R : Sto} {m : Int} {u b c b' n r : Nat} (h : ∀ k, 0 ≤ k → k < 6 → -1 ≤ hdK R m k ∧ hdK R m k < 6) (hd : ∀ k l, 0 ≤ k → k < l → l < 6 → (hdK R m k ≠ -1 → hdK R m k ≠ hdK R m l) ∧ (hdK R m k ≠ -1 → hdK R m l ≠ -1 → ltK R m k ≠ ltK R m l)) (hn : n ≤ 6) (h14 : mg R 14 m = n) (hu : S.2.1 u 1 = n) (hb : b = hset R m n)
    (hlt : ∀ k : Nat, k < n → hdK R m k ≠ -1 → S.2.1 (u + 1) (hdK R m k).toNat = ltK R m k) (hw : newP R m c r) (hl : ldP S u b c b') : b' = (if hdK R m r = -1 then b else b - 2 ^ (hdK R m r).toNat) ||| 2 ^ c := by
  obtain ⟨w1, w2, w3, w4⟩ := hw
  rw [h14] at w3 w1
  have hr6 : r < n := by omega
  have hhr := h r (by omega) (by omega)
  have hpc := hset_pc h (fun k l a b e => (hd k l a b e).1) n hn
  rw [← hb] at hpc
  rcases w4 with ⟨e, -⟩ | ⟨e1, e2⟩
  · rw [if_pos e]
    have := cH_lt e n hr6
    rcases hl with ⟨l1, -⟩ | ⟨-, l2⟩
    · omega
    · exact l2
  · rw [h14] at e1 e2
    have hne := e1 r (by omega) (by omega)
    rw [if_neg hne]
    have := cH_eq (R := R) (i := m) n (fun k hk => e1 k (by omega) (by omega))
    rcases hl with ⟨-, q, hq, l2⟩ | ⟨l1, -⟩
    · rcases hq with ⟨z, -⟩ | ⟨q', z, z1, z2, z3⟩
      · omega
      · have hqq : q' = q := by omega
        subst hqq
        rw [hb] at z2
        obtain ⟨k, k1, k2⟩ := (hset_b h _ n hn).mp z2
        have y := z3 (hdK R m r).toNat (by omega) (by rw [hb]; exact (hset_b h _ n hn).mpr ⟨r, hr6, by omega⟩)
        rw [hlt r hr6 hne] at y
        have y2 := hlt k k1 (by omega)
        rw [k2, Int.toNat_natCast] at y2
        have y3 := e2 k (by omega) (by omega)
        have hkr : k = r := by
          rcases (show k = r ∨ k < r ∨ r < k by omega) with v | v | v
          · exact v
          · exact absurd (show ltK R m k = ltK R m r by omega) ((hd k r (by omega) (by omega) (by omega)).2 (by omega) hne)
          · exact absurd (show ltK R m r = ltK R m k by omega) ((hd r k (by omega) (by omega) (by omega)).2 hne (by omega))
        subst hkr
        rw [l2, k2, Int.toNat_natCast]
    · omega
/-- j stitches of one colour, from R to R' -/
def stG (R R' : Sto) (m o d c th r j : Int) : Prop := agr [17, 18, 19, 20, 21, 22, 26, 27, 28, 29] R R' ∧
  (∀ i, 0 ≤ i → mg R' 22 i = if i = th then mg R 22 th - j else mg R 22 i) ∧
  (∀ i, 0 ≤ i → mg R' 19 i = if i = m then mg R 19 m + j else mg R 19 i) ∧
  (∀ i, 0 ≤ i → mg R' 18 i = if i = m ∧ hdK R m r ≠ c then mg R 18 m + 1 else mg R 18 i) ∧
  (∀ i, 0 ≤ i → mg R' 20 i = if i = 6 * m + r then c else mg R 20 i) ∧
  (∀ i, 0 ≤ i → mg R' 21 i = if i = 6 * m + r then mg R 19 m + j else mg R 21 i) ∧
  (∀ i, 0 ≤ i → mg R' 29 i = if i = o then (if mg R 29 o + j = mnK R d then 0 else mg R 29 o + j) else mg R 29 i) ∧
  (∀ i, 0 ≤ i → mg R' 28 i = if i = o ∧ mg R 29 o + j = mnK R d then mg R 28 o + 1 else mg R 28 i) ∧
  (∀ i, 0 ≤ i → mg R' 26 i = if i = o ∧ mg R 29 o + j = mnK R d ∧ mg R 28 o + 1 = mg R 25 o then 2 else mg R 26 i) ∧
  (∀ i, 0 ≤ i → mg R' 17 i = if i = m ∧ mg R 29 o + j = mnK R d ∧ mg R 28 o + 1 = mg R 25 o then -1 else mg R 17 i) ∧
  (∀ i, 0 ≤ i → mg R' 27 i = if i = o ∧ mg R 29 o + j = mnK R d ∧ mg R 28 o + 1 = mg R 25 o then -1 else mg R 27 i)
theorem stG_s {R R1 R2 : Sto} {m o d c th r j : Int} (m0 : 0 ≤ m) (o0 : 0 ≤ o) (th0 : 0 ≤ th) (r0 : 0 ≤ r) (h : stG R R1 m o d c th r j) (hne : mg R 29 o + j ≠ mnK R d) (h2 : stF R1 R2 m o d c th r) : stG R R2 m o d c th r (j + 1) := by
  obtain ⟨a, g22, g19, g18, g20, g21, g29, g28, g26, g17, g27⟩ := h
  obtain ⟨b, f22, f19, f18, f20, f21, f29, f28, f26, f17, f27⟩ := h2
  have hd1 : hdK R1 m r = c := by
    have := g20 (6 * m + r) (by omega)
    rw [if_pos rfl] at this
    exact this
  have e10 : mnK R1 d = mnK R d := a.mg (by simp)
  have e25 : mg R1 25 o = mg R 25 o := a.mg (by simp)
  have x29 : mg R1 29 o = mg R 29 o + j := by rw [g29 o o0, if_pos rfl, if_neg hne]
  have x28 : ∀ i, 0 ≤ i → mg R1 28 i = mg R 28 i := fun i i0 => by rw [g28 i i0, if_neg (fun q => hne q.2)]
  have x26 : ∀ i, 0 ≤ i → mg R1 26 i = mg R 26 i := fun i i0 => by rw [g26 i i0, if_neg (fun q => hne q.2.1)]
  have x17 : ∀ i, 0 ≤ i → mg R1 17 i = mg R 17 i := fun i i0 => by rw [g17 i i0, if_neg (fun q => hne q.2.1)]
  have x27 : ∀ i, 0 ≤ i → mg R1 27 i = mg R 27 i := fun i i0 => by rw [g27 i i0, if_neg (fun q => hne q.2.1)]
  refine ⟨a.trans b, fun i i0 => ?_, fun i i0 => ?_, fun i i0 => ?_, fun i i0 => ?_, fun i i0 => ?_, fun i i0 => ?_, fun i i0 => ?_, fun i i0 => ?_, fun i i0 => ?_, fun i i0 => ?_⟩
  · rw [f22 i i0, g22 th th0, g22 i i0, if_pos rfl]
    by_cases e : i = th
    · rw [if_pos e, if_pos e]; omega
    · rw [if_neg e, if_neg e, if_neg e]
  · rw [f19 i i0, g19 m m0, g19 i i0, if_pos rfl]
    by_cases e : i = m
    · rw [if_pos e, if_pos e]; omega
    · rw [if_neg e, if_neg e, if_neg e]
  · rw [f18 i i0, if_neg (fun q => q.2 hd1), g18 i i0]
  · rw [f20 i i0, g20 i i0]
    by_cases e : i = 6 * m + r <;> simp [e]
  · rw [f21 i i0, g19 m m0, if_pos rfl, g21 i i0]
    by_cases e : i = 6 * m + r
    · rw [if_pos e, if_pos e]; omega
    · rw [if_neg e, if_neg e, if_neg e]
  · rw [f29 i i0, x29, e10, g29 i i0]
    by_cases e : i = o
    · rw [if_pos e, if_pos e, Int.add_assoc]
    · rw [if_neg e, if_neg e, if_neg e]
  · rw [f28 i i0, x29, e10, x28 o o0, x28 i i0, Int.add_assoc]
  · rw [f26 i i0, x29, e10, x28 o o0, e25, x26 i i0, Int.add_assoc]
  · rw [f17 i i0, x29, e10, x28 o o0, e25, x17 i i0, Int.add_assoc]
  · rw [f27 i i0, x29, e10, x28 o o0, e25, x27 i i0, Int.add_assoc]
theorem stG_job {R R1 : Sto} {m o d c th r j : Int} (h : stG R R1 m o d c th r j) (m0 : 0 ≤ m) (o0 : 0 ≤ o) (th0 : 0 ≤ th) (ho : jbO R m = o) (hd : jbD R m = d) (hth : 3 * c + mg R 31 (6 * o + c) = th) (hne : mg R 29 o + j ≠ mnK R d) (hc : clK R d (mg R 29 o + j) = c) : jbO R1 m = o ∧ jbD R1 m = d ∧ jbC R1 m = c ∧ jbT R1 m = th ∧ mg R1 22 th = mg R 22 th - j := by
  obtain ⟨a, g22, g19, g18, g20, g21, g29, g28, g26, g17, g27⟩ := h
  have e1 : jbO R1 m = o := by
    show mg R1 17 m = o
    rw [g17 m m0, if_neg (fun q => hne q.2.1)]; exact ho
  have e2 : jbD R1 m = d := by
    show mg R1 24 (jbO R1 m) = d
    rw [e1, a.mg (by simp), ← hd, ← ho]
  have x29 : mg R1 29 o = mg R 29 o + j := by rw [g29 o o0, if_pos rfl, if_neg hne]
  have e3 : jbC R1 m = c := by
    show clK R1 (jbD R1 m) (mg R1 29 (jbO R1 m)) = c
    rw [e2, e1, x29, a.cl (by simp) (by simp)]; exact hc
  have e4 : jbT R1 m = th := by
    show 3 * jbC R1 m + mg R1 31 (6 * jbO R1 m + jbC R1 m) = th
    rw [e3, e1, a.mg (k := 31) (by simp)]; exact hth
  exact ⟨e1, e2, e3, e4, by rw [g22 th th0, if_pos rfl]⟩
/-- a chain of stitches within a stretch of one colour -/
theorem stretch {n : Int} {ch : Nat → Sto} {L k : Nat} {m o d c th : Int} (hM : ∀ i : Nat, i < L → MI n (ch i)) (m0 : 0 ≤ m) (m1 : ∀ i : Nat, i < L → m < nM (ch i)) (hs : ∀ i : Nat, i < L → stepP (ch i) m (ch (i + 1))) (ho : jbO (ch 0) m = o) (hd : jbD (ch 0) m = d) (hth : 3 * c + mg (ch 0) 31 (6 * o + c) = th) (th0 : 0 ≤ th)
    (hcol : ∀ j : Nat, j < k → clK (ch 0) d (mg (ch 0) 29 o + j) = c) (hend : mg (ch 0) 29 o + k ≤ mnK (ch 0) d) (L1 : 1 ≤ L) (Lk : L ≤ k) : ∃ r : Int, (0 ≤ r ∧ r < mg (ch 0) 14 m) ∧ (hdK (ch 0) m r = c ∨ newP (ch 0) m c r) ∧ ∀ j : Nat, 1 ≤ j → j ≤ L → stG (ch 0) (ch j) m o d c th r j := by
  have hc0 : jbC (ch 0) m = c := by
    show clK (ch 0) (jbD (ch 0) m) (mg (ch 0) 29 (jbO (ch 0) m)) = c
    have := hcol 0 (by omega)
    rw [hd, ho]
    rw [show mg (ch 0) 29 o + ((0 : Nat) : Int) = mg (ch 0) 29 o by omega] at this
    exact this
  have ht0 : jbT (ch 0) m = th := by
    show 3 * jbC (ch 0) m + mg (ch 0) 31 (6 * jbO (ch 0) m + jbC (ch 0) m) = th
    rw [hc0, ho]; exact hth
  obtain ⟨r, hr, hcc, t0, j0, F⟩ := stepP_F (hM 0 (by omega)) m0 (m1 0 (by omega)) (hs 0 (by omega))
  rw [hc0] at hcc F
  rw [ho] at F j0
  rw [hd, ht0] at F
  refine ⟨r, hr, hcc, fun j => ?_⟩
  induction j with
  | zero => intro a; omega
  | succ j ih =>
    intro _ hj
    by_cases e : j = 0
    · subst e; exact F
    · have G := ih (by omega) (by omega)
      have hne : mg (ch 0) 29 o + (j : Int) ≠ mnK (ch 0) d := by omega
      obtain ⟨y1, y2, y3, y4, y5⟩ := stG_job G m0 j0 th0 ho hd hth hne (hcol j (by omega))
      obtain ⟨r', hr', hcc', -, -, F'⟩ := stepP_F (hM j (by omega)) m0 (m1 j (by omega)) (hs j (by omega))
      rw [y1] at F'
      rw [y2, y4] at F'
      rw [y3] at hcc' F'
      have hdr : hdK (ch j) m r = c := by
        have := G.2.2.2.2.1 (6 * m + r) (by omega)
        rw [if_pos rfl] at this
        exact this
      have e14 : mg (ch j) 14 m = mg (ch 0) 14 m := G.1.mg (by simp)
      have hmac := (hM j (by omega)).2.2.2.2.1 m m0 (m1 j (by omega))
      have c0 : 0 ≤ c := by
        have := ((hM j (by omega)).job m0 (m1 j (by omega)) (by rw [y1]; exact j0)).2.2.2.2.2.2.1.1
        rw [y3] at this
        exact this
      have err : r' = r := by
        rcases hcc' with w | w
        · have hdist := hmac.2.2.2.2.2.2.1
          have h6 := hmac.1.2
          rcases (show r' = r ∨ r' < r ∨ r < r' by omega) with v | v | v
          · exact v
          · exact absurd (w.trans hdr.symm) ((hdist r' r hr'.1 v (by omega)).1 (by omega))
          · exact absurd (hdr.trans w.symm) ((hdist r r' hr.1 v (by omega)).1 (by omega))
        · exact absurd hdr (w.1 r hr.1 (by omega))
      subst err
      exact stG_s m0 j0 th0 hr.1 G hne F'
theorem min_ex (f : Nat → Int) : ∀ n : Nat, 1 ≤ n → ∃ r, r < n ∧ ∀ k, k < n → f r ≤ f k
  | 1, _ => ⟨0, by omega, fun k hk => by rw [show k = 0 by omega]; exact Int.le_refl _⟩
  | n + 2, _ => by
    obtain ⟨r, h1, h2⟩ := min_ex f (n + 1) (by omega)
    by_cases e : f r ≤ f (n + 1)
    · refine ⟨r, by omega, fun k hk => ?_⟩
      rcases (show k < n + 1 ∨ k = n + 1 by omega) with w | w
      · exact h2 k w
      · rw [w]; exact e
    · refine ⟨n + 1, by omega, fun k hk => ?_⟩
      rcases (show k < n + 1 ∨ k = n + 1 by omega) with w | w
      · have := h2 k w; omega
      · rw [w]; exact Int.le_refl _
theorem fst_ex (P : Nat → Prop) : ∀ n : Nat, (∃ k, k < n ∧ P k) → ∃ r, r < n ∧ P r ∧ ∀ k, k < r → ¬ P k
  | 0, h => by obtain ⟨k, h1, -⟩ := h; omega
  | n + 1, h => by
    by_cases e : ∃ k, k < n ∧ P k
    · obtain ⟨r, h1, h2, h3⟩ := fst_ex P n e
      exact ⟨r, by omega, h2, h3⟩
    · obtain ⟨k, h1, h2⟩ := h
      have hk : k = n := by
        rcases (show k < n ∨ k = n by omega) with w | w
        · exact absurd ⟨k, w, h2⟩ e
        · exact w
      subst hk
      exact ⟨k, by omega, h2, fun q hq z => e ⟨q, hq, z⟩⟩
/-- where there is an order and thread, a stitch is sewn -/
theorem step_ex {n : Int} {R : Sto} {m : Int} (h : MI n R) (m0 : 0 ≤ m) (m1 : m < nM R) (j0 : 0 ≤ jbO R m) (t0 : 0 < mg R 22 (jbT R m)) : ∃ R', stepP R m R' := by
  have h14 := (h.2.2.2.2.1 m m0 m1).1
  obtain ⟨a, ha⟩ : ∃ a : Nat, mg R 14 m = a := ⟨_, (Int.toNat_of_nonneg (by omega)).symm⟩
  have key : ∃ r, hadP R m (jbC R m) r ∨ newP R m (jbC R m) r := by
    by_cases e1 : ∃ k : Nat, k < a ∧ hdK R m k = jbC R m
    · obtain ⟨k, k1, k2⟩ := e1
      exact ⟨k, Or.inl ⟨by omega, by omega, k2⟩⟩
    · have n1 : ∀ k, 0 ≤ k → k < mg R 14 m → hdK R m k ≠ jbC R m := fun k k0 k1 z => e1 ⟨k.toNat, by omega, by rw [Int.toNat_of_nonneg k0]; exact z⟩
      by_cases e2 : ∃ k : Nat, k < a ∧ hdK R m k = -1
      · obtain ⟨r, r1, r2, r3⟩ := fst_ex (fun k => hdK R m k = -1) a e2
        exact ⟨r, Or.inr ⟨n1, by omega, by omega, Or.inl ⟨r2, fun k k0 k1 z => r3 k.toNat (by omega) (by show hdK R m (k.toNat : Nat) = -1; rw [Int.toNat_of_nonneg k0]; exact z)⟩⟩⟩
      · obtain ⟨r, r1, r2⟩ := min_ex (fun k => ltK R m k) a (by omega)
        refine ⟨r, Or.inr ⟨n1, by omega, by omega, Or.inr ⟨fun k k0 k1 z => e2 ⟨k.toNat, by omega, by rw [Int.toNat_of_nonneg k0]; exact z⟩, fun k k0 k1 => ?_⟩⟩⟩
        have y : ltK R m r ≤ ltK R m (k.toNat : Nat) := r2 k.toNat (by omega)
        rw [Int.toNat_of_nonneg k0] at y
        exact y
  obtain ⟨r, w⟩ := key
  rcases w with w | w
  · exact ⟨_, j0, t0, r, _, Or.inl ⟨w, rfl⟩, rfl⟩
  · exact ⟨_, j0, t0, r, _, Or.inr ⟨w, rfl⟩, rfl⟩
/-- the stretch that the class sews, told of the reference -/
theorem strP_R {n : Int} {B : Nat → Nat} {N : Nat} {S R : Sto} {o p : Nat} {most c s k : Int} (h : CI B N S R) (hI : MI n R) (ho : (o : Int) < nO R) (hP : strP (wOf B R) S o most p c s k) :
    (0 ≤ c ∧ c < 6) ∧ s = sdK R o c ∧ clK R (mg R 24 o) (mg R 29 o) = c ∧ (∀ j, mg R 29 o ≤ j → j < mg R 29 o + k → clK R (mg R 24 o) j = c) ∧ mg R 29 o + k ≤ mnK R (mg R 24 o) ∧ k ≤ most ∧ (0 ≤ s → s < 3 → k ≤ mg R 22 (3 * c + s) ∧ (1 ≤ most → k ≤ 0 → mg R 22 (3 * c + s) ≤ 0)) := by
  obtain ⟨hin, hc, hs, th, r, hth, hr, hk⟩ := hP
  obtain ⟨-, ⟨-, -, -, -, c6, -⟩, -, hsd⟩ := h.2.2.2.2.2.1 o ho
  obtain ⟨c24, -, -, -, c28, -⟩ := hI.2.2.2.2.2.1 o (by omega) ho
  obtain ⟨-, -, -, -, a5, -⟩ := h.2.2.2.1 (mg R 24 o).toNat (by omega)
  have hD := hI.2.2.2.1 _ c24.1 c24.2
  have hdd : (((mg R 24 o).toNat : Nat) : Int) = mg R 24 o := Int.toNat_of_nonneg c24.1
  have hin2 : p < (shN R ((mg R 24 o).toNat : Nat)).toNat ∧ (bgN (dQ R ((mg R 24 o).toNat : Nat)) p : Int) ≤ S.2.1 (2048 + 16 * o) 6 ∧ S.2.1 (2048 + 16 * o) 6 < (bgN (dQ R ((mg R 24 o).toNat : Nat)) (p + 1) : Int) := hin
  have hc2 : c = S.2.1 (qT R B (mg R 24 o).toNat p) 1 := hc
  have hk2 : k = (if r ≤ (bgN (dQ R ((mg R 24 o).toNat : Nat)) (p + 1) : Int) - S.2.1 (2048 + 16 * o) 6 then r else (bgN (dQ R ((mg R 24 o).toNat : Nat)) (p + 1) : Int) - S.2.1 (2048 + 16 * o) 6) := hk
  rw [hdd] at hin2 hk2 a5
  rw [c6] at hin2 hk2
  obtain ⟨p1, p2, p3⟩ := hin2
  have hpn : (p : Int) < shN R (mg R 24 o) := by omega
  rw [a5.2 p hpn] at hc2
  have hend := hD.end
  have hmono := bgN_mono (P := dQ R (mg R 24 o)) (a := p + 1) (shN R (mg R 24 o)).toNat (by omega)
  have hcol : ∀ j, mg R 29 o ≤ j → j < (bgN (dQ R (mg R 24 o)) (p + 1) : Int) → clK R (mg R 24 o) j = c := fun j j0 j1 => by
    obtain ⟨p', p1', p2', p3', p4', -⟩ := hD.pl (j := j.toNat) (by omega)
    have e := bgN_uq (P := dQ R (mg R 24 o)) (a := p) (b := p') (k := j.toNat) (by omega) (by omega) p2' p3'
    rw [Int.toNat_of_nonneg (by omega), ← e] at p4'
    rw [hc2]
    show mg R 3 (7 * mg R 24 o + stK R (mg R 24 o) j / 256) = mg R 3 (7 * mg R 24 o + seqK R (mg R 24 o) p)
    rw [p4']
  have hkr : k ≤ r ∧ k ≤ (bgN (dQ R (mg R 24 o)) (p + 1) : Int) - mg R 29 o ∧ (k ≤ 0 → r ≤ 0) := by rw [hk2]; split <;> omega
  have hrm : r ≤ most ∧ r ≤ th ∧ (1 ≤ most → r ≤ 0 → th ≤ 0) := by rw [hr]; split <;> omega
  have hsh := hD.seq (p := p) (by omega) hpn
  have hc06 : 0 ≤ c ∧ c < 6 := by
    have hst := (hI.or (o := o) (by omega) ho).2.2.2.2.2.2.2.2 (mg R 29 o) (by omega) (by omega)
    have := hst.2
    rw [hcol _ (Int.le_refl _) (by omega)] at this
    exact this
  have hs2 : s = sdK R o c := by
    rw [hs, hsd c.toNat (by omega), Int.toNat_of_nonneg hc06.1]
  refine ⟨hc06, hs2, hcol _ (Int.le_refl _) (by omega), fun j j0 j1 => hcol j j0 (by omega), by omega, by omega, fun s0 s3 => ?_⟩
  rw [if_pos s0, spK_e h hc06 ⟨s0, s3⟩] at hth
  exact ⟨by omega, fun m1 k0 => by have := hrm.2.2 m1 (hkr.2.2 k0); omega⟩
/-- a stretch is sewn, in the class and in the reference -/
theorem CI.sew {n : Int} {B : Nat → Nat} {N : Nat} {S R S4 R' : Sto} {o p : Nat} {m c s k r : Int} (h : CI B N S R) (hI : MI n R) (m0 : 0 ≤ m) (m1 : m < nM R) (ho : (o : Int) < nO R) (hjo : jbO R m = o) (hc : 0 ≤ c ∧ c < 6) (hs : 0 ≤ s ∧ s < 3) (hk : 0 < k) (hr : 0 ≤ r ∧ r < mg R 14 m) (hcc : hdK R m r = c ∨ newP R m c r)
    (G : stG R R' m o (mg R 24 o) c (3 * c + s) r k) (hE : strE (wOf B R) S m.toNat o p c s k S4) : CI B N S4 R' := by
  classical
  obtain ⟨S2, S3, hsew, hob, k6, k5, hfin⟩ := hE
  obtain ⟨b1, b2, b3, b4, b5, b7, bc, bcase⟩ := hsew
  obtain ⟨d1, d2, d3, d4⟩ := hob
  obtain ⟨ga, g22, g19, g18, g20, g21, g29, g28, g26, g17, g27⟩ := G
  have hmm : ((m.toNat : Nat) : Int) = m := Int.toNat_of_nonneg m0
  have hN1 := hI.2.1
  have hmac := hI.2.2.2.2.1
  have hmc := hmac m m0 m1
  have h14 := hmc.1
  have hjob := hI.job m0 m1 (by rw [hjo]; omega)
  rw [hjo] at hjob
  obtain ⟨-, hoI2, -, j26, j27, -⟩ := hjob
  have c28 := hoI2.2.2.2.2.1
  have c24 := hoI2.1
  have hwm : ((wOf B R).m ((wOf B R).g o) : Int) = mnK R (mg R 24 o) := by
    show ((mnK R (((mg R 24 (o : Int)).toNat : Nat) : Int)).toNat : Int) = _
    rw [Int.toNat_of_nonneg c24.1]
    have := (hI.2.2.2.1 _ c24.1 c24.2).mn
    omega
  have hoI := h.2.2.2.2.2.1 o ho
  have hmI := h.2.2.2.2.1 m.toNat (by omega)
  obtain ⟨⟨x1, x2, x3, x4, x5⟩, ⟨y0, y2, y4, y5, y6, y7⟩, y8, y9⟩ := hoI
  rw [y6, hwm] at k6
  rw [y5, y6, hwm] at k5
  have hth : (3 * c + s).toNat < 18 := by omega
  obtain ⟨u, hu⟩ : ∃ u, u = 2048 + 16 * o := ⟨_, rfl⟩
  obtain ⟨v, hv⟩ : ∃ v, v = 1024 + 16 * m.toNat := ⟨_, rfl⟩
  rw [← hu] at x1 x2 x3 x4 x5 y0 y2 y4 y5 y6 y7 y8 y9 k5 k6 d3 d4 hfin
  rw [← hv] at b3 b4 b5 b7 bc bcase
  have hu8 : S.2.2 u 8 = some v := by rw [y8, j27, if_neg (by omega), hv]
  obtain ⟨f, hf⟩ : ∃ f : Prop, f = (mg R 29 o + k = mnK R (mg R 24 o) ∧ mg R 28 o + 1 = mg R 25 o) := ⟨_, rfl⟩
  have r3 : S3.2.2 = S.2.2 := d2.trans b2
  have r1 : S3.1 = S.1 := d1.trans b1
  have hS4 : S4.1 = S.1 ∧ (∀ t j, S4.2.1 t j = if f ∧ t = u ∧ j = 4 then 2 else S3.2.1 t j) ∧ ∀ t j, S4.2.2 t j = if f ∧ t = u ∧ j = 8 then none else if f ∧ t = v ∧ j = 4 then none else S.2.2 t j := by
    rcases hfin with ⟨w1, rfl⟩ | ⟨w1, rfl⟩
    · have hff : f := by
        rw [hf]
        rw [k5, y2] at w1
        by_cases e : mg R 29 o + k = mnK R (mg R 24 o)
        · rw [if_pos e] at w1; exact ⟨e, w1⟩
        · rw [if_neg e] at w1
          have := c28.2.2.2.2.1 j26
          omega
      refine ⟨by rw [endS_1]; exact r1, fun t j => ?_, fun t j => ?_⟩
      · rw [endS_2]
        by_cases e : t = u ∧ j = 4
        · rw [if_pos e, if_pos ⟨hff, e⟩]
        · rw [if_neg e, if_neg (fun q => e q.2)]
      · rw [endS_3, r3, hu8]
        by_cases e : t = u ∧ j = 8
        · rw [if_pos e, if_pos ⟨hff, e⟩]
        · rw [if_neg e, if_neg (show ¬ (f ∧ t = u ∧ j = 8) from fun q => e q.2)]
          by_cases e2 : t = v ∧ j = 4
          · rw [if_pos (show some v = some t ∧ j = 4 from ⟨by rw [e2.1], e2.2⟩), if_pos ⟨hff, e2⟩]
          · rw [if_neg (show ¬ (some v = some t ∧ j = 4) from fun q => e2 ⟨(Option.some.inj q.1).symm, q.2⟩), if_neg (fun q => e2 q.2)]
    · have hff : ¬ f := by
        rw [hf]
        rintro ⟨z1, z2⟩
        rw [k5, y2, if_pos z1] at w1
        exact w1 z2
      refine ⟨r1, fun t j => ?_, fun t j => ?_⟩
      · rw [if_neg (fun q => hff q.1)]
      · rw [if_neg (fun q => hff q.1), if_neg (fun q => hff q.1), r3]
  obtain ⟨t1, t2, t3⟩ := hS4
  have hother : ∀ t, t ≠ 9 → t ≠ u → t ≠ v → t ≠ v + 1 → sm S S4 t := fun t z9 zu zv zv1 => ⟨congrFun t1 t, by
    funext j
    rw [t2, if_neg (fun q => zu q.2.1), d3 t zu, b3 t zv zv1, updI_2, if_neg (fun q => z9 q.1)], by
    funext j
    rw [t3, if_neg (fun q => zu q.2.1), if_neg (fun q => zv q.2.1)]⟩
  have fv : ∀ j, S4.2.1 v j = S2.2.1 v j := fun j => by rw [t2, if_neg (by omega), d3 v (by omega)]
  have fv1 : ∀ j, S4.2.1 (v + 1) j = S2.2.1 (v + 1) j := fun j => by rw [t2, if_neg (by omega), d3 (v + 1) (by omega)]
  have fvS : ∀ t j, t ≠ 9 → (updI S 9 (3 * c + s).toNat (spK S 8 c s + -k)).2.1 t j = S.2.1 t j := fun t j z => by rw [updI_2, if_neg (fun q => z q.1)]
  have fu : ∀ j, j ≠ 4 → S4.2.1 u j = S3.2.1 u j := fun j z => by rw [t2, if_neg (fun q => z q.2.2)]
  have fu' : ∀ j, j ≠ 4 → j ≠ 5 → j ≠ 6 → S4.2.1 u j = S.2.1 u j := fun j z4 z5 z6 => by rw [fu j z4, d4 j (by simp; omega), b3 u (by omega) (by omega), fvS u j (by omega)]
  have hN : nD R' = nD R ∧ nM R' = nM R ∧ nO R' = nO R := ⟨ga.mf, ga.mf, ga.mf⟩
  obtain ⟨u1, u2⟩ := h.upper (R' := R') (S' := S4) hI (fun t ht => hother t (by omega) (by omega) (by omega) (by omega)) (hother 4 (by omega) (by omega) (by omega) (by omega)).2.2 (hother 5 (by omega) (by omega) (by omega) (by omega)).2.2 (fun a i ha => ga.mg (by simp; omega)) hN.1
  obtain ⟨h1, ⟨e1, e3, e5', e7'⟩, -, -, hm, hoo', hst', hfr⟩ := h
  have f1 := hother 1 (by omega) (by omega) (by omega) (by omega)
  refine ⟨h1.fr t1 ⟨f1.2.2, (hother 8 (by omega) (by omega) (by omega) (by omega)).2.2⟩ (h1.nl.fr (by rw [f1.2.1]) (by rw [f1.2.1]) (by rw [f1.2.1]) (hother 5 (by omega) (by omega) (by omega) (by omega)).2.2 (hother 6 (by omega) (by omega) (by omega) (by omega)).2.2 (hother 7 (by omega) (by omega) (by omega) (by omega)).2.2), ⟨?_, ?_, ?_, ?_⟩, u1, u2, fun i hi => ?_, fun q hq => ?_, fun j hj => ?_, hfr.fr t1 hN⟩
  · rw [f1.2.1, e1]; exact (ga.mg (by simp)).symm
  · rw [f1.2.1, e3, hN.1]
  · rw [f1.2.1, e5', hN.2.1]
  · rw [f1.2.1, e7', hN.2.2]
  · rw [hN.2.1] at hi
    have r6 := (hother 6 (by omega) (by omega) (by omega) (by omega)).2.2
    by_cases x : i = m.toNat
    · subst x
      obtain ⟨⟨a1, a2, a3, a4⟩, ⟨z0, z1, z2, z3, z5, z6, z7⟩, z4, zl, zh⟩ := hmI
      rw [← hv] at a1 a2 a3 a4 z0 z1 z2 z3 z4 z5 z6 z7 zl zh
      rw [hmm] at z0 z1 z2 z3 z4 z5 z6 z7 zl zh
      obtain ⟨nn, hnn⟩ : ∃ nn : Nat, mg R 14 m = nn := ⟨_, (Int.toNat_of_nonneg (by omega)).symm⟩
      obtain ⟨cn, hcn⟩ : ∃ cn : Nat, c = cn := ⟨_, (Int.toNat_of_nonneg hc.1).symm⟩
      obtain ⟨rn, hrn⟩ : ∃ rn : Nat, r = rn := ⟨_, (Int.toNat_of_nonneg hr.1).symm⟩
      have hnt : (mg R 14 m).toNat = nn := by omega
      have hct : c.toNat = cn := by omega
      have e14 : mg R' 14 m = mg R 14 m := ga.mg (by simp)
      have h6 : ∀ k, 0 ≤ k → k < 6 → -1 ≤ hdK R m k ∧ hdK R m k < 6 := fun k k0 k6 => ⟨(hmc.2.2.2.2.2.1 k k0 k6).1, (hmc.2.2.2.2.2.1 k k0 k6).2.1⟩
      have hdist := hmc.2.2.2.2.2.2.1
      have g20' : ∀ k : Nat, k < 6 → hdK R' m k = if k = rn then (cn : Int) else hdK R m k := fun k k6 => by
        rw [show hdK R' m k = _ from g20 _ (by omega)]
        by_cases e : k = rn
        · rw [if_pos (by omega), if_pos e, hcn]
        · rw [if_neg (by omega), if_neg e]
      have hW : (wOf B R).h m.toNat = hset R m nn := by
        show hset R ((m.toNat : Nat) : Int) (mg R 14 ((m.toNat : Nat) : Int)).toNat = _
        rw [hmm, hnt]
      rw [hW, hct] at bcase
      rw [hct] at bc b5
      have hlt : ∀ k' : Nat, k' < nn → hdK R m k' ≠ -1 → (updI S 9 (3 * c + s).toNat (spK S 8 c s + -k)).2.1 (v + 1) (hdK R m k').toNat = ltK R m k' := fun k' k1 k2 => by
        rw [fvS _ _ (by omega)]
        exact zh k' (by omega) (by omega) k2
      have hbit : (hset R m nn).testBit cn = true ↔ hdK R m rn = cn := by
        rw [hset_b h6 cn nn (by omega)]
        constructor
        · rintro ⟨k', k1, k2⟩
          rcases hcc with w | w
          · rw [hcn, hrn] at w; exact w
          · exact absurd (by rw [hcn]; exact k2) (w.1 k' (by omega) (by omega))
        · intro w; exact ⟨rn, by omega, w⟩
      have hother2 : ∀ k' : Nat, k' < nn → k' ≠ rn → hdK R m k' ≠ cn := fun k' k1 k2 z => by
        rcases hcc with w | w
        · rw [hcn, hrn] at w
          rcases (show k' < rn ∨ rn < k' by omega) with q | q
          · exact (hdist k' rn (by omega) (by omega) (by omega)).1 (by omega) (z.trans w.symm)
          · exact (hdist rn k' (by omega) (by omega) (by omega)).1 (by omega) (w.trans z.symm)
        · exact w.1 k' (by omega) (by omega) (by rw [hcn]; exact z)
      refine ⟨⟨by rw [r6, ← hv]; exact a1, by rw [t1, ← hv]; exact a2, by rw [t3, ← hv, if_neg (by omega), if_neg (by omega)]; exact a3, by rw [t1, ← hv]; exact a4⟩, ⟨?_, ?_, ?_, ?_, ?_, ?_, ?_⟩, ?_, fun c' hc' => ?_, fun k' k0 k1 k2 => ?_⟩
      · rw [← hv, fv, b4 0 (by omega) (by omega) (by omega), fvS v 0 (by omega), hmm]; exact z0
      · rw [← hv, fv, b4 1 (by omega) (by omega) (by omega), fvS v 1 (by omega), hmm, e14]; exact z1
      · rw [← hv, fv, b4 2 (by omega) (by omega) (by omega), fvS v 2 (by omega), hmm, ga.mg (k := 15) (by simp)]; exact z2
      · rw [← hv, fv, b4 3 (by omega) (by omega) (by omega), fvS v 3 (by omega), hmm, ga.mg (k := 16) (by simp)]; exact z3
      · rw [← hv, fv, hmm, g18 m m0]
        rcases bcase with ⟨w1, -, w3⟩ | ⟨w1, w3, -⟩
        · rw [w3, fvS v 5 (by omega), if_neg (fun q => q.2 (by rw [hcn, hrn]; exact hbit.mp w1))]; exact z5
        · rw [w3, fvS v 5 (by omega), if_pos ⟨rfl, fun q => by rw [hcn, hrn] at q; rw [hbit.mpr q] at w1; cases w1⟩, z5]
      · rw [← hv, fv, hmm, e14, hnt]
        rw [hnt] at z6
        rcases bcase with ⟨w1, w2, -⟩ | ⟨w1, -, b', w2, w3⟩
        · rw [w2, fvS v 6 (by omega), z6]
          have hh := hbit.mp w1
          rw [hset_fl (R := R) (R' := R') (i := m) (fun k k0 k6 => ?_) nn (by omega)]
          have := g20' k.toNat (by omega)
          rw [Int.toNat_of_nonneg k0] at this
          rw [this]
          by_cases e : k.toNat = rn
          · rw [if_pos e, ← hh, ← e, Int.toNat_of_nonneg k0]
          · rw [if_neg e]
        · have hnew : newP R m cn rn := by
            rcases hcc with q | q
            · rw [hcn, hrn] at q; rw [hbit.mpr q] at w1; cases w1
            · rw [hcn, hrn] at q; exact q
          rw [w3, ld_e h6 hdist (by omega) hnn (by rw [fvS v 1 (by omega), z1]; exact hnn) rfl hlt hnew w2, hset_new h6 (fun k l a b e => (hdist k l a b e).1) (by omega) (by omega) (by omega) g20']
      · rw [← hv, fv, b7, fvS v 7 (by omega), z7, hmm, g19 m m0, if_pos rfl]
      · rw [← hv, hmm, t3, if_neg (by omega), g17 m m0]
        by_cases e : f
        · have e2 := e
          rw [hf] at e2
          have e3 : m = m ∧ mg R 29 o + k = mnK R (mg R 24 o) ∧ mg R 28 o + 1 = mg R 25 o := ⟨rfl, e2⟩
          rw [if_pos ⟨e, rfl, rfl⟩, if_pos e3, if_pos rfl]
        · have e2 : ¬ (m = m ∧ mg R 29 o + k = mnK R (mg R 24 o) ∧ mg R 28 o + 1 = mg R 25 o) := fun q => e (by rw [hf]; exact q.2)
          rw [if_neg (fun q => e q.1), if_neg e2]; exact z4
      · rw [← hv, fv1, hmm, g19 m m0, if_pos rfl]
        have zl' := zl c' hc'
        by_cases e : c' = cn
        · rw [e, bc, fvS v 7 (by omega), z7]
          have := hmc.2.2.2.2.1
          omega
        · rw [b5 c' e, fvS (v + 1) c' (by omega)]; omega
      · rw [hmm] at k1 k2 ⊢
        rw [e14] at k1
        have hk2 := g20' k'.toNat (by omega)
        rw [Int.toNat_of_nonneg k0] at hk2
        have l2 : ltK R' m k' = _ := g21 (6 * m + k') (by omega)
        rw [← hv, fv1, hk2, l2]
        rw [hk2] at k2
        by_cases e : k'.toNat = rn
        · rw [if_pos e, if_pos (by omega), Int.toNat_natCast, bc, fvS v 7 (by omega), z7]
        · rw [if_neg e] at k2 ⊢
          rw [if_neg (by omega)]
          have hne := hother2 k'.toNat (by omega) e
          rw [Int.toNat_of_nonneg k0] at hne
          have := h6 k' k0 (by omega)
          rw [b5 _ (by omega), fvS (v + 1) _ (by omega)]
          exact zh k' k0 k1 k2
    · have hmi := hmac i (by omega) (by omega)
      refine (hm i hi).fl hmi.1.2 (by rw [r6]) (hother _ (by omega) (by omega) (by omega) (by omega)) (hother _ (by omega) (by omega) (by omega) (by omega)) (fun a a1 a2 => ?_) (fun k k0 k6 => ⟨?_, ?_⟩)
      · rcases (show a = 14 ∨ a = 15 ∨ a = 16 ∨ a = 17 ∨ a = 18 ∨ a = 19 by omega) with rfl | rfl | rfl | rfl | rfl | rfl
        · exact ga.mg (by simp)
        · exact ga.mg (by simp)
        · exact ga.mg (by simp)
        · rw [g17 i (by omega), if_neg (by omega)]
        · rw [g18 i (by omega), if_neg (by omega)]
        · rw [g19 i (by omega), if_neg (by omega)]
      · rw [show hdK R' i k = _ from g20 _ (by omega), if_neg (by omega)]
      · rw [show ltK R' i k = _ from g21 _ (by omega), if_neg (by omega)]
  · rw [hN.2.2] at hq
    have r7 := (hother 7 (by omega) (by omega) (by omega) (by omega)).2.2
    by_cases x : q = o
    · subst x
      refine ⟨⟨by rw [r7, ← hu]; exact x1, by rw [t1, ← hu]; exact x2, by rw [t3, ← hu, if_neg (by omega), if_neg (by omega)]; exact x3, by rw [t1, ← hu]; exact x4, ?_⟩, ⟨?_, ?_, ?_, ?_, ?_, ?_⟩, ?_, fun c' hc' => ?_⟩
      · rw [t3, ← hu, if_neg (by omega), if_neg (by omega), ga.mg (k := 24) (by simp)]; exact x5
      · rw [← hu, fu' 0 (by omega) (by omega) (by omega)]; exact y0
      · rw [← hu, fu' 2 (by omega) (by omega) (by omega), ga.mg (k := 25) (by simp)]; exact y2
      · rw [← hu, t2, g26 q (by omega)]
        by_cases e : f
        · have e2 := e
          rw [hf] at e2
          rw [if_pos ⟨e, rfl, rfl⟩, if_pos ⟨rfl, e2⟩]
        · have e2 : ¬ ((q : Int) = q ∧ mg R 29 q + k = mnK R (mg R 24 q) ∧ mg R 28 q + 1 = mg R 25 q) := fun z => e (by rw [hf]; exact z.2)
          rw [if_neg (fun z => e z.1), if_neg e2, d4 4 (by simp), b3 u (by omega) (by omega), fvS u 4 (by omega)]; exact y4
      · rw [← hu, fu 5 (by omega), k5, g28 q (by omega)]
        by_cases e : mg R 29 q + k = mnK R (mg R 24 q)
        · rw [if_pos e, if_pos ⟨rfl, e⟩]
        · rw [if_neg e, if_neg (fun z => e z.2)]
      · rw [← hu, fu 6 (by omega), k6, g29 q (by omega), if_pos rfl]
      · rw [← hu, fu' 7 (by omega) (by omega) (by omega), ga.mg (k := 30) (by simp)]; exact y7
      · rw [← hu, t3, g27 q (by omega)]
        by_cases e : f
        · have e2 := e
          rw [hf] at e2
          have e3 : (q : Int) = q ∧ mg R 29 q + k = mnK R (mg R 24 q) ∧ mg R 28 q + 1 = mg R 25 q := ⟨rfl, e2⟩
          rw [if_pos ⟨e, rfl, rfl⟩, if_pos e3, if_pos rfl]
        · have e2 : ¬ ((q : Int) = q ∧ mg R 29 q + k = mnK R (mg R 24 q) ∧ mg R 28 q + 1 = mg R 25 q) := fun z => e (by rw [hf]; exact z.2)
          rw [if_neg (fun z => e z.1), if_neg (by omega), if_neg e2]; exact y8
      · rw [← hu, (hother (u + 1) (by omega) (by omega) (by omega) (by omega)).2.1, show sdK R' q c' = sdK R q c' from ga.mg (by simp)]; exact y9 c' hc'
    · refine (hoo' q hq).fl (by rw [r7]) (hother _ (by omega) (by omega) (by omega) (by omega)) (hother _ (by omega) (by omega) (by omega) (by omega)) (fun a a1 a2 => ?_) (fun c hc => ga.mg (by simp))
      rcases (show a = 24 ∨ a = 25 ∨ a = 26 ∨ a = 27 ∨ a = 28 ∨ a = 29 ∨ a = 30 by omega) with rfl | rfl | rfl | rfl | rfl | rfl | rfl
      · exact ga.mg (by simp)
      · exact ga.mg (by simp)
      · rw [g26 q (by omega), if_neg (by omega)]
      · rw [g27 q (by omega), if_neg (by omega)]
      · rw [g28 q (by omega), if_neg (by omega)]
      · rw [g29 q (by omega), if_neg (by omega)]
      · exact ga.mg (by simp)
  · rw [t2, if_neg (by omega), d3 9 (by omega), b3 9 (by omega) (by omega), updI_2, g22 j (by omega)]
    have hsj := hst' j hj
    by_cases e : j = (3 * c + s).toNat
    · have hj3 : (j : Int) = 3 * c + s := by rw [e]; exact Int.toNat_of_nonneg (Int.add_nonneg (Int.mul_nonneg (by decide) hc.1) hs.1)
      rw [if_pos ⟨rfl, e⟩, if_pos hj3]
      have : spK S 8 c s = S.2.1 9 j := by rw [e]; rfl
      rw [this, hsj, hj3, Int.sub_eq_add_neg]
    · rw [if_neg (fun z => e z.2), if_neg (fun z => e (by rw [← z, Int.toNat_natCast]))]; exact hsj
theorem stepP_det {n : Int} {R R1 R2 : Sto} {m : Int} (h : MI n R) (m0 : 0 ≤ m) (m1 : m < nM R) (h1 : stepP R m R1) (h2 : stepP R m R2) : R1 = R2 := by
  obtain ⟨j0, t0, r, T, hT, rfl⟩ := h1
  obtain ⟨-, -, r', T', hT', rfl⟩ := h2
  have hmc := h.2.2.2.2.1 m m0 m1
  have h14 := hmc.1.2
  have hd := hmc.2.2.2.2.2.2.1
  have hc0 := (h.job m0 m1 j0).2.2.2.2.2.2.1.1
  have uq : ∀ a b, 0 ≤ a → a < mg R 14 m → 0 ≤ b → b < mg R 14 m → hdK R m a ≠ -1 → hdK R m b ≠ -1 → (hdK R m a = hdK R m b ∨ ltK R m a = ltK R m b) → a = b := fun a b a0 a1 b0 b1 ea eb w => by
    rcases (show a = b ∨ a < b ∨ b < a by omega) with v | v | v
    · exact v
    · have z := hd a b a0 v (by omega)
      rcases w with w | w
      · exact absurd w (z.1 ea)
      · exact absurd w (z.2 ea eb)
    · have z := hd b a b0 v (by omega)
      rcases w with w | w
      · exact absurd w.symm (z.1 eb)
      · exact absurd w.symm (z.2 eb ea)
  have hrr : r = r' ∧ T = T' := by
    rcases hT with ⟨⟨a1, a2, a3⟩, e⟩ | ⟨⟨a1, a2, a3, a4⟩, e⟩
    · rcases hT' with ⟨⟨b1, b2, b3⟩, e'⟩ | ⟨⟨b1, -⟩, -⟩
      · exact ⟨uq r r' a1 a2 b1 b2 (by omega) (by omega) (Or.inl (a3.trans b3.symm)), e.trans e'.symm⟩
      · exact absurd a3 (b1 r a1 a2)
    · rcases hT' with ⟨⟨b1, b2, b3⟩, -⟩ | ⟨⟨b1, b2, b3, b4⟩, e'⟩
      · exact absurd b3 (a1 r' b1 b2)
      · have hr : r = r' := by
          rcases a4 with ⟨c1, c2⟩ | ⟨c1, c2⟩
          · rcases b4 with ⟨d1, d2⟩ | ⟨d1, -⟩
            · rcases (show r = r' ∨ r < r' ∨ r' < r by omega) with v | v | v
              · exact v
              · exact absurd c1 (d2 r a2 v)
              · exact absurd d1 (c2 r' b2 v)
            · exact absurd c1 (d1 r a2 a3)
          · rcases b4 with ⟨d1, -⟩ | ⟨d1, d2⟩
            · exact absurd d1 (c1 r' b2 b3)
            · have y1 := c2 r' b2 b3
              have y2 := d2 r a2 a3
              exact uq r r' a2 a3 b2 b3 (c1 r a2 a3) (c1 r' b2 b3) (Or.inr (by omega))
        exact ⟨hr, by rw [e, e', hr]⟩
  rw [hrr.1, hrr.2]
/-- a complete run of the reference -/
def runP (R : Sto) (m st v : Int) (ch : Nat → Sto) : Prop := ch 0 = thr R 0 ∧ 0 ≤ v ∧ v ≤ st ∧ (∀ i : Nat, (i : Int) < v → stepP (ch i) m (ch (i + 1))) ∧ (v = st ∨ mg (ch v.toNat) 17 m = -1 ∨ (0 ≤ jbO (ch v.toNat) m ∧ mg (ch v.toNat) 22 (jbT (ch v.toNat) m) = 0))
theorem runP_det {n : Int} {R : Sto} {m st v : Int} {ch ch' : Nat → Sto} {x : Nat} (hn : n + 1 ≤ 15000) (hI : MI n R) (m0 : 0 ≤ m) (m1 : m < nM R) (hs : st ≤ 100000) (hx : (x : Int) ≤ st) (h0 : ch 0 = thr R 0) (hch : ∀ i : Nat, i < x → stepP (ch i) m (ch (i + 1))) (hM : ∀ i : Nat, i ≤ x → MI (n + 1) (ch i) ∧ nM (ch i) = nM R) (hr : runP R m st v ch') : ∀ i : Nat, i ≤ x → (i : Int) ≤ v ∧ ch' i = ch i := by
  obtain ⟨r0, r1, r2, r3, r4⟩ := hr
  intro i
  induction i with
  | zero => intro _; exact ⟨r1, r0.trans h0.symm⟩
  | succ i ih =>
    intro hi
    obtain ⟨y1, y2⟩ := ih (by omega)
    have hst := hch i (by omega)
    have hlt : (i : Int) < v := by
      rcases (show (i : Int) < v ∨ v = i by omega) with w | w
      · exact w
      · exfalso
        rw [w, Int.toNat_natCast, y2] at r4
        obtain ⟨j0, t0, -⟩ := hst
        rcases r4 with w1 | w1 | w1
        · omega
        · have : jbO (ch i) m = -1 := w1
          omega
        · omega
    refine ⟨by omega, ?_⟩
    have s1 := r3 i hlt
    rw [y2] at s1
    obtain ⟨hMi, hni⟩ := hM i (by omega)
    exact stepP_det hMi m0 (by omega) s1 hst
theorem strE_ty {W : GW} {S S4 : Sto} {i o p : Nat} {c s k : Int} (h : strE W S i o p c s k S4) : S4.1 = S.1 := by
  obtain ⟨S2, S3, hsew, hob, -, -, hfin⟩ := h
  have e : S3.1 = S.1 := hob.1.trans hsew.1
  rcases hfin with ⟨-, rfl⟩ | ⟨-, rfl⟩
  · rw [endS_1]; exact e
  · exact e
theorem ag_run {n : Int} {B : Nat → Nat} {N : Nat} {S R : Sto} {m st : Int} (h : CI B N S R) (hI : MI n R) (hn : n + 1 ≤ 15000) (him : InR m) (his : InR st) {post : Res → Sto → Prop} (hp : ∀ r S1, okr [0, 1, 2] r = true → tyF S S1 → agC em1 (runR R m st) r S1 → post r S1) : s_runC [vT 1, vI m, vI st] S post := by
  have e5 := h.2.1.2.2.1
  refine ⟨wOf B R, h.cw hI, ⟨him, his⟩, fun hn => hp _ _ rfl (fun _ _ => rfl) fun k v R' ho => ?_, fun hv hn => hp _ _ rfl (fun _ _ => rfl) fun k v R' ho => ?_, fun hv hs => ?_⟩
  · obtain ⟨o1, o2, -⟩ := ho
    rw [e5] at hn
    rw [if_pos hn] at o1
    rw [o2 (by omega)]
    exact ⟨o1, B, N, h.th hI _⟩
  · obtain ⟨o1, o2, -⟩ := ho
    rw [e5] at hv
    rw [if_neg (fun y => y hv), if_pos hn] at o1
    rw [o2 (by omega)]
    exact ⟨o1, B, N, h.th hI _⟩
  · rw [e5] at hv
    obtain ⟨m0, m1⟩ := hv
    have hmm : ((m.toNat : Nat) : Int) = m := Int.toNat_of_nonneg m0
    have a3 : S.2.2 (1024 + 16 * m.toNat) 4 = if mg R 17 m = -1 then none else some (2048 + 16 * (mg R 17 m).toNat) := by
      have := (h.2.2.2.2.1 m.toNat (by omega)).2.2.1
      rw [hmm] at this; exact this
    refine ⟨fun hj => hp _ _ rfl (fun _ _ => rfl) fun k v R' ho => ?_, fun hj => ?_⟩
    · obtain ⟨o1, o2, -⟩ := ho
      have e : mg R 17 m = -1 := by
        by_cases e : mg R 17 m = -1
        · exact e
        · rw [a3, if_neg e] at hj; cases hj
      rw [if_neg (fun y => y ⟨m0, m1⟩), if_neg (fun y => y hs), if_pos e] at o1
      rw [o2 (by omega)]
      exact ⟨o1, B, N, h.th hI _⟩
    · have hne : mg R 17 m ≠ -1 := fun e => hj (by rw [a3, if_pos e])
      have hmc := hI.2.2.2.2.1 m m0 m1
      have hMI : ∀ (ch : Nat → Sto) (L : Nat), ch 0 = thr R 0 → L ≤ 100000 → (∀ i : Nat, i < L → stepP (ch i) m (ch (i + 1))) → ∀ i : Nat, i ≤ L → MI (n + 1) (ch i) ∧ nM (ch i) = nM R := fun ch L c0 hL hs i hi => by
        have g18 : mg (ch 0) 18 m = mg R 18 m := by rw [c0]; exact th_mg'
        have g19 : mg (ch 0) 19 m = mg R 19 m := by rw [c0]; exact th_mg'
        have gn : nM (ch 0) = nM R := by rw [c0]; rfl
        obtain ⟨y1, y2, -⟩ := run_MI (n := n) (m := m) (ch := ch) (by rw [c0]; exact (hI.up hn).th0) m0 (by rw [gn]; exact m1) ⟨by rw [g19]; exact hmc.2.2.2.2.1.2, by rw [g18]; exact hmc.2.2.2.1.2⟩ i (by omega) (fun q hq => hs q (by omega))
        exact ⟨y1, y2.trans gn⟩
      have fin : ∀ (x : Int) (S1 : Sto), 0 ≤ x → tyF S S1 → (∀ v ch, runP R m st v ch → x = v ∧ CI B N S1 (ch x.toNat)) → post (.inl (some (vI x))) S1 := fun x S1 x0 hty hx => hp _ _ rfl hty fun k v R' ho => by
        obtain ⟨o1, -, o3⟩ := ho
        rw [if_neg (fun y => y ⟨m0, m1⟩), if_neg (fun y => y hs), if_neg hne] at o1
        obtain ⟨ch, c0, v0, v1, cv, cs, ce⟩ := o3 o1
        rw [← cv] at ce
        obtain ⟨y1, y2⟩ := hx v ch ⟨c0, v0, v1, cs, ce⟩
        refine ⟨⟨o1, y1.symm⟩, B, N, ?_⟩
        rw [← cv, ← y1]; exact y2
      refine ⟨fun x S1 => tyF S S1 ∧ ∃ ch : Nat → Sto, ch 0 = thr R 0 ∧ (∀ i : Nat, i < x.toNat → stepP (ch i) m (ch (i + 1))) ∧ CI B N S1 (ch x.toNat), ⟨fun _ _ => rfl, fun _ => thr R 0, rfl, fun i hi => by simp at hi, h.th hI _⟩, fun S1 hJ => ?_, fun x S1 x0 xs hJ => ?_⟩
      · obtain ⟨hty, ch, c0, cs, cI⟩ := hJ
        refine fin st S1 (by omega) hty fun v ch' hr => ?_
        have hd := runP_det (x := st.toNat) hn hI m0 m1 hs.2 (by omega) c0 cs (hMI ch st.toNat c0 (by omega) cs) hr st.toNat (Nat.le_refl _)
        have hv2 := hr.2.2.1
        exact ⟨by omega, by rw [hd.2]; exact cI⟩
      · obtain ⟨hty, ch, c0, cs, cI⟩ := hJ
        obtain ⟨xn, hxn⟩ : ∃ xn : Nat, x = xn := ⟨_, (Int.toNat_of_nonneg x0).symm⟩
        have hxt : x.toNat = xn := by omega
        rw [hxt] at cs cI
        have hMall := hMI ch xn c0 (by omega) cs
        obtain ⟨hMx, hnx⟩ := hMall xn (Nat.le_refl _)
        have fin2 : (¬ ∃ R'', stepP (ch xn) m R'') → post (.inl (some (vI x))) S1 := fun hno => fin x S1 x0 hty fun v ch' hr => by
          have hd := runP_det (x := xn) hn hI m0 m1 hs.2 (by omega) c0 cs hMall hr xn (Nat.le_refl _)
          rw [hxt]
          refine ⟨?_, by rw [hd.2]; exact cI⟩
          rcases (show x = v ∨ (xn : Int) < v by omega) with w | w
          · exact w
          · exact (hno (by rw [← hd.2]; exact ⟨_, hr.2.2.2.1 xn w⟩)).elim
        have m1x : m < nM (ch xn) := by omega
        have b3 : S1.2.2 (1024 + 16 * m.toNat) 4 = if mg (ch xn) 17 m = -1 then none else some (2048 + 16 * (mg (ch xn) 17 m).toNat) := by
          have := (cI.2.2.2.2.1 m.toNat (by omega)).2.2.1
          rw [hmm] at this; exact this
        refine ⟨wOf B (ch xn), cI.cw hMx, by rw [cI.2.1.2.2.1]; exact m1x, fun hno => fin2 fun ⟨R'', hR''⟩ => ?_, fun o p c s k ho hor hP => ?_⟩
        · have e : mg (ch xn) 17 m = -1 := by
            by_cases e : mg (ch xn) 17 m = -1
            · exact e
            · rw [b3, if_neg e] at hno; cases hno
          have : 0 ≤ jbO (ch xn) m := hR''.1
          have e2 : jbO (ch xn) m = -1 := e
          omega
        · have hne2 : mg (ch xn) 17 m ≠ -1 := fun e => by rw [b3, if_pos e] at hor; cases hor
          have hj1 := (hMx.2.2.2.2.1 m m0 m1x).2.2.2.2.2.2.2.1
          have hjo : jbO (ch xn) m = (o : Int) := by
            rw [b3, if_neg hne2] at hor
            have := Option.some.inj hor
            show mg (ch xn) 17 m = o
            omega
          rw [cI.2.1.2.2.2] at ho
          obtain ⟨hc, hs2, hcl, hcol, hend, hmost, hstk⟩ := strP_R cI hMx ho hP
          have hjob := hMx.job m0 m1x (by rw [hjo]; omega)
          have hjc : jbC (ch xn) m = c := by
            show clK (ch xn) (mg (ch xn) 24 (jbO (ch xn) m)) (mg (ch xn) 29 (jbO (ch xn) m)) = c
            rw [hjo]; exact hcl
          have hsr := hjob.2.2.2.2.2.2.2.1
          rw [hjo, hjc] at hsr
          have hsr' : 0 ≤ s ∧ s < 3 := by rw [hs2]; exact hsr
          have hjt : jbT (ch xn) m = 3 * c + s := by
            show 3 * jbC (ch xn) m + mg (ch xn) 31 (6 * jbO (ch xn) m + jbC (ch xn) m) = 3 * c + s
            rw [hjc, hjo, hs2]
          obtain ⟨hk1, hk2⟩ := hstk hsr'.1 hsr'.2
          refine ⟨fun hk => fin2 fun ⟨R'', hR''⟩ => ?_, fun hk => ⟨hmost, fun S4 hE => ?_⟩⟩
          · have := hR''.2.1
            rw [hjt] at this
            have := hk2 (by omega) hk
            omega
          · obtain ⟨kn, hkn⟩ : ∃ kn : Nat, k = kn := ⟨_, (Int.toNat_of_nonneg (by omega)).symm⟩
            rw [hkn] at hend hcol
            have hcol' : ∀ j : Nat, j < kn → clK (ch xn) (mg (ch xn) 24 o) (mg (ch xn) 29 o + j) = c := fun j hj => hcol _ (by omega) (by omega)
            have hjd : jbD (ch xn) m = mg (ch xn) 24 o := by show mg (ch xn) 24 (jbO (ch xn) m) = _; rw [hjo]
            have str : ∀ (c2 : Nat → Sto) (L : Nat), (∀ i, i ≤ xn → c2 i = ch i) → 1 ≤ L → L ≤ kn → (∀ i : Nat, i < xn + L → stepP (c2 i) m (c2 (i + 1))) → ∃ r : Int, (0 ≤ r ∧ r < mg (ch xn) 14 m) ∧ (hdK (ch xn) m r = c ∨ newP (ch xn) m c r) ∧ stG (ch xn) (c2 (xn + L)) m o (mg (ch xn) 24 o) c (3 * c + s) r L := fun c2 L e L1 L2 hs3 => by
              have hMc := hMI c2 (xn + L) (by rw [e 0 (by omega)]; exact c0) (by omega) hs3
              have e0 : c2 (xn + 0) = ch xn := e xn (Nat.le_refl _)
              have := stretch (ch := fun i => c2 (xn + i)) (n := n + 1) (L := L) (k := kn) (m := m) (o := o) (d := mg (ch xn) 24 o) (c := c) (th := 3 * c + s) (fun i hi => (hMc (xn + i) (by omega)).1) m0 (fun i hi => by rw [(hMc (xn + i) (by omega)).2]; exact m1) (fun i hi => hs3 (xn + i) (by omega)) (by show jbO (c2 (xn + 0)) m = o; rw [e0]; exact hjo) (by show jbD (c2 (xn + 0)) m = _; rw [e0]; exact hjd) (by show 3 * c + mg (c2 (xn + 0)) 31 (6 * o + c) = _; rw [e0, hs2]) (by omega)
                (fun j hj => by show clK (c2 (xn + 0)) _ (mg (c2 (xn + 0)) 29 o + j) = c; rw [e0]; exact hcol' j hj) (by show mg (c2 (xn + 0)) 29 o + kn ≤ mnK (c2 (xn + 0)) _; rw [e0]; exact hend) L1 L2
              obtain ⟨r, w1, w2, w3⟩ := this
              have w3' := w3 L L1 (Nat.le_refl _)
              have w1' : 0 ≤ r ∧ r < mg (c2 (xn + 0)) 14 m := w1
              have w2' : hdK (c2 (xn + 0)) m r = c ∨ newP (c2 (xn + 0)) m c r := w2
              have w3'' : stG (c2 (xn + 0)) (c2 (xn + L)) m o (mg (ch xn) 24 o) c (3 * c + s) r L := w3'
              rw [e0] at w1' w2' w3''
              exact ⟨r, w1', w2', w3''⟩
            have ex : ∀ L : Nat, L ≤ kn → ∃ c2 : Nat → Sto, (∀ i, i ≤ xn → c2 i = ch i) ∧ ∀ i : Nat, i < xn + L → stepP (c2 i) m (c2 (i + 1)) := fun L => by
              induction L with
              | zero => intro _; exact ⟨ch, fun _ _ => rfl, fun i hi => cs i (by omega)⟩
              | succ L ih =>
                intro hL
                obtain ⟨c2, e, hs3⟩ := ih (by omega)
                have hMc := hMI c2 (xn + L) (by rw [e 0 (by omega)]; exact c0) (by omega) hs3
                obtain ⟨hMl, hnl⟩ := hMc (xn + L) (Nat.le_refl _)
                have step : ∃ R'', stepP (c2 (xn + L)) m R'' := by
                  by_cases z : L = 0
                  · subst z
                    have e0 : c2 (xn + 0) = ch xn := e xn (Nat.le_refl _)
                    rw [e0]
                    exact step_ex hMx m0 m1x (by rw [hjo]; omega) (by rw [hjt]; omega)
                  · obtain ⟨r, -, -, G⟩ := str c2 L e (by omega) (by omega) hs3
                    obtain ⟨y1, y2, y3, y4, y5⟩ := stG_job G m0 (by omega) (by omega) hjo hjd (by rw [hs2]) (by omega) (hcol' L (by omega))
                    exact step_ex hMl m0 (by omega) (by rw [y1]; omega) (by rw [y4, y5]; omega)
                obtain ⟨R'', hR''⟩ := step
                refine ⟨fun i => if i ≤ xn + L then c2 i else R'', fun i hi => by show (if i ≤ xn + L then c2 i else R'') = _; rw [if_pos (by omega)]; exact e i hi, fun i hi => ?_⟩
                show stepP (if i ≤ xn + L then c2 i else R'') m (if i + 1 ≤ xn + L then c2 (i + 1) else R'')
                rw [if_pos (by omega)]
                by_cases z : i + 1 ≤ xn + L
                · rw [if_pos z]; exact hs3 i (by omega)
                · rw [if_neg z, show i = xn + L by omega]; exact hR''
            obtain ⟨c2, e, hs3⟩ := ex kn (Nat.le_refl _)
            obtain ⟨r, w1, w2, G⟩ := str c2 kn e (by omega) (Nat.le_refl _) hs3
            have hxk : (x + k).toNat = xn + kn := by omega
            refine ⟨fun t ht => (congrFun (strE_ty hE) t).trans (hty t ht), c2, by rw [e 0 (by omega)]; exact c0, by rw [hxk]; exact hs3, ?_⟩
            rw [hxk]
            rw [← hkn] at G
            exact cI.sew hMx m0 m1x ho hjo hc hsr' hk w1 w2 G hE
theorem jjP_congr {S S' : Sto} {t n : Nat} {q q' : Nat → Nat} {P P' : Nat → Int → Int → Prop} {hid : Int} {k : Nat} (hP : ∀ p, p < n → P' p = P p) (ht : S'.2.1 t = S.2.1 t) (hq : ∀ p, p < n → S'.2.1 (q' p) 1 = S.2.1 (q p) 1) : jjP S' t n q' P' hid k ↔ jjP S t n q P hid k := by
  have hb : ∀ p, p ≤ n → bgN P' p = bgN P p := fun p hp => bgN_congr p fun p' hp' => hP p' (by omega)
  have hh : ∀ (p : Int) (a b : Int), hidP n P' p a b ↔ hidP n P p a b := fun p a b => by
    unfold hidP
    constructor
    · rintro ⟨k, k1, k2, k3⟩
      exact ⟨k, k1, k2, by rw [← hP k k2]; exact k3⟩
    · rintro ⟨k, k1, k2, k3⟩
      exact ⟨k, k1, k2, by rw [hP k k2]; exact k3⟩
  unfold jjP jpP
  rw [ht]
  constructor
  · rintro ⟨p, p1, p2, p3, p4, p5, p6⟩
    rw [hb p (by omega)] at p2 p4
    rw [hb (p + 1) (by omega)] at p3
    rw [hh] at p6
    refine ⟨p, p1, p2, p3, ?_, p5, p6⟩
    rcases p4 with w | ⟨w1, w2⟩
    · exact Or.inl w
    · rw [hq (p - 1) (by omega), hq p p1] at w2
      exact Or.inr ⟨w1, w2⟩
  · rintro ⟨p, p1, p2, p3, p4, p5, p6⟩
    rw [← hh] at p6
    refine ⟨p, p1, by rw [hb p (by omega)]; exact p2, by rw [hb (p + 1) (by omega)]; exact p3, ?_, p5, p6⟩
    rcases p4 with w | ⟨w1, w2⟩
    · exact Or.inl (by rw [hb p (by omega)]; exact w)
    · rw [← hq (p - 1) (by omega), ← hq p p1] at w2
      exact Or.inr ⟨w1, w2⟩
theorem jjN_congr {S S' : Sto} {t n : Nat} {q q' : Nat → Nat} {P P' : Nat → Int → Int → Prop} {hid : Int} {k : Nat} (hP : ∀ p, p < n → P' p = P p) (ht : S'.2.1 t = S.2.1 t) (hq : ∀ p, p < n → S'.2.1 (q' p) 1 = S.2.1 (q p) 1) : jjN S' t n q' P' hid k = jjN S t n q P hid k := by
  unfold jjN
  refine sumTo_congr _ fun j _ => ?_
  rw [show jjP S' t n q' P' hid (j + 1) = jjP S t n q P hid (j + 1) from propext (jjP_congr hP ht hq)]
theorem dsI.B {B B' : Nat → Nat} {S R : Sto} {d : Nat} (h : dsI B S R d) (e : B' d = B d) : dsI B' S R d := by
  have h1 : uT B' d = uT B d := by funext k; unfold uT; rw [e]
  have h2 : qT R B' d = qT R B d := by funext p; unfold qT; rw [h1]
  unfold dsI at h ⊢
  rw [h1, h2]; exact h
def em3 : Nat → Int := fun _ => 1
theorem ag_design {n : Int} {B : Nat → Nat} {N : Nat} {S R : Sto} (h : CI B N S R) (hI : MI n R) {post : Res → Sto → Prop} (hp : ∀ r S1, okr [2] r = true → tyF S S1 → agC em3 (designR R) r S1 → post r S1) : s_designC [vT 1] S post := by
  have e1 := h.2.1.1
  have e3 := h.2.1.2.1
  have hN1 := hI.2.1
  have hdr := hI.2.2.1
  refine ⟨wOf B R, h.cw hI, fun hn => hp _ _ rfl (fun _ _ => rfl) fun k v R' ho => ?_, fun hv hw => ?_⟩
  · obtain ⟨o1, o2, -⟩ := ho
    rw [e1, e3] at hn
    rw [if_pos hn] at o1
    rw [o2 (by omega)]
    exact ⟨o1, B, N, h.th hI _⟩
  · rw [e1] at hv
    rw [e3] at hw
    obtain ⟨D, hD⟩ : ∃ D : Nat, nD R = D := ⟨_, (Int.toNat_of_nonneg (by omega)).symm⟩
    obtain ⟨q, hq⟩ : ∃ q : Nat, shN R 6 = q := ⟨_, (Int.toNat_of_nonneg hdr.1).symm⟩
    have hDt : (S.2.1 1 3).toNat = D := by rw [e3]; omega
    have hqt : (shN R 6).toNat = q := by omega
    have hqN := h.2.2.1.1
    rw [hqt] at hqN
    have hq7 := hdr.2.1
    have hq0 := hdr.1
    have hdf := h.2.2.1.2
    rw [hq] at hdf
    have hu : ∀ k, 8192 + 16 * (N - (shN R 6).toNat + k) = 8192 + 16 * (N - q + k) := fun k => by rw [hqt]
    unfold dfI at hdf
    rw [hqt] at hdf
    refine ⟨4096 + 16 * D, q, fun k => 8192 + 16 * (N - q + k), fun k => if k < q then hasK R (42 + k) else hasK R (7 * D + k), fun k => if k < q then mg R 3 (42 + k) else mg R 3 (7 * D + k), by rw [hDt], ⟨⟨by omega, by rw [e1]; exact hq.symm, by omega, by omega⟩, fun k hk => ?_, fun k hk => ?_, fun i j hij hj => by
      show 8192 + 16 * (N - q + i) ≠ 8192 + 16 * (N - q + j)
      omega⟩, fun S1 S2 nd hcp hdes => hp _ _ rfl (fun t ht => by
      show S2.1 t = S.1 t
      rw [(hdes.2.1.1 t (by omega)).1, newS_1, if_neg (by omega), updI_1, hcp.1, newS_1, if_neg (by omega)]) fun k v R' ho => ?_⟩
    · exact h.2.2.2.2.2.2.2.2.1 D k (by omega) (by omega) (by omega)
    · obtain ⟨a1, a2, a3, -⟩ := hdf k (by omega)
      have hok := hdr.2.2 k (by omega) (by omega)
      have hcl := cls_ok hok
      dsimp only
      rw [if_pos hk, if_pos hk]
      exact ⟨a1, a2, a3, hok.2.2.2.1, hok.2.2.2.2.1, hcl.1, hcl.2⟩
    · obtain ⟨o1, -, o3⟩ := ho
      rw [if_neg (show ¬ (shN R 6 = 0 ∨ nD R = 6) from fun z => z.elim hv hw)] at o1
      obtain ⟨o4, T', hag, hR, hv27, hs1, hs6, hsi, h9, h10, h11, hdT⟩ := o3 o1
      clear o3
      refine ⟨⟨o1, by rw [o4, e3]⟩, fun d => if d = D then N - q else B d, N, ?_⟩
      rw [e3, hD]
      rw [e3, hD] at hdes
      rw [hD] at hR hv27 hs1 hsi h9 h10 h11 hdT
      rw [hq] at hv27 hs1
      have gT : ∀ (a : Nat) (i : Int), mg R' a i = mg T' a i := fun a i => by rw [hR, mgF]
      have hgg : ∀ (a : Nat) (i : Int), ¬ (1 ≤ a ∧ a ≤ 7) → ¬ (9 ≤ a ∧ a ≤ 12) → a ≠ 32 → mg R' a i = mg R a i := fun a i x y z => (gT a i).trans ((hag.mg (by simp; omega)).trans th_mg')
      have n8 : nD R' = (D : Int) + 1 := by rw [hR]; exact mfF.trans (if_pos rfl)
      have n13 : nM R' = nM R := by rw [hR]; exact (mfF.trans (if_neg (by omega))).trans hag.mf
      have n23 : nO R' = nO R := by rw [hR]; exact (mfF.trans (if_neg (by omega))).trans hag.mf
      have hsD : shN R' D = (q : Int) := (gT 1 _).trans hs1
      have hs6' : shN R' 6 = 0 := (gT 1 _).trans hs6
      have hDes : desI R' D := desEq.des hdT ⟨gT 1 _, fun k _ _ a _ _ => gT a _, fun p _ _ => gT 9 _, gT 10 _, fun j _ _ => gT 11 _⟩
      have hsDn : (shN R' D).toNat = q := by omega
      have hP : dP R' D = fun k => if k < q then hasK R (42 + k) else hasK R (7 * D + k) := by
        funext k
        show hasK R' (7 * D + k) = _
        have hv : ∀ a : Nat, 2 ≤ a → a ≤ 7 → mg R' a (7 * D + k) = if k < q then mg R a (42 + k) else mg R a (7 * D + k) := fun a a2 a7 => by
          rw [gT, hv27 a _ a2 a7 (by omega)]
          by_cases e : k < q
          · rw [if_pos (by omega), if_pos e, show 7 * (D : Int) + k - 7 * D = k by omega]
          · rw [if_neg (by omega), if_neg e]
        by_cases e : k < q
        · rw [if_pos e]
          funext x y
          unfold hasK
          rw [hv 2 (by omega) (by omega), hv 4 (by omega) (by omega), hv 5 (by omega) (by omega), hv 6 (by omega) (by omega), hv 7 (by omega) (by omega), if_pos e, if_pos e, if_pos e, if_pos e, if_pos e]
        · rw [if_neg e]
          funext x y
          unfold hasK
          rw [hv 2 (by omega) (by omega), hv 4 (by omega) (by omega), hv 5 (by omega) (by omega), hv 6 (by omega) (by omega), hv 7 (by omega) (by omega), if_neg e, if_neg e, if_neg e, if_neg e, if_neg e]
      have hC : colF R' D = fun k => if k < q then mg R 3 (42 + k) else mg R 3 (7 * D + k) := by
        funext k
        show mg R' 3 (7 * D + k) = _
        rw [gT, hv27 3 _ (by omega) (by omega) (by omega)]
        by_cases e : k < q
        · rw [if_pos (by omega), if_pos e, show 7 * (D : Int) + k - 7 * D = k by omega]
        · rw [if_neg (by omega), if_neg e]
      have hus : ∀ k, k < q → S.2.1 (8192 + 16 * (N - q + k)) 1 = colF R' D k ∧ 0 ≤ colF R' D k ∧ colF R' D k < 6 := fun k hk => by
        obtain ⟨a1, a2, a3, -⟩ := hdf k (by omega)
        have hok := hdr.2.2 k (by omega) (by omega)
        rw [hC]
        dsimp only
        rw [if_pos hk]
        exact ⟨a3, hok.2.2.2.1, hok.2.2.2.2.1⟩
      rw [← hP, ← hC] at hdes
      obtain ⟨T, hT⟩ : ∃ T, T = 4096 + 16 * D := ⟨_, rfl⟩
      rw [← hT] at hdes hcp
      obtain ⟨u, hu⟩ : ∃ u : Nat → Nat, u = fun k => 8192 + 16 * (N - q + k) := ⟨_, rfl⟩
      have hu1 : ∀ k, u k = 8192 + 16 * (N - q + k) := fun k => by rw [hu]
      rw [← hu] at hdes hcp
      obtain ⟨hnd, hB, hS1, hS2, hS3, hrest⟩ := hdes
      have hrs : ∀ _ : Unit, _ := fun _ => hrest
      clear hrest
      have hD6 : D < 6 := by omega
      have hnd2 : ndQ (dP R' D) nd (shN R' D).toNat := by rw [hsDn]; exact hnd
      have hok := hnd.ok
      have hgat := fun p (hp : p < q) => hDes.gat hnd2 p (by omega)
      rw [hsDn] at hgat
      have hseq := fun (p : Nat) (hp : p < q) => hDes.seq (p := p) (by omega) (by omega)
      -- the class's shape at a place
      have hqu : ∀ p, p < q → qT R' (fun d => if d = D then N - q else B d) D p = u (gat q (colF R' D) nd p).toNat := fun p hp => by
        rw [← hgat p hp, hu1]
        unfold qT uT
        dsimp only
        rw [if_pos rfl]
      have hQ : ∀ p, p < q → dQ R' D p = dP R' D (gat q (colF R' D) nd p).toNat := fun p hp => by
        have s := hseq p hp
        rw [← hgat p hp]
        show hasK R' (7 * D + seqK R' D p) = hasK R' (7 * D + ((seqK R' D p).toNat : Nat))
        rw [Int.toNat_of_nonneg s.1]
      have hgl : ∀ p, p < q → (gat q (colF R' D) nd p).toNat < q := fun p hp => by
        have s := hseq p hp
        rw [← hgat p hp]; omega
      have hbg : ∀ p, p ≤ q → bgN (fun p => dP R' D (gat q (colF R' D) nd p).toNat) p = bgN (dQ R' D) p := fun p hp => (bgN_congr p fun p' hp' => hQ p' (by omega)).symm
      have hend : bgN (fun p => dP R' D (gat q (colF R' D) nd p).toNat) q = (mnK R' D).toNat := by
        rw [hbg q (Nat.le_refl _)]
        have := hDes.end
        rw [hsDn] at this
        omega
      rw [hend] at hrs
      obtain ⟨p1, p2, p3, p4⟩ := hcp
      obtain ⟨b1, b2, b3, b4, b5⟩ := hB
      obtain ⟨S3, hS3e⟩ : ∃ S3, S3 = updI (updR S2 5 D (some T)) 1 3 (D + 1) := ⟨_, rfl⟩
      have hfin : updI (updR S2 5 ((D : Int)).toNat (some (4096 + 16 * D))) 1 3 ((D : Int) + 1) = S3 := by rw [hS3e, Int.toNat_natCast, hT]
      rw [hfin]
      have z1 : ∀ t, S3.1 t = S2.1 t := fun t => by rw [hS3e]; rfl
      have z2 : ∀ t, t ≠ 1 → S3.2.1 t = S2.2.1 t := fun t ht => by rw [hS3e]; funext k; rw [updI_2, if_neg (fun w => ht w.1)]; rfl
      have z3 : ∀ t, t ≠ 5 → S3.2.2 t = S2.2.2 t := fun t ht => by rw [hS3e]; funext k; rw [updI_3, updR_3, if_neg (fun w => ht w.1)]
      have w1 : ∀ t, t < T ∨ T + 7 < t → S2.1 t = S.1 t ∧ S2.2.2 t = S.2.2 t := fun t ht => by
        obtain ⟨c1, c2⟩ := b1 t (by omega)
        refine ⟨?_, ?_⟩
        · rw [c1, newS_1, if_neg (by omega), updI_1, p1, newS_1, if_neg (by omega)]
        · rw [c2]; funext k
          rw [newS_3, if_neg (by omega), updI_3, p3 t (by omega)]
      have w2 : ∀ t j, t < T ∨ T + 7 < t → (newS (updI S1 1 1 0) T (0, clN 0)).2.1 t j = if t = 1 ∧ j = 1 then 0 else S.2.1 t j := fun t j ht => by
        rw [newS_2, if_neg (show ¬ t = T by omega), updI_2, p2, newS_2, if_neg (show ¬ t = T + 7 by omega)]
      have w3 : ∀ t j, t < T ∨ T + 7 < t → (∀ k, k < q → t ≠ u k) → S2.2.1 t j = if t = 1 ∧ j = 1 then 0 else S.2.1 t j := fun t j ht hk => by
        rw [b2 t (by omega) hk, w2 t j ht]
      have w4 : ∀ k, k < q → ∀ j, j ≠ 3 → j ≠ 4 → S2.2.1 (u k) j = S.2.1 (u k) j := fun k hk j j3 j4 => by
        have := hu1 k
        rw [b3 k hk j j3 j4, w2 (u k) j (by omega), if_neg (by omega)]
      have hsm : ∀ t, t ≠ 1 → t ≠ 5 → t < T ∨ T + 7 < t → (∀ k, k < q → t ≠ u k) → sm S S3 t := fun t t1 t5 ht hk => by
        obtain ⟨c1, c2⟩ := w1 t ht
        refine ⟨(z1 t).trans c1, ?_, (z3 t t5).trans c2⟩
        rw [z2 t t1]; funext j
        rw [w3 t j ht hk, if_neg (fun w => t1 w.1)]
      have hsm' : ∀ t, t ≠ 1 → t ≠ 5 → t < T ∨ T + 7 < t → t < 8192 + 16 * (N - q) → sm S S3 t := fun t t1 t5 ht hk => hsm t t1 t5 ht fun k _ => by have := hu1 k; omega
      have hu4 : ∀ k, k < q → S3.1 (u k) = some (4, 5) ∧ S3.2.1 (u k) 1 = colF R' D k ∧ S3.2.1 (u k) 0 = k := fun k hk => by
        obtain ⟨a1, a2, a3, a4⟩ := hdf k (by omega)
        obtain ⟨y1, -⟩ := hus k hk
        rw [← hu1] at a2 a4 y1
        have := hu1 k
        refine ⟨by rw [z1, (w1 (u k) (by omega)).1]; exact a2.1, ?_, ?_⟩
        · rw [z2 _ (by omega), w4 k hk 1 (by omega) (by omega)]; exact y1
        · rw [z2 _ (by omega), w4 k hk 0 (by omega) (by omega)]; exact a4
      have hcel : celT S3 R' D (T + 5) (qT R' (fun d => if d = D then N - q else B d) D) := by
        refine ⟨fun k hk => ?_, fun p hp => ?_⟩
        · obtain ⟨p, p1, p2, p3, p4, p5⟩ := hDes.pl hk
          have hpq : p < q := by omega
          have := hS3.2.2.2 p hpq (k - bgN (dQ R' D) p) (stK R' D k % 256) (by show (clsL (dP R' D _))[_]? = _; rw [← hQ p hpq]; exact p5)
          rw [z2 _ (by omega)]
          rw [hbg p (by omega), show bgN (dQ R' D) p + (k - bgN (dQ R' D) p) = k by omega] at this
          exact this
        · have hpq : p < q := by omega
          rw [hqu p hpq, (hu4 _ (hgl p hpq)).2.1, ← hgat p hpq]
          show mg R' 3 (7 * D + ((seqK R' D p).toNat : Nat)) = mg R' 3 (7 * D + seqK R' D p)
          rw [Int.toNat_of_nonneg (hseq p hpq).1]
      have hq1 : ∀ p, p < q → S3.2.1 (qT R' (fun d => if d = D then N - q else B d) D p) 1 = S2.2.1 (u (gat q (colF R' D) nd p).toNat) 1 := fun p hp => by
        have := hu1 (gat q (colF R' D) nd p).toNat
        rw [hqu p hp, z2 _ (by omega)]
      have hmn := hDes.mn
      obtain ⟨h1, ⟨e1', e3', e5, e7⟩, ⟨d1, d2⟩, hd, hm, ho', hst, hf⟩ := h
      have hnew : dsI (fun d => if d = D then N - q else B d) S3 R' D := by
        unfold dsI
        rw [← hT, hsDn]
        obtain ⟨s1, s2, s3, s4, s5, s6⟩ := hS1
        obtain ⟨x1, x2, x3⟩ := hS2
        obtain ⟨y1, y2, y3, y4⟩ := hS3
        refine ⟨⟨by rw [hS3e, updI_3, updR_3, if_pos ⟨rfl, rfl⟩], by rw [z3 _ (by omega)]; exact s2⟩, ⟨nd, hnd, ?_⟩, ?_, hcel, fun p hp => ?_, ⟨?_, ?_, ?_, ?_⟩, ?_⟩
        · refine ⟨s1.eq (z1 _) (z3 _ (by omega)) (z1 _) (z2 _ (by omega)), by rw [z3 _ (by omega)]; exact s3, by rw [z3 _ (by omega)]; exact s4, ?_, by rw [z1]; exact s5, by omega, fun k hk => ?_, fun k hk => ?_, hok⟩
          · rw [z1, (b1 (T + 7) (by omega)).1, newS_1, if_neg (by omega), updI_1, p1, newS_1, if_pos rfl]
          · have ek : uT (fun d => if d = D then N - q else B d) D k = u k := by rw [hu1]; unfold uT; dsimp only; rw [if_pos rfl]
            obtain ⟨v1, v2, v3⟩ := hu4 k hk
            obtain ⟨-, v4, v5⟩ := hus k hk
            rw [ek]
            refine ⟨?_, v1, v2, v4, v5⟩
            rw [z3 _ (by omega), (b1 (T + 7) (by omega)).2, newS_3, if_neg (by omega), updI_3, p4, if_pos hk]
          · rw [z2 _ (by omega)]
            exact ⟨s6 k hk, (hnd k hk).1⟩
        · refine ⟨by rw [z1]; exact b4, by rw [z3 _ (by omega)]; exact x1, by rw [z1]; exact x2, by rw [z3 _ (by omega)]; exact y1, by rw [z1, y2, hend], by omega, ⟨rfl, ?_, fun p hp => ?_⟩, fun p hp => ?_⟩
          · have := hDes.end
            rw [hsDn] at this
            show (bgN (dQ R' D) q : Int) = _
            rw [this, Int.toNat_of_nonneg (by omega)]
          · have hl := hDes.shq p (by omega)
            have hpos : 1 ≤ (clsL (dQ R' D p)).length := (cls_ok hl.1).1.2.2
            have e2 : bgN (dQ R' D) (p + 1) = bgN (dQ R' D) p + (clsL (dQ R' D p)).length := rfl
            show (bgN (dQ R' D) p : Int) < (bgN (dQ R' D) (p + 1) : Int)
            omega
          · obtain ⟨v1, v2, v3⟩ := hu4 _ (hgl p hp)
            obtain ⟨-, v4, v5⟩ := hus _ (hgl p hp)
            obtain ⟨v6, v7⟩ := y3 p hp
            have := hu1 (gat q (colF R' D) nd p).toNat
            rw [hqu p hp]
            refine ⟨by rw [z3 _ (by omega)]; exact x3 p hp, v1, ?_, ?_, by rw [v2]; exact v4, by rw [v2]; exact v5⟩
            · rw [z2 _ (by omega), v6, hbg p (by omega)]
            · rw [z2 _ (by omega), v7, hbg (p + 1) (by omega)]
        · have hpq : p < q := by omega
          rw [hqu p hpq, (hu4 _ (hgl p hpq)).2.2, ← hgat p hpq]
          exact Int.toNat_of_nonneg (hseq p hpq).1
        · rw [z2 _ (by omega)]; exact b5
        · rw [z2 _ (by omega), (hrs ()).1]
          unfold chgQ chgN
          refine sumTo_congr _ fun p hp => ?_
          have k1 := hq1 p (by omega)
          have k2 := hq1 (p + 1) (by omega)
          rw [← k1, ← k2, hcel.2 p (by omega), hcel.2 (p + 1) (by omega)]
          rfl
        · rw [z2 _ (by omega), (hrs ()).2.1, ← jmpN_e hDes hcel, hsDn]
          exact (jjN_congr (fun p hp => hQ p hp) (z2 _ (by omega)) (fun p hp => hq1 p hp)).symm
        · rw [z2 _ (by omega), (hrs ()).2.2.1, ← jmpN_e hDes hcel, hsDn]
          exact (jjN_congr (fun p hp => hQ p hp) (z2 _ (by omega)) (fun p hp => hq1 p hp)).symm
        · have hho := (hrs ()).2.2.2
          unfold hoopP at hho ⊢
          rw [z2 (T + 5) (by omega), z2 T (by omega)]
          exact hho
      have hnl : nlA S3 := ⟨h1.nl.1.add (u := T) (by omega) (by rw [hS3e, updI_2, if_pos ⟨rfl, rfl⟩]; omega) fun k => (by
        rw [hS3e, updI_3, updR_3, show (S.2.1 1 3).toNat = D by omega]
        by_cases y : k = D
        · rw [if_pos ⟨rfl, y⟩, if_pos y]
        · rw [if_neg (fun z => y z.2), if_neg y, (w1 5 (by omega)).2]), h1.nl.2.1.fr (by rw [hS3e, updI_2, if_neg (by omega), updR_2, w3 1 5 (by omega) (fun k _ => by have := hu1 k; omega), if_neg (by omega)]) (hsm' 6 (by omega) (by omega) (by omega) (by omega)).2.2, h1.nl.2.2.fr (by rw [hS3e, updI_2, if_neg (by omega), updR_2, w3 1 7 (by omega) (fun k _ => by have := hu1 k; omega), if_neg (by omega)]) (hsm' 7 (by omega) (by omega) (by omega) (by omega)).2.2⟩
      refine ⟨h1.fl (fun t ht => by rw [z1, (w1 t (by omega)).1]) ⟨(z3 1 (by omega)).trans (w1 1 (by omega)).2, (z3 8 (by omega)).trans (w1 8 (by omega)).2⟩ hnl, ⟨?_, ?_, ?_, ?_⟩, ⟨by rw [hs6']; exact Nat.zero_le _, fun k hk => by rw [hs6'] at hk; omega⟩, fun d hd' => ?_, fun i hi => ?_, fun o ho'' => ?_, fun k hk => ?_, ?_⟩
      · have := hu1
        rw [hS3e, updI_2, if_neg (by omega), updR_2, w3 1 1 (by omega) (fun k _ => by have := hu1 k; omega), if_pos ⟨rfl, rfl⟩, hs6']
      · rw [hS3e, updI_2, if_pos ⟨rfl, rfl⟩, n8]
      · rw [hS3e, updI_2, if_neg (by omega), updR_2, w3 1 5 (by omega) (fun k _ => by have := hu1 k; omega), if_neg (by omega), n13, e5]
      · rw [hS3e, updI_2, if_neg (by omega), updR_2, w3 1 7 (by omega) (fun k _ => by have := hu1 k; omega), if_neg (by omega), n23, e7]
      · rw [n8] at hd'
        rw [hs6']
        by_cases x : d = D
        · subst x
          refine ⟨?_, hnew⟩
          show (if d = d then N - q else B d) + (shN R' d).toNat ≤ N - (0 : Int).toNat
          rw [if_pos rfl, hsDn]
          show N - q + q ≤ N - 0
          omega
        · have hdD : d < D := by omega
          obtain ⟨a1, a2⟩ := hd d (by omega)
          have hDd := hI.2.2.2.1 d (by omega) (by omega)
          have hs7 := hDd.1.2.2.2.1
          have hmnd := hDd.mn
          have sd : shN R' d = shN R d := (gT 1 _).trans (hsi d (by omega) (by omega) (by omega))
          have g27 : ∀ (a : Nat) (i : Int), 2 ≤ a → a ≤ 7 → 0 ≤ i → i < 7 * (D : Int) → mg R' a i = mg R a i := fun a i a2 a7 i0 i1 => by rw [gT, hv27 a i a2 a7 i0, if_neg (by omega)]
          have eq : desEq R R' d := ⟨sd, fun k k0 k1 a a2 a7 => g27 a _ a2 a7 (by omega) (by omega), fun p p0 p1 => (gT 9 _).trans (h9 _ (by omega) (by omega)), (gT 10 _).trans (h10 _ (by omega) (by omega)), fun j j0 j1 => (gT 11 _).trans (h11 _ (by omega) (by omega))⟩
          rw [hqt] at a1
          show (if d = D then N - q else B d) + (shN R' d).toNat ≤ N - (0 : Int).toNat ∧ dsI _ S3 R' d
          rw [if_neg x, sd]
          refine ⟨by show B d + (shN R d).toNat ≤ N - 0; omega, ?_⟩
          have s5 : S3.2.2 5 d = S.2.2 5 d := by rw [hS3e, updI_3, updR_3, if_neg (by omega), (w1 5 (by omega)).2]
          have := (a2.eqS (S' := S3) hDd a1 s5 (fun t t1 t2 => hsm' t (by omega) (by omega) (by omega) (by omega)) (fun t t1 t2 => hsm' t (by omega) (by omega) (by omega) (by omega))).eqR hDd eq
          exact dsI.B this (by show (if d = D then N - q else B d) = B d; rw [if_neg x])
      · rw [n13] at hi
        exact (hm i hi).fr (hsm' 6 (by omega) (by omega) (by omega) (by omega)).2.2 (hsm' _ (by omega) (by omega) (by omega) (by omega)) (hsm' _ (by omega) (by omega) (by omega) (by omega)) (fun a j ha => hgg a j (by omega) (by omega) (by omega))
      · rw [n23] at ho''
        exact (ho' o ho'').fr (hsm' 7 (by omega) (by omega) (by omega) (by omega)).2.2 (hsm' _ (by omega) (by omega) (by omega) (by omega)) (hsm' _ (by omega) (by omega) (by omega) (by omega)) (fun a j ha => hgg a j (by omega) (by omega) (by omega))
      · rw [(hsm' 9 (by omega) (by omega) (by omega) (by omega)).2.1, hgg 22 _ (by omega) (by omega) (by omega)]; exact hst k hk
      · obtain ⟨y1, y2, y3, y4⟩ := hf
        refine ⟨fun t ht => ?_, fun d j a b c => ?_, fun i j a b c => ?_, fun o j a b c => ?_⟩
        · rw [z1, (w1 t (by omega)).1]; exact y1 t ht
        · rw [n8] at a
          rw [z1, (w1 _ (by omega)).1]; exact y2 d j (by omega) b c
        · rw [n13] at a
          rw [z1, (w1 _ (by omega)).1]; exact y3 i j a b c
        · rw [n23] at a
          rw [z1, (w1 _ (by omega)).1]; exact y4 o j a b c
