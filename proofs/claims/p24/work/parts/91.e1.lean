/-! CLASS AGAINST REFERENCE: a design -/
theorem canB_nd {n : Nat} {nd nd' : Nat → Nat} (h : ∀ q, q < n → nd q = nd' q) (s x : Nat) : canB nd n s x = canB nd' n s x := by
  unfold canB
  by_cases e : x < n
  · rw [h x e]
  · rw [decide_eq_false e]; rfl
theorem dpF_nd {n : Nat} {col : Nat → Int} {nd nd' : Nat → Nat} (h : ∀ q, q < n → nd q = nd' q) : ∀ f s l, dpF n col nd f s l = dpF n col nd' f s l
  | 0, _, _ => rfl
  | f + 1, s, l => by
    unfold dpF
    refine minTo_congr n fun x _ => ?_
    rw [canB_nd h, dpF_nd h f]
theorem gseq_nd {n : Nat} {col : Nat → Int} {nd nd' : Nat → Nat} (h : ∀ q, q < n → nd q = nd' q) : ∀ p, gseq n col nd p = gseq n col nd' p
  | 0 => rfl
  | p + 1 => by
    have e : pick n col nd (gseq n col nd' p).1 (gseq n col nd' p).2 = pick n col nd' (gseq n col nd' p).1 (gseq n col nd' p).2 := by
      unfold pick
      refine argTo_congr n fun x _ => ?_
      unfold pkG dpV
      rw [canB_nd h, dpF_nd h]
    show ((gseq n col nd p).1 ||| 2 ^ (pick n col nd (gseq n col nd p).1 (gseq n col nd p).2).toNat, pick n col nd (gseq n col nd p).1 (gseq n col nd p).2) = _
    rw [gseq_nd h p, e]; rfl
theorem gat_nd {n : Nat} {col : Nat → Int} {nd nd' : Nat → Nat} (h : ∀ q, q < n → nd q = nd' q) (p : Nat) : gat n col nd p = gat n col nd' p := by unfold gat; rw [gseq_nd h]
/-- the cells of a design's shapes -/
abbrev dP (R : Sto) (d : Int) : Nat → Int → Int → Prop := fun k => hasK R (7 * d + k)
theorem desI.gat {R : Sto} {d : Int} (h : desI R d) {nd : Nat → Nat} (hn : ndQ (dP R d) nd (shN R d).toNat) (p : Nat) (hp : p < (shN R d).toNat) : seqK R d p = gat (shN R d).toNat (colF R d) nd p := by
  obtain ⟨-, ⟨nd', h1, h2⟩, -⟩ := h
  rw [h2 p hp]
  refine gat_nd (fun q hq => Nat.eq_of_testBit_eq fun j => ?_) p
  have a := (h1 q hq).2 j
  have b := (hn q hq).2 j
  by_cases e : (nd' q).testBit j = true
  · rw [e]; exact (b.mpr (a.mp e)).symm
  · have e2 : ¬ (nd q).testBit j = true := fun w => e (a.mpr (b.mp w))
    rw [Bool.not_eq_true] at e e2
    rw [e, e2]
/-- along the sequence -/
def stepC (n : Nat) (col : Nat → Int) (nd : Nat → Nat) (q : Nat) : Int := chgL col (gseq n col nd q).2 (gat n col nd q).toNat
theorem dpR_tel {n : Nat} {col : Nat → Int} {nd : Nat → Nat} (hn : n ≤ 7) (hnd : needOK nd n) : ∀ k, k ≤ n → dpR n col nd 0 (-1) = sumTo (stepC n col nd) k + dpR n col nd (gseq n col nd k).1 (gseq n col nd k).2
  | 0, _ => by show _ = 0 + dpR n col nd 0 (-1); omega
  | k + 1, hk => by
    rw [dpR_tel hn hnd k (by omega)]
    obtain ⟨x, g1, g2, g3, g4, g5, g6, g7⟩ := gseq_step (col := col) hn hnd (p := k) (by omega)
    obtain ⟨b1, b2, -⟩ := gseq_ok (col := col) hn hnd k (by omega)
    obtain ⟨c1, -⟩ := gseq_ok (col := col) hn hnd (k + 1) hk
    have hne : (gseq n col nd k).1 ≠ 2 ^ n - 1 := fun e => by
      rw [e, bc_full n n (Nat.le_refl n)] at b2; omega
    have e1 : dpR n col nd (gseq n col nd k).1 (gseq n col nd k).2 = dpV n col nd ((gseq n col nd k).1 ||| 2 ^ x) x + chgL col (gseq n col nd k).2 x := by
      have e2 : dpR n col nd (gseq n col nd k).1 (gseq n col nd k).2 = minTo (pkG n col nd (gseq n col nd k).1 (gseq n col nd k).2) 1000 n := by
        unfold dpR
        rw [if_neg hne]; rfl
      rw [e2, g7]
      unfold pkG
      rw [if_pos g5]; rfl
    rw [g4] at c1 ⊢
    show _ = sumTo (stepC n col nd) k + stepC n col nd k + dpR n col nd ((gseq n col nd k).1 ||| 2 ^ x) (x : Int)
    have c2 : (gseq n col nd k).1 ||| 2 ^ x < 2 ^ n := c1
    rw [e1, dpR_nat hn c2]
    unfold stepC
    rw [g1, Int.toNat_natCast]
    omega
theorem dpR_seq {n : Nat} {col : Nat → Int} {nd : Nat → Nat} (h1 : 1 ≤ n) (hn : n ≤ 7) (hnd : needOK nd n) : dpR n col nd 0 (-1) = sumTo (fun p => if col (gat n col nd p).toNat = col (gat n col nd (p + 1)).toNat then 0 else 1) (n - 1) := by
  obtain ⟨b1, b2, -⟩ := gseq_ok (col := col) hn hnd n (Nat.le_refl n)
  rw [dpR_tel hn hnd n (Nat.le_refl n), dpR_full hn hnd b1 (by omega), Int.add_zero]
  obtain ⟨m, rfl⟩ : ∃ m, n = 1 + m := ⟨n - 1, by omega⟩
  rw [sum_add, show 1 + m - 1 = m by omega]
  have e0 : sumTo (stepC (1 + m) col nd) 1 = 0 := rfl
  rw [e0, Int.zero_add]
  refine sumTo_congr m fun q hq => ?_
  obtain ⟨-, -, -, g4⟩ := gseq_ok (col := col) hn hnd (q + 1) (by omega)
  have g5 := g4 (by omega)
  rw [show 1 + q = q + 1 by omega]
  unfold stepC chgL chg
  rw [if_neg (by omega)]
  rfl
theorem desI.dpR {R : Sto} {d : Int} (h : desI R d) {nd : Nat → Nat} (hn : ndQ (dP R d) nd (shN R d).toNat) : dpR (shN R d).toNat (colF R d) nd 0 (-1) = chgN R d (shN R d).toNat := by
  have h7 : 1 ≤ shN R d ∧ shN R d ≤ 7 := ⟨h.1.2.2.1, h.1.2.2.2.1⟩
  rw [dpR_seq (by omega) (by omega) hn.ok]
  unfold chgN
  refine sumTo_congr _ fun p hp => ?_
  have e1 := h.gat hn p (by omega)
  have e2 := h.gat hn (p + 1) (by omega)
  have s1 := h.seq (p := p) (by omega) (by omega)
  have s2 := h.seq (p := ((p + 1 : Nat) : Int)) (by omega) (by omega)
  rw [← e1, ← e2, show ((p : Int) + 1) = ((p + 1 : Nat) : Int) by omega]
  unfold colF
  rw [Int.toNat_of_nonneg s1.1, Int.toNat_of_nonneg s2.1]
/-- the class's places of a design's stitches -/
abbrev dQ (R : Sto) (d : Int) : Nat → Int → Int → Prop := fun p => hasK R (7 * d + seqK R d p)
theorem desI.shq {R : Sto} {d : Int} (h : desI R d) (p : Nat) (hp : (p : Int) < shN R d) : shOK R (7 * d + seqK R d p) ∧ 0 ≤ seqK R d p := by
  have s1 := h.seq (p := p) (by omega) hp
  exact ⟨h.1.2.2.2.2 _ s1.1 s1.2, s1.1⟩
theorem desI.bg {R : Sto} {d : Int} (h : desI R d) : ∀ p : Nat, (p : Int) ≤ shN R d → bgN (dQ R d) p = (dstL R d p).length
  | 0, _ => rfl
  | p + 1, hp => by
    have s1 := h.shq p (by omega)
    unfold bgN dstL
    rw [h.bg p (by omega), List.length_append, cls_st s1.1 s1.2, List.length_map]
theorem desI.at {R : Sto} {d : Int} (h : desI R d) : ∀ n : Nat, (n : Int) ≤ shN R d → ∀ p, p < n → ∀ i, i < (clsL (dQ R d p)).length → (dstL R d n)[bgN (dQ R d) p + i]? = (stL R (7 * d + seqK R d p) (seqK R d p))[i]?
  | 0, _, p, hp, _, _ => by omega
  | n + 1, hn, p, hp, i, hi => by
    have hb := h.bg n (by omega)
    unfold dstL
    by_cases e : p < n
    · have h1 : bgN (dQ R d) (p + 1) = bgN (dQ R d) p + (clsL (dQ R d p)).length := rfl
      have h2 := bgN_mono (P := dQ R d) (a := p + 1) n (by omega)
      rw [List.getElem?_append_left (by omega)]
      exact h.at n (by omega) p e i hi
    · have e2 : p = n := by omega
      subst e2
      rw [List.getElem?_append_right (by omega), hb, Nat.add_sub_cancel_left]
theorem desI.code {R : Sto} {d : Int} (h : desI R d) {p : Nat} (hp : (p : Int) < shN R d) {i : Nat} (hi : i < (clsL (dQ R d p)).length) : stK R d ((bgN (dQ R d) p + i : Nat) : Int) / 256 = seqK R d p ∧ (clsL (dQ R d p))[i]? = some (stK R d ((bgN (dQ R d) p + i : Nat) : Int) % 256) := by
  have s1 := h.shq p hp
  have h3 := h.1.2.2.1
  have hc := cls_st s1.1 s1.2
  have hl : i < (stL R (7 * d + seqK R d p) (seqK R d p)).length := by
    have hi2 := hi
    rw [show clsL (dQ R d p) = _ from hc, List.length_map] at hi2
    exact hi2
  have ha := h.at (shN R d).toNat (by omega) p (by omega) i hi
  rw [List.getElem?_eq_getElem hl] at ha
  have hv := h.2.2.2 _ _ ha
  have hm := (stL_in s1.1 s1.2 _ (List.getElem_mem hl)).1
  rw [← hv] at hm
  refine ⟨hm, ?_⟩
  rw [show clsL (dQ R d p) = _ from hc, List.getElem?_map, List.getElem?_eq_getElem hl, hv]
  rfl
theorem desI.end {R : Sto} {d : Int} (h : desI R d) : (bgN (dQ R d) (shN R d).toNat : Int) = mnK R d := by
  have h3 := h.1.2.2.1
  rw [h.bg _ (by omega), h.2.2.1]
/-- a stitch is one of the shape at a place -/
theorem desI.pl {R : Sto} {d : Int} (h : desI R d) {j : Nat} (hj : (j : Int) < mnK R d) : ∃ p : Nat, (p : Int) < shN R d ∧ bgN (dQ R d) p ≤ j ∧ j < bgN (dQ R d) (p + 1) ∧ stK R d j / 256 = seqK R d p ∧ (clsL (dQ R d p))[j - bgN (dQ R d) p]? = some (stK R d j % 256) := by
  have h3 := h.1.2.2.1
  obtain ⟨p, p1, p2, p3⟩ := bgN_at (P := dQ R d) (shN R d).toNat j (by have := h.end; omega)
  have h1 : bgN (dQ R d) (p + 1) = bgN (dQ R d) p + (clsL (dQ R d p)).length := rfl
  have hc := h.code (p := p) (by omega) (i := j - bgN (dQ R d) p) (by omega)
  rw [show bgN (dQ R d) p + (j - bgN (dQ R d) p) = j by omega] at hc
  exact ⟨p, by omega, p2, p3, hc.1, hc.2⟩

