/-! WHAT HOLDS BETWEEN CALLS IS KEPT: by places alone -/
def shEq (S S' : Sto) (k : Int) : Prop := ∀ a : Nat, 2 ≤ a → a ≤ 7 → mg S' a k = mg S a k
theorem shEq.row {S S' : Sto} {k its row : Int} (h : shEq S S' k) : ∀ n, rowK S' k its row n = rowK S k its row n
  | 0 => rfl
  | n + 1 => by unfold rowK; rw [h.row n, h 2 (by omega) (by omega), h 4 (by omega) (by omega), h 5 (by omega) (by omega), h 6 (by omega) (by omega)]
theorem shEq.rows {S S' : Sto} {k its : Int} (h : shEq S S' k) : ∀ n, rowsK S' k its n = rowsK S k its n
  | 0 => rfl
  | n + 1 => by unfold rowsK; rw [h.rows n, h.row, h 2 (by omega) (by omega), h 6 (by omega) (by omega)]
theorem shEq.hs {S S' : Sto} {k : Int} (h : shEq S S' k) {x y : Int} : hasK S' k x y = hasK S k x y := by
  unfold hasK; rw [h 2 (by omega) (by omega), h 4 (by omega) (by omega), h 5 (by omega) (by omega), h 6 (by omega) (by omega), h 7 (by omega) (by omega)]
theorem shEq.edg {S S' : Sto} {k : Int} (h : shEq S S' k) {x y : Int} : edgP S' k x y = edgP S k x y := by unfold edgP; simp only [h.hs]
theorem shEq.edge {S S' : Sto} {k its : Int} (h : shEq S S' k) : ∀ n, edgeK S' k its n = edgeK S k its n
  | 0 => rfl
  | n + 1 => by unfold edgeK; rw [h.edge n, h.edg]
theorem shEq.stl {S S' : Sto} {k its : Int} (h : shEq S S' k) : stL S' k its = stL S k its := by
  unfold stL; rw [h.rows, h.edge, h 7 (by omega) (by omega)]
theorem shEq.ok {S S' : Sto} {k : Int} (h : shEq S S' k) (hs : shOK S k) : shOK S' k := by
  unfold shOK at hs ⊢
  rw [h 2 (by omega) (by omega), h 3 (by omega) (by omega), h 4 (by omega) (by omega), h 5 (by omega) (by omega), h 6 (by omega) (by omega), h 7 (by omega) (by omega)]
  exact hs
theorem dpF_congr {n : Nat} {col col' : Nat → Int} {nd : Nat → Nat} (h : ∀ x, x < n → col x = col' x) : ∀ f s l, l < n → dpF n col nd f s l = dpF n col' nd f s l
  | 0, _, _, _ => rfl
  | f + 1, s, l, hl => by
    unfold dpF
    refine minTo_congr n fun x hx => ?_
    rw [dpF_congr h f _ x hx]
    unfold chg
    rw [h l hl, h x hx]
theorem gseq_congr {n : Nat} {col col' : Nat → Int} {nd : Nat → Nat} (hn : n ≤ 7) (hnd : needOK nd n) (h : ∀ x, x < n → col x = col' x) : ∀ p, p ≤ n → gseq n col nd p = gseq n col' nd p
  | 0, _ => rfl
  | p + 1, hp => by
    have ih := gseq_congr hn hnd h p (by omega)
    obtain ⟨-, -, g3, g4⟩ := gseq_ok (col := col') hn hnd p (by omega)
    have e : pick n col nd (gseq n col' nd p).1 (gseq n col' nd p).2 = pick n col' nd (gseq n col' nd p).1 (gseq n col' nd p).2 := by
      unfold pick
      refine argTo_congr n fun x hx => ?_
      unfold pkG dpV
      rw [dpF_congr h _ _ x hx]
      by_cases hp0 : p = 0
      · rw [if_pos (g3 hp0), if_pos (g3 hp0)]
      · have g5 := g4 (by omega)
        rw [if_neg (show ¬ (gseq n col' nd p).2 = -1 by omega), if_neg (show ¬ (gseq n col' nd p).2 = -1 by omega)]
        unfold chg
        rw [h x hx, h _ (show (gseq n col' nd p).2.toNat < n by omega)]
    show ((gseq n col nd p).1 ||| 2 ^ (pick n col nd (gseq n col nd p).1 (gseq n col nd p).2).toNat, pick n col nd (gseq n col nd p).1 (gseq n col nd p).2) = _
    rw [ih, e]; rfl
theorem gat_congr {n : Nat} {col col' : Nat → Int} {nd : Nat → Nat} (hn : n ≤ 7) (hnd : needOK nd n) (h : ∀ x, x < n → col x = col' x) {p : Nat} (hp : p < n) : gat n col nd p = gat n col' nd p := by
  unfold gat; rw [gseq_congr hn hnd h (p + 1) (by omega)]
/-- the places of a design -/
def desEq (S S' : Sto) (d : Int) : Prop := shN S' d = shN S d ∧ (∀ k, 0 ≤ k → k < shN S d → shEq S S' (7 * d + k)) ∧ (∀ p, 0 ≤ p → p < shN S d → mg S' 9 (7 * d + p) = mg S 9 (7 * d + p)) ∧ mnK S' d = mnK S d ∧ ∀ j, 0 ≤ j → j < mnK S d → mg S' 11 (2240 * d + j) = mg S 11 (2240 * d + j)
theorem desEq.dst {S S' : Sto} {d : Int} (h : desI S d) (e : desEq S S' d) : ∀ n : Nat, (n : Int) ≤ shN S d → dstL S' d n = dstL S d n
  | 0, _ => rfl
  | n + 1, hn => by
    have e9 : seqK S' d n = seqK S d n := e.2.2.1 n (by omega) (by omega)
    have hq := h.seq (p := n) (by omega) (by omega)
    unfold dstL
    rw [desEq.dst h e n (by omega), e9, (e.2.1 _ hq.1 hq.2).stl]
theorem desEq.des {S S' : Sto} {d : Int} (h : desI S d) (e : desEq S S' d) : desI S' d := by
  have hd := desEq.dst h e (shN S d).toNat (by have := h.1.2.2.1; omega)
  obtain ⟨h1, ⟨nd, h2, h3⟩, h4, h5⟩ := h
  obtain ⟨e1, e2, e3, e4, e5⟩ := e
  have n7 := h1.2.2.2.1
  refine ⟨⟨h1.1, h1.2.1, by rw [e1]; exact h1.2.2.1, by rw [e1]; exact n7, fun k k0 k1 => ?_⟩, ⟨nd, ?_, fun p hp => ?_⟩, ?_, fun j v hj => ?_⟩
  · rw [e1] at k1
    exact (e2 k k0 k1).ok (h1.2.2.2.2 k k0 k1)
  · rw [e1]
    intro q hq
    refine ⟨(h2 q hq).1, fun j => ?_⟩
    rw [(h2 q hq).2 j]
    constructor
    · rintro ⟨a, c, c0, c1, c2, c3⟩
      exact ⟨a, c, c0, c1, by rw [(e2 j (by omega) (by omega)).hs]; exact c2, by rw [(e2 q (by omega) (by omega)).hs]; exact c3⟩
    · rintro ⟨a, c, c0, c1, c2, c3⟩
      exact ⟨a, c, c0, c1, by rw [← (e2 j (by omega) (by omega)).hs]; exact c2, by rw [← (e2 q (by omega) (by omega)).hs]; exact c3⟩
  · rw [e1] at hp ⊢
    have a := h3 p hp
    rw [show seqK S' d p = seqK S d p from e3 p (by omega) (by omega), a]
    exact gat_congr (by omega) h2.ok (fun x hx => ((e2 x (by omega) (by omega)) 3 (by omega) (by omega)).symm) hp
  · rw [e1, hd, e4]; exact h4
  · rw [e1, hd] at hj
    have a := h5 j v hj
    have hlt : j < (dstL S d (shN S d).toNat).length := by
      rcases Nat.lt_or_ge j (dstL S d (shN S d).toNat).length with q | q
      · exact q
      · rw [List.getElem?_eq_none q] at hj; cases hj
    exact (e5 j (by omega) (by omega)).trans a
theorem desEq.cl {S S' : Sto} {d : Int} (h : desI S d) (e : desEq S S' d) {j : Int} (j0 : 0 ≤ j) (j1 : j < mnK S d) : clK S' d j = clK S d j := by
  have q := h.stR j0 j1
  have e11 : stK S' d j = stK S d j := e.2.2.2.2 j j0 j1
  show mg S' 3 (7 * d + stK S' d j / 256) = mg S 3 (7 * d + stK S d j / 256)
  rw [e11]
  exact e.2.1 _ q.2.2.2.1 q.2.2.2.2 3 (by omega) (by omega)
theorem desEq.cnt {S S' : Sto} {d c : Int} (h : desI S d) (e : desEq S S' d) : cntC S' d c (mnK S' d).toNat = cntC S d c (mnK S d).toNat := by
  rw [e.2.2.2.1]
  unfold cntC
  refine sumTo_congr _ fun j hj => ?_
  rw [desEq.cl h e (by omega) (by omega)]
theorem mac_loc {n : Int} {S S' : Sto} {i : Int} (h : macI n S i) (e : ∀ a : Nat, 14 ≤ a → a ≤ 19 → mg S' a i = mg S a i) (e2 : ∀ k, 0 ≤ k → k < 6 → mg S' 20 (6 * i + k) = mg S 20 (6 * i + k) ∧ mg S' 21 (6 * i + k) = mg S 21 (6 * i + k)) (hO : nO S ≤ nO S')
    (hj : 0 ≤ mg S 17 i → mg S' 26 (mg S 17 i) = 1 ∧ mg S' 27 (mg S 17 i) = i) : macI n S' i := by
  obtain ⟨b14, b15, b16, b18, b19, bh, bd, bj⟩ := h
  have e14 := e 14 (by omega) (by omega)
  have e15 := e 15 (by omega) (by omega)
  have e16 := e 16 (by omega) (by omega)
  have e17 := e 17 (by omega) (by omega)
  have e18 := e 18 (by omega) (by omega)
  have e19 := e 19 (by omega) (by omega)
  refine ⟨by rw [e14]; exact b14, by rw [e15]; exact b15, by rw [e16]; exact b16, by rw [e18]; exact b18, by rw [e19]; exact b19, fun k k0 k6 => ?_, fun k l k0 kl l6 => ?_, ?_⟩
  · have y := bh k k0 k6
    dsimp only [hdK, ltK] at y ⊢
    rw [(e2 k k0 k6).1, (e2 k k0 k6).2, e14, e19]; exact y
  · have y := bd k l k0 kl l6
    dsimp only [hdK, ltK] at y ⊢
    rw [(e2 k k0 (by omega)).1, (e2 k k0 (by omega)).2, (e2 l (by omega) l6).1, (e2 l (by omega) l6).2]; exact y
  · rw [e17]
    exact ⟨bj.1, by have := bj.2.1; omega, hj⟩
theorem ord_loc {n : Int} {S S' : Sto} {o : Int} (h : ordI n S o) (e : ∀ a : Nat, 24 ≤ a → a ≤ 30 → mg S' a o = mg S a o) (e2 : ∀ c, 0 ≤ c → c < 6 → mg S' 31 (6 * o + c) = mg S 31 (6 * o + c)) (hD : nD S ≤ nD S') (hM : nM S ≤ nM S')
    (hj : 0 ≤ mg S 27 o → mg S' 17 (mg S 27 o) = o) (hde : desI S (mg S 24 o)) (hdq : desEq S S' (mg S 24 o)) : ordI n S' o := by
  obtain ⟨b24, b25, b26, ⟨c1, c2, c3, c4⟩, b28, b30, bs⟩ := h
  have e24 := e 24 (by omega) (by omega)
  have e25 := e 25 (by omega) (by omega)
  have e26 := e 26 (by omega) (by omega)
  have e27 := e 27 (by omega) (by omega)
  have e28 := e 28 (by omega) (by omega)
  have e29 := e 29 (by omega) (by omega)
  have e30 := e 30 (by omega) (by omega)
  have ec := fun c => desEq.cnt (c := c) hde hdq
  refine ⟨by rw [e24]; omega, by rw [e25]; exact b25, by rw [e26]; exact b26, by rw [e26, e27]; exact ⟨c1, by omega, hj, c4⟩, ?_, by rw [e30]; exact b30, fun c c0 c6 => ?_⟩
  · rw [e24, e25, e26, e28, e29, hdq.2.2.2.1]; exact b28
  · have y := bs c c0 c6
    dsimp only [sdK] at y ⊢
    rw [e2 c c0 c6, e26, e24, ec]; exact y
/-- the places of all designs -/
theorem desEq_ag {ks : List Nat} {S S' : Sto} (h : agr ks S S') (hk : ∀ q, q = 1 ∨ q = 2 ∨ q = 3 ∨ q = 4 ∨ q = 5 ∨ q = 6 ∨ q = 7 ∨ q = 9 ∨ q = 10 ∨ q = 11 → q ∉ ks) (d : Int) : desEq S S' d :=
  ⟨h.mg (hk 1 (by omega)), fun k _ _ a a2 a7 => h.mg (hk a (by omega)), fun p _ _ => h.mg (hk 9 (by omega)), h.mg (hk 10 (by omega)), fun j _ _ => h.mg (hk 11 (by omega))⟩
theorem draft_ag {ks : List Nat} {S S' : Sto} (h : agr ks S S') (hk : ∀ q, q = 1 ∨ q = 2 ∨ q = 3 ∨ q = 4 ∨ q = 5 ∨ q = 6 ∨ q = 7 ∨ q = 9 ∨ q = 10 ∨ q = 11 → q ∉ ks) (hd : draftI S) : draftI S' := by
  have e : shN S' 6 = shN S 6 := h.mg (hk 1 (by omega))
  unfold draftI
  rw [e]
  exact ⟨hd.1, hd.2.1, fun k k0 k1 => shEq.ok (fun a a2 a7 => h.mg (hk a (by omega))) (hd.2.2 k k0 k1)⟩

