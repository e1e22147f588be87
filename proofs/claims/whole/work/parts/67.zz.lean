/-! WHAT HOLDS BETWEEN CALLS IS KEPT: by places alone -/
def shEq (S S' : Sto) (k : Int) : Prop := ∀ a : Nat, 2 ≤ a → a ≤ 7 → mg S' a k = mg S a k
theorem shEq.row {S S' : Sto} {k its row : Int} (h : shEq S S' k) : ∀ n, rowK S' k its row n = rowK S k its row n
  | 0 => rfl
  | n + 1 => by unfold rowK; rw [h.row n, h 2 (by omega) (by omega), h 4 (by omega) (by omega), h 5 (by omega) (by omega), h 6 (by omega) (by omega)]
theorem shEq.rows {S S' : Sto} {k its : Int} (h : shEq S S' k) : ∀ n, rowsK S' k its n = rowsK S k its n
  | 0 => rfl
  | n + 1 => by unfold rowsK; rw [h.rows n, h.row, h 2 (by omega) (by omega), h 6 (by omega) (by omega)]
theorem shEq.hs {S S' : Sto} {k : Int} (h : shEq S S' k) {x y : Int} : hasK S' k x y = hasK S k x y := by
  unfold hasK; rw [h 2 (by omega) (by omega), h 4 (by omega) (by omega), h 5 (by omega) (by omega), h 6 (by omega) (by omega), h 7 (by omega) (by omega)]
theorem shEq.edg {S S' : Sto} {k : Int} (h : shEq S S' k) {x y : Int} : edgP S' k x y = edgP S k x y := by unfold edgP; simp only [h.hs]
theorem shEq.edge {S S' : Sto} {k its : Int} (h : shEq S S' k) : ∀ n, edgeK S' k its n = edgeK S k its n
  | 0 => rfl
  | n + 1 => by unfold edgeK; rw [h.edge n, h.edg]
theorem shEq.stl {S S' : Sto} {k its : Int} (h : shEq S S' k) : stL S' k its = stL S k its := by
  unfold stL; rw [h.rows, h.edge, h 7 (by omega) (by omega)]
theorem shEq.ok {S S' : Sto} {k : Int} (h : shEq S S' k) (hs : shOK S k) : shOK S' k := by
  unfold shOK at hs ⊢
  rw [h 2 (by omega) (by omega), h 3 (by omega) (by omega), h 4 (by omega) (by omega), h 5 (by omega) (by omega), h 6 (by omega) (by omega), h 7 (by omega) (by omega)]
  exact hs
theorem dpF_congr {n : Nat} {col col' : Nat → Int} {nd : Nat → Nat} (h : ∀ x, x < n → col x = col' x) : ∀ f s l, l < n → dpF n col nd f s l = dpF n col' nd f s l
  | 0, _, _, _ => rfl
  | f + 1, s, l, hl => by
    unfold dpF
    refine minTo_congr n fun x hx => ?_
    rw [dpF_congr h f _ x hx]
    unfold chg
    rw [h l hl, h x hx]
theorem gseq_congr {n : Nat} {col col' : Nat → Int} {nd : Nat → Nat} (hn : n ≤ 7) (hnd : needOK nd n) (h : ∀ x, x < n → col x = col' x) : ∀ p, p ≤ n → gseq n col nd p = gseq n col' nd p
  | 0, _ => rfl
  | p + 1, hp => by
    have ih := gseq_congr hn hnd h p (by omega)
    obtain ⟨-, -, g3, g4⟩ := gseq_ok (col := col') hn hnd p (by omega)
    have e : pick n col nd (gseq n col' nd p).1 (gseq n col' nd p).2 = pick n col' nd (gseq n col' nd p).1 (gseq n col' nd p).2 := by
      unfold pick
      refine argTo_congr n fun x hx => ?_
      unfold pkG dpV
      rw [dpF_congr h _ _ x hx]
      by_cases hp0 : p = 0
      · rw [if_pos (g3 hp0), if_pos (g3 hp0)]
      · have g5 := g4 (by omega)
        rw [if_neg (show ¬ (gseq n col' nd p).2 = -1 by omega), if_neg (show ¬ (gseq n col' nd p).2 = -1 by omega)]
        unfold chg
        rw [h x hx, h _ (show (gseq n col' nd p).2.toNat < n by omega)]
    show ((gseq n col nd p).1 ||| 2 ^ (pick n col nd (gseq n col nd p).1 (gseq n col nd p).2).toNat, pick n col nd (gseq n col nd p).1 (gseq n col nd p).2) = _
    rw [ih, e]; rfl
theorem gat_congr {n : Nat} {col col' : Nat → Int} {nd : Nat → Nat} (hn : n ≤ 7) (hnd : needOK nd n) (h : ∀ x, x < n → col x = col' x) {p : Nat} (hp : p < n) : gat n col nd p = gat n col' nd p := by
  unfold gat; rw [gseq_congr hn hnd h (p + 1) (by omega)]
/-- the places of a design -/
def desEq (S S' : Sto) (d : Int) : Prop := shN S' d = shN S d ∧ (∀ k, 0 ≤ k → k < shN S d → shEq S S' (7 * d + k)) ∧ (∀ p, 0 ≤ p → p < shN S d → mg S' 9 (7 * d + p) = mg S 9 (7 * d + p)) ∧ mnK S' d = mnK S d ∧ ∀ j, 0 ≤ j → j < mnK S d → mg S' 11 (2240 * d + j) = mg S 11 (2240 * d + j)
theorem desEq.dst {S S' : Sto} {d : Int} (h : desI S d) (e : desEq S S' d) : ∀ n : Nat, (n : Int) ≤ shN S d → dstL S' d n = dstL S d n
  | 0, _ => rfl
  | n + 1, hn => by
    have e9 : seqK S' d n = seqK S d n := e.2.2.1 n (by omega) (by omega)
    have hq := h.seq (p := n) (by omega) (by omega)
    unfold dstL
    rw [desEq.dst h e n (by omega), e9, (e.2.1 _ hq.1 hq.2).stl]
theorem desEq.des {S S' : Sto} {d : Int} (h : desI S d) (e : desEq S S' d) : desI S' d := by
  have hd := desEq.dst h e (shN S d).toNat (by have := h.1.2.2.1; omega)
  obtain ⟨h1, ⟨nd, h2, h3⟩, h4, h5⟩ := h
  obtain ⟨e1, e2, e3, e4, e5⟩ := e
  have n7 := h1.2.2.2.1
  refine ⟨⟨h1.1, h1.2.1, by rw [e1]; exact h1.2.2.1, by rw [e1]; exact n7, fun k k0 k1 => ?_⟩, ⟨nd, ?_, fun p hp => ?_⟩, ?_, fun j v hj => ?_⟩
  · rw [e1] at k1
    exact (e2 k k0 k1).ok (h1.2.2.2.2 k k0 k1)
  · rw [e1]
    intro q hq
    refine ⟨(h2 q hq).1, fun j => ?_⟩
    rw [(h2 q hq).2 j]
    constructor
    · rintro ⟨a, c, c0, c1, c2, c3⟩
      exact ⟨a, c, c0, c1, by rw [(e2 j (by omega) (by omega)).hs]; exact c2, by rw [(e2 q (by omega) (by omega)).hs]; exact c3⟩
    · rintro ⟨a, c, c0, c1, c2, c3⟩
      exact ⟨a, c, c0, c1, by rw [← (e2 j (by omega) (by omega)).hs]; exact c2, by rw [← (e2 q (by omega) (by omega)).hs]; exact c3⟩
  · rw [e1] at hp ⊢
    have a := h3 p hp
    rw [show seqK S' d p = seqK S d p from e3 p (by omega) (by omega), a]
    exact gat_congr (by omega) h2.ok (fun x hx => ((e2 x (by omega) (by omega)) 3 (by omega) (by omega)).symm) hp
  · rw [e1, hd, e4]; exact h4
  · rw [e1, hd] at hj
    have a := h5 j v hj
    have hlt : j < (dstL S d (shN S d).toNat).length := by
      rcases Nat.lt_or_ge j (dstL S d (shN S d).toNat).length with q | q
      · exact q
      · rw [List.getElem?_eq_none q] at hj; cases hj
    exact (e5 j (by omega) (by omega)).trans a
theorem desEq.cl {S S' : Sto} {d : Int} (h : desI S d) (e : desEq S S' d) {j : Int} (j0 : 0 ≤ j) (j1 : j < mnK S d) : clK S' d j = clK S d j := by
  have q := h.stR j0 j1
  have e11 : stK S' d j = stK S d j := e.2.2.2.2 j j0 j1
  show mg S' 3 (7 * d + stK S' d j / 256) = mg S 3 (7 * d + stK S d j / 256)
  rw [e11]
  exact e.2.1 _ q.2.2.2.1 q.2.2.2.2 3 (by omega) (by omega)
theorem desEq.cnt {S S' : Sto} {d c : Int} (h : desI S d) (e : desEq S S' d) : cntC S' d c (mnK S' d).toNat = cntC S d c (mnK S d).toNat := by
  rw [e.2.2.2.1]
  unfold cntC
  refine sumTo_congr _ fun j hj => ?_
  rw [desEq.cl h e (by omega) (by omega)]
theorem mac_loc {n : Int} {S S' : Sto} {i : Int} (h : macI n S i) (e : ∀ a : Nat, 14 ≤ a → a ≤ 19 → mg S' a i = mg S a i) (e2 : ∀ k, 0 ≤ k → k < 6 → mg S' 20 (6 * i + k) = mg S 20 (6 * i + k) ∧ mg S' 21 (6 * i + k) = mg S 21 (6 * i + k)) (hO : nO S ≤ nO S')
    (hj : 0 ≤ mg S 17 i → mg S' 26 (mg S 17 i) = 1 ∧ mg S' 27 (mg S 17 i) = i) : macI n S' i := by
  obtain ⟨b14, b15, b16, b18, b19, bh, bd, bj⟩ := h
  have e14 := e 14 (by omega) (by omega)
  have e15 := e 15 (by omega) (by omega)
  have e16 := e 16 (by omega) (by omega)
  have e17 := e 17 (by omega) (by omega)
  have e18 := e 18 (by omega) (by omega)
  have e19 := e 19 (by omega) (by omega)
  refine ⟨by rw [e14]; exact b14, by rw [e15]; exact b15, by rw [e16]; exact b16, by rw [e18]; exact b18, by rw [e19]; exact b19, fun k k0 k6 => ?_, fun k l k0 kl l6 => ?_, ?_⟩
  · have y := bh k k0 k6
    dsimp only [hdK, ltK] at y ⊢
    rw [(e2 k k0 k6).1, (e2 k k0 k6).2, e14, e19]; exact y
  · have y := bd k l k0 kl l6
    dsimp only [hdK, ltK] at y ⊢
    rw [(e2 k k0 (by omega)).1, (e2 k k0 (by omega)).2, (e2 l (by omega) l6).1, (e2 l (by omega) l6).2]; exact y
  · rw [e17]
    exact ⟨bj.1, by have := bj.2.1; omega, hj⟩
theorem ord_loc {n : Int} {S S' : Sto} {o : Int} (h : ordI n S o) (e : ∀ a : Nat, 24 ≤ a → a ≤ 30 → mg S' a o = mg S a o) (e2 : ∀ c, 0 ≤ c → c < 6 → mg S' 31 (6 * o + c) = mg S 31 (6 * o + c)) (hD : nD S ≤ nD S') (hM : nM S ≤ nM S')
    (hj : 0 ≤ mg S 27 o → mg S' 17 (mg S 27 o) = o) (hde : desI S (mg S 24 o)) (hdq : desEq S S' (mg S 24 o)) : ordI n S' o := by
  obtain ⟨b24, b25, b26, ⟨c1, c2, c3, c4⟩, b28, b30, bs⟩ := h
  have e24 := e 24 (by omega) (by omega)
  have e25 := e 25 (by omega) (by omega)
  have e26 := e 26 (by omega) (by omega)
  have e27 := e 27 (by omega) (by omega)
  have e28 := e 28 (by omega) (by omega)
  have e29 := e 29 (by omega) (by omega)
  have e30 := e 30 (by omega) (by omega)
  have ec := fun c => desEq.cnt (c := c) hde hdq
  refine ⟨by rw [e24]; omega, by rw [e25]; exact b25, by rw [e26]; exact b26, by rw [e26, e27]; exact ⟨c1, by omega, hj, c4⟩, ?_, by rw [e30]; exact b30, fun c c0 c6 => ?_⟩
  · rw [e24, e25, e26, e28, e29, hdq.2.2.2.1]; exact b28
  · have y := bs c c0 c6
    dsimp only [sdK] at y ⊢
    rw [e2 c c0 c6, e26, e24, ec]; exact y
/-- the places of all designs -/
theorem desEq_ag {ks : List Nat} {S S' : Sto} (h : agr ks S S') (hk : ∀ q, q = 1 ∨ q = 2 ∨ q = 3 ∨ q = 4 ∨ q = 5 ∨ q = 6 ∨ q = 7 ∨ q = 9 ∨ q = 10 ∨ q = 11 → q ∉ ks) (d : Int) : desEq S S' d :=
  ⟨h.mg (hk 1 (by omega)), fun k _ _ a a2 a7 => h.mg (hk a (by omega)), fun p _ _ => h.mg (hk 9 (by omega)), h.mg (hk 10 (by omega)), fun j _ _ => h.mg (hk 11 (by omega))⟩
theorem draft_ag {ks : List Nat} {S S' : Sto} (h : agr ks S S') (hk : ∀ q, q = 1 ∨ q = 2 ∨ q = 3 ∨ q = 4 ∨ q = 5 ∨ q = 6 ∨ q = 7 ∨ q = 9 ∨ q = 10 ∨ q = 11 → q ∉ ks) (hd : draftI S) : draftI S' := by
  have e : shN S' 6 = shN S 6 := h.mg (hk 1 (by omega))
  unfold draftI
  rw [e]
  exact ⟨hd.1, hd.2.1, fun k k0 k1 => shEq.ok (fun a a2 a7 => h.mg (hk a (by omega))) (hd.2.2 k k0 k1)⟩
theorem stock_MI {n : Int} {S S' : Sto} {c s x k v : Int} (h : MI n S) (hn : n + 1 ≤ 15000) (hR : stockR S c s x k v S') : MI (n + 1) S' := by
  obtain ⟨h1, h2, h3⟩ := hR
  by_cases hk : k = 0
  · obtain ⟨-, rfl⟩ := h3 hk
    have H := (h.up hn).th0 (k := 0)
    have hcs : (0 ≤ c ∧ c < 6 ∧ 0 ≤ s ∧ s < 3) ∧ (1 ≤ x ∧ x ≤ 100000) ∧ ¬ mg S 22 (3 * c + s) + x > 1000000 := by
      rw [hk] at h1
      refine ⟨Classical.byContradiction fun q => ?_, Classical.byContradiction fun q => ?_, fun q => ?_⟩
      · rw [if_pos q] at h1; omega
      · by_cases a : 0 ≤ c ∧ c < 6 ∧ 0 ≤ s ∧ s < 3
        · rw [if_neg (fun z => z a), if_pos q] at h1; omega
        · rw [if_pos a] at h1; omega
      · by_cases a : 0 ≤ c ∧ c < 6 ∧ 0 ≤ s ∧ s < 3
        · by_cases b : 1 ≤ x ∧ x ≤ 100000
          · rw [if_neg (fun z => z a), if_neg (fun z => z b), if_pos q] at h1; omega
          · rw [if_neg (fun z => z a), if_pos b] at h1; omega
        · rw [if_pos a] at h1; omega
    generalize hT : thr S 0 = T at *
    have e22 : mg S 22 (3 * c + s) = mg T 22 (3 * c + s) := by rw [← hT]; exact u2.symm
    have hag : agr [22] T (updI T (mt 22) (3 * c + s).toNat (mg S 22 (3 * c + s) + x)) := agr.rf.upd (by simp)
    have hk9 : ∀ q, q = 1 ∨ q = 2 ∨ q = 3 ∨ q = 4 ∨ q = 5 ∨ q = 6 ∨ q = 7 ∨ q = 9 ∨ q = 10 ∨ q = 11 → q ∉ [22] := fun q hq => by simp; omega
    have em : ∀ (a : Nat) (i : Int), a ≠ 22 → mg (updI T (mt 22) (3 * c + s).toNat (mg S 22 (3 * c + s) + x)) a i = mg T a i := fun a i ha => hag.mg (by simp; exact ha)
    obtain ⟨hM, hN, hdr, hde, hma, hor, hfr, hst⟩ := H
    refine ⟨hM, hN, draft_ag hag hk9 hdr, fun d d0 d1 => desEq.des (hde d d0 d1) (desEq_ag hag hk9 d), fun i i0 i1 => mac_loc (hma i i0 i1) (fun a a1 a2 => em a i (by omega)) (fun k k0 k6 => ⟨em 20 _ (by omega), em 21 _ (by omega)⟩) (Int.le_refl _) (fun q => by rw [em 26 _ (by omega), em 27 _ (by omega)]; exact (hma i i0 i1).2.2.2.2.2.2.2.2.2 q),
      fun o o0 o1 => ord_loc (hor o o0 o1) (fun a a1 a2 => em a o (by omega)) (fun c c0 c6 => em 31 _ (by omega)) (Int.le_refl _) (Int.le_refl _) (fun q => by rw [em 17 _ (by omega)]; exact (hor o o0 o1).2.2.2.1.2.2.1 q) (hde _ (hor o o0 o1).1.1 (hor o o0 o1).1.2) (desEq_ag hag hk9 _), hfr, fun q q0 q1 => ?_⟩
    have y := hst q q0 q1
    have y2 := hst (3 * c + s) (by omega) (by omega)
    rw [mgU]
    by_cases e : 22 = 22 ∧ q.toNat = (3 * c + s).toNat
    · rw [if_pos e]; omega
    · rw [if_neg e]; exact y
  · rw [h2 hk]; exact (h.up hn).th0
theorem wipe_MI {n : Int} {S S' : Sto} {k v : Int} (h : MI n S) (hn : n + 1 ≤ 15000) (hR : wipeR S k v S') : MI (n + 1) S' := by
  obtain ⟨-, -, rfl⟩ := hR
  have H := (h.up hn).th0 (k := 0)
  generalize hT : thr S 0 = T at *
  have hag : agr [1] T (updI T (mt 1) 6 0) := agr.rf.upd (by simp)
  have em : ∀ (a : Nat) (i : Int), a ≠ 1 ∨ (0 ≤ i ∧ i < 6) → mg (updI T (mt 1) 6 0) a i = mg T a i := fun a i ha => by
    rw [mgU, if_neg (by omega)]
  have hdq : ∀ d, 0 ≤ d → d < 6 → desEq T (updI T (mt 1) 6 0) d := fun d d0 d6 => ⟨em 1 d (Or.inr ⟨d0, d6⟩), fun k _ _ a a2 a7 => em a _ (Or.inl (by omega)), fun p _ _ => em 9 _ (Or.inl (by omega)), em 10 _ (Or.inl (by omega)), fun j _ _ => em 11 _ (Or.inl (by omega))⟩
  obtain ⟨hM, hN, hdr, hde, hma, hor, hfr, hst⟩ := H
  have e6 : shN (updI T (mt 1) 6 0) 6 = 0 := by
    show mg (updI T (mt 1) 6 0) 1 6 = 0
    rw [mgU, if_pos ⟨rfl, rfl⟩]
  refine ⟨hM, hN, ⟨by omega, by omega, fun k k0 k1 => by omega⟩, fun d d0 d1 => desEq.des (hde d d0 d1) (hdq d d0 (by have := hN; show d < 6; have e : nD (updI T (mt 1) 6 0) = nD T := rfl; omega)), fun i i0 i1 => mac_loc (hma i i0 i1) (fun a a1 a2 => em a i (Or.inl (by omega))) (fun k k0 k6 => ⟨em 20 _ (Or.inl (by omega)), em 21 _ (Or.inl (by omega))⟩) (Int.le_refl _) (fun q => by rw [em 26 _ (Or.inl (by omega)), em 27 _ (Or.inl (by omega))]; exact (hma i i0 i1).2.2.2.2.2.2.2.2.2 q),
      fun o o0 o1 => ord_loc (hor o o0 o1) (fun a a1 a2 => em a o (Or.inl (by omega))) (fun c c0 c6 => em 31 _ (Or.inl (by omega))) (Int.le_refl _) (Int.le_refl _) (fun q => by rw [em 17 _ (Or.inl (by omega))]; exact (hor o o0 o1).2.2.2.1.2.2.1 q) (hde _ (hor o o0 o1).1.1 (hor o o0 o1).1.2) (hdq _ (hor o o0 o1).1.1 (by have := (hor o o0 o1).1.2; omega)), hfr, hst⟩
theorem shape_MI {n : Int} {S S' : Sto} {i c x y w g k v : Int} (h : MI n S) (hn : n + 1 ≤ 15000) (hR : shapeR S i c x y w g k v S') : MI (n + 1) S' := by
  obtain ⟨h1, h2, h3⟩ := hR
  by_cases hk : k = 0
  · obtain ⟨-, hS⟩ := h3 hk
    have H := (h.up hn).th0 (k := 0)
    have hb : (0 ≤ i ∧ i ≤ 1 ∧ 0 ≤ c ∧ c < 6) ∧ (0 ≤ x ∧ x ≤ 15 ∧ 0 ≤ y ∧ y ≤ 15 ∧ 1 ≤ w ∧ w ≤ 16 - x ∧ 1 ≤ g ∧ g ≤ 16 - y) ∧ shN S 6 ≠ 7 := by
      rw [hk] at h1
      by_cases a : 0 ≤ i ∧ i ≤ 1 ∧ 0 ≤ c ∧ c < 6
      · rw [if_neg (fun z => z a)] at h1
        by_cases b : 0 ≤ x ∧ x ≤ 15 ∧ 0 ≤ y ∧ y ≤ 15 ∧ 1 ≤ w ∧ w ≤ 16 - x ∧ 1 ≤ g ∧ g ≤ 16 - y
        · rw [if_neg (fun z => z b)] at h1
          by_cases e : shN S 6 = 7
          · rw [if_pos e] at h1; omega
          · exact ⟨a, b, e⟩
        · rw [if_pos b] at h1; omega
      · rw [if_pos a] at h1; omega
    obtain ⟨b1, b2, b3⟩ := hb
    have e6 : shN S 6 = shN (thr S 0) 6 := rfl
    rw [e6] at hS b3
    generalize hT : thr S 0 = T at *
    obtain ⟨hM, hN, hdr, hde, hma, hor, hfr, hst⟩ := H
    obtain ⟨q, hq⟩ : ∃ q, shN T 6 = q := ⟨_, rfl⟩
    have hdr2 := hdr
    unfold draftI at hdr2
    rw [hq] at hS b3 hdr2
    have hq42 : (0 : Int) ≤ 42 + q := by omega
    have hv : ∀ (a : Nat) (j : Int), 0 ≤ j → mg S' a j = if a = 1 ∧ j = 6 then q + 1 else if a = 7 ∧ j = 42 + q then g else if a = 6 ∧ j = 42 + q then w else if a = 5 ∧ j = 42 + q then y else if a = 4 ∧ j = 42 + q then x else if a = 3 ∧ j = 42 + q then c else if a = 2 ∧ j = 42 + q then i else mg T a j := fun a j j0 => by
      rw [hS]
      simp only [mgU, tnE j0 hq42, show (j.toNat = 6) = (j = 6) from propext ⟨fun z => by omega, fun z => by omega⟩]
    have hag : agr [1, 2, 3, 4, 5, 6, 7] T S' := by
      rw [hS]
      exact ((((((agr.rf.upd (by simp)).upd (by simp)).upd (by simp)).upd (by simp)).upd (by simp)).upd (by simp)).upd (by simp)
    have em : ∀ (a : Nat) (j : Int), 7 < a → mg S' a j = mg T a j := fun a j ha => hag.mg (by simp; omega)
    have es : ∀ j, 0 ≤ j → j < 42 + q → shEq T S' j := fun j j0 j1 a a2 a7 => by
      rw [hv a j j0, if_neg (by omega), if_neg (by omega), if_neg (by omega), if_neg (by omega), if_neg (by omega), if_neg (by omega), if_neg (by omega)]
    have e1 : ∀ j, 0 ≤ j → j ≠ 6 → mg S' 1 j = mg T 1 j := fun j j0 j6 => by
      rw [hv 1 j j0, if_neg (by omega), if_neg (by omega), if_neg (by omega), if_neg (by omega), if_neg (by omega), if_neg (by omega), if_neg (by omega)]
    have hdq : ∀ d, 0 ≤ d → d < 6 → desI T d → desEq T S' d := fun d d0 d6 hd => ⟨e1 d d0 (by omega), fun k k0 k1 => es _ (by omega) (by have := hd.1.2.2.2.1; omega), fun p _ _ => em 9 _ (by omega), em 10 _ (by omega), fun j _ _ => em 11 _ (by omega)⟩
    have e8 : nD S' = nD T := hag.mf
    have e13 : nM S' = nM T := hag.mf
    have e23 : nO S' = nO T := hag.mf
    have es6 : shN S' 6 = q + 1 := by
      show mg S' 1 6 = _
      rw [hv 1 6 (by omega), if_pos ⟨rfl, rfl⟩]
    refine ⟨hag.ms hM, by rw [e8, e13, e23]; exact hN, ⟨by omega, by omega, fun k k0 k1 => ?_⟩, fun d d0 d1 => ?_, fun i' i0 i1 => mac_loc (hma i' i0 (by omega)) (fun a a1 a2 => em a i' (by omega)) (fun k k0 k6 => ⟨em 20 _ (by omega), em 21 _ (by omega)⟩) (by omega) (fun z => by rw [em 26 _ (by omega), em 27 _ (by omega)]; exact (hma i' i0 (by omega)).2.2.2.2.2.2.2.2.2 z),
      fun o o0 o1 => ?_, ⟨fun d a b => (em 10 d (by omega)).trans (hfr.1 d (by omega) b), fun i' a b => ?_, fun o a b => ?_⟩, fun k k0 k1 => by rw [em 22 _ (by omega)]; exact hst k k0 k1⟩
    · rw [es6] at k1
      by_cases e : k = q
      · subst e
        unfold shOK
        rw [hv 2 _ (by omega), hv 3 _ (by omega), hv 4 _ (by omega), hv 5 _ (by omega), hv 6 _ (by omega), hv 7 _ (by omega)]
        simp
        omega
      · exact (es _ (by omega) (by omega)).ok (hdr2.2.2 k k0 (by omega))
    · rw [e8] at d1
      exact desEq.des (hde d d0 d1) (hdq d d0 (by omega) (hde d d0 d1))
    · rw [e23] at o1
      have y := hor o o0 o1
      exact ord_loc y (fun a a1 a2 => em a o (by omega)) (fun c c0 c6 => em 31 _ (by omega)) (by omega) (by omega) (fun z => by rw [em 17 _ (by omega)]; exact y.2.2.2.1.2.2.1 z) (hde _ y.1.1 y.1.2) (hdq _ y.1.1 (by have := y.1.2; omega) (hde _ y.1.1 y.1.2))
    · obtain ⟨z1, z2, z3⟩ := hfr.2.1 i' (by omega) b
      exact ⟨(em 18 _ (by omega)).trans z1, (em 19 _ (by omega)).trans z2, fun k k0 k6 => (em 21 _ (by omega)).trans (z3 k k0 k6)⟩
    · obtain ⟨z1, z2, z3, z4, z5⟩ := hfr.2.2 o (by omega) b
      exact ⟨(em 26 _ (by omega)).trans z1, (em 28 _ (by omega)).trans z2, (em 29 _ (by omega)).trans z3, (em 30 _ (by omega)).trans z4, fun c c0 c6 => (em 31 _ (by omega)).trans (z5 c c0 c6)⟩
  · rw [h2 hk]; exact (h.up hn).th0
