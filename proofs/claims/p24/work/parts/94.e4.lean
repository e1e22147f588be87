/-! CLASS AGAINST REFERENCE: what ties a design speaks of the design's places alone -/
theorem bgN_congr {P P' : Nat → Int → Int → Prop} : ∀ n : Nat, (∀ p, p < n → P' p = P p) → bgN P' n = bgN P n
  | 0, _ => rfl
  | n + 1, h => by
    show bgN P' n + (clsL (P' n)).length = bgN P n + (clsL (P n)).length
    rw [bgN_congr n (fun p hp => h p (by omega)), h n (by omega)]
theorem dgC.congr {S : Sto} {T n : Nat} {q q' : Nat → Nat} {b b' : Nat → Int} {m : Nat} (h : dgC S T n q b m) (hq : ∀ p, p < n → q' p = q p) (hb : ∀ p, p ≤ n → b' p = b p) : dgC S T n q' b' m := by
  obtain ⟨d1, d2, d3, d4, d5, d6, ⟨d7, d7', d7''⟩, d8⟩ := h
  refine ⟨d1, d2, d3, d4, d5, d6, ⟨by rw [hb 0 (by omega)]; exact d7, by rw [hb n (Nat.le_refl n)]; exact d7', fun p hp => by rw [hb p (by omega), hb (p + 1) hp]; exact d7'' p hp⟩, fun p hp => ?_⟩
  rw [hq p hp, hb p (by omega), hb (p + 1) hp]
  exact d8 p hp
theorem sqC.congr {S : Sto} {s a n : Nat} {u : Nat → Nat} {col col' : Nat → Int} {nd : Nat → Nat} (h : sqC S s a n u col nd) (hc : ∀ k, k < n → col' k = col k) : sqC S s a n u col' nd := by
  obtain ⟨a1, a2, a3, a4, a5, a6, a7, a8⟩ := h
  refine ⟨⟨a1.1, a1.2.1, a1.2.2.1, fun k hk => ?_⟩, a2, a3, a4, a5, a6, fun k hk => ?_, a8⟩
  · obtain ⟨w, w1, w2, w3⟩ := a1.2.2.2 k hk
    exact ⟨w, w1, w2, fun j hj => by rw [hc k hk, hc j hj]; exact w3 j hj⟩
  · rw [hc k hk]; exact a7 k hk
theorem ndQ.congr {P P' : Nat → Int → Int → Prop} {nd : Nat → Nat} {n : Nat} (h : ndQ P nd n) (hP : ∀ k, k < n → P' k = P k) : ndQ P' nd n := fun q hq => by
  refine ⟨(h q hq).1, fun j => ?_⟩
  rw [(h q hq).2 j]
  constructor
  · rintro ⟨x, y⟩
    exact ⟨x, by rw [hP j (by omega), hP q hq]; exact y⟩
  · rintro ⟨x, y⟩
    exact ⟨x, by rw [hP j (by omega), hP q hq] at y; exact y⟩
theorem desEq.hs {R R' : Sto} {d : Int} (e : desEq R R' d) {k : Int} (k0 : 0 ≤ k) (k1 : k < shN R d) : hasK R' (7 * d + k) = hasK R (7 * d + k) := by
  funext x y
  exact (e.2.1 k k0 k1).hs
theorem desEq.sq {R R' : Sto} {d : Int} (e : desEq R R' d) {p : Int} (p0 : 0 ≤ p) (p1 : p < shN R d) : seqK R' d p = seqK R d p := e.2.2.1 p p0 p1
theorem desEq.co {R R' : Sto} {d : Int} (e : desEq R R' d) {k : Int} (k0 : 0 ≤ k) (k1 : k < shN R d) : colK R' d k = colK R d k := e.2.1 k k0 k1 3 (by omega) (by omega)
theorem desEq.cov {R R' : Sto} {d : Int} (h : desI R d) (e : desEq R R' d) {its x y : Int} : covN R' d its x y (shN R d) ↔ covN R d its x y (shN R d) := by
  unfold covN
  constructor
  · rintro ⟨q, q0, q1, ⟨p, p0, p1, p2⟩, q2⟩
    have s := h.seq q0 q1
    rw [e.sq q0 q1, e.hs s.1 s.2] at q2
    rw [e.sq p0 (by omega)] at p2
    exact ⟨q, q0, q1, ⟨p, p0, p1, p2⟩, q2⟩
  · rintro ⟨q, q0, q1, ⟨p, p0, p1, p2⟩, q2⟩
    have s := h.seq q0 q1
    rw [← e.hs s.1 s.2, ← e.sq q0 q1] at q2
    rw [← e.sq p0 (by omega)] at p2
    exact ⟨q, q0, q1, ⟨p, p0, p1, p2⟩, q2⟩
theorem desEq.jmp {R R' : Sto} {d : Int} (h : desI R d) (e : desEq R R' d) (hid : Int) : jmpN R' d hid (mnK R' d).toNat = jmpN R d hid (mnK R d).toNat := by
  have hm := h.mn
  rw [e.2.2.2.1]
  unfold jmpN
  refine sumTo_congr _ fun j hj => ?_
  have c1 := desEq.cl h e (j := (j : Int) + 1) (by omega) (by omega)
  have c2 := desEq.cl h e (j := (j : Int) + 1 - 1) (by omega) (by omega)
  have s1 : stK R' d ((j : Int) + 1) = stK R d ((j : Int) + 1) := e.2.2.2.2 _ (by omega) (by omega)
  have s2 : stK R' d ((j : Int) + 1 - 1) = stK R d ((j : Int) + 1 - 1) := e.2.2.2.2 _ (by omega) (by omega)
  have hc := fun x y => desEq.cov h e (its := stK R d ((j : Int) + 1) / 256) (x := x) (y := y)
  have hp : jmpP R' d hid ((j : Int) + 1) ↔ jmpP R d hid ((j : Int) + 1) := by
    unfold jmpP
    rw [c1, c2, s1, s2, e.1, hc]
  unfold jmpI
  by_cases x : jmpP R d hid ((j : Int) + 1)
  · rw [if_pos x, if_pos (hp.mpr x)]
  · rw [if_neg x, if_neg (fun y => x (hp.mp y))]
theorem desEq.chg {R R' : Sto} {d : Int} (h : desI R d) (e : desEq R R' d) : chgN R' d (shN R' d).toNat = chgN R d (shN R d).toNat := by
  have h3 := h.1.2.2.1
  rw [e.1]
  unfold chgN
  refine sumTo_congr _ fun p hp => ?_
  have s1 := h.seq (p := p) (by omega) (by omega)
  have s2 := h.seq (p := (p : Int) + 1) (by omega) (by omega)
  rw [e.sq (p := p) (by omega) (by omega), e.sq (p := (p : Int) + 1) (by omega) (by omega), e.co s1.1 s1.2, e.co s2.1 s2.2]
theorem dsI.eqR {B : Nat → Nat} {S R R' : Sto} {d : Nat} (hD : desI R d) (e : desEq R R' d) (h : dsI B S R d) : dsI B S R' d := by
  have h3 := hD.1.2.2.1
  obtain ⟨a1, ⟨nd, a2, a3⟩, a4, a5, a6, ⟨a7, a8, a9, a10⟩, a11⟩ := h
  have hq : ∀ p : Nat, (p : Int) < shN R d → qT R' B d p = qT R B d p := fun p hp => by
    unfold qT
    rw [e.sq (by omega) hp]
  have hQ : ∀ p : Nat, (p : Int) < shN R d → dQ R' d p = dQ R d p := fun p hp => by
    have s := hD.seq (p := p) (by omega) hp
    show hasK R' (7 * d + seqK R' d p) = hasK R (7 * d + seqK R d p)
    rw [e.sq (by omega) hp, e.hs s.1 s.2]
  have em := e.2.2.2.1
  refine ⟨a1, ⟨nd, ?_, ?_⟩, ?_, ⟨fun k hk => ?_, fun p hp => ?_⟩, fun p hp => ?_, ⟨a7, by rw [desEq.chg hD e]; exact a8, by rw [desEq.jmp hD e]; exact a9, by rw [desEq.jmp hD e]; exact a10⟩, by rw [em]; exact a11⟩
  · rw [e.1]
    exact a2.congr fun k hk => e.hs (by omega) (by omega)
  · rw [e.1]
    exact a3.congr fun k hk => e.co (by omega) (by omega)
  · rw [e.1, em]
    refine a4.congr (fun p hp => hq p (by omega)) fun p hp => ?_
    show ((bgN (dQ R' d) p : Nat) : Int) = (bgN (dQ R d) p : Nat)
    rw [bgN_congr p (fun p' hp' => hQ p' (by omega))]
  · rw [em] at hk
    rw [a5.1 k hk, show stK R' d k = stK R d k from e.2.2.2.2 k (by omega) hk]
  · rw [e.1] at hp
    have s := hD.seq (p := p) (by omega) hp
    rw [hq p hp, a5.2 p hp, e.sq (by omega) hp, e.co s.1 s.2]
  · rw [e.1] at hp
    rw [hq p hp, a6 p hp, e.sq (by omega) hp]

