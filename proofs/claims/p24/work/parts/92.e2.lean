/-! CLASS AGAINST REFERENCE: a design's stitches, jumps, hoop, colours -/
theorem desI.inj {R : Sto} {d : Int} (h : desI R d) {a b : Int} (a0 : 0 ≤ a) (ab : a < b) (hb : b < shN R d) : seqK R d a ≠ seqK R d b := by
  obtain ⟨⟨-, -, n1, n7, -⟩, ⟨nd, h1, h2⟩, -⟩ := h
  intro e
  have e1 := h2 a.toNat (by omega)
  have e2 := h2 b.toNat (by omega)
  rw [Int.toNat_of_nonneg a0] at e1
  rw [Int.toNat_of_nonneg (by omega)] at e2
  refine gat_ne (col := colF R d) (n := (shN R d).toNat) (nd := nd) (by omega) h1.ok (i := a.toNat) (j := b.toNat) (by omega) (by omega) ?_
  rw [← e1, ← e2, e]
theorem bgN_uq {P : Nat → Int → Int → Prop} {a b k : Nat} (a1 : bgN P a ≤ k) (a2 : k < bgN P (a + 1)) (b1 : bgN P b ≤ k) (b2 : k < bgN P (b + 1)) : a = b := by
  rcases Nat.lt_trichotomy a b with q | q | q
  · have := bgN_mono (P := P) (a := a + 1) b (by omega); omega
  · exact q
  · have := bgN_mono (P := P) (a := b + 1) a (by omega); omega
/-- the class's array t holds a design's cells, its shapes q have their colours -/
def celT (S R : Sto) (d : Int) (t : Nat) (q : Nat → Nat) : Prop := (∀ k : Nat, (k : Int) < mnK R d → S.2.1 t k = stK R d k % 256) ∧ ∀ p : Nat, (p : Int) < shN R d → S.2.1 (q p) 1 = colK R d (seqK R d p)
theorem jmp_e {S R : Sto} {d : Int} {t : Nat} {q : Nat → Nat} {hid : Int} (h : desI R d) (hc : celT S R d t q) {k : Nat} (k1 : 1 ≤ k) (k2 : (k : Int) < mnK R d) : jjP S t (shN R d).toNat q (dQ R d) hid k ↔ jmpP R d hid k := by
  obtain ⟨p, p1, p2, p3, p4, -⟩ := h.pl k2
  obtain ⟨p', p1', p2', p3', p4', -⟩ := h.pl (j := k - 1) (by omega)
  have hk1 : ((k - 1 : Nat) : Int) = (k : Int) - 1 := by omega
  rw [hk1] at p4'
  have c1 := hc.1 k k2
  have c2 := hc.1 (k - 1) (by omega)
  rw [hk1] at c2
  have hcl : (bgN (dQ R d) p < k ∨ (0 < p ∧ S.2.1 (q (p - 1)) 1 = S.2.1 (q p) 1)) ↔ clK R d k = clK R d ((k : Int) - 1) := by
    have x1 : clK R d k = colK R d (seqK R d p) := by show mg R 3 (7 * d + stK R d k / 256) = _; rw [p4]
    have x2 : clK R d ((k : Int) - 1) = colK R d (seqK R d p') := by show mg R 3 (7 * d + stK R d ((k : Int) - 1) / 256) = _; rw [p4']
    rw [x1, x2]
    by_cases e : bgN (dQ R d) p < k
    · have := bgN_uq (P := dQ R d) (a := p) (b := p') (k := k - 1) (by omega) (by omega) p2' p3'
      rw [← this]
      exact ⟨fun _ => rfl, fun _ => Or.inl e⟩
    · have p0 : 0 < p := by
        rcases Nat.eq_zero_or_pos p with z | z
        · exfalso
          rw [z] at e
          have : bgN (dQ R d) 0 = 0 := rfl
          omega
        · exact z
      have hl := h.shq (p - 1) (by omega)
      have hpos := (cls_ok hl.1).1.2.2
      have e2 : bgN (dQ R d) (p - 1 + 1) = bgN (dQ R d) (p - 1) + (clsL (dQ R d (p - 1))).length := rfl
      have e3 := bgN_uq (P := dQ R d) (a := p - 1) (b := p') (k := k - 1) (by rw [show p - 1 + 1 = p by omega] at e2; have : 1 ≤ (clsL (dQ R d (p - 1))).length := hpos; omega) (by rw [show p - 1 + 1 = p by omega]; omega) p2' p3'
      rw [← e3, hc.2 p p1, hc.2 (p - 1) (by omega)]
      constructor
      · rintro (w | ⟨-, w⟩)
        · exact absurd w e
        · exact w.symm
      · intro w
        exact Or.inr ⟨p0, w.symm⟩
  have hfar : farP (S.2.1 t (k - 1)) (S.2.1 t k) ↔ (offP (stK R d k % 16) (stK R d ((k : Int) - 1) % 16) ∨ offP (stK R d k / 16 % 16) (stK R d ((k : Int) - 1) / 16 % 16)) := by
    rw [c1, c2]
    unfold farP offP
    omega
  have hhid : hidP (shN R d).toNat (dQ R d) p (S.2.1 t (k - 1)) (S.2.1 t k) ↔ covN R d (stK R d k / 256) ((stK R d k % 16 + stK R d ((k : Int) - 1) % 16) / 2) ((stK R d k / 16 % 16 + stK R d ((k : Int) - 1) / 16 % 16) / 2) (shN R d) := by
    rw [c1, c2, p4]
    unfold hidP covN
    have m1 : (stK R d ((k : Int) - 1) % 256 % 16 + stK R d k % 256 % 16) / 2 = (stK R d k % 16 + stK R d ((k : Int) - 1) % 16) / 2 := by omega
    have m2 : (stK R d ((k : Int) - 1) % 256 / 16 + stK R d k % 256 / 16) / 2 = (stK R d k / 16 % 16 + stK R d ((k : Int) - 1) / 16 % 16) / 2 := by omega
    rw [m1, m2]
    constructor
    · rintro ⟨r, r1, r2, r3⟩
      exact ⟨r, by omega, by omega, ⟨p, by omega, r1, rfl⟩, r3⟩
    · rintro ⟨r, r0, r1, ⟨s, s0, s1, s2⟩, r3⟩
      have e : s = p := by
        rcases Int.lt_trichotomy s p with w | w | w
        · exact absurd s2 (h.inj s0 w p1)
        · exact w
        · exact absurd s2.symm (h.inj (by omega) w (by omega))
      refine ⟨r.toNat, by omega, by omega, ?_⟩
      show hasK R (7 * d + seqK R d ((r.toNat : Nat) : Int)) _ _
      rw [Int.toNat_of_nonneg r0]
      exact r3
  constructor
  · rintro ⟨p9, q1, q2, q3, j1, j2, j3⟩
    have e := bgN_uq q2 q3 p2 p3
    subst e
    exact ⟨hcl.mp j1, hfar.mp j2, by rw [← hhid]; exact j3⟩
  · rintro ⟨j1, j2, j3⟩
    exact ⟨p, by omega, p2, p3, hcl.mpr j1, hfar.mpr j2, by rw [hhid]; exact j3⟩
theorem jmpN_e {S R : Sto} {d : Int} {t : Nat} {q : Nat → Nat} {hid : Int} (h : desI R d) (hc : celT S R d t q) : jjN S t (shN R d).toNat q (dQ R d) hid (mnK R d).toNat = jmpN R d hid (mnK R d).toNat := by
  have hm := h.mn
  unfold jjN jmpN
  refine sumTo_congr _ fun j hj => ?_
  have e := jmp_e (hid := hid) h hc (k := j + 1) (by omega) (by omega)
  unfold jmpI
  rw [show ((j : Int) + 1) = ((j + 1 : Nat) : Int) by omega]
  by_cases x : jjP S t (shN R d).toNat q (dQ R d) hid (j + 1)
  · rw [bI_t x, if_pos (e.mp x)]
  · rw [bI_f x, if_neg (fun y => x (e.mpr y))]
theorem hoop_e {S R : Sto} {d : Int} {t : Nat} {q : Nat → Nat} {w g : Int} (h : desI R d) (hc : celT S R d t q) (hh : hoopP S t (mnK R d).toNat w g) (a b : Int) : (w ≤ a ∧ g ≤ b) ↔ ∀ j, 0 ≤ j → j < mnK R d → stK R d j % 16 < a ∧ stK R d j / 16 % 16 < b := by
  have hm := h.mn
  obtain ⟨h1, ⟨j1, h2, h3⟩, ⟨j2, h4, h5⟩⟩ := hh
  constructor
  · rintro ⟨x, y⟩ j j0 jm
    have z := h1 j.toNat (by omega)
    rw [hc.1 _ (by omega), Int.toNat_of_nonneg j0] at z
    omega
  · intro z
    have z1 := z j1 (by omega) (by omega)
    have z2 := z j2 (by omega) (by omega)
    rw [hc.1 _ (by omega)] at h3 h5
    omega
theorem sum_const {f : Nat → Int} {v : Int} : ∀ n : Nat, (∀ i, i < n → f i = v) → sumTo f n = v * n
  | 0, _ => by show (0 : Int) = v * 0; omega
  | n + 1, h => by
    show sumTo f n + f n = _
    rw [sum_const n (fun i hi => h i (by omega)), h n (by omega), Int.natCast_add, Int.mul_add]
    simp
theorem cnt_e {S R : Sto} {d : Int} {t : Nat} {q : Nat → Nat} {c : Int} (h : desI R d) (hc : celT S R d t q) (c0 : 0 ≤ c) : ∀ p : Nat, (p : Int) ≤ shN R d → ndS S q (fun p => (bgN (dQ R d) p : Int)) c p = cntC R d c (bgN (dQ R d) p)
  | 0, _ => rfl
  | p + 1, hp => by
    have ih := cnt_e h hc c0 p (by omega)
    have e : bgN (dQ R d) (p + 1) = bgN (dQ R d) p + (clsL (dQ R d p)).length := rfl
    show ndS S q (fun p => (bgN (dQ R d) p : Int)) c p + (if S.2.1 (q p) 1 = c then ((bgN (dQ R d) (p + 1) : Nat) : Int) - bgN (dQ R d) p else 0) = _
    have hcl : ∀ i, i < (clsL (dQ R d p)).length → clK R d ((bgN (dQ R d) p + i : Nat) : Int) = colK R d (seqK R d p) := fun i hi => by
      show mg R 3 (7 * d + stK R d _ / 256) = _
      rw [(h.code (p := p) (by omega) hi).1]
    have key : (if S.2.1 (q p) 1 = c then ((bgN (dQ R d) (p + 1) : Nat) : Int) - bgN (dQ R d) p else 0) = sumTo (fun i : Nat => if c = -1 ∨ clK R d ((bgN (dQ R d) p + i : Nat) : Int) = c then (1 : Int) else 0) (clsL (dQ R d p)).length := by
      rw [hc.2 p (by omega)]
      by_cases x : colK R d (seqK R d p) = c
      · rw [if_pos x, sum_const (v := 1) _ (fun i hi => by rw [hcl i hi, if_pos (Or.inr x)]), e]
        omega
      · rw [if_neg x, sum_const (v := 0) _ (fun i hi => by rw [hcl i hi, if_neg (fun w => w.elim (fun y => by omega) x)])]
        omega
    have key2 : cntC R d c (bgN (dQ R d) (p + 1)) = cntC R d c (bgN (dQ R d) p) + sumTo (fun i : Nat => if c = -1 ∨ clK R d ((bgN (dQ R d) p + i : Nat) : Int) = c then (1 : Int) else 0) (clsL (dQ R d p)).length := by
      rw [e]
      exact sum_add _ _
    rw [ih, key, key2]

