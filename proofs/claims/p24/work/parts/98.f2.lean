/-- a call that changes one order's whole, begun, waste and shades -/
theorem CI.ord1 {n : Int} {B : Nat → Nat} {N : Nat} {S R S2 R' : Sto} {o : Nat} (h : CI B N S R) (hI : MI n R) (ho : (o : Int) < nO R) (r1 : S2.1 = S.1) (r3 : S2.2.2 = S.2.2) (hsm : ∀ t, t ≠ 2048 + 16 * o → t ≠ 2048 + 16 * o + 1 → sm S S2 t) (hgg : ∀ (a : Nat) (i : Int), ¬ (28 ≤ a ∧ a ≤ 31) → mg R' a i = mg R a i) (hN : nD R' = nD R ∧ nM R' = nM R ∧ nO R' = nO R)
    (hq : ∀ q : Nat, q ≠ o → (q : Int) < nO R → mg R' 28 q = mg R 28 q ∧ mg R' 29 q = mg R 29 q ∧ mg R' 30 q = mg R 30 q ∧ ∀ c : Nat, c < 6 → sdK R' q c = sdK R q c) (hk : ∀ k, k ≠ 5 → k ≠ 6 → k ≠ 7 → S2.2.1 (2048 + 16 * o) k = S.2.1 (2048 + 16 * o) k)
    (k5 : S2.2.1 (2048 + 16 * o) 5 = mg R' 28 o) (k6 : S2.2.1 (2048 + 16 * o) 6 = mg R' 29 o) (k7 : S2.2.1 (2048 + 16 * o) 7 = mg R' 30 o) (ks : ∀ c : Nat, c < 6 → S2.2.1 (2048 + 16 * o + 1) c = sdK R' o c) : CI B N S2 R' := by
  have hN1 := hI.2.1
  obtain ⟨u1, u2⟩ := h.upper (R' := R') (S' := S2) hI (fun t ht => hsm t (by omega) (by omega)) (by rw [r3]) (by rw [r3]) (fun a i ha => hgg a i (by omega)) hN.1
  obtain ⟨h1, ⟨e1, e3, e5', e7'⟩, -, -, hm, hoo, hst', hf⟩ := h
  have f1 := hsm 1 (by omega) (by omega)
  refine ⟨h1.fr r1 ⟨by rw [r3], by rw [r3]⟩ (h1.nl.fr (by rw [f1.2.1]) (by rw [f1.2.1]) (by rw [f1.2.1]) (by rw [r3]) (by rw [r3]) (by rw [r3])), ⟨?_, ?_, ?_, ?_⟩, u1, u2, fun i hi => ?_, fun o2 ho2 => ?_, fun k hk => ?_, hf.fr r1 hN⟩
  · rw [f1.2.1, e1]; exact (hgg 1 6 (by omega)).symm
  · rw [f1.2.1, e3, hN.1]
  · rw [f1.2.1, e5', hN.2.1]
  · rw [f1.2.1, e7', hN.2.2]
  · rw [hN.2.1] at hi
    exact (hm i hi).fr (by rw [r3]) (hsm _ (by omega) (by omega)) (hsm _ (by omega) (by omega)) (fun a j ha => hgg a j (by omega))
  · rw [hN.2.2] at ho2
    obtain ⟨⟨a1, a2, a3, a4, a5⟩, ⟨c0, c2, c4, c5, c6, c7⟩, c8, c9⟩ := hoo o2 ho2
    by_cases x : o2 = o
    · subst x
      refine ⟨⟨by rw [r3]; exact a1, by rw [r1]; exact a2, by rw [r3]; exact a3, by rw [r1]; exact a4, by rw [r3, hgg 24 _ (by omega)]; exact a5⟩, ⟨by rw [hk 0 (by omega) (by omega) (by omega)]; exact c0, by rw [hk 2 (by omega) (by omega) (by omega), hgg 25 _ (by omega)]; exact c2, by rw [hk 4 (by omega) (by omega) (by omega), hgg 26 _ (by omega)]; exact c4, k5, k6, k7⟩, by rw [r3, hgg 27 _ (by omega)]; exact c8, ks⟩
    · have y1 := hsm (2048 + 16 * o2) (by omega) (by omega)
      have y2 := hsm (2048 + 16 * o2 + 1) (by omega) (by omega)
      obtain ⟨z1, z2, z3, z4⟩ := hq o2 x ho2
      refine ⟨⟨by rw [r3]; exact a1, by rw [r1]; exact a2, by rw [r3]; exact a3, by rw [r1]; exact a4, by rw [r3, hgg 24 _ (by omega)]; exact a5⟩, ⟨by rw [y1.2.1]; exact c0, by rw [y1.2.1, hgg 25 _ (by omega)]; exact c2, by rw [y1.2.1, hgg 26 _ (by omega)]; exact c4, by rw [y1.2.1, z1]; exact c5, by rw [y1.2.1, z2]; exact c6, by rw [y1.2.1, z3]; exact c7⟩, by rw [r3, hgg 27 _ (by omega)]; exact c8, fun c hc => by rw [y2.2.1, z4 c hc]; exact c9 c hc⟩
  · rw [(hsm 9 (by omega) (by omega)).2.1, hgg 22 _ (by omega)]; exact hst' k hk
/-- what an order needs, in the class and in the reference -/
theorem need_e {n : Int} {B : Nat → Nat} {N : Nat} {S R : Sto} {o : Nat} {c : Int} (h : CI B N S R) (hI : MI n R) (ho : (o : Int) < nO R) (c0 : 0 ≤ c) : S.2.1 (2048 + 16 * o) 2 * ndS S ((wOf B R).q ((wOf B R).g o)) ((wOf B R).b ((wOf B R).g o)) c ((wOf B R).n ((wOf B R).g o)) = needK R o c := by
  obtain ⟨-, ⟨-, c2, -⟩, -⟩ := h.2.2.2.2.2.1 o ho
  obtain ⟨c24, -⟩ := hI.2.2.2.2.2.1 o (by omega) ho
  obtain ⟨-, -, -, -, a5, -⟩ := h.2.2.2.1 (mg R 24 o).toNat (by omega)
  have hD := hI.2.2.2.1 _ c24.1 c24.2
  have hdd : (((mg R 24 o).toNat : Nat) : Int) = mg R 24 o := Int.toNat_of_nonneg c24.1
  show S.2.1 (2048 + 16 * o) 2 * ndS S (qT R B (mg R 24 o).toNat) (fun p => (bgN (dQ R ((mg R 24 o).toNat : Nat)) p : Int)) c (shN R ((mg R 24 o).toNat : Nat)).toNat = _
  rw [hdd] at a5 ⊢
  have h3 := hD.1.2.2.1
  rw [cnt_e hD a5 c0 _ (by omega), c2, show bgN (dQ R (mg R 24 o)) (shN R (mg R 24 o)).toNat = (mnK R (mg R 24 o)).toNat by have := hD.end; omega]
  rfl
/-- a colour is sewn, in the class and in the reference -/
theorem sewn_e {n : Int} {B : Nat → Nat} {N : Nat} {S R : Sto} {o : Nat} {c : Int} (h : CI B N S R) (hI : MI n R) (ho : (o : Int) < nO R) : (0 < S.2.1 (2048 + 16 * o) 5 ∨ ∃ p : Nat, p < (wOf B R).n ((wOf B R).g o) ∧ S.2.1 ((wOf B R).q ((wOf B R).g o) p) 1 = c ∧ (wOf B R).b ((wOf B R).g o) p < S.2.1 (2048 + 16 * o) 6) ↔ sewnP R o c (mg R 29 o) := by
  obtain ⟨-, ⟨-, -, -, c5, c6, -⟩, -⟩ := h.2.2.2.2.2.1 o ho
  obtain ⟨c24, -, -, -, c28, -⟩ := hI.2.2.2.2.2.1 o (by omega) ho
  obtain ⟨-, -, -, -, a5, -⟩ := h.2.2.2.1 (mg R 24 o).toNat (by omega)
  have hD := hI.2.2.2.1 _ c24.1 c24.2
  have hdd : (((mg R 24 o).toNat : Nat) : Int) = mg R 24 o := Int.toNat_of_nonneg c24.1
  show (0 < S.2.1 (2048 + 16 * o) 5 ∨ ∃ p : Nat, p < (shN R ((mg R 24 o).toNat : Nat)).toNat ∧ S.2.1 (qT R B (mg R 24 o).toNat p) 1 = c ∧ (bgN (dQ R ((mg R 24 o).toNat : Nat)) p : Int) < S.2.1 (2048 + 16 * o) 6) ↔ _
  rw [hdd] at a5 ⊢
  rw [c5, c6]
  unfold sewnP
  have hend := hD.end
  constructor
  · rintro (w | ⟨p, p1, p2, p3⟩)
    · exact Or.inl w
    · have hl := hD.shq p (by omega)
      have hpos : 1 ≤ (clsL (dQ R (mg R 24 o) p)).length := (cls_ok hl.1).1.2.2
      have hc := (hD.code (p := p) (by omega) (i := 0) hpos).1
      rw [Nat.add_zero] at hc
      refine Or.inr ⟨_, by omega, p3, ?_⟩
      rw [a5.2 p (by omega)] at p2
      show mg R 3 (7 * mg R 24 o + stK R (mg R 24 o) _ / 256) = c
      rw [hc]; exact p2
  · rintro (w | ⟨j, j0, j1, j2⟩)
    · exact Or.inl w
    · obtain ⟨p, p1, p2, p3, p4, -⟩ := hD.pl (j := j.toNat) (by omega)
      rw [Int.toNat_of_nonneg j0] at p4
      refine Or.inr ⟨p, by omega, ?_, by omega⟩
      rw [a5.2 p p1, ← j2]
      show mg R 3 (7 * mg R 24 o + seqK R (mg R 24 o) p) = mg R 3 (7 * mg R 24 o + stK R (mg R 24 o) j / 256)
      rw [p4]

