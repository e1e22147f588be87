/-- the stretch that the class sews, told of the reference -/
theorem strP_R {n : Int} {B : Nat → Nat} {N : Nat} {S R : Sto} {o p : Nat} {most c s k : Int} (h : CI B N S R) (hI : MI n R) (ho : (o : Int) < nO R) (hP : strP (wOf B R) S o most p c s k) :
    (0 ≤ c ∧ c < 6) ∧ s = sdK R o c ∧ clK R (mg R 24 o) (mg R 29 o) = c ∧ (∀ j, mg R 29 o ≤ j → j < mg R 29 o + k → clK R (mg R 24 o) j = c) ∧ mg R 29 o + k ≤ mnK R (mg R 24 o) ∧ k ≤ most ∧ (0 ≤ s → s < 3 → k ≤ mg R 22 (3 * c + s) ∧ (1 ≤ most → k ≤ 0 → mg R 22 (3 * c + s) ≤ 0)) := by
  obtain ⟨hin, hc, hs, th, r, hth, hr, hk⟩ := hP
  obtain ⟨-, ⟨-, -, -, -, c6, -⟩, -, hsd⟩ := h.2.2.2.2.2.1 o ho
  obtain ⟨c24, -, -, -, c28, -⟩ := hI.2.2.2.2.2.1 o (by omega) ho
  obtain ⟨-, -, -, -, a5, -⟩ := h.2.2.2.1 (mg R 24 o).toNat (by omega)
  have hD := hI.2.2.2.1 _ c24.1 c24.2
  have hdd : (((mg R 24 o).toNat : Nat) : Int) = mg R 24 o := Int.toNat_of_nonneg c24.1
  have hin2 : p < (shN R ((mg R 24 o).toNat : Nat)).toNat ∧ (bgN (dQ R ((mg R 24 o).toNat : Nat)) p : Int) ≤ S.2.1 (2048 + 16 * o) 6 ∧ S.2.1 (2048 + 16 * o) 6 < (bgN (dQ R ((mg R 24 o).toNat : Nat)) (p + 1) : Int) := hin
  have hc2 : c = S.2.1 (qT R B (mg R 24 o).toNat p) 1 := hc
  have hk2 : k = (if r ≤ (bgN (dQ R ((mg R 24 o).toNat : Nat)) (p + 1) : Int) - S.2.1 (2048 + 16 * o) 6 then r else (bgN (dQ R ((mg R 24 o).toNat : Nat)) (p + 1) : Int) - S.2.1 (2048 + 16 * o) 6) := hk
  rw [hdd] at hin2 hk2 a5
  rw [c6] at hin2 hk2
  obtain ⟨p1, p2, p3⟩ := hin2
  have hpn : (p : Int) < shN R (mg R 24 o) := by omega
  rw [a5.2 p hpn] at hc2
  have hend := hD.end
  have hmono := bgN_mono (P := dQ R (mg R 24 o)) (a := p + 1) (shN R (mg R 24 o)).toNat (by omega)
  have hcol : ∀ j, mg R 29 o ≤ j → j < (bgN (dQ R (mg R 24 o)) (p + 1) : Int) → clK R (mg R 24 o) j = c := fun j j0 j1 => by
    obtain ⟨p', p1', p2', p3', p4', -⟩ := hD.pl (j := j.toNat) (by omega)
    have e := bgN_uq (P := dQ R (mg R 24 o)) (a := p) (b := p') (k := j.toNat) (by omega) (by omega) p2' p3'
    rw [Int.toNat_of_nonneg (by omega), ← e] at p4'
    rw [hc2]
    show mg R 3 (7 * mg R 24 o + stK R (mg R 24 o) j / 256) = mg R 3 (7 * mg R 24 o + seqK R (mg R 24 o) p)
    rw [p4']
  have hkr : k ≤ r ∧ k ≤ (bgN (dQ R (mg R 24 o)) (p + 1) : Int) - mg R 29 o ∧ (k ≤ 0 → r ≤ 0) := by rw [hk2]; split <;> omega
  have hrm : r ≤ most ∧ r ≤ th ∧ (1 ≤ most → r ≤ 0 → th ≤ 0) := by rw [hr]; split <;> omega
  have hsh := hD.seq (p := p) (by omega) hpn
  have hc06 : 0 ≤ c ∧ c < 6 := by
    have hst := (hI.or (o := o) (by omega) ho).2.2.2.2.2.2.2.2 (mg R 29 o) (by omega) (by omega)
    have := hst.2
    rw [hcol _ (Int.le_refl _) (by omega)] at this
    exact this
  have hs2 : s = sdK R o c := by
    rw [hs, hsd c.toNat (by omega), Int.toNat_of_nonneg hc06.1]
  refine ⟨hc06, hs2, hcol _ (Int.le_refl _) (by omega), fun j j0 j1 => hcol j j0 (by omega), by omega, by omega, fun s0 s3 => ?_⟩
  rw [if_pos s0, spK_e h hc06 ⟨s0, s3⟩] at hth
  exact ⟨by omega, fun m1 k0 => by have := hrm.2.2 m1 (hkr.2.2 k0); omega⟩
/-- a stretch is sewn, in the class and in the reference -/
theorem CI.sew {n : Int} {B : Nat → Nat} {N : Nat} {S R S4 R' : Sto} {o p : Nat} {m c s k r : Int} (h : CI B N S R) (hI : MI n R) (m0 : 0 ≤ m) (m1 : m < nM R) (ho : (o : Int) < nO R) (hjo : jbO R m = o) (hc : 0 ≤ c ∧ c < 6) (hs : 0 ≤ s ∧ s < 3) (hk : 0 < k) (hr : 0 ≤ r ∧ r < mg R 14 m) (hcc : hdK R m r = c ∨ newP R m c r)
    (G : stG R R' m o (mg R 24 o) c (3 * c + s) r k) (hE : strE (wOf B R) S m.toNat o p c s k S4) : CI B N S4 R' := by
  classical
  obtain ⟨S2, S3, hsew, hob, k6, k5, hfin⟩ := hE
  obtain ⟨b1, b2, b3, b4, b5, b7, bc, bcase⟩ := hsew
  obtain ⟨d1, d2, d3, d4⟩ := hob
  obtain ⟨ga, g22, g19, g18, g20, g21, g29, g28, g26, g17, g27⟩ := G
  have hmm : ((m.toNat : Nat) : Int) = m := Int.toNat_of_nonneg m0
  have hN1 := hI.2.1
  have hmac := hI.2.2.2.2.1
  have hmc := hmac m m0 m1
  have h14 := hmc.1
  have hjob := hI.job m0 m1 (by rw [hjo]; omega)
  rw [hjo] at hjob
  obtain ⟨-, hoI2, -, j26, j27, -⟩ := hjob
  have c28 := hoI2.2.2.2.2.1
  have c24 := hoI2.1
  have hwm : ((wOf B R).m ((wOf B R).g o) : Int) = mnK R (mg R 24 o) := by
    show ((mnK R (((mg R 24 (o : Int)).toNat : Nat) : Int)).toNat : Int) = _
    rw [Int.toNat_of_nonneg c24.1]
    have := (hI.2.2.2.1 _ c24.1 c24.2).mn
    omega
  have hoI := h.2.2.2.2.2.1 o ho
  have hmI := h.2.2.2.2.1 m.toNat (by omega)
  obtain ⟨⟨x1, x2, x3, x4, x5⟩, ⟨y0, y2, y4, y5, y6, y7⟩, y8, y9⟩ := hoI
  rw [y6, hwm] at k6
  rw [y5, y6, hwm] at k5
  have hth : (3 * c + s).toNat < 18 := by omega
  obtain ⟨u, hu⟩ : ∃ u, u = 2048 + 16 * o := ⟨_, rfl⟩
  obtain ⟨v, hv⟩ : ∃ v, v = 1024 + 16 * m.toNat := ⟨_, rfl⟩
  rw [← hu] at x1 x2 x3 x4 x5 y0 y2 y4 y5 y6 y7 y8 y9 k5 k6 d3 d4 hfin
  rw [← hv] at b3 b4 b5 b7 bc bcase
  have hu8 : S.2.2 u 8 = some v := by rw [y8, j27, if_neg (by omega), hv]
  obtain ⟨f, hf⟩ : ∃ f : Prop, f = (mg R 29 o + k = mnK R (mg R 24 o) ∧ mg R 28 o + 1 = mg R 25 o) := ⟨_, rfl⟩
  have r3 : S3.2.2 = S.2.2 := d2.trans b2
  have r1 : S3.1 = S.1 := d1.trans b1
  have hS4 : S4.1 = S.1 ∧ (∀ t j, S4.2.1 t j = if f ∧ t = u ∧ j = 4 then 2 else S3.2.1 t j) ∧ ∀ t j, S4.2.2 t j = if f ∧ t = u ∧ j = 8 then none else if f ∧ t = v ∧ j = 4 then none else S.2.2 t j := by
    rcases hfin with ⟨w1, rfl⟩ | ⟨w1, rfl⟩
    · have hff : f := by
        rw [hf]
        rw [k5, y2] at w1
        by_cases e : mg R 29 o + k = mnK R (mg R 24 o)
        · rw [if_pos e] at w1; exact ⟨e, w1⟩
        · rw [if_neg e] at w1
          have := c28.2.2.2.2.1 j26
          omega
      refine ⟨by rw [endS_1]; exact r1, fun t j => ?_, fun t j => ?_⟩
      · rw [endS_2]
        by_cases e : t = u ∧ j = 4
        · rw [if_pos e, if_pos ⟨hff, e⟩]
        · rw [if_neg e, if_neg (fun q => e q.2)]
      · rw [endS_3, r3, hu8]
        by_cases e : t = u ∧ j = 8
        · rw [if_pos e, if_pos ⟨hff, e⟩]
        · rw [if_neg e, if_neg (show ¬ (f ∧ t = u ∧ j = 8) from fun q => e q.2)]
          by_cases e2 : t = v ∧ j = 4
          · rw [if_pos (show some v = some t ∧ j = 4 from ⟨by rw [e2.1], e2.2⟩), if_pos ⟨hff, e2⟩]
          · rw [if_neg (show ¬ (some v = some t ∧ j = 4) from fun q => e2 ⟨(Option.some.inj q.1).symm, q.2⟩), if_neg (fun q => e2 q.2)]
    · have hff : ¬ f := by
        rw [hf]
        rintro ⟨z1, z2⟩
        rw [k5, y2, if_pos z1] at w1
        exact w1 z2
      refine ⟨r1, fun t j => ?_, fun t j => ?_⟩
      · rw [if_neg (fun q => hff q.1)]
      · rw [if_neg (fun q => hff q.1), if_neg (fun q => hff q.1), r3]
  obtain ⟨t1, t2, t3⟩ := hS4
  have hother : ∀ t, t ≠ 9 → t ≠ u → t ≠ v → t ≠ v + 1 → sm S S4 t := fun t z9 zu zv zv1 => ⟨congrFun t1 t, by
    funext j
    rw [t2, if_neg (fun q => zu q.2.1), d3 t zu, b3 t zv zv1, updI_2, if_neg (fun q => z9 q.1)], by
    funext j
    rw [t3, if_neg (fun q => zu q.2.1), if_neg (fun q => zv q.2.1)]⟩
  have fv : ∀ j, S4.2.1 v j = S2.2.1 v j := fun j => by rw [t2, if_neg (by omega), d3 v (by omega)]
  have fv1 : ∀ j, S4.2.1 (v + 1) j = S2.2.1 (v + 1) j := fun j => by rw [t2, if_neg (by omega), d3 (v + 1) (by omega)]
  have fvS : ∀ t j, t ≠ 9 → (updI S 9 (3 * c + s).toNat (spK S 8 c s + -k)).2.1 t j = S.2.1 t j := fun t j z => by rw [updI_2, if_neg (fun q => z q.1)]
  have fu : ∀ j, j ≠ 4 → S4.2.1 u j = S3.2.1 u j := fun j z => by rw [t2, if_neg (fun q => z q.2.2)]
  have fu' : ∀ j, j ≠ 4 → j ≠ 5 → j ≠ 6 → S4.2.1 u j = S.2.1 u j := fun j z4 z5 z6 => by rw [fu j z4, d4 j (by simp; omega), b3 u (by omega) (by omega), fvS u j (by omega)]
  have hN : nD R' = nD R ∧ nM R' = nM R ∧ nO R' = nO R := ⟨ga.mf, ga.mf, ga.mf⟩
  obtain ⟨u1, u2⟩ := h.upper (R' := R') (S' := S4) hI (fun t ht => hother t (by omega) (by omega) (by omega) (by omega)) (hother 4 (by omega) (by omega) (by omega) (by omega)).2.2 (hother 5 (by omega) (by omega) (by omega) (by omega)).2.2 (fun a i ha => ga.mg (by simp; omega)) hN.1
  obtain ⟨h1, ⟨e1, e3, e5', e7'⟩, -, -, hm, hoo', hst', hfr⟩ := h
  have f1 := hother 1 (by omega) (by omega) (by omega) (by omega)
  refine ⟨h1.fr t1 ⟨f1.2.2, (hother 8 (by omega) (by omega) (by omega) (by omega)).2.2⟩ (h1.nl.fr (by rw [f1.2.1]) (by rw [f1.2.1]) (by rw [f1.2.1]) (hother 5 (by omega) (by omega) (by omega) (by omega)).2.2 (hother 6 (by omega) (by omega) (by omega) (by omega)).2.2 (hother 7 (by omega) (by omega) (by omega) (by omega)).2.2), ⟨?_, ?_, ?_, ?_⟩, u1, u2, fun i hi => ?_, fun q hq => ?_, fun j hj => ?_, hfr.fr t1 hN⟩
  · rw [f1.2.1, e1]; exact (ga.mg (by simp)).symm
  · rw [f1.2.1, e3, hN.1]
  · rw [f1.2.1, e5', hN.2.1]
  · rw [f1.2.1, e7', hN.2.2]
  · rw [hN.2.1] at hi
    have r6 := (hother 6 (by omega) (by omega) (by omega) (by omega)).2.2
    by_cases x : i = m.toNat
    · subst x
      obtain ⟨⟨a1, a2, a3, a4⟩, ⟨z0, z1, z2, z3, z5, z6, z7⟩, z4, zl, zh⟩ := hmI
      rw [← hv] at a1 a2 a3 a4 z0 z1 z2 z3 z4 z5 z6 z7 zl zh
      rw [hmm] at z0 z1 z2 z3 z4 z5 z6 z7 zl zh
      obtain ⟨nn, hnn⟩ : ∃ nn : Nat, mg R 14 m = nn := ⟨_, (Int.toNat_of_nonneg (by omega)).symm⟩
      obtain ⟨cn, hcn⟩ : ∃ cn : Nat, c = cn := ⟨_, (Int.toNat_of_nonneg hc.1).symm⟩
      obtain ⟨rn, hrn⟩ : ∃ rn : Nat, r = rn := ⟨_, (Int.toNat_of_nonneg hr.1).symm⟩
      have hnt : (mg R 14 m).toNat = nn := by omega
      have hct : c.toNat = cn := by omega
      have e14 : mg R' 14 m = mg R 14 m := ga.mg (by simp)
      have h6 : ∀ k, 0 ≤ k → k < 6 → -1 ≤ hdK R m k ∧ hdK R m k < 6 := fun k k0 k6 => ⟨(hmc.2.2.2.2.2.1 k k0 k6).1, (hmc.2.2.2.2.2.1 k k0 k6).2.1⟩
      have hdist := hmc.2.2.2.2.2.2.1
      have g20' : ∀ k : Nat, k < 6 → hdK R' m k = if k = rn then (cn : Int) else hdK R m k := fun k k6 => by
        rw [show hdK R' m k = _ from g20 _ (by omega)]
        by_cases e : k = rn
        · rw [if_pos (by omega), if_pos e, hcn]
        · rw [if_neg (by omega), if_neg e]
      have hW : (wOf B R).h m.toNat = hset R m nn := by
        show hset R ((m.toNat : Nat) : Int) (mg R 14 ((m.toNat : Nat) : Int)).toNat = _
        rw [hmm, hnt]
      rw [hW, hct] at bcase
      rw [hct] at bc b5
      have hlt : ∀ k' : Nat, k' < nn → hdK R m k' ≠ -1 → (updI S 9 (3 * c + s).toNat (spK S 8 c s + -k)).2.1 (v + 1) (hdK R m k').toNat = ltK R m k' := fun k' k1 k2 => by
        rw [fvS _ _ (by omega)]
        exact zh k' (by omega) (by omega) k2
      have hbit : (hset R m nn).testBit cn = true ↔ hdK R m rn = cn := by
        rw [hset_b h6 cn nn (by omega)]
        constructor
        · rintro ⟨k', k1, k2⟩
          rcases hcc with w | w
          · rw [hcn, hrn] at w; exact w
          · exact absurd (by rw [hcn]; exact k2) (w.1 k' (by omega) (by omega))
        · intro w; exact ⟨rn, by omega, w⟩
      have hother2 : ∀ k' : Nat, k' < nn → k' ≠ rn → hdK R m k' ≠ cn := fun k' k1 k2 z => by
        rcases hcc with w | w
        · rw [hcn, hrn] at w
          rcases (show k' < rn ∨ rn < k' by omega) with q | q
          · exact (hdist k' rn (by omega) (by omega) (by omega)).1 (by omega) (z.trans w.symm)
          · exact (hdist rn k' (by omega) (by omega) (by omega)).1 (by omega) (w.trans z.symm)
        · exact w.1 k' (by omega) (by omega) (by rw [hcn]; exact z)
      refine ⟨⟨by rw [r6, ← hv]; exact a1, by rw [t1, ← hv]; exact a2, by rw [t3, ← hv, if_neg (by omega), if_neg (by omega)]; exact a3, by rw [t1, ← hv]; exact a4⟩, ⟨?_, ?_, ?_, ?_, ?_, ?_, ?_⟩, ?_, fun c' hc' => ?_, fun k' k0 k1 k2 => ?_⟩
      · rw [← hv, fv, b4 0 (by omega) (by omega) (by omega), fvS v 0 (by omega), hmm]; exact z0
      · rw [← hv, fv, b4 1 (by omega) (by omega) (by omega), fvS v 1 (by omega), hmm, e14]; exact z1
      · rw [← hv, fv, b4 2 (by omega) (by omega) (by omega), fvS v 2 (by omega), hmm, ga.mg (k := 15) (by simp)]; exact z2
      · rw [← hv, fv, b4 3 (by omega) (by omega) (by omega), fvS v 3 (by omega), hmm, ga.mg (k := 16) (by simp)]; exact z3
      · rw [← hv, fv, hmm, g18 m m0]
        rcases bcase with ⟨w1, -, w3⟩ | ⟨w1, w3, -⟩
        · rw [w3, fvS v 5 (by omega), if_neg (fun q => q.2 (by rw [hcn, hrn]; exact hbit.mp w1))]; exact z5
        · rw [w3, fvS v 5 (by omega), if_pos ⟨rfl, fun q => by rw [hcn, hrn] at q; rw [hbit.mpr q] at w1; cases w1⟩, z5]
      · rw [← hv, fv, hmm, e14, hnt]
        rw [hnt] at z6
        rcases bcase with ⟨w1, w2, -⟩ | ⟨w1, -, b', w2, w3⟩
        · rw [w2, fvS v 6 (by omega), z6]
          have hh := hbit.mp w1
          rw [hset_fl (R := R) (R' := R') (i := m) (fun k k0 k6 => ?_) nn (by omega)]
          have := g20' k.toNat (by omega)
          rw [Int.toNat_of_nonneg k0] at this
          rw [this]
          by_cases e : k.toNat = rn
          · rw [if_pos e, ← hh, ← e, Int.toNat_of_nonneg k0]
          · rw [if_neg e]
        · have hnew : newP R m cn rn := by
            rcases hcc with q | q
            · rw [hcn, hrn] at q; rw [hbit.mpr q] at w1; cases w1
            · rw [hcn, hrn] at q; exact q
          rw [w3, ld_e h6 hdist (by omega) hnn (by rw [fvS v 1 (by omega), z1]; exact hnn) rfl hlt hnew w2, hset_new h6 (fun k l a b e => (hdist k l a b e).1) (by omega) (by omega) (by omega) g20']
      · rw [← hv, fv, b7, fvS v 7 (by omega), z7, hmm, g19 m m0, if_pos rfl]
      · rw [← hv, hmm, t3, if_neg (by omega), g17 m m0]
        by_cases e : f
        · have e2 := e
          rw [hf] at e2
          have e3 : m = m ∧ mg R 29 o + k = mnK R (mg R 24 o) ∧ mg R 28 o + 1 = mg R 25 o := ⟨rfl, e2⟩
          rw [if_pos ⟨e, rfl, rfl⟩, if_pos e3, if_pos rfl]
        · have e2 : ¬ (m = m ∧ mg R 29 o + k = mnK R (mg R 24 o) ∧ mg R 28 o + 1 = mg R 25 o) := fun q => e (by rw [hf]; exact q.2)
          rw [if_neg (fun q => e q.1), if_neg e2]; exact z4
      · rw [← hv, fv1, hmm, g19 m m0, if_pos rfl]
        have zl' := zl c' hc'
        by_cases e : c' = cn
        · rw [e, bc, fvS v 7 (by omega), z7]
          have := hmc.2.2.2.2.1
          omega
        · rw [b5 c' e, fvS (v + 1) c' (by omega)]; omega
      · rw [hmm] at k1 k2 ⊢
        rw [e14] at k1
        have hk2 := g20' k'.toNat (by omega)
        rw [Int.toNat_of_nonneg k0] at hk2
        have l2 : ltK R' m k' = _ := g21 (6 * m + k') (by omega)
        rw [← hv, fv1, hk2, l2]
        rw [hk2] at k2
        by_cases e : k'.toNat = rn
        · rw [if_pos e, if_pos (by omega), Int.toNat_natCast, bc, fvS v 7 (by omega), z7]
        · rw [if_neg e] at k2 ⊢
          rw [if_neg (by omega)]
          have hne := hother2 k'.toNat (by omega) e
          rw [Int.toNat_of_nonneg k0] at hne
          have := h6 k' k0 (by omega)
          rw [b5 _ (by omega), fvS (v + 1) _ (by omega)]
          exact zh k' k0 k1 k2
    · have hmi := hmac i (by omega) (by omega)
      refine (hm i hi).fl hmi.1.2 (by rw [r6]) (hother _ (by omega) (by omega) (by omega) (by omega)) (hother _ (by omega) (by omega) (by omega) (by omega)) (fun a a1 a2 => ?_) (fun k k0 k6 => ⟨?_, ?_⟩)
      · rcases (show a = 14 ∨ a = 15 ∨ a = 16 ∨ a = 17 ∨ a = 18 ∨ a = 19 by omega) with rfl | rfl | rfl | rfl | rfl | rfl
        · exact ga.mg (by simp)
        · exact ga.mg (by simp)
        · exact ga.mg (by simp)
        · rw [g17 i (by omega), if_neg (by omega)]
        · rw [g18 i (by omega), if_neg (by omega)]
        · rw [g19 i (by omega), if_neg (by omega)]
      · rw [show hdK R' i k = _ from g20 _ (by omega), if_neg (by omega)]
      · rw [show ltK R' i k = _ from g21 _ (by omega), if_neg (by omega)]
  · rw [hN.2.2] at hq
    have r7 := (hother 7 (by omega) (by omega) (by omega) (by omega)).2.2
    by_cases x : q = o
    · subst x
      refine ⟨⟨by rw [r7, ← hu]; exact x1, by rw [t1, ← hu]; exact x2, by rw [t3, ← hu, if_neg (by omega), if_neg (by omega)]; exact x3, by rw [t1, ← hu]; exact x4, ?_⟩, ⟨?_, ?_, ?_, ?_, ?_, ?_⟩, ?_, fun c' hc' => ?_⟩
      · rw [t3, ← hu, if_neg (by omega), if_neg (by omega), ga.mg (k := 24) (by simp)]; exact x5
      · rw [← hu, fu' 0 (by omega) (by omega) (by omega)]; exact y0
      · rw [← hu, fu' 2 (by omega) (by omega) (by omega), ga.mg (k := 25) (by simp)]; exact y2
      · rw [← hu, t2, g26 q (by omega)]
        by_cases e : f
        · have e2 := e
          rw [hf] at e2
          rw [if_pos ⟨e, rfl, rfl⟩, if_pos ⟨rfl, e2⟩]
        · have e2 : ¬ ((q : Int) = q ∧ mg R 29 q + k = mnK R (mg R 24 q) ∧ mg R 28 q + 1 = mg R 25 q) := fun z => e (by rw [hf]; exact z.2)
          rw [if_neg (fun z => e z.1), if_neg e2, d4 4 (by simp), b3 u (by omega) (by omega), fvS u 4 (by omega)]; exact y4
      · rw [← hu, fu 5 (by omega), k5, g28 q (by omega)]
        by_cases e : mg R 29 q + k = mnK R (mg R 24 q)
        · rw [if_pos e, if_pos ⟨rfl, e⟩]
        · rw [if_neg e, if_neg (fun z => e z.2)]
      · rw [← hu, fu 6 (by omega), k6, g29 q (by omega), if_pos rfl]
      · rw [← hu, fu' 7 (by omega) (by omega) (by omega), ga.mg (k := 30) (by simp)]; exact y7
      · rw [← hu, t3, g27 q (by omega)]
        by_cases e : f
        · have e2 := e
          rw [hf] at e2
          have e3 : (q : Int) = q ∧ mg R 29 q + k = mnK R (mg R 24 q) ∧ mg R 28 q + 1 = mg R 25 q := ⟨rfl, e2⟩
          rw [if_pos ⟨e, rfl, rfl⟩, if_pos e3, if_pos rfl]
        · have e2 : ¬ ((q : Int) = q ∧ mg R 29 q + k = mnK R (mg R 24 q) ∧ mg R 28 q + 1 = mg R 25 q) := fun z => e (by rw [hf]; exact z.2)
          rw [if_neg (fun z => e z.1), if_neg (by omega), if_neg e2]; exact y8
      · rw [← hu, (hother (u + 1) (by omega) (by omega) (by omega) (by omega)).2.1, show sdK R' q c' = sdK R q c' from ga.mg (by simp)]; exact y9 c' hc'
    · refine (hoo' q hq).fl (by rw [r7]) (hother _ (by omega) (by omega) (by omega) (by omega)) (hother _ (by omega) (by omega) (by omega) (by omega)) (fun a a1 a2 => ?_) (fun c hc => ga.mg (by simp))
      rcases (show a = 24 ∨ a = 25 ∨ a = 26 ∨ a = 27 ∨ a = 28 ∨ a = 29 ∨ a = 30 by omega) with rfl | rfl | rfl | rfl | rfl | rfl | rfl
      · exact ga.mg (by simp)
      · exact ga.mg (by simp)
      · rw [g26 q (by omega), if_neg (by omega)]
      · rw [g27 q (by omega), if_neg (by omega)]
      · rw [g28 q (by omega), if_neg (by omega)]
      · rw [g29 q (by omega), if_neg (by omega)]
      · exact ga.mg (by simp)
  · rw [t2, if_neg (by omega), d3 9 (by omega), b3 9 (by omega) (by omega), updI_2, g22 j (by omega)]
    have hsj := hst' j hj
    by_cases e : j = (3 * c + s).toNat
    · have hj3 : (j : Int) = 3 * c + s := by rw [e]; exact Int.toNat_of_nonneg (Int.add_nonneg (Int.mul_nonneg (by decide) hc.1) hs.1)
      rw [if_pos ⟨rfl, e⟩, if_pos hj3]
      have : spK S 8 c s = S.2.1 9 j := by rw [e]; rfl
      rw [this, hsj, hj3, Int.sub_eq_add_neg]
    · rw [if_neg (fun z => e z.2), if_neg (fun z => e (by rw [← z, Int.toNat_natCast]))]; exact hsj

