theorem ag_cancel {n : Int} {B : Nat → Nat} {N : Nat} {S R : Sto} {o : Int} (h : CI B N S R) (hI : MI n R) (hio : InR o) {post : Res → Sto → Prop} (hp : ∀ r S1, okr [0, 2] r = true → tyF S S1 → agC em2 (cancelR R o) r S1 → post r S1) : s_cancelC [vT 1, vI o] S post := by
  have e7 := h.2.1.2.2.2
  refine ⟨wOf B R, h.cw hI, hio, fun hn => hp _ _ rfl (fun _ _ => rfl) fun k v R' ho => ?_, fun hv => ⟨2048 + 16 * o.toNat, rfl, fun hn => hp _ _ rfl (fun _ _ => rfl) fun k v R' ho => ?_, fun hn S' hob f5 f6 f7 => hp _ _ rfl (fun t _ => (congrFun hob.1 t).trans (congrFun endS_1 t)) fun k v R' ho => ?_⟩⟩
  · obtain ⟨o1, o2, -⟩ := ho
    rw [e7] at hn
    rw [if_pos hn] at o1
    rw [o2 (by omega)]
    exact ⟨o1, B, N, h.th hI _⟩
  · rw [e7] at hv
    obtain ⟨-, ⟨-, -, b4, -⟩, -⟩ := h.2.2.2.2.2.1 o.toNat (by omega)
    rw [Int.toNat_of_nonneg hv.1] at b4
    rw [b4] at hn
    obtain ⟨o1, o2, -⟩ := ho
    rw [if_neg (fun y => y hv), if_pos hn] at o1
    rw [o2 (by omega)]
    exact ⟨o1, B, N, h.th hI _⟩
  · rw [e7] at hv
    have hoo : ((o.toNat : Nat) : Int) = o := Int.toNat_of_nonneg hv.1
    obtain ⟨-, ⟨-, -, b4, b5, b6, b7⟩, k8, -⟩ := h.2.2.2.2.2.1 o.toNat (by omega)
    rw [hoo] at b4 b5 b6 b7 k8
    rw [b4] at hn
    obtain ⟨c24, c25, c26, ⟨j1, j2, j3, j4⟩, c28, -⟩ := hI.2.2.2.2.2.1 o hv.1 hv.2
    have hN1 := hI.2.1
    obtain ⟨o1, -, o3⟩ := ho
    rw [if_neg (fun y => y hv), if_neg (by omega)] at o1
    obtain ⟨T, hT, hv0, hR⟩ := o3 o1
    have hwm : ((wOf B R).m ((wOf B R).g o.toNat) : Int) = mnK R (mg R 24 o) := by
      show ((mnK R (((mg R 24 ((o.toNat : Nat) : Int)).toNat : Nat) : Int)).toNat : Int) = _
      rw [hoo, Int.toNat_of_nonneg c24.1]
      have := (hI.2.2.2.1 _ c24.1 c24.2).mn
      omega
    refine ⟨⟨o1, ?_⟩, B, N, ?_⟩
    · rw [hv0, hwm, b5, b6]; rfl
    · obtain ⟨w1, w2, w3, w4⟩ := hob
      rw [endS_1] at w1
      have hj27 : mg R 27 o = -1 ∨ 0 ≤ mg R 27 o := by omega
      have gT : ∀ (a : Nat) (i : Int), a ≠ 17 → a ≠ 27 → mg T a i = mg R a i := fun a i x y => by
        rw [hT]
        split
        · rw [mgU, if_neg (fun q => y q.1), mgU, if_neg (fun q => x q.1)]; exact th_mg'
        · exact th_mg'
      have gR : ∀ (a : Nat) (i : Int), ¬ (a = 26 ∨ a = 28 ∨ a = 29 ∨ a = 30) → mg R' a i = mg T a i := fun a i x => by
        rw [hR, mgU, if_neg (by omega), mgU, if_neg (by omega), mgU, if_neg (by omega), mgU, if_neg (by omega)]
      have hgg : ∀ (a : Nat) (i : Int), ¬ (a = 17 ∨ a = 26 ∨ a = 27 ∨ a = 28 ∨ a = 29 ∨ a = 30) → mg R' a i = mg R a i := fun a i x => by
        rw [gR a i (by omega), gT a i (by omega) (by omega)]
      have g17 : ∀ i : Nat, mg R' 17 i = if (i : Int) = mg R 27 o then -1 else mg R 17 i := fun i => by
        rw [gR 17 _ (by omega), hT]
        by_cases x : mg R 26 o = 1
        · have := j4.mp x
          rw [if_pos x, mgU, if_neg (by omega), mgU]
          by_cases y : (i : Int) = mg R 27 o
          · rw [if_pos ⟨rfl, by omega⟩, if_pos y]
          · rw [if_neg (by omega), if_neg y]; exact th_mg'
        · have : mg R 27 o = -1 := by
            rcases hj27 with w | w
            · exact w
            · exact absurd (j4.mpr w) x
          rw [if_neg x, if_neg (by omega)]; exact th_mg'
      have g27 : ∀ q : Nat, mg R' 27 q = if (q : Int) = o then -1 else mg R 27 q := fun q => by
        rw [gR 27 _ (by omega), hT]
        by_cases x : mg R 26 o = 1
        · rw [if_pos x, mgU]
          by_cases y : (q : Int) = o
          · rw [if_pos ⟨rfl, by omega⟩, if_pos y]
          · rw [if_neg (by omega), if_neg y, mgU, if_neg (by omega)]; exact th_mg'
        · have e : mg R 27 o = -1 := by
            rcases hj27 with w | w
            · exact w
            · exact absurd (j4.mpr w) x
          rw [if_neg x]
          by_cases y : (q : Int) = o
          · rw [if_pos y, y, ← e]; exact th_mg'
          · rw [if_neg y]; exact th_mg'
      have gq : ∀ q : Nat, (q : Int) ≠ o → mg R' 26 q = mg R 26 q ∧ mg R' 28 q = mg R 28 q ∧ mg R' 29 q = mg R 29 q ∧ mg R' 30 q = mg R 30 q := fun q hq => by
        rw [hR]
        simp only [mgU]
        rw [if_neg (by omega), if_neg (by omega), if_neg (by omega), if_neg (by omega), if_neg (by omega), if_neg (by omega), if_neg (by omega), if_neg (by omega), if_neg (by omega), if_neg (by omega), if_neg (by omega), if_neg (by omega), if_neg (by omega), if_neg (by omega), if_neg (by omega), if_neg (by omega)]
        exact ⟨gT _ _ (by omega) (by omega), gT _ _ (by omega) (by omega), gT _ _ (by omega) (by omega), gT _ _ (by omega) (by omega)⟩
      have go : mg R' 26 o = 3 ∧ mg R' 28 o = 0 ∧ mg R' 29 o = 0 ∧ mg R' 30 o = mg R 30 o + wsN R o := by
        rw [hR]; simp [mgU]
      have hN : nD R' = nD R ∧ nM R' = nM R ∧ nO R' = nO R := by rw [hR, hT]; split <;> exact ⟨rfl, rfl, rfl⟩
      have hu1 : ∀ t, t ≠ 2048 + 16 * o.toNat → S'.2.1 t = S.2.1 t := fun t ht => by rw [w3 t ht]; funext k; rw [endS_2, if_neg (fun y => ht y.1)]
      have huk : ∀ k, k ≠ 4 → k ≠ 5 → k ≠ 6 → k ≠ 7 → S'.2.1 (2048 + 16 * o.toNat) k = S.2.1 (2048 + 16 * o.toNat) k := fun k x4 x5 x6 x7 => by rw [w4 k (by simp; omega), endS_2, if_neg (fun y => x4 y.2)]
      have hu4 : S'.2.1 (2048 + 16 * o.toNat) 4 = 3 := by rw [w4 4 (by simp), endS_2, if_pos ⟨rfl, rfl⟩]
      have hr : ∀ t k, S'.2.2 t k = if t = 2048 + 16 * o.toNat ∧ k = 8 then none else if S.2.2 (2048 + 16 * o.toNat) 8 = some t ∧ k = 4 then none else S.2.2 t k := fun t k => by rw [w2, endS_3]
      have hm8 : ∀ t, S.2.2 (2048 + 16 * o.toNat) 8 = some t → 0 ≤ mg R 27 o ∧ t = 1024 + 16 * (mg R 27 o).toNat := fun t ht => by
        by_cases x : mg R 27 o = -1
        · rw [k8, if_pos x] at ht; cases ht
        · rw [k8, if_neg x] at ht
          exact ⟨by omega, (Option.some.inj ht).symm⟩
      have hsm : ∀ t, t ≠ 2048 + 16 * o.toNat → (∀ i : Nat, i < 4 → t ≠ 1024 + 16 * i) → sm S S' t := fun t ht hi => ⟨congrFun w1 t, hu1 t ht, by
        funext k
        rw [hr, if_neg (fun y => ht y.1), if_neg (fun y => by have z := hm8 t y.1; exact hi _ (by omega) z.2)]⟩
      obtain ⟨u1, u2⟩ := h.upper (R' := R') (S' := S') hI (fun t ht => hsm t (by omega) (fun i hi => by omega)) (hsm 4 (by omega) (fun i hi => by omega)).2.2 (hsm 5 (by omega) (fun i hi => by omega)).2.2 (fun a i ha => hgg a i (by omega)) hN.1
      obtain ⟨h1, ⟨e1, e3, e5', e7'⟩, -, -, hm, hoo', hst', hf⟩ := h
      have f1 := hsm 1 (by omega) (fun i hi => by omega)
      refine ⟨h1.fr w1 ⟨f1.2.2, (hsm 8 (by omega) (fun i hi => by omega)).2.2⟩ (h1.nl.fr (by rw [f1.2.1]) (by rw [f1.2.1]) (by rw [f1.2.1]) (hsm 5 (by omega) (fun i hi => by omega)).2.2 (hsm 6 (by omega) (fun i hi => by omega)).2.2 (hsm 7 (by omega) (fun i hi => by omega)).2.2), ⟨?_, ?_, ?_, ?_⟩, u1, u2, fun i hi => ?_, fun q hq => ?_, fun k hk => ?_, hf.fr w1 hN⟩
      · rw [f1.2.1, e1]; exact (hgg 1 6 (by omega)).symm
      · rw [f1.2.1, e3, hN.1]
      · rw [f1.2.1, e5', hN.2.1]
      · rw [f1.2.1, e7', hN.2.2]
      · rw [hN.2.1] at hi
        obtain ⟨⟨a1, a2, a3, a4⟩, b, c, d, e⟩ := hm i hi
        have y1 := hu1 (1024 + 16 * i) (by omega)
        have y2 := hu1 (1024 + 16 * i + 1) (by omega)
        unfold mcI
        rw [y1, y2, hgg 14 _ (by omega), hgg 15 _ (by omega), hgg 16 _ (by omega), hgg 18 _ (by omega), hgg 19 _ (by omega), hset_e (fun k => hgg 20 k (by omega)), (hsm 6 (by omega) (fun i hi => by omega)).2.2]
        refine ⟨⟨a1, by rw [w1]; exact a2, by rw [hr, if_neg (by omega), if_neg (by omega)]; exact a3, by rw [w1]; exact a4⟩, b, ?_, d, fun k k0 k1 k2 => ?_⟩
        · rw [hr, if_neg (by omega), g17]
          by_cases x : (i : Int) = mg R 27 o
          · rw [if_pos x, if_pos rfl, if_pos ⟨by rw [k8, if_neg (by omega), ← x, Int.toNat_natCast], rfl⟩]
          · rw [if_neg x, if_neg (fun y => by have z := hm8 _ y.1; omega)]
            exact c
        · rw [show hdK R' i k = hdK R i k from hgg 20 _ (by omega)] at k2 ⊢
          rw [show ltK R' i k = ltK R i k from hgg 21 _ (by omega)]
          exact e k k0 k1 k2
      · rw [hN.2.2] at hq
        have hI2 := hoo' q hq
        have hI3 := hI2
        obtain ⟨-, ⟨-, -, c4, c5, c6, c7⟩, c8, -⟩ := hI3
        have r7 := (hsm 7 (by omega) (fun i hi => by omega)).2.2
        by_cases x : q = o.toNat
        · subst x
          refine hI2.own r7 w1 (hu1 _ (by omega)) (fun k hk => by rw [hr, if_neg (fun y => hk y.2), if_neg (fun y => by have z := hm8 _ y.1; omega)]) huk (hgg 24 _ (by omega)) (hgg 25 _ (by omega)) (fun c hc => hgg 31 _ (by omega)) ?_ ?_ ?_ ?_ ?_
          · rw [hu4, hoo]; exact go.1.symm
          · rw [f5, hoo]; exact go.2.1.symm
          · rw [f6, hoo]; exact go.2.2.1.symm
          · rw [f7, hoo, go.2.2.2, b5, b6, b7, hwm]; rfl
          · rw [hr, if_pos ⟨rfl, rfl⟩, g27, if_pos hoo, if_pos rfl]
        · have y1 := hsm (2048 + 16 * q) (by omega) (fun i hi => by omega)
          obtain ⟨z1, z2, z3, z4⟩ := gq q (by omega)
          refine hI2.own r7 w1 (hu1 _ (by omega)) (fun k _ => by rw [y1.2.2]) (fun k _ _ _ _ => by rw [y1.2.1]) (hgg 24 _ (by omega)) (hgg 25 _ (by omega)) (fun c hc => hgg 31 _ (by omega)) ?_ ?_ ?_ ?_ ?_
          · rw [y1.2.1, z1]; exact c4
          · rw [y1.2.1, z2]; exact c5
          · rw [y1.2.1, z3]; exact c6
          · rw [y1.2.1, z4]; exact c7
          · rw [y1.2.2, g27, if_neg (show ¬ (q : Int) = o by omega)]; exact c8
      · rw [hu1 9 (by omega), hgg 22 _ (by omega)]; exact hst' k hk

