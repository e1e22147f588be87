theorem ag_match {n : Int} {B : Nat → Nat} {N : Nat} {S R : Sto} {o c s : Int} (h : CI B N S R) (hI : MI n R) (hio : InR o) (hic : InR c) (his : InR s) {post : Res → Sto → Prop} (hp : ∀ r S1, okr [0, 2] r = true → tyF S S1 → agC em2 (matchR R o c s) r S1 → post r S1) : s_matchC [vT 1, vI o, vI c, vI s] S post := by
  have e7 := h.2.1.2.2.2
  refine ⟨wOf B R, h.cw hI, ⟨hio, hic, his⟩, fun hn => hp _ _ rfl (fun _ _ => rfl) fun k v R' ho => ?_, fun hv => ⟨2048 + 16 * o.toNat, (wOf B R).g o.toNat, needK R o c, rfl, rfl, ?_, fun hn => hp _ _ rfl (fun _ _ => rfl) fun k v R' ho => ?_, fun hy => ?_⟩⟩
  · obtain ⟨o1, o2, -⟩ := ho
    rw [e7] at hn
    have k1 : k = 1 := by
      rcases o1 with w | w | w
      · exact w.2
      · exact absurd w.1 hn
      · exact absurd w.1 hn
    rw [o2 (by omega)]
    exact ⟨k1, B, N, h.th hI _⟩
  · rw [e7] at hv
    have := need_e (o := o.toNat) (c := c) h hI (by omega) hv.2.2.1
    rw [Int.toNat_of_nonneg hv.1] at this
    exact this.symm
  · rw [e7] at hv
    obtain ⟨-, ⟨-, -, b4, -⟩, -, d9⟩ := h.2.2.2.2.2.1 o.toNat (by omega)
    have d9' := d9 c.toNat (by omega)
    rw [Int.toNat_of_nonneg hv.1] at b4 d9'
    rw [Int.toNat_of_nonneg hv.2.2.1] at d9'
    have hst := h.2.2.2.2.2.2.1 (3 * c + s).toNat (by omega)
    rw [Int.toNat_of_nonneg (by omega)] at hst
    have hst' : spK S 8 c s = mg R 22 (3 * c + s) := hst
    rw [b4, d9', hst'] at hn
    obtain ⟨o1, o2, -⟩ := ho
    have k2 : k = 2 := by
      rcases o1 with w | w | w
      · exact absurd hv w.1
      · obtain ⟨-, ⟨x1, x2, x3, x4⟩, -⟩ := w
        exact absurd ⟨x1, by omega, x3, x4⟩ hn
      · exact w.2.2
    rw [o2 (by omega)]
    exact ⟨k2, B, N, h.th hI _⟩
  · rw [e7] at hv
    have hoI := h.2.2.2.2.2.1 o.toNat (by omega)
    obtain ⟨-, ⟨-, -, b4, b5, b6, b7⟩, -, d9⟩ := hoI
    have d9' := d9 c.toNat (by omega)
    have hoo : ((o.toNat : Nat) : Int) = o := Int.toNat_of_nonneg hv.1
    have hst := h.2.2.2.2.2.2.1 (3 * c + s).toNat (by omega)
    rw [Int.toNat_of_nonneg (by omega)] at hst
    have hst' : spK S 8 c s = mg R 22 (3 * c + s) := hst
    rw [hoo] at b4 b5 b6 b7 d9'
    rw [Int.toNat_of_nonneg hv.2.2.1] at d9'
    have hsew := sewn_e (o := o.toNat) (c := c) h hI (by omega)
    rw [hoo] at hsew
    obtain ⟨c24, c25, -, -, c28, -⟩ := hI.2.2.2.2.2.1 o hv.1 hv.2.1
    have hN1 := hI.2.1
    have hnn : 0 ≤ needK R o c := by
      unfold needK
      exact Int.mul_nonneg (by omega) (sumTo_0n (fun j => by split <;> omega) _)
    have can : canMa R o c s := ⟨by rw [← b4]; exact hy.1, by have := hy.2.1; omega, by rw [← d9']; exact hy.2.2.1, by rw [← hst']; exact hy.2.2.2⟩
    have hcase : ∀ k v R', matchR R o c s k v R' → k = 0 ∧ ((¬ sewnP R o c (mg R 29 o) ∧ v = 0 ∧ R' = updI (thr R 0) (mt 31) (6 * o + c).toNat s) ∨ (sewnP R o c (mg R 29 o) ∧ v = mg R 28 o + (if 0 < mg R 29 o then 1 else 0) ∧ R' = wsU (updI (thr R 0) (mt 31) (6 * o + c).toNat s) o)) := fun k v R' ho => by
      obtain ⟨o1, -, o3⟩ := ho
      have k0 : k = 0 := by
        rcases o1 with w | w | w
        · exact absurd hv w.1
        · exact w.2.2
        · exact absurd can w.2.1
      exact ⟨k0, o3 k0⟩
    refine ⟨fun hns => hp _ _ rfl (fun _ _ => rfl) fun k v R' ho => ?_, fun hs S' hob f5 f6 f7 => hp _ _ rfl (fun t _ => congrFun hob.1 t) fun k v R' ho => ?_⟩
    · obtain ⟨k0, hc⟩ := hcase k v R' ho
      have hns' : ¬ sewnP R o c (mg R 29 o) := fun w => hns (hsew.mpr w)
      rcases hc with ⟨-, hv0, hR⟩ | ⟨w, -⟩
      · have hgg : ∀ (a : Nat) (i : Int), ¬ (a = 31 ∧ i.toNat = (6 * o + c).toNat) → mg R' a i = mg R a i := fun a i ha => by
          rw [hR, mgU, if_neg ha]; exact th_mg'
        refine ⟨⟨k0, hv0⟩, B, N, h.ord1 (o := o.toNat) hI (by omega) rfl rfl (fun t t1 t2 => sm_upd t2) (fun a i ha => hgg a i (by omega)) (by rw [hR]; exact ⟨rfl, rfl, rfl⟩) (fun q hq hq2 => ⟨hgg 28 _ (by omega), hgg 29 _ (by omega), hgg 30 _ (by omega), fun c' hc' => hgg 31 _ (by omega)⟩) (fun k _ _ _ => by rw [updI_2, if_neg (by omega)]) ?_ ?_ ?_ (fun c' hc' => ?_)⟩
        · rw [updI_2, if_neg (by omega), hoo, hgg 28 _ (by omega)]; exact b5
        · rw [updI_2, if_neg (by omega), hoo, hgg 29 _ (by omega)]; exact b6
        · rw [updI_2, if_neg (by omega), hoo, hgg 30 _ (by omega)]; exact b7
        · rw [updI_2, hoo]
          show _ = mg R' 31 (6 * o + c')
          by_cases x : c' = c.toNat
          · rw [if_pos ⟨rfl, x⟩, hR, mgU, if_pos ⟨rfl, by omega⟩]
          · rw [if_neg (fun y => x y.2), hgg 31 _ (by omega)]
            have := d9 c' hc'
            rw [hoo] at this
            exact this
      · exact absurd w hns'
    · obtain ⟨k0, hc⟩ := hcase k v R' ho
      have hs' := hsew.mp hs
      rcases hc with ⟨w, -⟩ | ⟨-, hv0, hR⟩
      · exact absurd hs' w
      · obtain ⟨X, hX⟩ : ∃ X, X = updI (thr R 0) (mt 31) (6 * o + c).toNat s := ⟨_, rfl⟩
        have hgX : ∀ (a : Nat) (i : Int), ¬ (a = 31 ∧ i.toNat = (6 * o + c).toNat) → mg X a i = mg R a i := fun a i ha => by
          rw [hX, mgU, if_neg ha]; exact th_mg'
        rw [← hX] at hR
        have hW : wsN X o = mg R 28 o * mnK R (mg R 24 o) + mg R 29 o := by
          unfold wsN
          rw [hgX 28 _ (by omega), hgX 29 _ (by omega), hgX 24 _ (by omega), hgX 10 _ (by omega)]
        unfold wsU at hR
        rw [hW, hgX 30 _ (by omega)] at hR
        have g28 : ∀ i : Int, mg R' 28 i = if i.toNat = o.toNat then 0 else mg R 28 i := fun i => by
          rw [hR, mgU, if_neg (by omega), mgU]
          by_cases x : i.toNat = o.toNat
          · rw [if_pos ⟨rfl, x⟩, if_pos x]
          · rw [if_neg (fun y => x y.2), if_neg x, mgU, if_neg (by omega), hgX _ _ (by omega)]
        have g29 : ∀ i : Int, mg R' 29 i = if i.toNat = o.toNat then 0 else mg R 29 i := fun i => by
          rw [hR, mgU]
          by_cases x : i.toNat = o.toNat
          · rw [if_pos ⟨rfl, x⟩, if_pos x]
          · rw [if_neg (fun y => x y.2), if_neg x, mgU, if_neg (by omega), mgU, if_neg (by omega), hgX _ _ (by omega)]
        have g30 : ∀ i : Int, mg R' 30 i = if i.toNat = o.toNat then mg R 30 o + (mg R 28 o * mnK R (mg R 24 o) + mg R 29 o) else mg R 30 i := fun i => by
          rw [hR, mgU, if_neg (by omega), mgU, if_neg (by omega), mgU]
          by_cases x : i.toNat = o.toNat
          · rw [if_pos ⟨rfl, x⟩, if_pos x]
          · rw [if_neg (fun y => x y.2), if_neg x, hgX _ _ (by omega)]
        have gX : ∀ (a : Nat) (i : Int), ¬ (28 ≤ a ∧ a ≤ 30) → mg R' a i = mg X a i := fun a i ha => by
          rw [hR, mgU, if_neg (by omega), mgU, if_neg (by omega), mgU, if_neg (by omega)]
        obtain ⟨w1, w2, w3, w4⟩ := hob
        have hwm : ((wOf B R).m ((wOf B R).g o.toNat) : Int) = mnK R (mg R 24 o) := by
          show ((mnK R (((mg R 24 ((o.toNat : Nat) : Int)).toNat : Nat) : Int)).toNat : Int) = _
          rw [hoo, Int.toNat_of_nonneg c24.1]
          have := (hI.2.2.2.1 _ c24.1 c24.2).mn
          omega
        refine ⟨⟨k0, ?_⟩, B, N, h.ord1 (o := o.toNat) hI (by omega) w1 w2 (fun t t1 t2 => ?_) (fun a i ha => by rw [gX a i (by omega), hgX a i (by omega)]) (by rw [hR, hX]; exact ⟨rfl, rfl, rfl⟩) (fun q hq hq2 => ⟨by rw [g28, if_neg (by omega)], by rw [g29, if_neg (by omega)], by rw [g30, if_neg (by omega)], fun c' hc' => by rw [show sdK R' q c' = sdK X q c' from gX 31 _ (by omega)]; exact hgX 31 _ (by omega)⟩) (fun k x5 x6 x7 => ?_) ?_ ?_ ?_ (fun c' hc' => ?_)⟩
        · rw [hv0, b5, b6]
        · exact ⟨congrFun w1 t, by rw [w3 t t1]; exact (sm_upd t2).2.1, congrFun w2 t⟩
        · rw [w4 k (by simp; omega), updI_2, if_neg (by omega)]
        · rw [f5, hoo, g28, if_pos rfl]
        · rw [f6, hoo, g29, if_pos rfl]
        · rw [f7, hoo, g30, if_pos rfl, b5, b6, b7, hwm]
        · rw [w3 _ (by omega), updI_2, hoo, show sdK R' o c' = sdK X o c' from gX 31 _ (by omega)]
          show _ = mg X 31 (6 * o + c')
          by_cases x : c' = c.toNat
          · rw [if_pos ⟨rfl, x⟩, hX, mgU, if_pos ⟨rfl, by omega⟩]
          · rw [if_neg (fun y => x y.2), hgX 31 _ (by omega)]
            have := d9 c' hc'
            rw [hoo] at this
            exact this

