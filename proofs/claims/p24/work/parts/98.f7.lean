theorem shF_1 {X : Sto} {U : Nat} {i c : Int} {t : Nat} : (shNew X U i c).1 t = if t = U then some (4, 5) else X.1 t := rfl
theorem shF_2 {X : Sto} {U : Nat} {i c : Int} {t k : Nat} : (shNew X U i c).2.1 t k = if t = U ∧ k = 1 then c else if t = U ∧ k = 0 then i else if t = U then 0 else X.2.1 t k := rfl
theorem shF_3 {X : Sto} {U : Nat} {i c : Int} {t k : Nat} : (shNew X U i c).2.2 t k = if t = 4 ∧ k = i.toNat then some U else if t = U ∧ k = 2 then some (U + 1) else if t = U then none else X.2.2 t k := rfl
theorem ag_shape {n : Int} {B : Nat → Nat} {N : Nat} {S R : Sto} {kd c x y w g : Int} (h : CI B N S R) (hI : MI n R) (hkd : InR kd) (hc : InR c) (hx : InR x) (hy : InR y) (hw : InR w) (hg : InR g) {post : Res → Sto → Prop} (hp : ∀ r S1, okr [0, 1, 2] r = true → tyF S S1 → agC em1 (shapeR R kd c x y w g) r S1 → post r S1) : s_shapeC [vT 1, vI kd, vI c, vI x, vI y, vI w, vI g] S post := by
  have e1 := h.2.1.1
  have hN1 := hI.2.1
  have hdr := hI.2.2.1
  refine ⟨wOf B R, h.cw hI, ⟨hkd, hc, hx, hy, hw, hg⟩, fun hn => hp _ _ rfl (fun _ _ => rfl) fun k v R' ho => ?_, fun hv => ⟨fun hn => hp _ _ rfl (fun _ _ => rfl) fun k v R' ho => ?_, fun hz => ⟨fun hn => hp _ _ rfl (fun _ _ => rfl) fun k v R' ho => ?_, fun h7 => ?_⟩⟩⟩
  · obtain ⟨o1, o2, -⟩ := ho
    rw [if_pos (by omega)] at o1
    rw [o2 (by omega)]
    exact ⟨o1, B, N, h.th hI _⟩
  · obtain ⟨o1, o2, -⟩ := ho
    rw [if_neg (by omega), if_pos (by omega)] at o1
    rw [o2 (by omega)]
    exact ⟨o1, B, N, h.th hI _⟩
  · obtain ⟨o1, o2, -⟩ := ho
    rw [e1] at hn
    rw [if_neg (by omega), if_neg (by omega), if_pos hn] at o1
    rw [o2 (by omega)]
    exact ⟨o1, B, N, h.th hI _⟩
  · rw [e1] at h7
    obtain ⟨ff, -, -, -⟩ := h.2.2.2.2.2.2.2
    refine ⟨8192 + 16 * N, by omega, ff _ (by omega), ff _ (by omega), fun X hX => hp _ _ rfl (fun t ht => by rw [updI_1, shF_1, if_neg (by omega), hX.1, newS_1, if_neg (by omega)]) fun k v R' ho => ?_⟩
    obtain ⟨o1, -, o3⟩ := ho
    rw [if_neg (by omega), if_neg (by omega), if_neg (by omega)] at o1
    obtain ⟨o4, o5⟩ := o3 o1
    refine ⟨⟨o1, by rw [o4, e1]⟩, B, N + 1, ?_⟩
    rw [e1]
    obtain ⟨q, hq⟩ : ∃ q : Nat, shN R 6 = (q : Int) := ⟨_, (Int.toNat_of_nonneg hdr.1).symm⟩
    have hqn : (shN R 6).toNat = q := by omega
    have hqN : q ≤ N := by have := h.2.2.1.1; omega
    rw [hq] at o5
    have hgg : ∀ (a : Nat) (i : Int), ¬ ((2 ≤ a ∧ a ≤ 7) ∧ i.toNat = (42 + (q : Int)).toNat) → ¬ (a = 1 ∧ i.toNat = 6) → mg R' a i = mg R a i := fun a i x z => by
      rw [o5, mgU, if_neg z, mgU, if_neg (by omega), mgU, if_neg (by omega), mgU, if_neg (by omega), mgU, if_neg (by omega), mgU, if_neg (by omega), mgU, if_neg (by omega)]; exact th_mg'
    have s6 : shN R' 6 = (q : Int) + 1 := by
      show mg R' 1 6 = _
      rw [o5, mgU, if_pos ⟨rfl, rfl⟩]
    have g2 : mg R' 2 (42 + q) = kd := by rw [o5]; simp [mgU]
    have g3 : mg R' 3 (42 + q) = c := by rw [o5]; simp [mgU]
    have g4 : mg R' 4 (42 + q) = x := by rw [o5]; simp [mgU]
    have g5 : mg R' 5 (42 + q) = y := by rw [o5]; simp [mgU]
    have g6 : mg R' 6 (42 + q) = w := by rw [o5]; simp [mgU]
    have g7 : mg R' 7 (42 + q) = g := by rw [o5]; simp [mgU]
    have hN : nD R' = nD R ∧ nM R' = nM R ∧ nO R' = nO R := by rw [o5]; exact ⟨rfl, rfl, rfl⟩
    obtain ⟨x1, x2, x3, x4⟩ := hX
    obtain ⟨S2, hS2⟩ : ∃ S2, S2 = updI (shNew X (8192 + 16 * N) (shN R 6) c) 1 1 (shN R 6 + 1) := ⟨_, rfl⟩
    rw [← hS2]
    have t1 : ∀ t, S2.1 t = if t = 8192 + 16 * N then some (4, 5) else if t = 8192 + 16 * N + 1 then some (100, 16) else S.1 t := fun t => by rw [hS2, updI_1, shF_1, x1, newS_1]
    have t2 : ∀ t k, S2.2.1 t k = if t = 1 ∧ k = 1 then (q : Int) + 1 else if t = 8192 + 16 * N ∧ k = 1 then c else if t = 8192 + 16 * N ∧ k = 0 then (q : Int) else if t = 8192 + 16 * N then 0 else if t = 8192 + 16 * N + 1 then rowsF kd x y w g k else S.2.1 t k := fun t k => by
      rw [hS2, updI_2, shF_2, hq]
      by_cases e : t = 8192 + 16 * N + 1
      · rw [e, x4 k, if_pos rfl]
      · rw [x3 t e, newS_2, if_neg e, if_neg e]
    have t3 : ∀ t k, S2.2.2 t k = if t = 4 ∧ k = q then some (8192 + 16 * N) else if t = 8192 + 16 * N ∧ k = 2 then some (8192 + 16 * N + 1) else if t = 8192 + 16 * N then none else if t = 8192 + 16 * N + 1 then none else S.2.2 t k := fun t k => by
      rw [hS2, updI_3, shF_3, hqn, x2, newS_3]
    have hsm : ∀ t, t ≠ 1 → t ≠ 4 → t < 8192 + 16 * N → sm S S2 t := fun t x b c => ⟨by rw [t1, if_neg (by omega), if_neg (by omega)], by funext k; rw [t2, if_neg (by omega), if_neg (by omega), if_neg (by omega), if_neg (by omega), if_neg (by omega)], by funext k; rw [t3, if_neg (by omega), if_neg (by omega), if_neg (by omega), if_neg (by omega)]⟩
    obtain ⟨h1, ⟨e1, e3, e5, e7⟩, ⟨d1, d2⟩, hd, hm, ho', hst, hf⟩ := h
    have r1 : S2.2.2 1 = S.2.2 1 := by funext k; rw [t3, if_neg (by omega), if_neg (by omega), if_neg (by omega), if_neg (by omega)]
    have f1 : ∀ k, k ≠ 1 → S2.2.1 1 k = S.2.1 1 k := fun k hk => by rw [t2, if_neg (by omega), if_neg (by omega), if_neg (by omega), if_neg (by omega), if_neg (by omega)]
    have eN : N + 1 - (shN R' 6).toNat = N - (shN R 6).toNat := by rw [s6, hqn]; omega
    refine ⟨h1.fl (fun t ht => by rw [t1, if_neg (by omega), if_neg (by omega)]) ⟨r1, (hsm 8 (by omega) (by omega) (by omega)).2.2⟩ (h1.nl.fr (f1 3 (by omega)) (f1 5 (by omega)) (f1 7 (by omega)) (hsm 5 (by omega) (by omega) (by omega)).2.2 (hsm 6 (by omega) (by omega) (by omega)).2.2 (hsm 7 (by omega) (by omega) (by omega)).2.2), ⟨?_, ?_, ?_, ?_⟩, ⟨by rw [s6]; omega, fun k hk => ?_⟩, fun d hd' => ?_, fun i hi => ?_, fun o ho'' => ?_, fun k hk => ?_, ?_⟩
    · rw [t2, if_pos ⟨rfl, rfl⟩, s6]
    · rw [f1 3 (by omega), e3, hN.1]
    · rw [f1 5 (by omega), e5, hN.2.1]
    · rw [f1 7 (by omega), e7, hN.2.2]
    · rw [s6] at hk
      unfold dfI
      rw [eN, hqn]
      by_cases z : k = q
      · subst z
        have hU : N - k + k = N := by omega
        rw [hU, g3]
        have hh : ∀ i j, hasK R' (42 + k) i j ↔ hasP kd x y w g i j := fun i j => by
          show hasP (mg R' 2 (42 + k)) (mg R' 4 (42 + k)) (mg R' 5 (42 + k)) (mg R' 6 (42 + k)) (mg R' 7 (42 + k)) i j ↔ _
          rw [g2, g4, g5, g6, g7]
        refine ⟨by rw [t3, if_pos ⟨rfl, rfl⟩], ⟨by rw [t1, if_pos rfl], by rw [t3, if_neg (by omega), if_pos ⟨rfl, rfl⟩], by rw [t1, if_neg (by omega), if_pos rfl], fun j hj => ?_, fun i j hij => ?_⟩, ?_, ?_⟩
        · rw [t2, if_neg (by omega), if_neg (by omega), if_neg (by omega), if_neg (by omega), if_pos rfl]
          obtain ⟨b1, b2, b3⟩ := rows_bit hv.1 ⟨hz.1.1, hz.1.2.1, hz.1.2.2⟩ ⟨hz.2.1, hz.2.2.1, hz.2.2.2⟩ j
          exact ⟨b1, b2, fun i hi => (b3 i hi).trans (hh i j).symm⟩
        · have b := (hh i j).mp hij
          unfold hasP wideF at b
          split at b <;> omega
        · rw [t2, if_neg (by omega), if_pos ⟨rfl, rfl⟩]
        · rw [t2, if_neg (by omega), if_neg (by omega), if_pos ⟨rfl, rfl⟩]
      · obtain ⟨a1, a2, a3, a4⟩ := d2 k (by omega)
        rw [hqn] at a1 a2 a3 a4
        have y1 := hsm (8192 + 16 * (N - q + k)) (by omega) (by omega) (by omega)
        have y2 := hsm (8192 + 16 * (N - q + k) + 1) (by omega) (by omega) (by omega)
        have hR : shEq R R' (42 + k) := fun a a2 a7 => hgg a _ (by omega) (by omega)
        have hh : hasK R' (42 + k) = hasK R (42 + k) := by funext x y; exact hR.hs
        rw [hh, y1.2.1, hgg 3 _ (by omega) (by omega)]
        exact ⟨by rw [t3, if_neg (by omega), if_neg (by omega), if_neg (by omega), if_neg (by omega)]; exact a1, a2.eq y1.1 y2.1 y1.2.2 y2.2.1, a3, a4⟩
    · rw [hN.1] at hd'
      obtain ⟨a1, a2⟩ := hd d hd'
      have hD := hI.2.2.2.1 d (by omega) hd'
      have sd : shN R' d = shN R d := hgg 1 d (by omega) (by omega)
      have hs7 := hD.1.2.2.2.1
      have eq : desEq R R' d := ⟨sd, fun k k0 k1 a a2 a7 => hgg a _ (by omega) (by omega), fun p _ _ => hgg 9 _ (by omega) (by omega), hgg 10 _ (by omega) (by omega), fun j _ _ => hgg 11 _ (by omega) (by omega)⟩
      rw [eN, sd]
      exact ⟨a1, (a2.eqS hD a1 (hsm 5 (by omega) (by omega) (by omega) |>.2.2 ▸ rfl) (fun t t1 t2 => hsm t (by omega) (by omega) (by omega)) (fun t t1 t2 => hsm t (by omega) (by omega) (by omega))).eqR hD eq⟩
    · rw [hN.2.1] at hi
      exact (hm i hi).fr (hsm 6 (by omega) (by omega) (by omega)).2.2 (hsm _ (by omega) (by omega) (by omega)) (hsm _ (by omega) (by omega) (by omega)) (fun a j ha => hgg a j (by omega) (by omega))
    · rw [hN.2.2] at ho''
      exact (ho' o ho'').fr (hsm 7 (by omega) (by omega) (by omega)).2.2 (hsm _ (by omega) (by omega) (by omega)) (hsm _ (by omega) (by omega) (by omega)) (fun a j ha => hgg a j (by omega) (by omega))
    · rw [(hsm 9 (by omega) (by omega) (by omega)).2.1, hgg 22 _ (by omega) (by omega)]; exact hst k hk
    · obtain ⟨y1, y2, y3, y4⟩ := hf
      refine ⟨fun t ht => ?_, fun d j a b c => ?_, fun i j a b c => ?_, fun o j a b c => ?_⟩
      · rw [t1, if_neg (by omega), if_neg (by omega)]; exact y1 t (by omega)
      · rw [hN.1] at a
        rw [t1, if_neg (by omega), if_neg (by omega)]; exact y2 d j a b c
      · rw [hN.2.1] at a
        rw [t1, if_neg (by omega), if_neg (by omega)]; exact y3 i j a b c
      · rw [hN.2.2] at a
        rw [t1, if_neg (by omega), if_neg (by omega)]; exact y4 o j a b c

