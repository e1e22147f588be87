/-! THE PROPERTY: what each call of the reference answers, for the law's arguments -/
def cntR (R : Sto) (a b c e : Int) : Prop := shN R 6 = a ∧ nD R = b ∧ nM R = c ∧ nO R = e
theorem cnt_thr {R : Sto} {k : Int} : cntR (thr R k) (shN R 6) (nD R) (nM R) (nO R) := ⟨th_mg', rfl, rfl, rfl⟩
theorem op_wipe {R R' : Sto} {k v : Int} (ho : wipeR R k v R') : k = 0 ∧ v = shN R 6 ∧ cntR R' 0 (nD R) (nM R) (nO R) := by
  obtain ⟨h1, h2, rfl⟩ := ho
  refine ⟨h1, h2, ?_, rfl, rfl, rfl⟩
  show mg _ 1 6 = 0
  rw [mgU, if_pos ⟨rfl, rfl⟩]
theorem op_stock {n : Int} {R R' : Sto} {c s x k v : Int} (hc : 0 ≤ c ∧ c < 6 ∧ 0 ≤ s ∧ s < 3) (hx : 1 ≤ x ∧ x ≤ 100000) (hl : mg R 22 (3 * c + s) + x ≤ 1000000) (ho : stockR R c s x k v R') : k = 0 ∧ v = mg R 22 (3 * c + s) + x ∧ cntR R' (shN R 6) (nD R) (nM R) (nO R) ∧ ∀ b, QI R b → QI R' (b + x) := by
  have ho' := ho
  obtain ⟨h1, h2, h3⟩ := ho
  rw [if_neg (fun z => z hc), if_neg (fun z => z hx), if_neg (by omega)] at h1
  subst h1
  obtain ⟨e1, e2⟩ := h3 rfl
  refine ⟨rfl, e1, ⟨?_, by rw [e2]; rfl, by rw [e2]; rfl, by rw [e2]; rfl⟩, fun b hb => hb.stock hc ho'⟩
  rw [e2]
  show mg _ 1 6 = _
  rw [mgU, if_neg (by omega)]; exact th_mg'
theorem op_shape {R R' : Sto} {i c x y w g k v : Int} (hr : (0 ≤ i ∧ i ≤ 1 ∧ 0 ≤ c ∧ c < 6) ∧ 0 ≤ x ∧ x ≤ 15 ∧ 0 ≤ y ∧ y ≤ 15 ∧ 1 ≤ w ∧ w ≤ 16 - x ∧ 1 ≤ g ∧ g ≤ 16 - y) (ho : shapeR R i c x y w g k v R') : (k = 3 ∧ shN R 6 = 7 ∧ R' = thr R 3) ∨ (k = 0 ∧ shN R 6 ≠ 7 ∧ v = shN R 6 + 1 ∧ cntR R' (shN R 6 + 1) (nD R) (nM R) (nO R) ∧ ∀ b, QI R b → QI R' b) := by
  have ho' := ho
  obtain ⟨h1, h2, h3⟩ := ho
  rw [if_neg (fun z => z hr.1), if_neg (fun z => z hr.2)] at h1
  by_cases e : shN R 6 = 7
  · rw [if_pos e] at h1
    subst h1
    exact Or.inl ⟨rfl, e, h2 (by omega)⟩
  · rw [if_neg e] at h1
    subst h1
    obtain ⟨e1, e2⟩ := h3 rfl
    refine Or.inr ⟨rfl, e, e1, ⟨?_, by rw [e2]; rfl, by rw [e2]; rfl, by rw [e2]; rfl⟩, fun b hb => hb.shape ho'⟩
    rw [e2]
    show mg _ 1 6 = _
    rw [mgU, if_pos ⟨rfl, rfl⟩]
theorem op_design {n : Int} {R R' : Sto} {k v : Int} (hI : MI n R) (ho : designR R k v R') : (k = 1 ∧ (shN R 6 = 0 ∨ nD R = 6) ∧ R' = thr R 1) ∨ (k = 0 ∧ ¬ (shN R 6 = 0 ∨ nD R = 6) ∧ v = nD R ∧ cntR R' 0 (nD R + 1) (nM R) (nO R) ∧ shN R' (nD R) = shN R 6 ∧ ∀ b, QI R b → QI R' b) := by
  have ho' := ho
  obtain ⟨h1, h2, h3⟩ := ho
  by_cases e : shN R 6 = 0 ∨ nD R = 6
  · rw [if_pos e] at h1
    subst h1
    exact Or.inl ⟨rfl, e, h2 (by omega)⟩
  · rw [if_neg e] at h1
    subst h1
    obtain ⟨e1, T, hag, hR, -, s1, s2, -⟩ := h3 rfl
    have eT : ∀ (a : Nat) (i : Int), mg R' a i = mg T a i := fun a i => by rw [hR]; exact mgF
    refine Or.inr ⟨rfl, e, e1, ⟨(eT 1 6).trans s2, by rw [hR]; exact mfF.trans (if_pos rfl), by rw [hR]; exact (mfF.trans (if_neg (by omega))).trans hag.mf, by rw [hR]; exact (mfF.trans (if_neg (by omega))).trans hag.mf⟩, (eT 1 _).trans s1, fun b hb => hb.design hI ho'⟩
theorem op_machine {n : Int} {R R' : Sto} {a w g k v : Int} (hI : MI n R) (hr : 1 ≤ a ∧ a ≤ 6 ∧ 1 ≤ w ∧ w ≤ 16 ∧ 1 ≤ g ∧ g ≤ 16) (ho : machineR R a w g k v R') : (k = 2 ∧ nM R = 4 ∧ R' = thr R 2) ∨ (k = 0 ∧ nM R ≠ 4 ∧ v = nM R ∧ cntR R' (shN R 6) (nD R) (nM R + 1) (nO R) ∧ mg R' 17 (nM R) = -1 ∧ hset R' (nM R) (mg R' 14 (nM R)).toNat = 0 ∧ ∀ b, QI R b → QI R' b) := by
  have ho' := ho
  obtain ⟨h1, h2, h3⟩ := ho
  rw [if_neg (fun z => z hr)] at h1
  by_cases e : nM R = 4
  · rw [if_pos e] at h1
    subst h1
    exact Or.inl ⟨rfl, e, h2 (by omega)⟩
  · rw [if_neg e] at h1
    subst h1
    obtain ⟨e1, hR⟩ := h3 rfl
    have hN := hI.2.1
    obtain ⟨X, hX⟩ : ∃ X, X = updI (updI (updI (updI (thr R 0) (mt 14) (nM R).toNat a) (mt 15) (nM R).toNat w) (mt 16) (nM R).toNat g) (mt 17) (nM R).toNat (-1) := ⟨_, rfl⟩
    rw [← hX] at hR
    have gX : ∀ (b : Nat) (i : Int), b ≠ 20 → mg R' b i = mg X b i := fun b i hb => by
      rw [hR, mgF, (fillH_ag (S := X) (b := 6 * nM R) 6).mg (by simp; omega)]
    have fX : ∀ k, k ≠ 13 → mf R' k = mf X k := fun k hk => by rw [hR]; exact (mfF.trans (if_neg hk)).trans (fillH_ag 6).mf
    have g14 : mg R' 14 (nM R) = a := by
      rw [gX 14 _ (by omega), hX, mgU, if_neg (by omega), mgU, if_neg (by omega), mgU, if_neg (by omega), mgU, if_pos ⟨rfl, rfl⟩]
    refine Or.inr ⟨rfl, e, e1, ⟨?_, (fX 8 (by omega)).trans (by rw [hX]; rfl), by rw [hR]; exact mfF.trans (if_pos rfl), (fX 23 (by omega)).trans (by rw [hX]; rfl)⟩, ?_, ?_, fun b hb => hb.machine hI ho'⟩
    · show mg R' 1 6 = mg R 1 6
      rw [gX 1 _ (by omega), hX, mgU, if_neg (by omega), mgU, if_neg (by omega), mgU, if_neg (by omega), mgU, if_neg (by omega)]; exact th_mg'
    · rw [gX 17 _ (by omega), hX, mgU, if_pos ⟨rfl, rfl⟩]
    · rw [g14]
      refine hset_0 (fun k k0 k6 => ?_) _ (by omega)
      show mg R' 20 (6 * nM R + k) = -1
      rw [hR, mgF, fillH_v (by omega) 6 20 _ (by omega), if_pos ⟨rfl, by omega, by omega⟩]
theorem op_order {n : Int} {R R' : Sto} {d p k v : Int} (hI : MI n R) (hr : (0 ≤ d ∧ d < nD R) ∧ 1 ≤ p ∧ p ≤ 50) (ho : orderR R d p k v R') : (k = 3 ∧ nO R = 20 ∧ R' = thr R 3) ∨ (k = 0 ∧ nO R ≠ 20 ∧ v = nO R ∧ cntR R' (shN R 6) (nD R) (nM R) (nO R + 1) ∧ mg R' 26 (nO R) = 0 ∧ mg R' 27 (nO R) = -1 ∧ (∀ c, 0 ≤ c → c < 6 → sdK R' (nO R) c = -1) ∧ ∀ b, QI R b → QI R' b) := by
  have ho' := ho
  obtain ⟨h1, h2, h3⟩ := ho
  rw [if_neg (fun z => z hr.1), if_neg (fun z => z hr.2)] at h1
  by_cases e : nO R = 20
  · rw [if_pos e] at h1
    subst h1
    exact Or.inl ⟨rfl, e, h2 (by omega)⟩
  · rw [if_neg e] at h1
    subst h1
    obtain ⟨e1, hR⟩ := h3 rfl
    have hN := hI.2.1
    have hgg : ∀ (a : Nat) (i : Int), a ≠ 24 → a ≠ 25 → a ≠ 27 → mg R' a i = mg R a i := fun a i a1 a2 a3 => by
      rw [hR, mgF, mgU, if_neg (by omega), mgU, if_neg (by omega), mgU, if_neg (by omega)]; exact th_mg'
    have hf := hI.2.2.2.2.2.2.1.2.2 (nO R) (by omega) (by omega)
    refine Or.inr ⟨rfl, e, e1, ⟨hgg 1 6 (by omega) (by omega) (by omega), by rw [hR]; rfl, by rw [hR]; rfl, by rw [hR]; rfl⟩, (hgg 26 _ (by omega) (by omega) (by omega)).trans hf.1, ?_, fun c c0 c6 => (hgg 31 _ (by omega) (by omega) (by omega)).trans (hf.2.2.2.2 c c0 c6), fun b hb => hb.order hI ho'⟩
    rw [hR, mgF, mgU, if_pos ⟨rfl, rfl⟩]
/-- the shades that an order was given -/
def shdP (R : Sto) (o c : Int) : Prop := (cntC R (mg R 24 o) c (mnK R (mg R 24 o)).toNat * mg R 25 o = 0 → sdK R o c = -1) ∧ (cntC R (mg R 24 o) c (mnK R (mg R 24 o)).toNat * mg R 25 o ≠ 0 → (0 ≤ sdK R o c ∧ sdK R o c < 3) ∧ cntC R (mg R 24 o) c (mnK R (mg R 24 o)).toNat * mg R 25 o ≤ mg R 22 (3 * c + sdK R o c) ∧ (sdK R o c = 0 ∨ mg R 22 (3 * c + (sdK R o c - 1)) < cntC R (mg R 24 o) c (mnK R (mg R 24 o)).toNat * mg R 25 o))
theorem op_start {n : Int} {R R' : Sto} {o m k : Int} (hI : MI n R) (hr : 0 ≤ o ∧ o < nO R ∧ 0 ≤ m ∧ m < nM R) (ho : startR R o m k R') : (k = 2 ∧ R' = thr R 2) ∨ (k = 0 ∧ mg R 26 o = 0 ∧ mg R 17 m = -1 ∧ cntR R' (shN R 6) (nD R) (nM R) (nO R) ∧ mg R' 26 o = 1 ∧ mg R' 27 o = m ∧ mg R' 17 m = o ∧ (∀ c, 0 ≤ c → c < 6 → shdP R' o c) ∧ ∀ b, QI R b → QI R' b) := by
  have ho' := ho
  obtain ⟨h1, h2, h3⟩ := ho
  rcases h1 with h1 | h1 | h1
  · exact absurd hr h1.1
  · right
    obtain ⟨-, ⟨c1, c2, c3⟩, k0⟩ := h1
    subst k0
    have hR := h3 rfl
    have hag : agr [17, 26, 27, 31] (thr R 0) R' := by
      rw [hR]
      exact ((((fillS_ag 6).sub (by simp)).upd (by simp)).upd (by simp)).upd (by simp)
    have hg : ∀ (a : Nat) (i : Int), a ≠ 17 → a ≠ 26 → a ≠ 27 → a ≠ 31 → mg R' a i = mg R a i := fun a i a1 a2 a3 a4 => (hag.mg (by simp; omega)).trans th_mg'
    have h31 : ∀ c, 0 ≤ c → c < 6 → sdK R' o c = giv R o c := fun c c0 c6 => by
      show mg R' 31 (6 * o + c) = _
      rw [hR, mgU, if_neg (by omega), mgU, if_neg (by omega), mgU, if_neg (by omega), fillS_v hr.1 6 31 _ (by omega), if_pos ⟨rfl, by omega, by omega⟩, show 6 * o + c - 6 * o = c by omega]
    refine ⟨rfl, c1, c2, ⟨hg 1 6 (by omega) (by omega) (by omega) (by omega), hag.mf, hag.mf, hag.mf⟩, ?_, ?_, ?_, fun c c0 c6 => ?_, fun b hb => hb.start ho'⟩
    · rw [hR, mgU, if_neg (by omega), mgU, if_neg (by omega), mgU, if_pos ⟨rfl, rfl⟩]
    · rw [hR, mgU, if_neg (by omega), mgU, if_pos ⟨rfl, rfl⟩]
    · rw [hR, mgU, if_pos ⟨rfl, rfl⟩]
    · have e24 := hg 24 o (by omega) (by omega) (by omega) (by omega)
      have e25 := hg 25 o (by omega) (by omega) (by omega) (by omega)
      have e10 : mnK R' (mg R 24 o) = mnK R (mg R 24 o) := hg 10 _ (by omega) (by omega) (by omega) (by omega)
      have ecn : cntC R' (mg R 24 o) c (mnK R (mg R 24 o)).toNat = cntC R (mg R 24 o) c (mnK R (mg R 24 o)).toNat := (hag.cnt (by simp) (by simp)).trans rfl
      have e22 : ∀ j, mg R' 22 j = mg R 22 j := fun j => hg 22 j (by omega) (by omega) (by omega) (by omega)
      have hp := (hI.2.2.2.2.2.1 o hr.1 hr.2.1).2.1
      have hfb := c3.2 c c0 c6
      unfold shdP
      rw [h31 c c0 c6, e24, e10, ecn, e25]
      simp only [e22]
      have hcd : cntD R o c = cntC R (mg R 24 o) c (mnK R (mg R 24 o)).toNat := rfl
      have hnd : needK R o c = mg R 25 o * cntC R (mg R 24 o) c (mnK R (mg R 24 o)).toNat := rfl
      have hcm : cntC R (mg R 24 o) c (mnK R (mg R 24 o)).toNat * mg R 25 o = needK R o c := by rw [hnd, Int.mul_comm]
      rw [hcm]
      unfold giv
      by_cases z : cntD R o c = 0
      · have z0 : needK R o c = 0 := by rw [hnd, ← hcd, z]; simp
        rw [if_pos z]
        exact ⟨fun _ => rfl, fun y => absurd z0 y⟩
      · rw [if_neg z]
        have z0 : needK R o c ≠ 0 := by
          rw [hnd, ← hcd]
          intro y
          rcases Int.mul_eq_zero.mp y with y | y
          · omega
          · exact z y
        refine ⟨fun y => absurd y z0, fun _ => ?_⟩
        have hs := hfb.resolve_left z
        unfold shF at hs ⊢
        by_cases y0 : needK R o c ≤ mg R 22 (3 * c)
        · rw [if_pos y0]
          exact ⟨by omega, by rw [Int.add_zero]; exact y0, Or.inl rfl⟩
        · rw [if_neg y0] at hs ⊢
          by_cases y1 : needK R o c ≤ mg R 22 (3 * c + 1)
          · rw [if_pos y1]
            exact ⟨by omega, y1, Or.inr (by rw [show (1 : Int) - 1 = 0 by omega, Int.add_zero]; omega)⟩
          · rw [if_neg y1] at hs ⊢
            by_cases y2 : needK R o c ≤ mg R 22 (3 * c + 2)
            · rw [if_pos y2]
              exact ⟨by omega, y2, Or.inr (by rw [show (2 : Int) - 1 = 1 by omega]; omega)⟩
            · rw [if_neg y2] at hs
              exact absurd rfl hs
  · exact Or.inl ⟨h1.2.2, by rw [h2 (by omega), h1.2.2]⟩
theorem op_snap {n : Int} {R R' : Sto} {m k v : Int} (hI : MI n R) (hr : 0 ≤ m ∧ m < nM R) (ho : snapR R m k v R') : (k = 2 ∧ (mg R 17 m = -1 ∨ mg R 29 (mg R 17 m) = 0) ∧ R' = thr R 2) ∨ (k = 0 ∧ ¬ (mg R 17 m = -1 ∨ mg R 29 (mg R 17 m) = 0) ∧ (1 ≤ v ∧ v ≤ 5) ∧ cntR R' (shN R 6) (nD R) (nM R) (nO R) ∧ mg R' 29 (mg R 17 m) = mg R 29 (mg R 17 m) - v ∧ mg R' 28 (mg R 17 m) = mg R 28 (mg R 17 m) ∧ ∀ b, QI R b → QI R' b) := by
  have ho' := ho
  obtain ⟨h1, h2, h3⟩ := ho
  rw [if_neg (fun z => z hr)] at h1
  by_cases e : mg R 17 m = -1 ∨ mg R 29 (mg R 17 m) = 0
  · rw [if_pos e] at h1
    subst h1
    exact Or.inl ⟨rfl, e, h2 (by omega)⟩
  · rw [if_neg e] at h1
    subst h1
    obtain ⟨o, rfl, v1, v2, -, -, -, hag, e29, e30, -⟩ := h3 rfl
    have hj := (hI.2.2.2.2.1 m hr.1 hr.2).2.2.2.2.2.2.2.1
    exact Or.inr ⟨rfl, e, ⟨v1, v2⟩, ⟨(hag.mg (k := 1) (by simp)).trans th_mg', hag.mf, hag.mf, hag.mf⟩, e29, (hag.mg (k := 28) (by simp)).trans th_mg', fun b hb => hb.snap (by omega) ho'⟩
theorem op_match {n : Int} {R R' : Sto} {o c s k v : Int} (hI : MI n R) (hr : 0 ≤ o ∧ o < nO R ∧ 0 ≤ c ∧ c < 6 ∧ 0 ≤ s ∧ s < 3) (ho : matchR R o c s k v R') : (k = 2 ∧ R' = thr R 2) ∨ (k = 0 ∧ cntR R' (shN R 6) (nD R) (nM R) (nO R) ∧ sdK R' o c = s ∧ sdK R o c ≠ s ∧ sdK R o c ≠ -1 ∧ ((v = 0 ∧ mg R' 30 o = mg R 30 o) ∨ (v ≠ 0 ∧ v = mg R 28 o + (if 0 < mg R 29 o then 1 else 0) ∧ mg R' 28 o = 0 ∧ mg R' 29 o = 0 ∧ mg R 30 o < mg R' 30 o)) ∧ ∀ b, QI R b → QI R' b) := by
  have ho' := ho
  obtain ⟨h1, h2, h3⟩ := ho
  rcases h1 with h1 | h1 | h1
  · exact absurd hr h1.1
  · right
    obtain ⟨-, ⟨c1, c2, c3, c4⟩, k0⟩ := h1
    subst k0
    have hor := hI.2.2.2.2.2.1 o hr.1 hr.2.1
    have hs := hor.2.2.2.2.2.2 c hr.2.2.1 hr.2.2.2.1
    have hpos : 0 < cntC R (mg R 24 o) c (mnK R (mg R 24 o)).toNat := by
      have e : needK R o c = mg R 25 o * cntC R (mg R 24 o) c (mnK R (mg R 24 o)).toNat := rfl
      have h25 := hor.2.1
      rcases Int.lt_or_le 0 (cntC R (mg R 24 o) c (mnK R (mg R 24 o)).toNat) with z | z
      · exact z
      · exfalso
        have := Int.mul_le_mul_of_nonneg_left z (show 0 ≤ mg R 25 o by omega)
        rw [Int.mul_zero] at this
        omega
    have hne : sdK R o c ≠ -1 := by have := hs.2.2 c1 hpos; omega
    rcases h3 rfl with ⟨w, v0, hR⟩ | ⟨w, hv, hR⟩
    · have g : ∀ (a : Nat) (i : Int), a ≠ 31 → mg R' a i = mg R a i := fun a i ha => by rw [hR, mgU, if_neg (by omega)]; exact th_mg'
      refine ⟨rfl, ⟨g 1 6 (by omega), by rw [hR]; rfl, by rw [hR]; rfl, by rw [hR]; rfl⟩, ?_, c3, hne, Or.inl ⟨v0, g 30 o (by omega)⟩, fun b hb => hb.match_ hr.1 ho'⟩
      rw [hR]
      show mg _ 31 (6 * o + c) = s
      rw [mgU, if_pos ⟨rfl, rfl⟩]
    · obtain ⟨X, hX⟩ : ∃ X, X = updI (thr R 0) (mt 31) (6 * o + c).toNat s := ⟨_, rfl⟩
      rw [← hX] at hR
      unfold wsU at hR
      have gX : ∀ (a : Nat) (i : Int), a ≠ 31 → mg X a i = mg R a i := fun a i ha => by rw [hX, mgU, if_neg (by omega)]; exact th_mg'
      have g : ∀ (a : Nat) (i : Int), a ≠ 28 → a ≠ 29 → a ≠ 30 → mg R' a i = mg X a i := fun a i a1 a2 a3 => by rw [hR, mgU, if_neg (by omega), mgU, if_neg (by omega), mgU, if_neg (by omega)]
      have ew : wsN X o = wsN R o := by
        rw [wsN_e, wsN_e, gX 28 _ (by omega), gX 29 _ (by omega), gX 24 _ (by omega), show mnK X (mg R 24 o) = mnK R (mg R 24 o) from gX 10 _ (by omega)]
      have h5 := hor.2.2.2.2.1
      have hmn := (hI.2.2.2.1 _ hor.1.1 hor.1.2).mn
      have hsw : 0 < mg R 28 o ∨ 0 < mg R 29 o := by
        rcases w with w | ⟨j, j0, j1, -⟩
        · exact Or.inl w
        · right; omega
      have hws : 0 < wsN R o := by
        rw [wsN_e]
        rcases Int.lt_or_le 0 (mg R 28 o) with z | z
        · have := Int.mul_le_mul_of_nonneg_left hmn.1 (show 0 ≤ mg R 28 o by omega)
          rw [Int.mul_one] at this
          omega
        · have : mg R 28 o = 0 := by omega
          rw [this, Int.zero_mul]
          omega
      refine ⟨rfl, ⟨(g 1 6 (by omega) (by omega) (by omega)).trans (gX 1 6 (by omega)), by rw [hR, hX]; rfl, by rw [hR, hX]; rfl, by rw [hR, hX]; rfl⟩, ?_, c3, hne, Or.inr ⟨?_, hv, ?_, ?_, ?_⟩, fun b hb => hb.match_ hr.1 ho'⟩
      · show mg R' 31 (6 * o + c) = s
        rw [g 31 _ (by omega) (by omega) (by omega), hX, mgU, if_pos ⟨rfl, rfl⟩]
      · rw [hv]
        split <;> omega
      · rw [hR, mgU, if_neg (by omega), mgU, if_pos ⟨rfl, rfl⟩]
      · rw [hR, mgU, if_pos ⟨rfl, rfl⟩]
      · rw [hR, mgU, if_neg (by omega), mgU, if_neg (by omega), mgU, if_pos ⟨rfl, rfl⟩, ew, gX 30 _ (by omega)]
        omega
  · exact Or.inl ⟨h1.2.2, by rw [h2 (by omega), h1.2.2]⟩
theorem op_cancel {n : Int} {R R' : Sto} {o k v : Int} (hI : MI n R) (hr : 0 ≤ o ∧ o < nO R) (ho : cancelR R o k v R') : (k = 2 ∧ (mg R 26 o = 2 ∨ mg R 26 o = 3) ∧ R' = thr R 2) ∨ (k = 0 ∧ (0 ≤ mg R 26 o ∧ mg R 26 o ≤ 1) ∧ 0 ≤ v ∧ cntR R' (shN R 6) (nD R) (nM R) (nO R) ∧ mg R' 26 o = 3 ∧ mg R' 30 o = mg R 30 o + v ∧ mg R' 28 o = 0 ∧ mg R' 27 o = -1 ∧ ∀ b, QI R b → QI R' b) := by
  have ho' := ho
  obtain ⟨h1, h2, h3⟩ := ho
  rw [if_neg (fun z => z hr)] at h1
  by_cases e : mg R 26 o = 2 ∨ mg R 26 o = 3
  · rw [if_pos e] at h1
    subst h1
    exact Or.inl ⟨rfl, e, h2 (by omega)⟩
  · rw [if_neg e] at h1
    subst h1
    obtain ⟨T, hT, hv, hR⟩ := h3 rfl
    have hor := hI.2.2.2.2.2.1 o hr.1 hr.2
    have hmn := (hI.2.2.2.1 _ hor.1.1 hor.1.2).mn
    have h5 := hor.2.2.2.2.1
    have gT : ∀ (a : Nat) (i : Int), a ≠ 17 → a ≠ 27 → mg T a i = mg R a i := fun a i a1 a2 => by
      rw [hT]
      split
      · rw [mgU, if_neg (by omega), mgU, if_neg (by omega)]; exact th_mg'
      · exact th_mg'
    have fT : ∀ k, k ≠ 0 → mf T k = mf R k := fun k hk => by
      have : mf (thr R 0) k = mf R k := mfF.trans (if_neg hk)
      rw [hT]
      split
      · exact this
      · exact this
    have t27 : mg T 27 o = -1 := by
      rw [hT]
      by_cases z : mg R 26 o = 1
      · rw [if_pos z, mgU, if_pos ⟨rfl, rfl⟩]
      · rw [if_neg z]
        have h4 := hor.2.2.2.1
        have : mg R 27 o = -1 := by
          rcases (show mg R 27 o = -1 ∨ 0 ≤ mg R 27 o by omega) with y | y
          · exact y
          · exact absurd (h4.2.2.2.mpr y) z
        exact th_mg'.trans this
    have hws : 0 ≤ wsN R o := by
      rw [wsN_e]
      have := Int.mul_nonneg (show 0 ≤ mg R 28 o by omega) (show 0 ≤ mnK R (mg R 24 o) by omega)
      omega
    have g : ∀ (a : Nat) (i : Int), a ≠ 26 → a ≠ 28 → a ≠ 29 → a ≠ 30 → mg R' a i = mg T a i := fun a i a1 a2 a3 a4 => by rw [hR, mgU, if_neg (by omega), mgU, if_neg (by omega), mgU, if_neg (by omega), mgU, if_neg (by omega)]
    refine Or.inr ⟨rfl, by have := hor.2.2.1; omega, by rw [hv]; exact hws, ⟨(g 1 6 (by omega) (by omega) (by omega) (by omega)).trans (gT 1 6 (by omega) (by omega)), by rw [hR]; exact fT 8 (by omega), by rw [hR]; exact fT 13 (by omega), by rw [hR]; exact fT 23 (by omega)⟩, ?_, ?_, ?_, (g 27 o (by omega) (by omega) (by omega) (by omega)).trans t27, fun b hb => hb.cancel hr.1 ho'⟩
    · rw [hR, mgU, if_neg (by omega), mgU, if_neg (by omega), mgU, if_neg (by omega), mgU, if_pos ⟨rfl, rfl⟩]
    · rw [hR, mgU, if_neg (by omega), mgU, if_neg (by omega), mgU, if_pos ⟨rfl, rfl⟩, hv]
    · rw [hR, mgU, if_neg (by omega), mgU, if_pos ⟨rfl, rfl⟩]
theorem op_run {n : Int} {R R' : Sto} {m s k v : Int} (hI : MI n R) (hn : n + 1 ≤ 15000) (hr : (0 ≤ m ∧ m < nM R) ∧ 1 ≤ s ∧ s ≤ 100000) (ho : runR R m s k v R') : (k = 3 ∧ mg R 17 m = -1 ∧ R' = thr R 3) ∨ (k = 0 ∧ mg R 17 m ≠ -1 ∧ (0 ≤ v ∧ v ≤ s) ∧ cntR R' (shN R 6) (nD R) (nM R) (nO R) ∧ mg R' 19 m = mg R 19 m + v ∧ (mg R' 17 m = mg R 17 m ∨ mg R' 17 m = -1 ∧ mg R' 26 (mg R 17 m) = 2 ∧ mg R' 28 (mg R 17 m) = mg R' 25 (mg R 17 m)) ∧ ∀ b, QI R b → QI R' b) := by
  have ho' := ho
  obtain ⟨h1, h2, h3⟩ := ho
  rw [if_neg (fun z => z hr.1), if_neg (fun z => z hr.2)] at h1
  by_cases e : mg R 17 m = -1
  · rw [if_pos e] at h1
    subst h1
    exact Or.inl ⟨rfl, e, h2 (by omega)⟩
  · rw [if_neg e] at h1
    subst h1
    obtain ⟨hq, v0, v1, e19, e17, hag⟩ := run_ok hI hn hr.1.1 hr.1.2 hr.2.2 ho'
    exact Or.inr ⟨rfl, e, ⟨v0, v1⟩, ⟨(hag.mg (k := 1) (by simp)).trans th_mg', hag.mf, hag.mf, hag.mf⟩, e19, e17, hq⟩

