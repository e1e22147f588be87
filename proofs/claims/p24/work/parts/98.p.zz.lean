/-! THE PROPERTY: what is counted of the reference, and what each call keeps of it -/
theorem sum_one {f g : Nat → Int} {a : Nat} {x : Int} : ∀ n : Nat, a < n → (∀ j, j < n → g j = if j = a then f j + x else f j) → sumTo g n = sumTo f n + x
  | 0, h, _ => by omega
  | n + 1, h, hg => by
    show sumTo g n + g n = sumTo f n + f n + x
    have e := hg n (by omega)
    by_cases q : n = a
    · rw [if_pos q] at e
      rw [e, sumTo_congr n (fun j hj => by rw [hg j (by omega), if_neg (by omega)])]
      omega
    · rw [if_neg q] at e
      rw [e, sum_one n (by omega) (fun j hj => hg j (by omega))]
      omega
theorem sum_nn {f : Nat → Int} : ∀ n : Nat, (∀ j, j < n → 0 ≤ f j) → 0 ≤ sumTo f n
  | 0, _ => Int.le_refl 0
  | n + 1, h => by
    have := sum_nn n (fun j hj => h j (by omega))
    have := h n (by omega)
    show 0 ≤ sumTo f n + f n
    omega
theorem sum_ge {f : Nat → Int} {a : Nat} : ∀ n : Nat, a < n → (∀ j, j < n → 0 ≤ f j) → f a ≤ sumTo f n
  | 0, h, _ => by omega
  | n + 1, h, hf => by
    have h1 := sum_nn n (fun j hj => hf j (by omega))
    have h2 := hf n (by omega)
    show f a ≤ sumTo f n + f n
    by_cases q : a = n
    · rw [q]; omega
    · have := sum_ge (a := a) n (by omega) (fun j hj => hf j (by omega))
      omega
/-- the thread that is left; what the machines sewed; where it went -/
def lfS (R : Sto) : Int := sumTo (fun j => mg R 22 (j : Int)) 18
def swS (R : Sto) : Int := sumTo (fun i => mg R 19 (i : Int)) (nM R).toNat
def thO (R : Sto) (o : Int) : Int := mg R 30 o + mnK R (mg R 24 o) * mg R 28 o + mg R 29 o
def thS (R : Sto) : Int := sumTo (fun o => thO R (o : Int)) (nO R).toNat
def LD (R : Sto) (i : Int) : Prop := mg R 18 i ≤ mg R 19 i ∧ (mg R 18 i = 0 ↔ ∀ k, 0 ≤ k → k < mg R 14 i → hdK R i k = -1)
def QI (R : Sto) (b : Int) : Prop := lfS R + swS R = b ∧ swS R = thS R ∧ ∀ i, 0 ≤ i → i < nM R → LD R i
theorem QI.eq {R R' : Sto} {b : Int} (h : QI R b) (hM : nM R' = nM R) (hO : nO R' = nO R) (g22 : ∀ j : Int, 0 ≤ j → j < 18 → mg R' 22 j = mg R 22 j) (gm : ∀ i : Int, 0 ≤ i → i < nM R → mg R' 19 i = mg R 19 i ∧ mg R' 18 i = mg R 18 i ∧ mg R' 14 i = mg R 14 i ∧ ∀ k, 0 ≤ k → k < mg R 14 i → hdK R' i k = hdK R i k) (gt : ∀ o : Int, 0 ≤ o → o < nO R → thO R' o = thO R o) : QI R' b := by
  obtain ⟨h1, h2, h3⟩ := h
  have e1 : lfS R' = lfS R := sumTo_congr _ fun j hj => g22 j (by omega) (by omega)
  have e2 : swS R' = swS R := by
    unfold swS
    rw [hM]
    exact sumTo_congr _ fun j hj => (gm j (by omega) (by omega)).1
  have e3 : thS R' = thS R := by
    unfold thS
    rw [hO]
    exact sumTo_congr _ fun j hj => gt j (by omega) (by omega)
  refine ⟨by rw [e1, e2]; exact h1, by rw [e2, e3]; exact h2, fun i i0 i1 => ?_⟩
  rw [hM] at i1
  obtain ⟨a1, a2, a3, a4⟩ := gm i i0 i1
  obtain ⟨b1, b2⟩ := h3 i i0 i1
  refine ⟨by rw [a1, a2]; exact b1, ?_⟩
  rw [a2, a3, b2]
  exact ⟨fun z k k0 k1 => by rw [a4 k k0 k1]; exact z k k0 k1, fun z k k0 k1 => by rw [← a4 k k0 k1]; exact z k k0 k1⟩
/-- a call that leaves the arrays of thread, machines' counts and heads, and of the orders' counts as they were -/
theorem QI.eq' {R R' : Sto} {b : Int} (h : QI R b) (hM : nM R' = nM R) (hO : nO R' = nO R) (g : ∀ (a : Nat) (i : Int), a = 14 ∨ a = 18 ∨ a = 19 ∨ a = 20 ∨ a = 22 ∨ a = 24 ∨ a = 28 ∨ a = 29 ∨ a = 30 → mg R' a i = mg R a i) (gd : ∀ o : Int, 0 ≤ o → o < nO R → mnK R' (mg R 24 o) = mnK R (mg R 24 o)) : QI R' b :=
  h.eq hM hO (fun j _ _ => g 22 j (by omega)) (fun i _ _ => ⟨g 19 i (by omega), g 18 i (by omega), g 14 i (by omega), fun k _ _ => g 20 _ (by omega)⟩) fun o o0 o1 => by
    unfold thO
    rw [g 24 o (by omega), g 28 o (by omega), g 29 o (by omega), g 30 o (by omega), gd o o0 o1]
theorem QI.th_ {R : Sto} {b q : Int} (h : QI R b) : QI (thr R q) b := h.eq' rfl rfl (fun _ _ _ => th_mg') fun _ _ _ => th_mg'
theorem QI.wipe {R R' : Sto} {b k v : Int} (h : QI R b) (ho : wipeR R k v R') : QI R' b := by
  obtain ⟨-, -, rfl⟩ := ho
  exact h.eq' rfl rfl (fun a i ha => by rw [mgU, if_neg (by omega)]; exact th_mg') fun o _ _ => by show mg _ 10 _ = mg R 10 _; rw [mgU, if_neg (by omega)]; exact th_mg'
theorem QI.shape {R R' : Sto} {b i c x y w g v : Int} (h : QI R b) (ho : shapeR R i c x y w g 0 v R') : QI R' b := by
  obtain ⟨-, hR⟩ := ho.2.2 rfl
  have e : ∀ (a : Nat) (j : Int), 8 ≤ a → mg R' a j = mg R a j := fun a j ha => by
    rw [hR, mgU, if_neg (by omega), mgU, if_neg (by omega), mgU, if_neg (by omega), mgU, if_neg (by omega), mgU, if_neg (by omega), mgU, if_neg (by omega), mgU, if_neg (by omega)]; exact th_mg'
  exact h.eq' (by rw [hR]; rfl) (by rw [hR]; rfl) (fun a j ha => e a j (by omega)) fun o _ _ => e 10 _ (by omega)
theorem QI.design {n : Int} {R R' : Sto} {b v : Int} (h : QI R b) (hI : MI n R) (ho : designR R 0 v R') : QI R' b := by
  obtain ⟨-, T, hag, hR, -, -, -, -, -, h10, -⟩ := ho.2.2 rfl
  have eT : ∀ (a : Nat) (i : Int), mg R' a i = mg T a i := fun a i => by rw [hR]; exact mgF
  refine h.eq' (by rw [hR]; exact (mfF.trans (if_neg (by omega))).trans hag.mf) (by rw [hR]; exact (mfF.trans (if_neg (by omega))).trans hag.mf) (fun a j ha => (eT a j).trans ((hag.mg (by simp; omega)).trans th_mg')) fun o o0 o1 => ?_
  have hor := hI.2.2.2.2.2.1 o o0 o1
  exact (eT 10 _).trans (h10 _ hor.1.1 (by have := hor.1.2; omega))
theorem QI.machine {n : Int} {R R' : Sto} {b a w y9 v : Int} (h : QI R b) (hI : MI n R) (ho : machineR R a w y9 0 v R') : QI R' b := by
  obtain ⟨h1, -, h3⟩ := ho
  obtain ⟨-, hR⟩ := h3 rfl
  have hN := hI.2.1
  have hlt : nM R < 4 := by
    by_cases z : nM R = 4
    · rw [if_pos z] at h1
      split at h1 <;> omega
    · omega
  obtain ⟨X, hX⟩ : ∃ X, X = updI (updI (updI (updI (thr R 0) (mt 14) (nM R).toNat a) (mt 15) (nM R).toNat w) (mt 16) (nM R).toNat y9) (mt 17) (nM R).toNat (-1) := ⟨_, rfl⟩
  rw [← hX] at hR
  have gX : ∀ (b : Nat) (i : Int), b ≠ 20 → mg R' b i = mg X b i := fun b i hb => by
    rw [hR, mgF, (fillH_ag (S := X) (b := 6 * nM R) 6).mg (by simp; omega)]
  have g : ∀ (b : Nat) (i : Int), b ≠ 14 → b ≠ 15 → b ≠ 16 → b ≠ 17 → b ≠ 20 → mg R' b i = mg R b i := fun b i b14 b15 b16 b17 b20 => by
    rw [gX b i b20, hX, mgU, if_neg (by omega), mgU, if_neg (by omega), mgU, if_neg (by omega), mgU, if_neg (by omega)]; exact th_mg'
  have g14 : ∀ i : Int, 0 ≤ i → i ≠ nM R → mg R' 14 i = mg R 14 i := fun i i0 i1 => by
    rw [gX 14 i (by omega), hX, mgU, if_neg (by omega), mgU, if_neg (by omega), mgU, if_neg (by omega), mgU, if_neg (by omega)]; exact th_mg'
  have g20 : ∀ j : Int, 0 ≤ j → mg R' 20 j = if 6 * nM R ≤ j ∧ j < 6 * nM R + 6 then -1 else mg R 20 j := fun j j0 => by
    rw [hR, mgF, fillH_v (by omega) 6 20 j j0]
    by_cases y : 6 * nM R ≤ j ∧ j < 6 * nM R + 6
    · rw [if_pos ⟨rfl, y⟩, if_pos y]
    · rw [if_neg (fun z => y z.2), if_neg y, hX, mgU, if_neg (by omega), mgU, if_neg (by omega), mgU, if_neg (by omega), mgU, if_neg (by omega)]; exact th_mg'
  have e13 : nM R' = nM R + 1 := by rw [hR]; exact mfF.trans (if_pos rfl)
  have e23 : nO R' = nO R := by rw [hR]; exact ((mfF.trans (if_neg (by omega))).trans (fillH_ag 6).mf).trans (by rw [hX]; rfl)
  have hf := hI.2.2.2.2.2.2.1.2.1 (nM R) (by omega) (by omega)
  obtain ⟨q1, q2, q3⟩ := h
  have s1 : lfS R' = lfS R := sumTo_congr _ fun j hj => g 22 _ (by omega) (by omega) (by omega) (by omega) (by omega)
  have s2 : swS R' = swS R := by
    unfold swS
    rw [e13, show (nM R + 1).toNat = (nM R).toNat + 1 by omega]
    show sumTo _ _ + mg R' 19 (((nM R).toNat : Nat) : Int) = _
    rw [Int.toNat_of_nonneg (by omega), g 19 _ (by omega) (by omega) (by omega) (by omega) (by omega), hf.2.1, sumTo_congr _ fun j _ => g 19 _ (by omega) (by omega) (by omega) (by omega) (by omega)]
    omega
  have s3 : thS R' = thS R := by
    unfold thS
    rw [e23]
    refine sumTo_congr _ fun j hj => ?_
    unfold thO
    rw [g 24 _ (by omega) (by omega) (by omega) (by omega) (by omega), g 28 _ (by omega) (by omega) (by omega) (by omega) (by omega), g 29 _ (by omega) (by omega) (by omega) (by omega) (by omega), g 30 _ (by omega) (by omega) (by omega) (by omega) (by omega), show mnK R' (mg R 24 (j : Int)) = mnK R (mg R 24 (j : Int)) from g 10 _ (by omega) (by omega) (by omega) (by omega) (by omega)]
  refine ⟨by rw [s1, s2]; exact q1, by rw [s2, s3]; exact q2, fun i i0 i1 => ?_⟩
  rw [e13] at i1
  by_cases e : i = nM R
  · rw [e]
    refine ⟨by rw [g 18 _ (by omega) (by omega) (by omega) (by omega) (by omega), g 19 _ (by omega) (by omega) (by omega) (by omega) (by omega), hf.1, hf.2.1]; omega, ?_⟩
    rw [g 18 _ (by omega) (by omega) (by omega) (by omega) (by omega), hf.1]
    have h14 : mg R' 14 (nM R) ≤ 6 := by
      rw [gX 14 _ (by omega), hX, mgU, if_neg (by omega), mgU, if_neg (by omega), mgU, if_neg (by omega), mgU, if_pos ⟨rfl, rfl⟩]
      by_cases z : ¬ (1 ≤ a ∧ a ≤ 6 ∧ 1 ≤ w ∧ w ≤ 16 ∧ 1 ≤ y9 ∧ y9 ≤ 16)
      · rw [if_pos z] at h1; omega
      · omega
    refine ⟨fun _ k k0 k1 => ?_, fun _ => rfl⟩
    show mg R' 20 (6 * nM R + k) = -1
    rw [g20 _ (by omega), if_pos (by omega)]
  · obtain ⟨b1, b2⟩ := q3 i i0 (by omega)
    have hm := (hI.2.2.2.2.1 i i0 (by omega)).1
    refine ⟨by rw [g 18 _ (by omega) (by omega) (by omega) (by omega) (by omega), g 19 _ (by omega) (by omega) (by omega) (by omega) (by omega)]; exact b1, ?_⟩
    rw [g 18 _ (by omega) (by omega) (by omega) (by omega) (by omega), g14 i i0 e, b2]
    have ek : ∀ k, 0 ≤ k → k < mg R 14 i → hdK R' i k = hdK R i k := fun k k0 k1 => by
      show mg R' 20 (6 * i + k) = mg R 20 (6 * i + k)
      rw [g20 _ (by omega), if_neg (by omega)]
    exact ⟨fun z k k0 k1 => by rw [ek k k0 k1]; exact z k k0 k1, fun z k k0 k1 => by rw [← ek k k0 k1]; exact z k k0 k1⟩
theorem QI.order {n : Int} {R R' : Sto} {b d p v : Int} (h : QI R b) (hI : MI n R) (ho : orderR R d p 0 v R') : QI R' b := by
  obtain ⟨h1, -, h3⟩ := ho
  obtain ⟨-, hR⟩ := h3 rfl
  have hN := hI.2.1
  have hlt : nO R < 20 := by
    by_cases z : nO R = 20
    · rw [if_pos z] at h1
      split at h1
      · omega
      · split at h1 <;> omega
    · omega
  have hgg : ∀ (a : Nat) (i : Int), ¬ ((a = 24 ∨ a = 25 ∨ a = 27) ∧ i.toNat = (nO R).toNat) → mg R' a i = mg R a i := fun a i x => by
    rw [hR, mgF, mgU, if_neg (by omega), mgU, if_neg (by omega), mgU, if_neg (by omega)]; exact th_mg'
  have e13 : nM R' = nM R := by rw [hR]; rfl
  have e23 : nO R' = nO R + 1 := by rw [hR]; rfl
  have hf := hI.2.2.2.2.2.2.1.2.2 (nO R) (by omega) (by omega)
  obtain ⟨q1, q2, q3⟩ := h
  have s1 : lfS R' = lfS R := sumTo_congr _ fun j hj => hgg 22 _ (by omega)
  have s2 : swS R' = swS R := by
    unfold swS
    rw [e13]
    exact sumTo_congr _ fun j _ => hgg 19 _ (by omega)
  have s3 : thS R' = thS R := by
    unfold thS
    rw [e23, show (nO R + 1).toNat = (nO R).toNat + 1 by omega]
    show sumTo _ _ + thO R' (((nO R).toNat : Nat) : Int) = _
    have e0 : thO R' (nO R) = 0 := by
      unfold thO
      rw [hgg 28 _ (by omega), hgg 29 _ (by omega), hgg 30 _ (by omega), hf.2.1, hf.2.2.1, hf.2.2.2.1]
      simp
    rw [Int.toNat_of_nonneg (by omega), e0, Int.add_zero]
    refine sumTo_congr _ fun j hj => ?_
    unfold thO
    rw [hgg 24 _ (by omega), hgg 28 _ (by omega), hgg 29 _ (by omega), hgg 30 _ (by omega), show mnK R' (mg R 24 (j : Int)) = mnK R (mg R 24 (j : Int)) from hgg 10 _ (by omega)]
  refine ⟨by rw [s1, s2]; exact q1, by rw [s2, s3]; exact q2, fun i i0 i1 => ?_⟩
  rw [e13] at i1
  obtain ⟨b1, b2⟩ := q3 i i0 i1
  refine ⟨by rw [hgg 18 _ (by omega), hgg 19 _ (by omega)]; exact b1, ?_⟩
  rw [hgg 18 _ (by omega), hgg 14 _ (by omega), b2]
  have ek : ∀ k, hdK R' i k = hdK R i k := fun k => hgg 20 _ (by omega)
  exact ⟨fun z k k0 k1 => by rw [ek k]; exact z k k0 k1, fun z k k0 k1 => by rw [← ek k]; exact z k k0 k1⟩
theorem QI.stock {R R' : Sto} {b c s x v : Int} (h : QI R b) (hc : 0 ≤ c ∧ c < 6 ∧ 0 ≤ s ∧ s < 3) (ho : stockR R c s x 0 v R') : QI R' (b + x) := by
  obtain ⟨-, -, h3⟩ := ho
  obtain ⟨-, hR⟩ := h3 rfl
  have hg : ∀ (a : Nat) (i : Int), a ≠ 22 → mg R' a i = mg R a i := fun a i ha => by rw [hR, mgU, if_neg (by omega)]; exact th_mg'
  have h22 : ∀ j : Nat, j < 18 → mg R' 22 (j : Int) = if j = (3 * c + s).toNat then mg R 22 (j : Int) + x else mg R 22 (j : Int) := fun j hj => by
    rw [hR, mgU]
    by_cases e : j = (3 * c + s).toNat
    · rw [if_pos ⟨rfl, by omega⟩, if_pos e, show (j : Int) = 3 * c + s by omega]
    · rw [if_neg (by omega), if_neg e]; exact th_mg'
  obtain ⟨q1, q2, q3⟩ := h
  have e13 : nM R' = nM R := by rw [hR]; rfl
  have e23 : nO R' = nO R := by rw [hR]; rfl
  have s1 : lfS R' = lfS R + x := sum_one 18 (a := (3 * c + s).toNat) (by omega) h22
  have s2 : swS R' = swS R := by
    unfold swS
    rw [e13]
    exact sumTo_congr _ fun j _ => hg 19 _ (by omega)
  have s3 : thS R' = thS R := by
    unfold thS
    rw [e23]
    refine sumTo_congr _ fun j hj => ?_
    unfold thO
    rw [hg 24 _ (by omega), hg 28 _ (by omega), hg 29 _ (by omega), hg 30 _ (by omega), show mnK R' (mg R 24 (j : Int)) = mnK R (mg R 24 (j : Int)) from hg 10 _ (by omega)]
  refine ⟨by rw [s1, s2]; omega, by rw [s2, s3]; exact q2, fun i i0 i1 => ?_⟩
  rw [e13] at i1
  obtain ⟨b1, b2⟩ := q3 i i0 i1
  refine ⟨by rw [hg 18 _ (by omega), hg 19 _ (by omega)]; exact b1, ?_⟩
  rw [hg 18 _ (by omega), hg 14 _ (by omega), b2]
  have ek : ∀ k, hdK R' i k = hdK R i k := fun k => hg 20 _ (by omega)
  exact ⟨fun z k k0 k1 => by rw [ek k]; exact z k k0 k1, fun z k k0 k1 => by rw [← ek k]; exact z k k0 k1⟩
theorem QI.start {R R' : Sto} {b o m : Int} (h : QI R b) (ho : startR R o m 0 R') : QI R' b := by
  have hR := ho.2.2 rfl
  have hag : agr [17, 26, 27, 31] (thr R 0) R' := by
    rw [hR]
    exact ((((fillS_ag 6).sub (by simp)).upd (by simp)).upd (by simp)).upd (by simp)
  exact h.eq' hag.mf hag.mf (fun a i ha => (hag.mg (by simp; omega)).trans th_mg') fun o _ _ => (hag.mg (k := 10) (by simp)).trans th_mg'
theorem QI.snap {R R' : Sto} {b m v : Int} (h : QI R b) (hj : 0 ≤ mg R 17 m) (ho : snapR R m 0 v R') : QI R' b := by
  obtain ⟨o, ho', -, -, -, -, -, hag, e29, e30, hq⟩ := ho.2.2 rfl
  have hg : ∀ (a : Nat) (i : Int), a ≠ 29 → a ≠ 30 → mg R' a i = mg R a i := fun a i h1 h2 => (hag.mg (by simp; omega)).trans th_mg'
  refine h.eq hag.mf hag.mf (fun j _ _ => hg 22 _ (by omega) (by omega)) (fun i _ _ => ⟨hg 19 _ (by omega) (by omega), hg 18 _ (by omega) (by omega), hg 14 _ (by omega) (by omega), fun k _ _ => hg 20 _ (by omega) (by omega)⟩) fun q q0 q1 => ?_
  unfold thO
  rw [hg 24 _ (by omega) (by omega), hg 28 _ (by omega) (by omega), show mnK R' (mg R 24 q) = mnK R (mg R 24 q) from hg 10 _ (by omega) (by omega)]
  by_cases e : q = o
  · rw [e, e29, e30]; omega
  · obtain ⟨a1, a2⟩ := hq q q0 e
    rw [a1, a2]
theorem wsN_e (R : Sto) (o : Int) : wsN R o = mg R 28 o * mnK R (mg R 24 o) + mg R 29 o := rfl
/-- an order's pieces are all begun anew -/
theorem QI.waste {R R' : Sto} {b o : Int} (h : QI R b) (o0 : 0 ≤ o) (hM : nM R' = nM R) (hO : nO R' = nO R) (g : ∀ (a : Nat) (i : Int), a = 14 ∨ a = 18 ∨ a = 19 ∨ a = 20 ∨ a = 22 ∨ a = 24 ∨ a = 10 → mg R' a i = mg R a i) (g28 : ∀ i : Int, 0 ≤ i → mg R' 28 i = if i = o then 0 else mg R 28 i) (g29 : ∀ i : Int, 0 ≤ i → mg R' 29 i = if i = o then 0 else mg R 29 i) (g30 : ∀ i : Int, 0 ≤ i → mg R' 30 i = if i = o then mg R 30 o + wsN R o else mg R 30 i) : QI R' b := by
  refine h.eq hM hO (fun j _ _ => g 22 j (by omega)) (fun i _ _ => ⟨g 19 i (by omega), g 18 i (by omega), g 14 i (by omega), fun k _ _ => g 20 _ (by omega)⟩) fun q q0 q1 => ?_
  unfold thO
  rw [g 24 _ (by omega), g28 q q0, g29 q q0, g30 q q0, show mnK R' (mg R 24 q) = mnK R (mg R 24 q) from g 10 _ (by omega)]
  by_cases e : q = o
  · rw [if_pos e, if_pos e, if_pos e, wsN_e, e, Int.mul_comm (mg R 28 o)]
    omega
  · rw [if_neg e, if_neg e, if_neg e]
theorem QI.cancel {R R' : Sto} {b o v : Int} (h : QI R b) (o0 : 0 ≤ o) (ho : cancelR R o 0 v R') : QI R' b := by
  obtain ⟨T, hT, -, hR⟩ := ho.2.2 rfl
  have gT : ∀ (a : Nat) (i : Int), a ≠ 17 → a ≠ 27 → mg T a i = mg R a i := fun a i h1 h2 => by
    rw [hT]
    split
    · rw [mgU, if_neg (by omega), mgU, if_neg (by omega)]; exact th_mg'
    · exact th_mg'
  have fT : ∀ k, k ≠ 0 → mf T k = mf R k := fun k hk => by
    have : mf (thr R 0) k = mf R k := mfF.trans (if_neg hk)
    rw [hT]
    split
    · exact this
    · exact this
  refine h.waste o0 (by rw [hR]; exact fT 13 (by omega)) (by rw [hR]; exact fT 23 (by omega)) (fun a i ha => ?_) (fun i i0 => ?_) (fun i i0 => ?_) (fun i i0 => ?_)
  · rw [hR, mgU, if_neg (by omega), mgU, if_neg (by omega), mgU, if_neg (by omega), mgU, if_neg (by omega)]; exact gT a i (by omega) (by omega)
  · rw [hR, mgU, if_neg (by omega), mgU]
    by_cases e : i = o
    · rw [if_pos ⟨rfl, by omega⟩, if_pos e]
    · rw [if_neg (by omega), if_neg e, mgU, if_neg (by omega), mgU, if_neg (by omega)]; exact gT _ i (by omega) (by omega)
  · rw [hR, mgU]
    by_cases e : i = o
    · rw [if_pos ⟨rfl, by omega⟩, if_pos e]
    · rw [if_neg (by omega), if_neg e, mgU, if_neg (by omega), mgU, if_neg (by omega), mgU, if_neg (by omega)]; exact gT _ i (by omega) (by omega)
  · rw [hR, mgU, if_neg (by omega), mgU, if_neg (by omega), mgU]
    by_cases e : i = o
    · rw [if_pos ⟨rfl, by omega⟩, if_pos e]
    · rw [if_neg (by omega), if_neg e, mgU, if_neg (by omega)]; exact gT _ i (by omega) (by omega)
theorem QI.match_ {R R' : Sto} {b o c s v : Int} (h : QI R b) (o0 : 0 ≤ o) (ho : matchR R o c s 0 v R') : QI R' b := by
  rcases ho.2.2 rfl with ⟨-, -, hR⟩ | ⟨-, -, hR⟩
  · have g : ∀ (a : Nat) (i : Int), a ≠ 31 → mg R' a i = mg R a i := fun a i ha => by rw [hR, mgU, if_neg (by omega)]; exact th_mg'
    exact h.eq' (by rw [hR]; rfl) (by rw [hR]; rfl) (fun a i ha => g a i (by omega)) fun o _ _ => g 10 _ (by omega)
  · obtain ⟨X, hX⟩ : ∃ X, X = updI (thr R 0) (mt 31) (6 * o + c).toNat s := ⟨_, rfl⟩
    rw [← hX] at hR
    have gX : ∀ (a : Nat) (i : Int), a ≠ 31 → mg X a i = mg R a i := fun a i ha => by rw [hX, mgU, if_neg (by omega)]; exact th_mg'
    have ew : wsN X o = wsN R o := by
      rw [wsN_e, wsN_e, gX 28 _ (by omega), gX 29 _ (by omega), gX 24 _ (by omega), show mnK X (mg R 24 o) = mnK R (mg R 24 o) from gX 10 _ (by omega)]
    unfold wsU at hR
    refine h.waste o0 (by rw [hR, hX]; rfl) (by rw [hR, hX]; rfl) (fun a i ha => ?_) (fun i i0 => ?_) (fun i i0 => ?_) (fun i i0 => ?_)
    · rw [hR, mgU, if_neg (by omega), mgU, if_neg (by omega), mgU, if_neg (by omega)]; exact gX a i (by omega)
    · rw [hR, mgU, if_neg (by omega), mgU]
      by_cases e : i = o
      · rw [if_pos ⟨rfl, by omega⟩, if_pos e]
      · rw [if_neg (by omega), if_neg e, mgU, if_neg (by omega)]; exact gX _ i (by omega)
    · rw [hR, mgU]
      by_cases e : i = o
      · rw [if_pos ⟨rfl, by omega⟩, if_pos e]
      · rw [if_neg (by omega), if_neg e, mgU, if_neg (by omega), mgU, if_neg (by omega)]; exact gX _ i (by omega)
    · rw [hR, mgU, if_neg (by omega), mgU, if_neg (by omega), mgU]
      by_cases e : i = o
      · rw [if_pos ⟨rfl, by omega⟩, if_pos e, ew, gX 30 _ (by omega)]
      · rw [if_neg (by omega), if_neg e]; exact gX _ i (by omega)
/-- one stitch is sewn -/
theorem QI.step {n : Int} {R R' : Sto} {b m : Int} (h : QI R b) (hI : MI n R) (m0 : 0 ≤ m) (m1 : m < nM R) (hs : stepP R m R') : QI R' b := by
  obtain ⟨r, hr, hcc, t0, j0, F⟩ := stepP_F hI m0 m1 hs
  obtain ⟨a1, a2, a3, a4, a5, a6, a7, a8, a9, a10⟩ := hI.job m0 m1 j0
  obtain ⟨hag, f22, f19, f18, f20, f21, f29, f28, f26, f17, f27⟩ := F
  have hN := hI.2.1
  have hmm := hI.2.2.2.2.1 m m0 m1
  obtain ⟨q1, q2, q3⟩ := h
  have e13 : nM R' = nM R := hag.mf
  have e23 : nO R' = nO R := hag.mf
  have s1 : lfS R' = lfS R + (-1) := by
    refine sum_one 18 (a := (jbT R m).toNat) (by show (3 * jbC R m + mg R 31 (6 * jbO R m + jbC R m)).toNat < 18; omega) fun j hj => ?_
    rw [f22 _ (by omega)]
    by_cases e : j = (jbT R m).toNat
    · have ej : (j : Int) = jbT R m := by rw [e]; exact Int.toNat_of_nonneg (by show 0 ≤ 3 * jbC R m + mg R 31 (6 * jbO R m + jbC R m); omega)
      rw [if_pos ej, if_pos e, ej]; omega
    · rw [if_neg (fun z => e (by rw [← z]; simp)), if_neg e]
  have s2 : swS R' = swS R + 1 := by
    unfold swS
    rw [e13]
    refine sum_one _ (a := m.toNat) (by omega) fun j hj => ?_
    rw [f19 _ (by omega)]
    by_cases e : j = m.toNat
    · rw [if_pos (by omega), if_pos e, show (j : Int) = m by omega]
    · rw [if_neg (by omega), if_neg e]
  have s3 : thS R' = thS R + 1 := by
    unfold thS
    rw [e23]
    refine sum_one _ (a := (jbO R m).toNat) (by omega) fun j hj => ?_
    have g : ∀ (a : Nat) (i : Int), a = 24 ∨ a = 30 ∨ a = 10 → mg R' a i = mg R a i := fun a i ha => hag.mg (by simp; omega)
    unfold thO
    rw [g 24 _ (by omega), g 30 _ (by omega), f28 _ (by omega), f29 _ (by omega), show mnK R' (mg R 24 (j : Int)) = mnK R (mg R 24 (j : Int)) from g 10 _ (by omega)]
    by_cases e : j = (jbO R m).toNat
    · have ej : (j : Int) = jbO R m := by omega
      rw [if_pos e, ej]
      by_cases z : mg R 29 (jbO R m) + 1 = mnK R (jbD R m)
      · rw [if_pos ⟨rfl, z⟩, if_pos rfl, if_pos z]
        have z' : mnK R (mg R 24 (jbO R m)) = mg R 29 (jbO R m) + 1 := z.symm
        rw [z', Int.mul_add]
        omega
      · rw [if_neg (fun y => z y.2), if_pos rfl, if_neg z]; omega
    · have ej : (j : Int) ≠ jbO R m := by omega
      rw [if_neg e, if_neg (fun y => ej y.1), if_neg ej]
  refine ⟨by rw [s1, s2]; omega, by rw [s2, s3, q2], fun i i0 i1 => ?_⟩
  rw [e13] at i1
  obtain ⟨b1, b2⟩ := q3 i i0 i1
  have e14 : mg R' 14 i = mg R 14 i := hag.mg (by simp)
  have hmi := hI.2.2.2.2.1 i i0 i1
  by_cases e : i = m
  · subst e
    have h19 : mg R' 19 i = mg R 19 i + 1 := by rw [f19 i i0, if_pos rfl]
    have hr20 : hdK R' i r = jbC R i := by show mg R' 20 (6 * i + r) = _; rw [f20 _ (by omega), if_pos rfl]
    have h18 : (hdK R i r = jbC R i ∧ mg R' 18 i = mg R 18 i) ∨ mg R' 18 i = mg R 18 i + 1 := by
      rw [f18 i i0]
      by_cases z : hdK R i r = jbC R i
      · exact Or.inl ⟨z, if_neg (fun y => y.2 z)⟩
      · exact Or.inr (if_pos ⟨rfl, z⟩)
    have hpos : mg R' 18 i ≠ 0 := by
      rcases h18 with ⟨z, y⟩ | y
      · rw [y]
        intro w
        have := b2.mp w r hr.1 hr.2
        omega
      · have := hmi.2.2.2.1
        omega
    refine ⟨by omega, fun z => absurd z hpos, fun z => ?_⟩
    rw [e14] at z
    have := z r hr.1 hr.2
    omega
  · refine ⟨by rw [f18 i i0, if_neg (fun y => e y.1), f19 i i0, if_neg e]; exact b1, ?_⟩
    rw [f18 i i0, if_neg (fun y => e y.1), e14, b2]
    have h6 := hmi.1
    have h6m := hmm.1
    have ek : ∀ k, 0 ≤ k → k < mg R 14 i → hdK R' i k = hdK R i k := fun k k0 k1 => by
      show mg R' 20 (6 * i + k) = mg R 20 (6 * i + k)
      rw [f20 _ (by omega), if_neg (by omega)]
    exact ⟨fun z k k0 k1 => by rw [ek k k0 k1]; exact z k k0 k1, fun z k k0 k1 => by rw [← ek k k0 k1]; exact z k k0 k1⟩
/-- a machine runs -/
theorem run_ok {n : Int} {R R' : Sto} {m s v : Int} (hI : MI n R) (hn : n + 1 ≤ 15000) (m0 : 0 ≤ m) (m1 : m < nM R) (hs : s ≤ 100000) (ho : runR R m s 0 v R') : (∀ b, QI R b → QI R' b) ∧ 0 ≤ v ∧ v ≤ s ∧ mg R' 19 m = mg R 19 m + v ∧ (mg R' 17 m = mg R 17 m ∨ mg R' 17 m = -1 ∧ mg R' 26 (mg R 17 m) = 2 ∧ mg R' 28 (mg R 17 m) = mg R' 25 (mg R 17 m)) ∧ agr [17, 18, 19, 20, 21, 22, 26, 27, 28, 29] (thr R 0) R' := by
  obtain ⟨ch, c0, v0, v1, cv, hst, -⟩ := ho.2.2 rfl
  have hI0 : MI (n + 1) (ch 0) := by rw [c0]; exact (hI.up hn).th0
  have hmm := hI.2.2.2.2.1 m m0 m1
  have e17 : mg (ch 0) 17 m = mg R 17 m := by rw [c0]; exact th_mg'
  have e19 : mg (ch 0) 19 m = mg R 19 m := by rw [c0]; exact th_mg'
  have e18 : mg (ch 0) 18 m = mg R 18 m := by rw [c0]; exact th_mg'
  have eM : nM (ch 0) = nM R := by rw [c0]; rfl
  have key : ∀ k : Nat, (k : Int) ≤ v → (∀ b, QI R b → QI (ch k) b) ∧ mg (ch k) 19 m = mg R 19 m + k ∧ (mg (ch k) 17 m = mg R 17 m ∨ mg (ch k) 17 m = -1 ∧ mg (ch k) 26 (mg R 17 m) = 2 ∧ mg (ch k) 28 (mg R 17 m) = mg (ch k) 25 (mg R 17 m)) ∧ agr [17, 18, 19, 20, 21, 22, 26, 27, 28, 29] (thr R 0) (ch k) := by
    intro k
    induction k with
    | zero =>
      intro _
      exact ⟨by rw [c0]; exact fun b h => h.th_, by rw [e19]; simp, Or.inl e17, by rw [c0]; exact agr.rf⟩
    | succ k ih =>
      intro hk
      obtain ⟨i1, i2, i3, i4⟩ := ih (by omega)
      obtain ⟨w1, w2, w3, w4⟩ := run_MI hI0 m0 (by omega) (by rw [e19, e18]; exact ⟨hmm.2.2.2.2.1.2, hmm.2.2.2.1.2⟩) k (by omega) (fun i hi => hst i (by omega))
      have sk := hst k (by omega)
      have k1 : m < nM (ch k) := by omega
      obtain ⟨r, hr, hcc, t0, j0, F⟩ := stepP_F w1 m0 k1 sk
      obtain ⟨hag, f22, f19, f18, f20, f21, f29, f28, f26, f17, f27⟩ := F
      have ej : mg (ch k) 17 m = mg R 17 m := by
        rcases i3 with z | z
        · exact z
        · have : 0 ≤ mg (ch k) 17 m := j0
          omega
      refine ⟨fun b h => (i1 b h).step w1 m0 k1 sk, by rw [f19 m m0, if_pos rfl, i2, Int.natCast_add]; show _ = _ + ((k : Int) + 1); omega, ?_, i4.trans hag⟩
      by_cases z : mg (ch k) 29 (jbO (ch k) m) + 1 = mnK (ch k) (jbD (ch k) m) ∧ mg (ch k) 28 (jbO (ch k) m) + 1 = mg (ch k) 25 (jbO (ch k) m)
      · right
        have ej' : jbO (ch k) m = mg R 17 m := ej
        have j0' : 0 ≤ mg R 17 m := by rw [← ej']; exact j0
        have h25 : mg (ch (k + 1)) 25 (mg R 17 m) = mg (ch k) 25 (mg R 17 m) := hag.mg (by simp)
        rw [f17 m m0, if_pos ⟨rfl, z⟩, f26 _ j0', if_pos ⟨ej'.symm, z⟩, f28 _ j0', if_pos ⟨ej'.symm, z.1⟩, h25, ← ej']
        exact ⟨rfl, rfl, z.2⟩
      · left
        rw [f17 m m0, if_neg (fun y => z y.2)]
        exact ej
  obtain ⟨k1, k2, k3, k4⟩ := key v.toNat (by omega)
  rw [cv] at k1 k2 k3 k4
  rw [Int.toNat_of_nonneg v0] at k2
  exact ⟨k1, v0, v1, k2, k3, k4⟩

/-! THE PROPERTY: the reference's calls always come to an end -/
theorem ex_wipe (R : Sto) : ∃ k v R', wipeR R k v R' := ⟨0, _, _, rfl, rfl, rfl⟩
theorem ex_stock (R : Sto) (c s x : Int) : ∃ k v R', stockR R c s x k v R' := by
  unfold stockR
  generalize (if ¬ (0 ≤ c ∧ c < 6 ∧ 0 ≤ s ∧ s < 3) then (1 : Int) else if ¬ (1 ≤ x ∧ x ≤ 100000) then 2 else if mg R 22 (3 * c + s) + x > 1000000 then 3 else 0) = k
  by_cases e : k = 0
  · exact ⟨k, _, _, rfl, fun h => absurd e h, fun _ => ⟨rfl, rfl⟩⟩
  · exact ⟨k, 0, _, rfl, fun _ => rfl, fun h => absurd h e⟩
theorem ex_shape (R : Sto) (i c x y w g : Int) : ∃ k v R', shapeR R i c x y w g k v R' := by
  unfold shapeR
  generalize (if ¬ (0 ≤ i ∧ i ≤ 1 ∧ 0 ≤ c ∧ c < 6) then (1 : Int) else if ¬ (0 ≤ x ∧ x ≤ 15 ∧ 0 ≤ y ∧ y ≤ 15 ∧ 1 ≤ w ∧ w ≤ 16 - x ∧ 1 ≤ g ∧ g ≤ 16 - y) then 2 else if shN R 6 = 7 then 3 else 0) = k
  by_cases e : k = 0
  · exact ⟨k, _, _, rfl, fun h => absurd e h, fun _ => ⟨rfl, rfl⟩⟩
  · exact ⟨k, 0, _, rfl, fun _ => rfl, fun h => absurd h e⟩
theorem ex_machine (R : Sto) (a w g : Int) : ∃ k v R', machineR R a w g k v R' := by
  unfold machineR
  generalize (if ¬ (1 ≤ a ∧ a ≤ 6 ∧ 1 ≤ w ∧ w ≤ 16 ∧ 1 ≤ g ∧ g ≤ 16) then (1 : Int) else if nM R = 4 then 2 else 0) = k
  by_cases e : k = 0
  · exact ⟨k, _, _, rfl, fun h => absurd e h, fun _ => ⟨rfl, rfl⟩⟩
  · exact ⟨k, 0, _, rfl, fun _ => rfl, fun h => absurd h e⟩
theorem ex_order (R : Sto) (d p : Int) : ∃ k v R', orderR R d p k v R' := by
  unfold orderR
  generalize (if ¬ (0 ≤ d ∧ d < nD R) then (1 : Int) else if ¬ (1 ≤ p ∧ p ≤ 50) then 2 else if nO R = 20 then 3 else 0) = k
  by_cases e : k = 0
  · exact ⟨k, _, _, rfl, fun h => absurd e h, fun _ => ⟨rfl, rfl⟩⟩
  · exact ⟨k, 0, _, rfl, fun _ => rfl, fun h => absurd h e⟩
theorem ex_start (R : Sto) (o m : Int) : ∃ k R', startR R o m k R' := by
  unfold startR
  by_cases b : 0 ≤ o ∧ o < nO R ∧ 0 ≤ m ∧ m < nM R
  · by_cases c : canSt R o m
    · exact ⟨0, _, Or.inr (Or.inl ⟨b, c, rfl⟩), fun h => absurd rfl h, fun _ => rfl⟩
    · exact ⟨2, _, Or.inr (Or.inr ⟨b, c, rfl⟩), fun _ => rfl, fun h => by omega⟩
  · exact ⟨1, _, Or.inl ⟨b, rfl⟩, fun _ => rfl, fun h => by omega⟩
theorem ex_match (R : Sto) (o c s : Int) : ∃ k v R', matchR R o c s k v R' := by
  unfold matchR
  by_cases b : 0 ≤ o ∧ o < nO R ∧ 0 ≤ c ∧ c < 6 ∧ 0 ≤ s ∧ s < 3
  · by_cases e : canMa R o c s
    · by_cases w : sewnP R o c (mg R 29 o)
      · exact ⟨0, _, _, Or.inr (Or.inl ⟨b, e, rfl⟩), fun h => absurd rfl h, fun _ => Or.inr ⟨w, rfl, rfl⟩⟩
      · exact ⟨0, _, _, Or.inr (Or.inl ⟨b, e, rfl⟩), fun h => absurd rfl h, fun _ => Or.inl ⟨w, rfl, rfl⟩⟩
    · exact ⟨2, 0, _, Or.inr (Or.inr ⟨b, e, rfl⟩), fun _ => rfl, fun h => by omega⟩
  · exact ⟨1, 0, _, Or.inl ⟨b, rfl⟩, fun _ => rfl, fun h => by omega⟩
theorem ex_cancel (R : Sto) (o : Int) : ∃ k v R', cancelR R o k v R' := by
  unfold cancelR
  generalize (if ¬ (0 ≤ o ∧ o < nO R) then (1 : Int) else if mg R 26 o = 2 ∨ mg R 26 o = 3 then 2 else 0) = k
  by_cases e : k = 0
  · exact ⟨k, _, _, rfl, fun h => absurd e h, fun _ => ⟨_, rfl, rfl, rfl⟩⟩
  · exact ⟨k, 0, _, rfl, fun _ => rfl, fun h => absurd h e⟩
theorem ex_snap {n : Int} {R : Sto} (hI : MI n R) (m : Int) : ∃ k v R', snapR R m k v R' := by
  by_cases b : 0 ≤ m ∧ m < nM R
  · by_cases e : mg R 17 m = -1 ∨ mg R 29 (mg R 17 m) = 0
    · exact ⟨2, 0, _, by rw [if_neg (fun z => z b), if_pos e], fun _ => rfl, fun h => by omega⟩
    · have hm := hI.2.2.2.2.1 m b.1 b.2
      have hj := hm.2.2.2.2.2.2.2
      have hor := hI.2.2.2.2.2.1 (mg R 17 m) (by omega) hj.2.1
      obtain ⟨o, ho⟩ : ∃ o, o = mg R 17 m := ⟨_, rfl⟩
      rw [← ho] at hor hj e
      have o0 : 0 ≤ o := by omega
      have hp := hor.2.2.2.2.1
      obtain ⟨p, hp9⟩ : ∃ p, p = mg R 29 o := ⟨_, rfl⟩
      rw [← hp9] at hp e
      have p0 : 0 < p := by omega
      obtain ⟨its, hits⟩ : ∃ its : Int → Int, its = fun j => stK R (mg R 24 o) j / 256 := ⟨_, rfl⟩
      obtain ⟨t, t1, t2, t3⟩ := fst_ex (fun t : Nat => t = 4 ∨ (t : Int) = p - 1 ∨ its (p - (t : Int) - 2) ≠ its (p - 1)) 5 ⟨4, by omega, Or.inl rfl⟩
      have tp : (t : Int) ≤ p - 1 := by
        rcases (show (t : Int) ≤ p - 1 ∨ p - 1 < t by omega) with z | z
        · exact z
        · exfalso
          exact t3 (p - 1).toNat (by omega) (Or.inr (Or.inl (by omega)))
      have hall : ∀ j, p - ((t : Int) + 1) ≤ j → j < p → its j = its (p - 1) := fun j j0 j1 => by
        by_cases z : j = p - 1
        · rw [z]
        · have := t3 (p - j - 2).toNat (by omega)
          refine Classical.byContradiction fun w => this (Or.inr (Or.inr ?_))
          rw [Int.toNat_of_nonneg (by omega), show p - (p - j - 2) - 2 = j by omega]
          exact w
      have g29 : ∀ q, 0 ≤ q → mg (updI (updI (thr R 0) (mt 29) o.toNat (p - ((t : Int) + 1))) (mt 30) o.toNat (mg R 30 o + ((t : Int) + 1))) 29 q = if q = o then p - ((t : Int) + 1) else mg R 29 q := fun q q0 => by
        rw [mgU, if_neg (by omega), mgU]
        by_cases z : q = o
        · rw [if_pos ⟨rfl, by omega⟩, if_pos z]
        · rw [if_neg (by omega), if_neg z]; exact th_mg'
      have g30 : ∀ q, 0 ≤ q → mg (updI (updI (thr R 0) (mt 29) o.toNat (p - ((t : Int) + 1))) (mt 30) o.toNat (mg R 30 o + ((t : Int) + 1))) 30 q = if q = o then mg R 30 o + ((t : Int) + 1) else mg R 30 q := fun q q0 => by
        rw [mgU]
        by_cases z : q = o
        · rw [if_pos ⟨rfl, by omega⟩, if_pos z]
        · rw [if_neg (by omega), if_neg z, mgU, if_neg (by omega)]; exact th_mg'
      refine ⟨0, (t : Int) + 1, updI (updI (thr R 0) (mt 29) o.toNat (p - ((t : Int) + 1))) (mt 30) o.toNat (mg R 30 o + ((t : Int) + 1)), ?_, fun h => absurd rfl h, fun _ => ⟨o, ho, by omega, by omega, by omega, ?_, ?_, ?_, ?_, ?_, ?_⟩⟩
      · rw [if_neg (fun z => z b), ← ho, ← hp9, if_neg e]
      · intro j j0 j1
        rw [← hp9] at j0 j1 ⊢
        have := hall j j0 j1
        rw [hits] at this
        exact this
      · rw [← hp9]
        rcases t2 with z | z | z
        · left; omega
        · right; left; omega
        · right; right
          rw [hits] at z
          rw [show p - ((t : Int) + 1) - 1 = p - (t : Int) - 2 by omega]
          exact z
      · exact (agr.rf.upd (by simp)).upd (by simp)
      · rw [g29 o o0, if_pos rfl, ← hp9]
      · rw [g30 o o0, if_pos rfl]
      · intro q q0 q1
        rw [g29 q q0, if_neg q1, g30 q q0, if_neg q1]
        exact ⟨rfl, rfl⟩
  · exact ⟨1, 0, _, by rw [if_pos b], fun _ => rfl, fun h => by omega⟩
theorem ex_run {n : Int} {R : Sto} (hI : MI n R) (hn : n + 1 ≤ 15000) (m s : Int) : ∃ k v R', runR R m s k v R' := by
  by_cases b : 0 ≤ m ∧ m < nM R
  · by_cases c : 1 ≤ s ∧ s ≤ 100000
    · by_cases e : mg R 17 m = -1
      · exact ⟨3, 0, _, by rw [if_neg (fun z => z b), if_neg (fun z => z c), if_pos e], fun _ => rfl, fun h => by omega⟩
      · have hmm := hI.2.2.2.2.1 m b.1 b.2
        have key : ∀ N : Nat, (N : Int) ≤ s → ∃ (ch : Nat → Sto) (L : Nat), ch 0 = thr R 0 ∧ L ≤ N ∧ (∀ i : Nat, i < L → stepP (ch i) m (ch (i + 1))) ∧ (L = N ∨ mg (ch L) 17 m = -1 ∨ (0 ≤ jbO (ch L) m ∧ mg (ch L) 22 (jbT (ch L) m) = 0)) := by
          intro N
          induction N with
          | zero => intro _; exact ⟨fun _ => thr R 0, 0, rfl, Nat.le_refl _, fun i hi => absurd hi (Nat.not_lt_zero i), Or.inl rfl⟩
          | succ N ih =>
            intro hN
            obtain ⟨ch, L, c0, hL, hst, hend⟩ := ih (by omega)
            rcases hend with hend | hend
            · have hI0 : MI (n + 1) (ch 0) := by rw [c0]; exact (hI.up hn).th0
              have e19 : mg (ch 0) 19 m = mg R 19 m := by rw [c0]; exact th_mg'
              have e18 : mg (ch 0) 18 m = mg R 18 m := by rw [c0]; exact th_mg'
              have eM : nM (ch 0) = nM R := by rw [c0]; rfl
              obtain ⟨w1, w2, -, -⟩ := run_MI hI0 b.1 (by rw [eM]; exact b.2) (by rw [e19, e18]; exact ⟨hmm.2.2.2.2.1.2, hmm.2.2.2.1.2⟩) L (by omega) hst
              have hml := w1.2.2.2.2.1 m b.1 (by omega)
              by_cases z : mg (ch L) 17 m = -1
              · exact ⟨ch, L, c0, by omega, hst, Or.inr (Or.inl z)⟩
              · have j0 : 0 ≤ jbO (ch L) m := by have := hml.2.2.2.2.2.2.2.1; show 0 ≤ mg (ch L) 17 m; omega
                obtain ⟨a1, a2, a3, a4, a5, a6, a7, a8, a9, a10⟩ := w1.job b.1 (by omega) j0
                have ht := w1.2.2.2.2.2.2.2 (jbT (ch L) m) (by show 0 ≤ 3 * jbC (ch L) m + mg (ch L) 31 (6 * jbO (ch L) m + jbC (ch L) m); omega) (by show 3 * jbC (ch L) m + mg (ch L) 31 (6 * jbO (ch L) m + jbC (ch L) m) < 18; omega)
                by_cases y : mg (ch L) 22 (jbT (ch L) m) = 0
                · exact ⟨ch, L, c0, by omega, hst, Or.inr (Or.inr ⟨j0, y⟩)⟩
                · obtain ⟨R'', hR''⟩ := step_ex w1 b.1 (by omega) j0 (by omega)
                  refine ⟨fun i => if i ≤ L then ch i else R'', L + 1, by show (if 0 ≤ L then ch 0 else R'') = _; rw [if_pos (Nat.zero_le _)]; exact c0, by omega, fun i hi => ?_, Or.inl (by omega)⟩
                  show stepP (if i ≤ L then ch i else R'') m (if i + 1 ≤ L then ch (i + 1) else R'')
                  rw [if_pos (by omega)]
                  by_cases x : i + 1 ≤ L
                  · rw [if_pos x]; exact hst i (by omega)
                  · rw [if_neg x, show i = L by omega]; exact hR''
            · exact ⟨ch, L, c0, by omega, hst, Or.inr hend⟩
        obtain ⟨ch, L, c0, hL, hst, hend⟩ := key s.toNat (by omega)
        refine ⟨0, L, ch L, by rw [if_neg (fun z => z b), if_neg (fun z => z c), if_neg e], fun h => absurd rfl h, fun _ => ⟨ch, c0, by omega, by omega, by rw [Int.toNat_natCast], fun i hi => hst i (by omega), ?_⟩⟩
        rcases hend with z | z
        · left; omega
        · right; exact z
    · exact ⟨2, 0, _, by rw [if_neg (fun z => z b), if_pos c], fun _ => rfl, fun h => by omega⟩
  · exact ⟨1, 0, _, by rw [if_pos b], fun _ => rfl, fun h => by omega⟩
theorem bits_ex (Q : Nat → Prop) : ∀ n : Nat, n ≤ 7 → ∃ w : Nat, bitR w (fun i => i < n ∧ Q i)
  | 0, _ => ⟨0, by omega, fun i => by simp⟩
  | n + 1, h => by
    obtain ⟨w, hw⟩ := bits_ex Q n (by omega)
    by_cases e : Q n
    · exact ⟨_, hw.add (by omega) e⟩
    · exact ⟨_, hw.skip e⟩
theorem nd_ex (S : Sto) (d : Int) {n : Nat} (hn : n ≤ 7) : ∃ nd, ndP S d nd n := by
  have h : ∀ q : Nat, ∃ w : Nat, q < n → (w < 128 ∧ ∀ j : Nat, w.testBit j = true ↔ j < q ∧ metP S (7 * d + j) (7 * d + q)) := fun q => by
    by_cases e : q < n
    · obtain ⟨w, hw⟩ := bits_ex (fun j => metP S (7 * d + j) (7 * d + q)) q (by omega)
      exact ⟨w, fun _ => hw⟩
    · exact ⟨0, fun z => absurd z e⟩
  obtain ⟨f, hf⟩ := Classical.axiomOfChoice h
  exact ⟨f, fun q hq => hf q hq⟩
/-- a design's sequence and stitches are laid -/
def desT (X : Sto) (d : Int) (g : Nat → Int) (L : List Int) : Sto := (X.1, fun t j => if t = mt 9 ∧ (7 * d).toNat ≤ j ∧ j < (7 * d).toNat + 7 then g (j - (7 * d).toNat) else if t = mt 10 ∧ j = d.toNat then L.length else if t = mt 11 ∧ (2240 * d).toNat ≤ j ∧ j < (2240 * d).toNat + 2240 then (L[j - (2240 * d).toNat]?).getD 0 else X.2.1 t j, X.2.2)
theorem desT_ag {X : Sto} {d : Int} {g : Nat → Int} {L : List Int} : agr [9, 10, 11] X (desT X d g L) := ⟨rfl, rfl, fun t h => by
  have h9 := h 9 (by simp)
  have h10 := h 10 (by simp)
  have h11 := h 11 (by simp)
  funext j
  show (if t = mt 9 ∧ _ then _ else if t = mt 10 ∧ _ then _ else if t = mt 11 ∧ _ then _ else X.2.1 t j) = _
  rw [if_neg (fun z => h9 z.1), if_neg (fun z => h10 z.1), if_neg (fun z => h11 z.1)]⟩
theorem desT_L {X : Sto} {d : Int} {g : Nat → Int} {L L' : List Int} : agr [10, 11] (desT X d g L) (desT X d g L') := ⟨rfl, rfl, fun t h => by
  have h10 := h 10 (by simp)
  have h11 := h 11 (by simp)
  funext j
  show (if t = mt 9 ∧ (7 * d).toNat ≤ j ∧ j < (7 * d).toNat + 7 then g (j - (7 * d).toNat) else if t = mt 10 ∧ j = d.toNat then (L'.length : Int) else if t = mt 11 ∧ (2240 * d).toNat ≤ j ∧ j < (2240 * d).toNat + 2240 then (L'[j - (2240 * d).toNat]?).getD 0 else X.2.1 t j) = (if t = mt 9 ∧ (7 * d).toNat ≤ j ∧ j < (7 * d).toNat + 7 then g (j - (7 * d).toNat) else if t = mt 10 ∧ j = d.toNat then (L.length : Int) else if t = mt 11 ∧ (2240 * d).toNat ≤ j ∧ j < (2240 * d).toNat + 2240 then (L[j - (2240 * d).toNat]?).getD 0 else X.2.1 t j)
  rw [if_neg (fun z : t = mt 10 ∧ j = d.toNat => h10 z.1), if_neg (fun z : t = mt 10 ∧ j = d.toNat => h10 z.1), if_neg (fun z : t = mt 11 ∧ (2240 * d).toNat ≤ j ∧ j < (2240 * d).toNat + 2240 => h11 z.1), if_neg (fun z : t = mt 11 ∧ (2240 * d).toNat ≤ j ∧ j < (2240 * d).toNat + 2240 => h11 z.1)]⟩
theorem desT_9 {X : Sto} {d : Int} {g : Nat → Int} {L : List Int} (d0 : 0 ≤ d) {i : Int} (i0 : 0 ≤ i) : mg (desT X d g L) 9 i = if 7 * d ≤ i ∧ i < 7 * d + 7 then g (i - 7 * d).toNat else mg X 9 i := by
  show (if mt 9 = mt 9 ∧ (7 * d).toNat ≤ i.toNat ∧ i.toNat < (7 * d).toNat + 7 then g (i.toNat - (7 * d).toNat) else if mt 9 = mt 10 ∧ _ then _ else if mt 9 = mt 11 ∧ _ then _ else X.2.1 (mt 9) i.toNat) = _
  by_cases e : 7 * d ≤ i ∧ i < 7 * d + 7
  · rw [if_pos ⟨rfl, by omega, by omega⟩, if_pos e, show i.toNat - (7 * d).toNat = (i - 7 * d).toNat by omega]
  · rw [if_neg (fun z => e (by omega)), if_neg e, if_neg (fun z => absurd (mt_inj z.1) (by omega)), if_neg (fun z => absurd (mt_inj z.1) (by omega))]
theorem desT_10 {X : Sto} {d : Int} {g : Nat → Int} {L : List Int} (d0 : 0 ≤ d) {i : Int} (i0 : 0 ≤ i) : mg (desT X d g L) 10 i = if i = d then (L.length : Int) else mg X 10 i := by
  show (if mt 10 = mt 9 ∧ (7 * d).toNat ≤ i.toNat ∧ i.toNat < (7 * d).toNat + 7 then g (i.toNat - (7 * d).toNat) else if mt 10 = mt 10 ∧ i.toNat = d.toNat then (L.length : Int) else if mt 10 = mt 11 ∧ (2240 * d).toNat ≤ i.toNat ∧ i.toNat < (2240 * d).toNat + 2240 then (L[i.toNat - (2240 * d).toNat]?).getD 0 else X.2.1 (mt 10) i.toNat) = _
  rw [if_neg (fun z => absurd (mt_inj z.1) (by omega))]
  by_cases e : i = d
  · rw [if_pos ⟨rfl, by rw [e]⟩, if_pos e]
  · rw [if_neg (fun z => e (by omega)), if_neg e, if_neg (fun z => absurd (mt_inj z.1) (by omega))]
theorem desT_11 {X : Sto} {d : Int} {g : Nat → Int} {L : List Int} (d0 : 0 ≤ d) {i : Int} (i0 : 0 ≤ i) : mg (desT X d g L) 11 i = if 2240 * d ≤ i ∧ i < 2240 * d + 2240 then (L[(i - 2240 * d).toNat]?).getD 0 else mg X 11 i := by
  show (if mt 11 = mt 9 ∧ (7 * d).toNat ≤ i.toNat ∧ i.toNat < (7 * d).toNat + 7 then g (i.toNat - (7 * d).toNat) else if mt 11 = mt 10 ∧ i.toNat = d.toNat then (L.length : Int) else if mt 11 = mt 11 ∧ (2240 * d).toNat ≤ i.toNat ∧ i.toNat < (2240 * d).toNat + 2240 then (L[i.toNat - (2240 * d).toNat]?).getD 0 else X.2.1 (mt 11) i.toNat) = _
  rw [if_neg (fun z => absurd (mt_inj z.1) (by omega)), if_neg (fun z => absurd (mt_inj z.1) (by omega))]
  by_cases e : 2240 * d ≤ i ∧ i < 2240 * d + 2240
  · rw [if_pos ⟨rfl, by omega, by omega⟩, if_pos e, show i.toNat - (2240 * d).toNat = (i - 2240 * d).toNat by omega]
  · rw [if_neg (fun z => e (by omega)), if_neg e]
theorem ex_design {n : Int} {R : Sto} (hI : MI n R) : ∃ k v R', designR R k v R' := by
  by_cases e : shN R 6 = 0 ∨ nD R = 6
  · exact ⟨1, 0, _, by rw [if_pos e], fun _ => rfl, fun h => by omega⟩
  · have hN := hI.2.1
    obtain ⟨s0, s7, hdr⟩ := hI.2.2.1
    obtain ⟨d, hd⟩ : ∃ d, d = nD R := ⟨_, rfl⟩
    obtain ⟨q, hq⟩ : ∃ q : Nat, (q : Int) = shN R 6 := ⟨(shN R 6).toNat, Int.toNat_of_nonneg s0⟩
    obtain ⟨x1, x2, x3, x4, x5, x6⟩ := desX_sh (S := R) (d := d) (n := q) (by omega) (by omega) (by omega) (by omega) (fun k k0 k1 => hdr k k0 (by omega))
    obtain ⟨X, hX⟩ : ∃ X, X = desX R d q := ⟨_, rfl⟩
    rw [← hX] at x1 x2 x3 x4 x5 x6
    have d0 : 0 ≤ d := by omega
    obtain ⟨nd, hnd⟩ := nd_ex X d (n := q) (by omega)
    obtain ⟨g, hg⟩ : ∃ g : Nat → Int, g = fun p => gat q (colF X d) nd p := ⟨_, rfl⟩
    obtain ⟨L, hL⟩ : ∃ L, L = dstL (desT X d g []) d q := ⟨_, rfl⟩
    obtain ⟨T, hT⟩ : ∃ T, T = desT X d g L := ⟨_, rfl⟩
    have hag : agr [9, 10, 11] X T := by rw [hT]; exact desT_ag
    have hk : ∀ k, 2 ≤ k → k ≤ 7 → k ∉ [9, 10, 11] := fun k k2 k7 => by simp; omega
    have hdL : dstL T d q = L := by
      rw [hT, hL]
      exact desT_L.eDst (fun k k2 k7 => by simp; omega) (by simp) q
    have hcol : colF T d = colF X d := hag.eCol (by simp)
    have hndT : ndP T d nd q := (hag.eNd hk).mpr hnd
    have hdsh : dshOK T d := (hag.eDsh hk (by simp)).mpr x2
    have hsh : shN T d = q := (hag.mg (k := 1) (by simp)).trans x3
    have hsq : ∀ p : Nat, p < q → seqK T d p = gat q (colF T d) nd p := fun p hp => by
      show mg T 9 (7 * d + p) = _
      have e : mg T 9 (7 * d + p) = g p := by rw [hT, desT_9 d0 (by omega), if_pos (by omega), show (7 * d + (p : Int) - 7 * d).toNat = p by omega]
      rw [e, hcol, hg]
    have hlen : L.length ≤ 2240 := by
      rw [← hdL]
      refine Nat.le_trans (dstL_len q fun p hp => ?_) (by omega)
      have hr := gat_r (col := colF T d) (n := q) (by omega) hndT.ok hp
      rw [hsq p hp]
      exact hdsh.2.2.2.2 _ hr.1 (by rw [hsh]; exact hr.2)
    have hdes : desI T d := by
      refine ⟨hdsh, ⟨nd, by rw [hsh, Int.toNat_natCast]; exact hndT, fun p hp => ?_⟩, ?_, fun j v hj => ?_⟩
      · rw [hsh, Int.toNat_natCast] at hp ⊢
        exact hsq p hp
      · rw [hsh, Int.toNat_natCast, hdL]
        show mg T 10 d = _
        rw [hT, desT_10 d0 d0, if_pos rfl]
      · rw [hsh, Int.toNat_natCast, hdL] at hj
        have hjl : j < L.length := by
          rcases Nat.lt_or_ge j L.length with z | z
          · exact z
          · rw [List.getElem?_eq_none z] at hj; cases hj
        show mg T 11 (2240 * d + j) = v
        rw [hT, desT_11 d0 (by omega), if_pos (by omega), show (2240 * d + (j : Int) - 2240 * d).toNat = j by omega, hj]
        rfl
    refine ⟨0, nD R, updI T 2 8 (nD R + 1), by rw [if_neg e], fun h => absurd rfl h, fun _ => ⟨rfl, T, (x1.sub (by simp)).trans (hag.sub (by simp)), rfl, fun a i a2 a7 i0 => ?_, ?_, ?_, fun i i0 i6 i1 => ?_, fun i i0 i1 => ?_, fun i i0 i1 => ?_, fun i i0 i1 => ?_, by rw [← hd]; exact hdes⟩⟩
    · rw [hag.mg (hk a a2 a7), x6 a i a2 a7 i0, hd, hq]
    · rw [← hd, hsh, hq]
    · exact (hag.mg (k := 1) (by simp)).trans x4
    · exact (hag.mg (k := 1) (by simp)).trans (x5 i i0 i6 (by omega))
    · rw [hT, desT_9 d0 i0, if_neg (by omega)]
      exact (x1.mg (by simp)).trans th_mg'
    · rw [hT, desT_10 d0 i0, if_neg (by omega)]
      exact (x1.mg (by simp)).trans th_mg'
    · rw [hT, desT_11 d0 i0, if_neg (by omega)]
      exact (x1.mg (by simp)).trans th_mg'

/-! THE PROPERTY: what each call of the reference answers, for the law's arguments -/
def cntR (R : Sto) (a b c e : Int) : Prop := shN R 6 = a ∧ nD R = b ∧ nM R = c ∧ nO R = e
theorem cnt_thr {R : Sto} {k : Int} : cntR (thr R k) (shN R 6) (nD R) (nM R) (nO R) := ⟨th_mg', rfl, rfl, rfl⟩
theorem op_wipe {R R' : Sto} {k v : Int} (ho : wipeR R k v R') : k = 0 ∧ v = shN R 6 ∧ cntR R' 0 (nD R) (nM R) (nO R) := by
  obtain ⟨h1, h2, rfl⟩ := ho
  refine ⟨h1, h2, ?_, rfl, rfl, rfl⟩
  show mg _ 1 6 = 0
  rw [mgU, if_pos ⟨rfl, rfl⟩]
theorem op_stock {n : Int} {R R' : Sto} {c s x k v : Int} (hc : 0 ≤ c ∧ c < 6 ∧ 0 ≤ s ∧ s < 3) (hx : 1 ≤ x ∧ x ≤ 100000) (hl : mg R 22 (3 * c + s) + x ≤ 1000000) (ho : stockR R c s x k v R') : k = 0 ∧ v = mg R 22 (3 * c + s) + x ∧ cntR R' (shN R 6) (nD R) (nM R) (nO R) ∧ ∀ b, QI R b → QI R' (b + x) := by
  have ho' := ho
  obtain ⟨h1, h2, h3⟩ := ho
  rw [if_neg (fun z => z hc), if_neg (fun z => z hx), if_neg (by omega)] at h1
  subst h1
  obtain ⟨e1, e2⟩ := h3 rfl
  refine ⟨rfl, e1, ⟨?_, by rw [e2]; rfl, by rw [e2]; rfl, by rw [e2]; rfl⟩, fun b hb => hb.stock hc ho'⟩
  rw [e2]
  show mg _ 1 6 = _
  rw [mgU, if_neg (by omega)]; exact th_mg'
theorem op_shape {R R' : Sto} {i c x y w g k v : Int} (hr : (0 ≤ i ∧ i ≤ 1 ∧ 0 ≤ c ∧ c < 6) ∧ 0 ≤ x ∧ x ≤ 15 ∧ 0 ≤ y ∧ y ≤ 15 ∧ 1 ≤ w ∧ w ≤ 16 - x ∧ 1 ≤ g ∧ g ≤ 16 - y) (ho : shapeR R i c x y w g k v R') : (k = 3 ∧ shN R 6 = 7 ∧ R' = thr R 3) ∨ (k = 0 ∧ shN R 6 ≠ 7 ∧ v = shN R 6 + 1 ∧ cntR R' (shN R 6 + 1) (nD R) (nM R) (nO R) ∧ ∀ b, QI R b → QI R' b) := by
  have ho' := ho
  obtain ⟨h1, h2, h3⟩ := ho
  rw [if_neg (fun z => z hr.1), if_neg (fun z => z hr.2)] at h1
  by_cases e : shN R 6 = 7
  · rw [if_pos e] at h1
    subst h1
    exact Or.inl ⟨rfl, e, h2 (by omega)⟩
  · rw [if_neg e] at h1
    subst h1
    obtain ⟨e1, e2⟩ := h3 rfl
    refine Or.inr ⟨rfl, e, e1, ⟨?_, by rw [e2]; rfl, by rw [e2]; rfl, by rw [e2]; rfl⟩, fun b hb => hb.shape ho'⟩
    rw [e2]
    show mg _ 1 6 = _
    rw [mgU, if_pos ⟨rfl, rfl⟩]
theorem op_design {n : Int} {R R' : Sto} {k v : Int} (hI : MI n R) (ho : designR R k v R') : (k = 1 ∧ (shN R 6 = 0 ∨ nD R = 6) ∧ R' = thr R 1) ∨ (k = 0 ∧ ¬ (shN R 6 = 0 ∨ nD R = 6) ∧ v = nD R ∧ cntR R' 0 (nD R + 1) (nM R) (nO R) ∧ shN R' (nD R) = shN R 6 ∧ ∀ b, QI R b → QI R' b) := by
  have ho' := ho
  obtain ⟨h1, h2, h3⟩ := ho
  by_cases e : shN R 6 = 0 ∨ nD R = 6
  · rw [if_pos e] at h1
    subst h1
    exact Or.inl ⟨rfl, e, h2 (by omega)⟩
  · rw [if_neg e] at h1
    subst h1
    obtain ⟨e1, T, hag, hR, -, s1, s2, -⟩ := h3 rfl
    have eT : ∀ (a : Nat) (i : Int), mg R' a i = mg T a i := fun a i => by rw [hR]; exact mgF
    refine Or.inr ⟨rfl, e, e1, ⟨(eT 1 6).trans s2, by rw [hR]; exact mfF.trans (if_pos rfl), by rw [hR]; exact (mfF.trans (if_neg (by omega))).trans hag.mf, by rw [hR]; exact (mfF.trans (if_neg (by omega))).trans hag.mf⟩, (eT 1 _).trans s1, fun b hb => hb.design hI ho'⟩
theorem op_machine {n : Int} {R R' : Sto} {a w g k v : Int} (hI : MI n R) (hr : 1 ≤ a ∧ a ≤ 6 ∧ 1 ≤ w ∧ w ≤ 16 ∧ 1 ≤ g ∧ g ≤ 16) (ho : machineR R a w g k v R') : (k = 2 ∧ nM R = 4 ∧ R' = thr R 2) ∨ (k = 0 ∧ nM R ≠ 4 ∧ v = nM R ∧ cntR R' (shN R 6) (nD R) (nM R + 1) (nO R) ∧ mg R' 17 (nM R) = -1 ∧ hset R' (nM R) (mg R' 14 (nM R)).toNat = 0 ∧ ∀ b, QI R b → QI R' b) := by
  have ho' := ho
  obtain ⟨h1, h2, h3⟩ := ho
  rw [if_neg (fun z => z hr)] at h1
  by_cases e : nM R = 4
  · rw [if_pos e] at h1
    subst h1
    exact Or.inl ⟨rfl, e, h2 (by omega)⟩
  · rw [if_neg e] at h1
    subst h1
    obtain ⟨e1, hR⟩ := h3 rfl
    have hN := hI.2.1
    obtain ⟨X, hX⟩ : ∃ X, X = updI (updI (updI (updI (thr R 0) (mt 14) (nM R).toNat a) (mt 15) (nM R).toNat w) (mt 16) (nM R).toNat g) (mt 17) (nM R).toNat (-1) := ⟨_, rfl⟩
    rw [← hX] at hR
    have gX : ∀ (b : Nat) (i : Int), b ≠ 20 → mg R' b i = mg X b i := fun b i hb => by
      rw [hR, mgF, (fillH_ag (S := X) (b := 6 * nM R) 6).mg (by simp; omega)]
    have fX : ∀ k, k ≠ 13 → mf R' k = mf X k := fun k hk => by rw [hR]; exact (mfF.trans (if_neg hk)).trans (fillH_ag 6).mf
    have g14 : mg R' 14 (nM R) = a := by
      rw [gX 14 _ (by omega), hX, mgU, if_neg (by omega), mgU, if_neg (by omega), mgU, if_neg (by omega), mgU, if_pos ⟨rfl, rfl⟩]
    refine Or.inr ⟨rfl, e, e1, ⟨?_, (fX 8 (by omega)).trans (by rw [hX]; rfl), by rw [hR]; exact mfF.trans (if_pos rfl), (fX 23 (by omega)).trans (by rw [hX]; rfl)⟩, ?_, ?_, fun b hb => hb.machine hI ho'⟩
    · show mg R' 1 6 = mg R 1 6
      rw [gX 1 _ (by omega), hX, mgU, if_neg (by omega), mgU, if_neg (by omega), mgU, if_neg (by omega), mgU, if_neg (by omega)]; exact th_mg'
    · rw [gX 17 _ (by omega), hX, mgU, if_pos ⟨rfl, rfl⟩]
    · rw [g14]
      refine hset_0 (fun k k0 k6 => ?_) _ (by omega)
      show mg R' 20 (6 * nM R + k) = -1
      rw [hR, mgF, fillH_v (by omega) 6 20 _ (by omega), if_pos ⟨rfl, by omega, by omega⟩]
theorem op_order {n : Int} {R R' : Sto} {d p k v : Int} (hI : MI n R) (hr : (0 ≤ d ∧ d < nD R) ∧ 1 ≤ p ∧ p ≤ 50) (ho : orderR R d p k v R') : (k = 3 ∧ nO R = 20 ∧ R' = thr R 3) ∨ (k = 0 ∧ nO R ≠ 20 ∧ v = nO R ∧ cntR R' (shN R 6) (nD R) (nM R) (nO R + 1) ∧ mg R' 26 (nO R) = 0 ∧ mg R' 27 (nO R) = -1 ∧ (∀ c, 0 ≤ c → c < 6 → sdK R' (nO R) c = -1) ∧ ∀ b, QI R b → QI R' b) := by
  have ho' := ho
  obtain ⟨h1, h2, h3⟩ := ho
  rw [if_neg (fun z => z hr.1), if_neg (fun z => z hr.2)] at h1
  by_cases e : nO R = 20
  · rw [if_pos e] at h1
    subst h1
    exact Or.inl ⟨rfl, e, h2 (by omega)⟩
  · rw [if_neg e] at h1
    subst h1
    obtain ⟨e1, hR⟩ := h3 rfl
    have hN := hI.2.1
    have hgg : ∀ (a : Nat) (i : Int), a ≠ 24 → a ≠ 25 → a ≠ 27 → mg R' a i = mg R a i := fun a i a1 a2 a3 => by
      rw [hR, mgF, mgU, if_neg (by omega), mgU, if_neg (by omega), mgU, if_neg (by omega)]; exact th_mg'
    have hf := hI.2.2.2.2.2.2.1.2.2 (nO R) (by omega) (by omega)
    refine Or.inr ⟨rfl, e, e1, ⟨hgg 1 6 (by omega) (by omega) (by omega), by rw [hR]; rfl, by rw [hR]; rfl, by rw [hR]; rfl⟩, (hgg 26 _ (by omega) (by omega) (by omega)).trans hf.1, ?_, fun c c0 c6 => (hgg 31 _ (by omega) (by omega) (by omega)).trans (hf.2.2.2.2 c c0 c6), fun b hb => hb.order hI ho'⟩
    rw [hR, mgF, mgU, if_pos ⟨rfl, rfl⟩]
/-- the shades that an order was given -/
def shdP (R : Sto) (o c : Int) : Prop := (cntC R (mg R 24 o) c (mnK R (mg R 24 o)).toNat * mg R 25 o = 0 → sdK R o c = -1) ∧ (cntC R (mg R 24 o) c (mnK R (mg R 24 o)).toNat * mg R 25 o ≠ 0 → (0 ≤ sdK R o c ∧ sdK R o c < 3) ∧ cntC R (mg R 24 o) c (mnK R (mg R 24 o)).toNat * mg R 25 o ≤ mg R 22 (3 * c + sdK R o c) ∧ (sdK R o c = 0 ∨ mg R 22 (3 * c + (sdK R o c - 1)) < cntC R (mg R 24 o) c (mnK R (mg R 24 o)).toNat * mg R 25 o))
theorem op_start {n : Int} {R R' : Sto} {o m k : Int} (hI : MI n R) (hr : 0 ≤ o ∧ o < nO R ∧ 0 ≤ m ∧ m < nM R) (ho : startR R o m k R') : (k = 2 ∧ R' = thr R 2) ∨ (k = 0 ∧ mg R 26 o = 0 ∧ mg R 17 m = -1 ∧ cntR R' (shN R 6) (nD R) (nM R) (nO R) ∧ mg R' 26 o = 1 ∧ mg R' 27 o = m ∧ mg R' 17 m = o ∧ (∀ c, 0 ≤ c → c < 6 → shdP R' o c) ∧ ∀ b, QI R b → QI R' b) := by
  have ho' := ho
  obtain ⟨h1, h2, h3⟩ := ho
  rcases h1 with h1 | h1 | h1
  · exact absurd hr h1.1
  · right
    obtain ⟨-, ⟨c1, c2, c3⟩, k0⟩ := h1
    subst k0
    have hR := h3 rfl
    have hag : agr [17, 26, 27, 31] (thr R 0) R' := by
      rw [hR]
      exact ((((fillS_ag 6).sub (by simp)).upd (by simp)).upd (by simp)).upd (by simp)
    have hg : ∀ (a : Nat) (i : Int), a ≠ 17 → a ≠ 26 → a ≠ 27 → a ≠ 31 → mg R' a i = mg R a i := fun a i a1 a2 a3 a4 => (hag.mg (by simp; omega)).trans th_mg'
    have h31 : ∀ c, 0 ≤ c → c < 6 → sdK R' o c = giv R o c := fun c c0 c6 => by
      show mg R' 31 (6 * o + c) = _
      rw [hR, mgU, if_neg (by omega), mgU, if_neg (by omega), mgU, if_neg (by omega), fillS_v hr.1 6 31 _ (by omega), if_pos ⟨rfl, by omega, by omega⟩, show 6 * o + c - 6 * o = c by omega]
    refine ⟨rfl, c1, c2, ⟨hg 1 6 (by omega) (by omega) (by omega) (by omega), hag.mf, hag.mf, hag.mf⟩, ?_, ?_, ?_, fun c c0 c6 => ?_, fun b hb => hb.start ho'⟩
    · rw [hR, mgU, if_neg (by omega), mgU, if_neg (by omega), mgU, if_pos ⟨rfl, rfl⟩]
    · rw [hR, mgU, if_neg (by omega), mgU, if_pos ⟨rfl, rfl⟩]
    · rw [hR, mgU, if_pos ⟨rfl, rfl⟩]
    · have e24 := hg 24 o (by omega) (by omega) (by omega) (by omega)
      have e25 := hg 25 o (by omega) (by omega) (by omega) (by omega)
      have e10 : mnK R' (mg R 24 o) = mnK R (mg R 24 o) := hg 10 _ (by omega) (by omega) (by omega) (by omega)
      have ecn : cntC R' (mg R 24 o) c (mnK R (mg R 24 o)).toNat = cntC R (mg R 24 o) c (mnK R (mg R 24 o)).toNat := (hag.cnt (by simp) (by simp)).trans rfl
      have e22 : ∀ j, mg R' 22 j = mg R 22 j := fun j => hg 22 j (by omega) (by omega) (by omega) (by omega)
      have hp := (hI.2.2.2.2.2.1 o hr.1 hr.2.1).2.1
      have hfb := c3.2 c c0 c6
      unfold shdP
      rw [h31 c c0 c6, e24, e10, ecn, e25]
      simp only [e22]
      have hcd : cntD R o c = cntC R (mg R 24 o) c (mnK R (mg R 24 o)).toNat := rfl
      have hnd : needK R o c = mg R 25 o * cntC R (mg R 24 o) c (mnK R (mg R 24 o)).toNat := rfl
      have hcm : cntC R (mg R 24 o) c (mnK R (mg R 24 o)).toNat * mg R 25 o = needK R o c := by rw [hnd, Int.mul_comm]
      rw [hcm]
      unfold giv
      by_cases z : cntD R o c = 0
      · have z0 : needK R o c = 0 := by rw [hnd, ← hcd, z]; simp
        rw [if_pos z]
        exact ⟨fun _ => rfl, fun y => absurd z0 y⟩
      · rw [if_neg z]
        have z0 : needK R o c ≠ 0 := by
          rw [hnd, ← hcd]
          intro y
          rcases Int.mul_eq_zero.mp y with y | y
          · omega
          · exact z y
        refine ⟨fun y => absurd y z0, fun _ => ?_⟩
        have hs := hfb.resolve_left z
        unfold shF at hs ⊢
        by_cases y0 : needK R o c ≤ mg R 22 (3 * c)
        · rw [if_pos y0]
          exact ⟨by omega, by rw [Int.add_zero]; exact y0, Or.inl rfl⟩
        · rw [if_neg y0] at hs ⊢
          by_cases y1 : needK R o c ≤ mg R 22 (3 * c + 1)
          · rw [if_pos y1]
            exact ⟨by omega, y1, Or.inr (by rw [show (1 : Int) - 1 = 0 by omega, Int.add_zero]; omega)⟩
          · rw [if_neg y1] at hs ⊢
            by_cases y2 : needK R o c ≤ mg R 22 (3 * c + 2)
            · rw [if_pos y2]
              exact ⟨by omega, y2, Or.inr (by rw [show (2 : Int) - 1 = 1 by omega]; omega)⟩
            · rw [if_neg y2] at hs
              exact absurd rfl hs
  · exact Or.inl ⟨h1.2.2, by rw [h2 (by omega), h1.2.2]⟩
theorem op_snap {n : Int} {R R' : Sto} {m k v : Int} (hI : MI n R) (hr : 0 ≤ m ∧ m < nM R) (ho : snapR R m k v R') : (k = 2 ∧ (mg R 17 m = -1 ∨ mg R 29 (mg R 17 m) = 0) ∧ R' = thr R 2) ∨ (k = 0 ∧ ¬ (mg R 17 m = -1 ∨ mg R 29 (mg R 17 m) = 0) ∧ (1 ≤ v ∧ v ≤ 5) ∧ cntR R' (shN R 6) (nD R) (nM R) (nO R) ∧ mg R' 29 (mg R 17 m) = mg R 29 (mg R 17 m) - v ∧ mg R' 28 (mg R 17 m) = mg R 28 (mg R 17 m) ∧ ∀ b, QI R b → QI R' b) := by
  have ho' := ho
  obtain ⟨h1, h2, h3⟩ := ho
  rw [if_neg (fun z => z hr)] at h1
  by_cases e : mg R 17 m = -1 ∨ mg R 29 (mg R 17 m) = 0
  · rw [if_pos e] at h1
    subst h1
    exact Or.inl ⟨rfl, e, h2 (by omega)⟩
  · rw [if_neg e] at h1
    subst h1
    obtain ⟨o, rfl, v1, v2, -, -, -, hag, e29, e30, -⟩ := h3 rfl
    have hj := (hI.2.2.2.2.1 m hr.1 hr.2).2.2.2.2.2.2.2.1
    exact Or.inr ⟨rfl, e, ⟨v1, v2⟩, ⟨(hag.mg (k := 1) (by simp)).trans th_mg', hag.mf, hag.mf, hag.mf⟩, e29, (hag.mg (k := 28) (by simp)).trans th_mg', fun b hb => hb.snap (by omega) ho'⟩
theorem op_match {n : Int} {R R' : Sto} {o c s k v : Int} (hI : MI n R) (hr : 0 ≤ o ∧ o < nO R ∧ 0 ≤ c ∧ c < 6 ∧ 0 ≤ s ∧ s < 3) (ho : matchR R o c s k v R') : (k = 2 ∧ R' = thr R 2) ∨ (k = 0 ∧ cntR R' (shN R 6) (nD R) (nM R) (nO R) ∧ sdK R' o c = s ∧ sdK R o c ≠ s ∧ sdK R o c ≠ -1 ∧ ((v = 0 ∧ mg R' 30 o = mg R 30 o) ∨ (v ≠ 0 ∧ v = mg R 28 o + (if 0 < mg R 29 o then 1 else 0) ∧ mg R' 28 o = 0 ∧ mg R' 29 o = 0 ∧ mg R 30 o < mg R' 30 o)) ∧ ∀ b, QI R b → QI R' b) := by
  have ho' := ho
  obtain ⟨h1, h2, h3⟩ := ho
  rcases h1 with h1 | h1 | h1
  · exact absurd hr h1.1
  · right
    obtain ⟨-, ⟨c1, c2, c3, c4⟩, k0⟩ := h1
    subst k0
    have hor := hI.2.2.2.2.2.1 o hr.1 hr.2.1
    have hs := hor.2.2.2.2.2.2 c hr.2.2.1 hr.2.2.2.1
    have hpos : 0 < cntC R (mg R 24 o) c (mnK R (mg R 24 o)).toNat := by
      have e : needK R o c = mg R 25 o * cntC R (mg R 24 o) c (mnK R (mg R 24 o)).toNat := rfl
      have h25 := hor.2.1
      rcases Int.lt_or_le 0 (cntC R (mg R 24 o) c (mnK R (mg R 24 o)).toNat) with z | z
      · exact z
      · exfalso
        have := Int.mul_le_mul_of_nonneg_left z (show 0 ≤ mg R 25 o by omega)
        rw [Int.mul_zero] at this
        omega
    have hne : sdK R o c ≠ -1 := by have := hs.2.2 c1 hpos; omega
    rcases h3 rfl with ⟨w, v0, hR⟩ | ⟨w, hv, hR⟩
    · have g : ∀ (a : Nat) (i : Int), a ≠ 31 → mg R' a i = mg R a i := fun a i ha => by rw [hR, mgU, if_neg (by omega)]; exact th_mg'
      refine ⟨rfl, ⟨g 1 6 (by omega), by rw [hR]; rfl, by rw [hR]; rfl, by rw [hR]; rfl⟩, ?_, c3, hne, Or.inl ⟨v0, g 30 o (by omega)⟩, fun b hb => hb.match_ hr.1 ho'⟩
      rw [hR]
      show mg _ 31 (6 * o + c) = s
      rw [mgU, if_pos ⟨rfl, rfl⟩]
    · obtain ⟨X, hX⟩ : ∃ X, X = updI (thr R 0) (mt 31) (6 * o + c).toNat s := ⟨_, rfl⟩
      rw [← hX] at hR
      unfold wsU at hR
      have gX : ∀ (a : Nat) (i : Int), a ≠ 31 → mg X a i = mg R a i := fun a i ha => by rw [hX, mgU, if_neg (by omega)]; exact th_mg'
      have g : ∀ (a : Nat) (i : Int), a ≠ 28 → a ≠ 29 → a ≠ 30 → mg R' a i = mg X a i := fun a i a1 a2 a3 => by rw [hR, mgU, if_neg (by omega), mgU, if_neg (by omega), mgU, if_neg (by omega)]
      have ew : wsN X o = wsN R o := by
        rw [wsN_e, wsN_e, gX 28 _ (by omega), gX 29 _ (by omega), gX 24 _ (by omega), show mnK X (mg R 24 o) = mnK R (mg R 24 o) from gX 10 _ (by omega)]
      have h5 := hor.2.2.2.2.1
      have hmn := (hI.2.2.2.1 _ hor.1.1 hor.1.2).mn
      have hsw : 0 < mg R 28 o ∨ 0 < mg R 29 o := by
        rcases w with w | ⟨j, j0, j1, -⟩
        · exact Or.inl w
        · right; omega
      have hws : 0 < wsN R o := by
        rw [wsN_e]
        rcases Int.lt_or_le 0 (mg R 28 o) with z | z
        · have := Int.mul_le_mul_of_nonneg_left hmn.1 (show 0 ≤ mg R 28 o by omega)
          rw [Int.mul_one] at this
          omega
        · have : mg R 28 o = 0 := by omega
          rw [this, Int.zero_mul]
          omega
      refine ⟨rfl, ⟨(g 1 6 (by omega) (by omega) (by omega)).trans (gX 1 6 (by omega)), by rw [hR, hX]; rfl, by rw [hR, hX]; rfl, by rw [hR, hX]; rfl⟩, ?_, c3, hne, Or.inr ⟨?_, hv, ?_, ?_, ?_⟩, fun b hb => hb.match_ hr.1 ho'⟩
      · show mg R' 31 (6 * o + c) = s
        rw [g 31 _ (by omega) (by omega) (by omega), hX, mgU, if_pos ⟨rfl, rfl⟩]
      · rw [hv]
        split <;> omega
      · rw [hR, mgU, if_neg (by omega), mgU, if_pos ⟨rfl, rfl⟩]
      · rw [hR, mgU, if_pos ⟨rfl, rfl⟩]
      · rw [hR, mgU, if_neg (by omega), mgU, if_neg (by omega), mgU, if_pos ⟨rfl, rfl⟩, ew, gX 30 _ (by omega)]
        omega
  · exact Or.inl ⟨h1.2.2, by rw [h2 (by omega), h1.2.2]⟩
theorem op_cancel {n : Int} {R R' : Sto} {o k v : Int} (hI : MI n R) (hr : 0 ≤ o ∧ o < nO R) (ho : cancelR R o k v R') : (k = 2 ∧ (mg R 26 o = 2 ∨ mg R 26 o = 3) ∧ R' = thr R 2) ∨ (k = 0 ∧ (0 ≤ mg R 26 o ∧ mg R 26 o ≤ 1) ∧ 0 ≤ v ∧ cntR R' (shN R 6) (nD R) (nM R) (nO R) ∧ mg R' 26 o = 3 ∧ mg R' 30 o = mg R 30 o + v ∧ mg R' 28 o = 0 ∧ mg R' 27 o = -1 ∧ ∀ b, QI R b → QI R' b) := by
  have ho' := ho
  obtain ⟨h1, h2, h3⟩ := ho
  rw [if_neg (fun z => z hr)] at h1
  by_cases e : mg R 26 o = 2 ∨ mg R 26 o = 3
  · rw [if_pos e] at h1
    subst h1
    exact Or.inl ⟨rfl, e, h2 (by omega)⟩
  · rw [if_neg e] at h1
    subst h1
    obtain ⟨T, hT, hv, hR⟩ := h3 rfl
    have hor := hI.2.2.2.2.2.1 o hr.1 hr.2
    have hmn := (hI.2.2.2.1 _ hor.1.1 hor.1.2).mn
    have h5 := hor.2.2.2.2.1
    have gT : ∀ (a : Nat) (i : Int), a ≠ 17 → a ≠ 27 → mg T a i = mg R a i := fun a i a1 a2 => by
      rw [hT]
      split
      · rw [mgU, if_neg (by omega), mgU, if_neg (by omega)]; exact th_mg'
      · exact th_mg'
    have fT : ∀ k, k ≠ 0 → mf T k = mf R k := fun k hk => by
      have : mf (thr R 0) k = mf R k := mfF.trans (if_neg hk)
      rw [hT]
      split
      · exact this
      · exact this
    have t27 : mg T 27 o = -1 := by
      rw [hT]
      by_cases z : mg R 26 o = 1
      · rw [if_pos z, mgU, if_pos ⟨rfl, rfl⟩]
      · rw [if_neg z]
        have h4 := hor.2.2.2.1
        have : mg R 27 o = -1 := by
          rcases (show mg R 27 o = -1 ∨ 0 ≤ mg R 27 o by omega) with y | y
          · exact y
          · exact absurd (h4.2.2.2.mpr y) z
        exact th_mg'.trans this
    have hws : 0 ≤ wsN R o := by
      rw [wsN_e]
      have := Int.mul_nonneg (show 0 ≤ mg R 28 o by omega) (show 0 ≤ mnK R (mg R 24 o) by omega)
      omega
    have g : ∀ (a : Nat) (i : Int), a ≠ 26 → a ≠ 28 → a ≠ 29 → a ≠ 30 → mg R' a i = mg T a i := fun a i a1 a2 a3 a4 => by rw [hR, mgU, if_neg (by omega), mgU, if_neg (by omega), mgU, if_neg (by omega), mgU, if_neg (by omega)]
    refine Or.inr ⟨rfl, by have := hor.2.2.1; omega, by rw [hv]; exact hws, ⟨(g 1 6 (by omega) (by omega) (by omega) (by omega)).trans (gT 1 6 (by omega) (by omega)), by rw [hR]; exact fT 8 (by omega), by rw [hR]; exact fT 13 (by omega), by rw [hR]; exact fT 23 (by omega)⟩, ?_, ?_, ?_, (g 27 o (by omega) (by omega) (by omega) (by omega)).trans t27, fun b hb => hb.cancel hr.1 ho'⟩
    · rw [hR, mgU, if_neg (by omega), mgU, if_neg (by omega), mgU, if_neg (by omega), mgU, if_pos ⟨rfl, rfl⟩]
    · rw [hR, mgU, if_neg (by omega), mgU, if_neg (by omega), mgU, if_pos ⟨rfl, rfl⟩, hv]
    · rw [hR, mgU, if_neg (by omega), mgU, if_pos ⟨rfl, rfl⟩]
theorem op_run {n : Int} {R R' : Sto} {m s k v : Int} (hI : MI n R) (hn : n + 1 ≤ 15000) (hr : (0 ≤ m ∧ m < nM R) ∧ 1 ≤ s ∧ s ≤ 100000) (ho : runR R m s k v R') : (k = 3 ∧ mg R 17 m = -1 ∧ R' = thr R 3) ∨ (k = 0 ∧ mg R 17 m ≠ -1 ∧ (0 ≤ v ∧ v ≤ s) ∧ cntR R' (shN R 6) (nD R) (nM R) (nO R) ∧ mg R' 19 m = mg R 19 m + v ∧ (mg R' 17 m = mg R 17 m ∨ mg R' 17 m = -1 ∧ mg R' 26 (mg R 17 m) = 2 ∧ mg R' 28 (mg R 17 m) = mg R' 25 (mg R 17 m)) ∧ ∀ b, QI R b → QI R' b) := by
  have ho' := ho
  obtain ⟨h1, h2, h3⟩ := ho
  rw [if_neg (fun z => z hr.1), if_neg (fun z => z hr.2)] at h1
  by_cases e : mg R 17 m = -1
  · rw [if_pos e] at h1
    subst h1
    exact Or.inl ⟨rfl, e, h2 (by omega)⟩
  · rw [if_neg e] at h1
    subst h1
    obtain ⟨hq, v0, v1, e19, e17, hag⟩ := run_ok hI hn hr.1.1 hr.1.2 hr.2.2 ho'
    exact Or.inr ⟨rfl, e, ⟨v0, v1⟩, ⟨(hag.mg (k := 1) (by simp)).trans th_mg', hag.mf, hag.mf, hag.mf⟩, e19, e17, hq⟩

/-! THE PROPERTY: a design's stitches by colours, its sequence, its far steps -/
theorem edge_pos {S : Sto} {k its : Int} : ∀ n c : Nat, c < n → edgP S k ((c : Int) % 16) ((c : Int) / 16) → 1 ≤ (edgeK S k its n).length
  | 0, c, h, _ => by omega
  | n + 1, c, h, he => by
    unfold edgeK
    rw [List.length_append]
    by_cases e : c = n
    · rw [if_pos (by rw [← e]; exact he)]
      simp
    · have := edge_pos (its := its) n c (by omega) he
      omega
theorem stL_2 {S : Sto} {k its : Int} (h : shOK S k) : 2 ≤ (stL S k its).length := by
  have hs := h
  unfold shOK at hs
  unfold stL
  rw [List.length_append]
  obtain ⟨g, hg⟩ : ∃ g : Nat, (mg S 7 k).toNat = g + 1 := ⟨(mg S 7 k).toNat - 1, by omega⟩
  have h1 : 1 ≤ (rowsK S k its (mg S 7 k).toNat).length := by
    rw [hg]
    show 1 ≤ (rowsK S k its g ++ rowK S k its g (wideF (mg S 2 k) (mg S 6 k) g).toNat).length
    rw [List.length_append, rowK_len]
    have := wideF_r h g (by omega)
    omega
  have hw := wideF_r h 0 (by omega)
  have h2 : 1 ≤ (edgeK S k its 256).length := by
    refine edge_pos 256 (16 * mg S 5 k + mg S 4 k).toNat (by omega) ?_
    have e1 : (((16 * mg S 5 k + mg S 4 k).toNat : Nat) : Int) % 16 = mg S 4 k := by omega
    have e2 : (((16 * mg S 5 k + mg S 4 k).toNat : Nat) : Int) / 16 = mg S 5 k := by omega
    rw [e1, e2]
    refine ⟨?_, fun z => ?_⟩
    · unfold hasK hasP
      rw [show mg S 5 k - mg S 5 k = 0 by omega]
      omega
    · have := z.1
      unfold hasK hasP at this
      omega
  omega
/-- where the stitches of a place begin -/
noncomputable abbrev bgD (R : Sto) (d : Int) (p : Nat) : Nat := bgN (dQ R d) p
theorem des_len {R : Sto} {d : Int} (h : desI R d) {p : Nat} (hp : (p : Int) < shN R d) : bgD R d p + 2 ≤ bgD R d (p + 1) := by
  have s1 := h.shq p hp
  have e : bgN (dQ R d) (p + 1) = bgN (dQ R d) p + (clsL (dQ R d p)).length := rfl
  have hc := cls_st s1.1 s1.2
  have h2 := stL_2 (its := seqK R d p) s1.1
  have e2 : (clsL (dQ R d p)).length = (stL R (7 * d + seqK R d p) (seqK R d p)).length := by
    rw [show clsL (dQ R d p) = _ from hc, List.length_map]
  show bgN (dQ R d) p + 2 ≤ bgN (dQ R d) (p + 1)
  omega
theorem des_all {R : Sto} {d : Int} (h : desI R d) : ∀ p : Nat, (p : Int) ≤ shN R d → 2 * p ≤ bgD R d p
  | 0, _ => Nat.zero_le _
  | p + 1, hp => by
    have h1 := des_all h p (by omega)
    have h2 := des_len h (p := p) (by omega)
    omega
theorem des_its {R : Sto} {d : Int} (h : desI R d) {p : Nat} (hp : (p : Int) < shN R d) {j : Nat} (h0 : bgD R d p ≤ j) (h1 : j < bgD R d (p + 1)) : stK R d (j : Int) / 256 = seqK R d p := by
  have e : bgN (dQ R d) (p + 1) = bgN (dQ R d) p + (clsL (dQ R d p)).length := rfl
  have h0' : bgN (dQ R d) p ≤ j := h0
  have h1' : j < bgN (dQ R d) (p + 1) := h1
  have := (h.code hp (i := j - bgN (dQ R d) p) (by omega)).1
  rw [show bgN (dQ R d) p + (j - bgN (dQ R d) p) = j by omega] at this
  exact this
/-- the shapes sewn ahead of each place, as bits -/
theorem des_set {R : Sto} {d : Int} (h : desI R d) : ∃ W : Nat → Nat, W 0 = 0 ∧ W (shN R d).toNat = 2 ^ (shN R d).toNat - 1 ∧ ∀ p : Nat, (p : Int) < shN R d → W p < 128 ∧ (W p).testBit (seqK R d p).toNat = false ∧ W (p + 1) = W p ||| 2 ^ (seqK R d p).toNat := by
  obtain ⟨⟨-, -, n1, n7, -⟩, ⟨nd, h1, h2⟩, -, -⟩ := h
  have hok := h1.ok
  have h7 : (shN R d).toNat ≤ 7 := by omega
  refine ⟨fun p => (gseq (shN R d).toNat (colF R d) nd p).1, rfl, ?_, fun p hp => ?_⟩
  · obtain ⟨a1, a2, -⟩ := gseq_ok (col := colF R d) h7 hok (shN R d).toNat (Nat.le_refl _)
    exact bc_fulle a1 a2
  · obtain ⟨x, g1, g2, g3, g4, -⟩ := gseq_step (col := colF R d) h7 hok (p := p) (by omega)
    obtain ⟨a1, -⟩ := gseq_ok (col := colF R d) h7 hok p (by omega)
    have e : (seqK R d p).toNat = x := by rw [h2 p (by omega), g1, Int.toNat_natCast]
    have hp7 : 2 ^ (shN R d).toNat ≤ 128 := Nat.pow_le_pow_right (n := 2) (by omega) h7
    rw [e]
    dsimp only
    exact ⟨by omega, g3, by rw [g4]⟩
theorem des_ne {R : Sto} {d : Int} (h : desI R d) {p : Nat} (hp : (p : Int) + 1 < shN R d) : seqK R d p ≠ seqK R d ((p + 1 : Nat) : Int) := by
  obtain ⟨W, -, -, w3⟩ := des_set h
  obtain ⟨-, -, a3⟩ := w3 p (by omega)
  obtain ⟨-, b2, -⟩ := w3 (p + 1) (by omega)
  intro e
  rw [← e, a3, Nat.testBit_or, Nat.testBit_two_pow_self] at b2
  simp at b2
/-- every stitch has one colour -/
theorem cnt_6 {R : Sto} {d : Int} (h : desI R d) : ∀ n : Nat, (n : Int) ≤ mnK R d → sumTo (fun c => cntC R d (c : Int) n) 6 = n
  | 0, _ => rfl
  | n + 1, hn => by
    have ih := cnt_6 h n (by omega)
    have hc := h.stR (j := n) (by omega) (by omega)
    have e : ∀ c : Int, cntC R d c (n + 1) = cntC R d c n + (if c = -1 ∨ clK R d n = c then 1 else 0) := fun c => rfl
    have e2 : sumTo (fun c => cntC R d (c : Int) (n + 1)) 6 = sumTo (fun c => cntC R d (c : Int) n) 6 + sumTo (fun c : Nat => if (c : Int) = -1 ∨ clK R d n = (c : Int) then 1 else 0) 6 := sum_split 6
    have e3 : sumTo (fun c : Nat => if (c : Int) = -1 ∨ clK R d n = (c : Int) then (1 : Int) else 0) 6 = 1 := by
      have h0 := hc.2.1
      have h1 := hc.2.2.1
      generalize clK R d n = x at *
      rcases (show x = 0 ∨ x = 1 ∨ x = 2 ∨ x = 3 ∨ x = 4 ∨ x = 5 by omega) with rfl | rfl | rfl | rfl | rfl | rfl <;> decide
    rw [e2, ih, e3, Int.natCast_add]
    rfl
theorem cnt_all {R : Sto} {d : Int} (n : Nat) : cntC R d (-1) n = n := by
  unfold cntC
  rw [sum_const (v := 1) _ (fun i _ => by rw [if_pos (Or.inl rfl)])]
  omega
theorem cnt_r {R : Sto} {d c : Int} (n : Nat) : 0 ≤ cntC R d c n ∧ cntC R d c n ≤ n := by
  unfold cntC
  exact ⟨sumTo_0n (fun j => by split <;> omega) n, sumTo_le (fun j => by split <;> omega) n⟩
theorem chg_lt {R : Sto} {d : Int} (h : desI R d) : 0 ≤ chgN R d (shN R d).toNat ∧ chgN R d (shN R d).toNat < shN R d := by
  have h3 := h.1.2.2.1
  unfold chgN
  have h1 := sumTo_0n (f := fun p : Nat => if colK R d (seqK R d p) = colK R d (seqK R d ((p : Int) + 1)) then (0 : Int) else 1) (fun j => by split <;> omega) ((shN R d).toNat - 1)
  have h2 := sumTo_le (f := fun p : Nat => if colK R d (seqK R d p) = colK R d (seqK R d ((p : Int) + 1)) then (0 : Int) else 1) (fun j => by split <;> omega) ((shN R d).toNat - 1)
  omega
/-- from the stitch ahead of it to the stitch j it is far -/
def farP2 (R : Sto) (d j : Int) : Prop := offP (stK R d j % 16) (stK R d (j - 1) % 16) ∨ offP (stK R d j / 16 % 16) (stK R d (j - 1) / 16 % 16)
noncomputable def farI (R : Sto) (d j : Int) : Int := @ite _ (farP2 R d j) (Classical.propDecidable _) 1 0
noncomputable def farN (R : Sto) (d : Int) (n : Nat) : Int := sumTo (fun j => farI R d ((j : Int) + 1)) (n - 1)
theorem farI_r {R : Sto} {d j : Int} : 0 ≤ farI R d j ∧ farI R d j ≤ 1 := by
  unfold farI
  by_cases e : farP2 R d j
  · rw [if_pos e]; omega
  · rw [if_neg e]; omega
theorem farN_0 (R : Sto) (d : Int) : farN R d 0 = 0 := rfl
theorem farN_1 (R : Sto) (d : Int) : farN R d 1 = 0 := rfl
theorem farN_s (R : Sto) (d : Int) {k : Nat} (hk : 1 ≤ k) : farN R d (k + 1) = farN R d k + farI R d (k : Int) := by
  obtain ⟨j, rfl⟩ : ∃ j, k = j + 1 := ⟨k - 1, by omega⟩
  show sumTo _ j + farI R d ((j : Int) + 1) = sumTo _ j + farI R d ((j + 1 : Nat) : Int)
  rw [Int.natCast_add]; rfl
theorem farN_r {R : Sto} {d : Int} (n : Nat) : 0 ≤ farN R d n ∧ farN R d n ≤ n := by
  have h1 := sumTo_0n (f := fun j : Nat => farI R d ((j : Int) + 1)) (fun j => farI_r.1) (n - 1)
  have h2 := sumTo_le (f := fun j : Nat => farI R d ((j : Int) + 1)) (fun j => farI_r.2) (n - 1)
  unfold farN
  omega
theorem sum_le {f g : Nat → Int} : ∀ n : Nat, (∀ j, j < n → f j ≤ g j) → sumTo f n ≤ sumTo g n
  | 0, _ => Int.le_refl _
  | n + 1, h => by
    have := sum_le n (fun j hj => h j (by omega))
    have := h n (by omega)
    show sumTo f n + f n ≤ sumTo g n + g n
    omega
theorem jmp_far {R : Sto} {d : Int} (n : Nat) : jmpN R d 1 n + jmpN R d 0 n ≤ farN R d n := by
  have e := sum_split (f := fun j : Nat => jmpI R d 1 ((j : Int) + 1)) (g := fun j : Nat => jmpI R d 0 ((j : Int) + 1)) (n - 1)
  have e2 : jmpN R d 1 n + jmpN R d 0 n = sumTo (fun j : Nat => jmpI R d 1 ((j : Int) + 1) + jmpI R d 0 ((j : Int) + 1)) (n - 1) := e.symm
  rw [e2]
  refine sum_le _ fun j _ => ?_
  show jmpI R d 1 ((j : Int) + 1) + jmpI R d 0 ((j : Int) + 1) ≤ farI R d ((j : Int) + 1)
  generalize (j : Int) + 1 = q
  unfold jmpI farI
  by_cases f : farP2 R d q
  · rw [if_pos f]
    by_cases a : jmpP R d 1 q
    · rw [if_pos a]
      by_cases b : jmpP R d 0 q
      · exact absurd (b.2.2.mp (a.2.2.mpr rfl)) (by omega)
      · rw [if_neg b]; omega
    · rw [if_neg a]
      by_cases b : jmpP R d 0 q
      · rw [if_pos b]; omega
      · rw [if_neg b]; omega
  · rw [if_neg f, if_neg (fun a => f a.2.1), if_neg (fun a => f a.2.1)]
    omega
theorem jmp_r {R : Sto} {d hid : Int} (n : Nat) : 0 ≤ jmpN R d hid n ∧ jmpN R d hid n ≤ n := by
  have h1 := sumTo_0n (f := fun j : Nat => jmpI R d hid ((j : Int) + 1)) (fun j => jmpI_0.1) (n - 1)
  have h2 := sumTo_le (f := fun j : Nat => jmpI R d hid ((j : Int) + 1)) (fun j => jmpI_0.2) (n - 1)
  unfold jmpN
  omega

