/-! THE PROPERTY: what is counted of the reference, and what each call keeps of it -/
theorem sum_one {f g : Nat → Int} {a : Nat} {x : Int} : ∀ n : Nat, a < n → (∀ j, j < n → g j = if j = a then f j + x else f j) → sumTo g n = sumTo f n + x
  | 0, h, _ => by omega
  | n + 1, h, hg => by
    show sumTo g n + g n = sumTo f n + f n + x
    have e := hg n (by omega)
    by_cases q : n = a
    · rw [if_pos q] at e
      rw [e, sumTo_congr n (fun j hj => by rw [hg j (by omega), if_neg (by omega)])]
      omega
    · rw [if_neg q] at e
      rw [e, sum_one n (by omega) (fun j hj => hg j (by omega))]
      omega
theorem sum_nn {f : Nat → Int} : ∀ n : Nat, (∀ j, j < n → 0 ≤ f j) → 0 ≤ sumTo f n
  | 0, _ => Int.le_refl 0
  | n + 1, h => by
    have := sum_nn n (fun j hj => h j (by omega))
    have := h n (by omega)
    show 0 ≤ sumTo f n + f n
    omega
theorem sum_ge {f : Nat → Int} {a : Nat} : ∀ n : Nat, a < n → (∀ j, j < n → 0 ≤ f j) → f a ≤ sumTo f n
  | 0, h, _ => by omega
  | n + 1, h, hf => by
    have h1 := sum_nn n (fun j hj => hf j (by omega))
    have h2 := hf n (by omega)
    show f a ≤ sumTo f n + f n
    by_cases q : a = n
    · rw [q]; omega
    · have := sum_ge (a := a) n (by omega) (fun j hj => hf j (by omega))
      omega
/-- the thread that is left; what the machines sewed; where it went -/
def lfS (R : Sto) : Int := sumTo (fun j => mg R 22 (j : Int)) 18
def swS (R : Sto) : Int := sumTo (fun i => mg R 19 (i : Int)) (nM R).toNat
def thO (R : Sto) (o : Int) : Int := mg R 30 o + mnK R (mg R 24 o) * mg R 28 o + mg R 29 o
def thS (R : Sto) : Int := sumTo (fun o => thO R (o : Int)) (nO R).toNat
def LD (R : Sto) (i : Int) : Prop := mg R 18 i ≤ mg R 19 i ∧ (mg R 18 i = 0 ↔ ∀ k, 0 ≤ k → k < mg R 14 i → hdK R i k = -1)
def QI (R : Sto) (b : Int) : Prop := lfS R + swS R = b ∧ swS R = thS R ∧ ∀ i, 0 ≤ i → i < nM R → LD R i
theorem QI.eq {R R' : Sto} {b : Int} (h : QI R b) (hM : nM R' = nM R) (hO : nO R' = nO R) (g22 : ∀ j : Int, 0 ≤ j → j < 18 → mg R' 22 j = mg R 22 j) (gm : ∀ i : Int, 0 ≤ i → i < nM R → mg R' 19 i = mg R 19 i ∧ mg R' 18 i = mg R 18 i ∧ mg R' 14 i = mg R 14 i ∧ ∀ k, 0 ≤ k → k < mg R 14 i → hdK R' i k = hdK R i k) (gt : ∀ o : Int, 0 ≤ o → o < nO R → thO R' o = thO R o) : QI R' b := by
  obtain ⟨h1, h2, h3⟩ := h
  have e1 : lfS R' = lfS R := sumTo_congr _ fun j hj => g22 j (by omega) (by omega)
  have e2 : swS R' = swS R := by
    unfold swS
    rw [hM]
    exact sumTo_congr _ fun j hj => (gm j (by omega) (by omega)).1
  have e3 : thS R' = thS R := by
    unfold thS
    rw [hO]
    exact sumTo_congr _ fun j hj => gt j (by omega) (by omega)
  refine ⟨by rw [e1, e2]; exact h1, by rw [e2, e3]; exact h2, fun i i0 i1 => ?_⟩
  rw [hM] at i1
  obtain ⟨a1, a2, a3, a4⟩ := gm i i0 i1
  obtain ⟨b1, b2⟩ := h3 i i0 i1
  refine ⟨by rw [a1, a2]; exact b1, ?_⟩
  rw [a2, a3, b2]
  exact ⟨fun z k k0 k1 => by rw [a4 k k0 k1]; exact z k k0 k1, fun z k k0 k1 => by rw [← a4 k k0 k1]; exact z k k0 k1⟩
/-- a call that leaves the arrays of thread, machines' counts and heads, and of the orders' counts as they were -/
theorem QI.eq' {R R' : Sto} {b : Int} (h : QI R b) (hM : nM R' = nM R) (hO : nO R' = nO R) (g : ∀ (a : Nat) (i : Int), a = 14 ∨ a = 18 ∨ a = 19 ∨ a = 20 ∨ a = 22 ∨ a = 24 ∨ a = 28 ∨ a = 29 ∨ a = 30 → mg R' a i = mg R a i) (gd : ∀ o : Int, 0 ≤ o → o < nO R → mnK R' (mg R 24 o) = mnK R (mg R 24 o)) : QI R' b :=
  h.eq hM hO (fun j _ _ => g 22 j (by omega)) (fun i _ _ => ⟨g 19 i (by omega), g 18 i (by omega), g 14 i (by omega), fun k _ _ => g 20 _ (by omega)⟩) fun o o0 o1 => by
    unfold thO
    rw [g 24 o (by omega), g 28 o (by omega), g 29 o (by omega), g 30 o (by omega), gd o o0 o1]
theorem QI.th_ {R : Sto} {b q : Int} (h : QI R b) : QI (thr R q) b := h.eq' rfl rfl (fun _ _ _ => th_mg') fun _ _ _ => th_mg'
theorem QI.wipe {R R' : Sto} {b k v : Int} (h : QI R b) (ho : wipeR R k v R') : QI R' b := by
  obtain ⟨-, -, rfl⟩ := ho
  exact h.eq' rfl rfl (fun a i ha => by rw [mgU, if_neg (by omega)]; exact th_mg') fun o _ _ => by show mg _ 10 _ = mg R 10 _; rw [mgU, if_neg (by omega)]; exact th_mg'
theorem QI.shape {R R' : Sto} {b i c x y w g v : Int} (h : QI R b) (ho : shapeR R i c x y w g 0 v R') : QI R' b := by
  obtain ⟨-, hR⟩ := ho.2.2 rfl
  have e : ∀ (a : Nat) (j : Int), 8 ≤ a → mg R' a j = mg R a j := fun a j ha => by
    rw [hR, mgU, if_neg (by omega), mgU, if_neg (by omega), mgU, if_neg (by omega), mgU, if_neg (by omega), mgU, if_neg (by omega), mgU, if_neg (by omega), mgU, if_neg (by omega)]; exact th_mg'
  exact h.eq' (by rw [hR]; rfl) (by rw [hR]; rfl) (fun a j ha => e a j (by omega)) fun o _ _ => e 10 _ (by omega)
theorem QI.design {n : Int} {R R' : Sto} {b v : Int} (h : QI R b) (hI : MI n R) (ho : designR R 0 v R') : QI R' b := by
  obtain ⟨-, T, hag, hR, -, -, -, -, -, h10, -⟩ := ho.2.2 rfl
  have eT : ∀ (a : Nat) (i : Int), mg R' a i = mg T a i := fun a i => by rw [hR]; exact mgF
  refine h.eq' (by rw [hR]; exact (mfF.trans (if_neg (by omega))).trans hag.mf) (by rw [hR]; exact (mfF.trans (if_neg (by omega))).trans hag.mf) (fun a j ha => (eT a j).trans ((hag.mg (by simp; omega)).trans th_mg')) fun o o0 o1 => ?_
  have hor := hI.2.2.2.2.2.1 o o0 o1
  exact (eT 10 _).trans (h10 _ hor.1.1 (by have := hor.1.2; omega))
theorem QI.machine {n : Int} {R R' : Sto} {b a w y9 v : Int} (h : QI R b) (hI : MI n R) (ho : machineR R a w y9 0 v R') : QI R' b := by
  obtain ⟨h1, -, h3⟩ := ho
  obtain ⟨-, hR⟩ := h3 rfl
  have hN := hI.2.1
  have hlt : nM R < 4 := by
    by_cases z : nM R = 4
    · rw [if_pos z] at h1
      split at h1 <;> omega
    · omega
  obtain ⟨X, hX⟩ : ∃ X, X = updI (updI (updI (updI (thr R 0) (mt 14) (nM R).toNat a) (mt 15) (nM R).toNat w) (mt 16) (nM R).toNat y9) (mt 17) (nM R).toNat (-1) := ⟨_, rfl⟩
  rw [← hX] at hR
  have gX : ∀ (b : Nat) (i : Int), b ≠ 20 → mg R' b i = mg X b i := fun b i hb => by
    rw [hR, mgF, (fillH_ag (S := X) (b := 6 * nM R) 6).mg (by simp; omega)]
  have g : ∀ (b : Nat) (i : Int), b ≠ 14 → b ≠ 15 → b ≠ 16 → b ≠ 17 → b ≠ 20 → mg R' b i = mg R b i := fun b i b14 b15 b16 b17 b20 => by
    rw [gX b i b20, hX, mgU, if_neg (by omega), mgU, if_neg (by omega), mgU, if_neg (by omega), mgU, if_neg (by omega)]; exact th_mg'
  have g14 : ∀ i : Int, 0 ≤ i → i ≠ nM R → mg R' 14 i = mg R 14 i := fun i i0 i1 => by
    rw [gX 14 i (by omega), hX, mgU, if_neg (by omega), mgU, if_neg (by omega), mgU, if_neg (by omega), mgU, if_neg (by omega)]; exact th_mg'
  have g20 : ∀ j : Int, 0 ≤ j → mg R' 20 j = if 6 * nM R ≤ j ∧ j < 6 * nM R + 6 then -1 else mg R 20 j := fun j j0 => by
    rw [hR, mgF, fillH_v (by omega) 6 20 j j0]
    by_cases y : 6 * nM R ≤ j ∧ j < 6 * nM R + 6
    · rw [if_pos ⟨rfl, y⟩, if_pos y]
    · rw [if_neg (fun z => y z.2), if_neg y, hX, mgU, if_neg (by omega), mgU, if_neg (by omega), mgU, if_neg (by omega), mgU, if_neg (by omega)]; exact th_mg'
  have e13 : nM R' = nM R + 1 := by rw [hR]; exact mfF.trans (if_pos rfl)
  have e23 : nO R' = nO R := by rw [hR]; exact ((mfF.trans (if_neg (by omega))).trans (fillH_ag 6).mf).trans (by rw [hX]; rfl)
  have hf := hI.2.2.2.2.2.2.1.2.1 (nM R) (by omega) (by omega)
  obtain ⟨q1, q2, q3⟩ := h
  have s1 : lfS R' = lfS R := sumTo_congr _ fun j hj => g 22 _ (by omega) (by omega) (by omega) (by omega) (by omega)
  have s2 : swS R' = swS R := by
    unfold swS
    rw [e13, show (nM R + 1).toNat = (nM R).toNat + 1 by omega]
    show sumTo _ _ + mg R' 19 (((nM R).toNat : Nat) : Int) = _
    rw [Int.toNat_of_nonneg (by omega), g 19 _ (by omega) (by omega) (by omega) (by omega) (by omega), hf.2.1, sumTo_congr _ fun j _ => g 19 _ (by omega) (by omega) (by omega) (by omega) (by omega)]
    omega
  have s3 : thS R' = thS R := by
    unfold thS
    rw [e23]
    refine sumTo_congr _ fun j hj => ?_
    unfold thO
    rw [g 24 _ (by omega) (by omega) (by omega) (by omega) (by omega), g 28 _ (by omega) (by omega) (by omega) (by omega) (by omega), g 29 _ (by omega) (by omega) (by omega) (by omega) (by omega), g 30 _ (by omega) (by omega) (by omega) (by omega) (by omega), show mnK R' (mg R 24 (j : Int)) = mnK R (mg R 24 (j : Int)) from g 10 _ (by omega) (by omega) (by omega) (by omega) (by omega)]
  refine ⟨by rw [s1, s2]; exact q1, by rw [s2, s3]; exact q2, fun i i0 i1 => ?_⟩
  rw [e13] at i1
  by_cases e : i = nM R
  · rw [e]
    refine ⟨by rw [g 18 _ (by omega) (by omega) (by omega) (by omega) (by omega), g 19 _ (by omega) (by omega) (by omega) (by omega) (by omega), hf.1, hf.2.1]; omega, ?_⟩
    rw [g 18 _ (by omega) (by omega) (by omega) (by omega) (by omega), hf.1]
    have h14 : mg R' 14 (nM R) ≤ 6 := by
      rw [gX 14 _ (by omega), hX, mgU, if_neg (by omega), mgU, if_neg (by omega), mgU, if_neg (by omega), mgU, if_pos ⟨rfl, rfl⟩]
      by_cases z : ¬ (1 ≤ a ∧ a ≤ 6 ∧ 1 ≤ w ∧ w ≤ 16 ∧ 1 ≤ y9 ∧ y9 ≤ 16)
      · rw [if_pos z] at h1; omega
      · omega
    refine ⟨fun _ k k0 k1 => ?_, fun _ => rfl⟩
    show mg R' 20 (6 * nM R + k) = -1
    rw [g20 _ (by omega), if_pos (by omega)]
  · obtain ⟨b1, b2⟩ := q3 i i0 (by omega)
    have hm := (hI.2.2.2.2.1 i i0 (by omega)).1
    refine ⟨by rw [g 18 _ (by omega) (by omega) (by omega) (by omega) (by omega), g 19 _ (by omega) (by omega) (by omega) (by omega) (by omega)]; exact b1, ?_⟩
    rw [g 18 _ (by omega) (by omega) (by omega) (by omega) (by omega), g14 i i0 e, b2]
    have ek : ∀ k, 0 ≤ k → k < mg R 14 i → hdK R' i k = hdK R i k := fun k k0 k1 => by
      show mg R' 20 (6 * i + k) = mg R 20 (6 * i + k)
      rw [g20 _ (by omega), if_neg (by omega)]
    exact ⟨fun z k k0 k1 => by rw [ek k k0 k1]; exact z k k0 k1, fun z k k0 k1 => by rw [← ek k k0 k1]; exact z k k0 k1⟩
theorem QI.order {n : Int} {R R' : Sto} {b d p v : Int} (h : QI R b) (hI : MI n R) (ho : orderR R d p 0 v R') : QI R' b := by
  obtain ⟨h1, -, h3⟩ := ho
  obtain ⟨-, hR⟩ := h3 rfl
  have hN := hI.2.1
  have hlt : nO R < 20 := by
    by_cases z : nO R = 20
    · rw [if_pos z] at h1
      split at h1
      · omega
      · split at h1 <;> omega
    · omega
  have hgg : ∀ (a : Nat) (i : Int), ¬ ((a = 24 ∨ a = 25 ∨ a = 27) ∧ i.toNat = (nO R).toNat) → mg R' a i = mg R a i := fun a i x => by
    rw [hR, mgF, mgU, if_neg (by omega), mgU, if_neg (by omega), mgU, if_neg (by omega)]; exact th_mg'
  have e13 : nM R' = nM R := by rw [hR]; rfl
  have e23 : nO R' = nO R + 1 := by rw [hR]; rfl
  have hf := hI.2.2.2.2.2.2.1.2.2 (nO R) (by omega) (by omega)
  obtain ⟨q1, q2, q3⟩ := h
  have s1 : lfS R' = lfS R := sumTo_congr _ fun j hj => hgg 22 _ (by omega)
  have s2 : swS R' = swS R := by
    unfold swS
    rw [e13]
    exact sumTo_congr _ fun j _ => hgg 19 _ (by omega)
  have s3 : thS R' = thS R := by
    unfold thS
    rw [e23, show (nO R + 1).toNat = (nO R).toNat + 1 by omega]
    show sumTo _ _ + thO R' (((nO R).toNat : Nat) : Int) = _
    have e0 : thO R' (nO R) = 0 := by
      unfold thO
      rw [hgg 28 _ (by omega), hgg 29 _ (by omega), hgg 30 _ (by omega), hf.2.1, hf.2.2.1, hf.2.2.2.1]
      simp
    rw [Int.toNat_of_nonneg (by omega), e0, Int.add_zero]
    refine sumTo_congr _ fun j hj => ?_
    unfold thO
    rw [hgg 24 _ (by omega), hgg 28 _ (by omega), hgg 29 _ (by omega), hgg 30 _ (by omega), show mnK R' (mg R 24 (j : Int)) = mnK R (mg R 24 (j : Int)) from hgg 10 _ (by omega)]
  refine ⟨by rw [s1, s2]; exact q1, by rw [s2, s3]; exact q2, fun i i0 i1 => ?_⟩
  rw [e13] at i1
  obtain ⟨b1, b2⟩ := q3 i i0 i1
  refine ⟨by rw [hgg 18 _ (by omega), hgg 19 _ (by omega)]; exact b1, ?_⟩
  rw [hgg 18 _ (by omega), hgg 14 _ (by omega), b2]
  have ek : ∀ k, hdK R' i k = hdK R i k := fun k => hgg 20 _ (by omega)
  exact ⟨fun z k k0 k1 => by rw [ek k]; exact z k k0 k1, fun z k k0 k1 => by rw [← ek k]; exact z k k0 k1⟩
theorem QI.stock {R R' : Sto} {b c s x v : Int} (h : QI R b) (hc : 0 ≤ c ∧ c < 6 ∧ 0 ≤ s ∧ s < 3) (ho : stockR R c s x 0 v R') : QI R' (b + x) := by
  obtain ⟨-, -, h3⟩ := ho
  obtain ⟨-, hR⟩ := h3 rfl
  have hg : ∀ (a : Nat) (i : Int), a ≠ 22 → mg R' a i = mg R a i := fun a i ha => by rw [hR, mgU, if_neg (by omega)]; exact th_mg'
  have h22 : ∀ j : Nat, j < 18 → mg R' 22 (j : Int) = if j = (3 * c + s).toNat then mg R 22 (j : Int) + x else mg R 22 (j : Int) := fun j hj => by
    rw [hR, mgU]
    by_cases e : j = (3 * c + s).toNat
    · rw [if_pos ⟨rfl, by omega⟩, if_pos e, show (j : Int) = 3 * c + s by omega]
    · rw [if_neg (by omega), if_neg e]; exact th_mg'
  obtain ⟨q1, q2, q3⟩ := h
  have e13 : nM R' = nM R := by rw [hR]; rfl
  have e23 : nO R' = nO R := by rw [hR]; rfl
  have s1 : lfS R' = lfS R + x := sum_one 18 (a := (3 * c + s).toNat) (by omega) h22
  have s2 : swS R' = swS R := by
    unfold swS
    rw [e13]
    exact sumTo_congr _ fun j _ => hg 19 _ (by omega)
  have s3 : thS R' = thS R := by
    unfold thS
    rw [e23]
    refine sumTo_congr _ fun j hj => ?_
    unfold thO
    rw [hg 24 _ (by omega), hg 28 _ (by omega), hg 29 _ (by omega), hg 30 _ (by omega), show mnK R' (mg R 24 (j : Int)) = mnK R (mg R 24 (j : Int)) from hg 10 _ (by omega)]
  refine ⟨by rw [s1, s2]; omega, by rw [s2, s3]; exact q2, fun i i0 i1 => ?_⟩
  rw [e13] at i1
  obtain ⟨b1, b2⟩ := q3 i i0 i1
  refine ⟨by rw [hg 18 _ (by omega), hg 19 _ (by omega)]; exact b1, ?_⟩
  rw [hg 18 _ (by omega), hg 14 _ (by omega), b2]
  have ek : ∀ k, hdK R' i k = hdK R i k := fun k => hg 20 _ (by omega)
  exact ⟨fun z k k0 k1 => by rw [ek k]; exact z k k0 k1, fun z k k0 k1 => by rw [← ek k]; exact z k k0 k1⟩
theorem QI.start {R R' : Sto} {b o m : Int} (h : QI R b) (ho : startR R o m 0 R') : QI R' b := by
  have hR := ho.2.2 rfl
  have hag : agr [17, 26, 27, 31] (thr R 0) R' := by
    rw [hR]
    exact ((((fillS_ag 6).sub (by simp)).upd (by simp)).upd (by simp)).upd (by simp)
  exact h.eq' hag.mf hag.mf (fun a i ha => (hag.mg (by simp; omega)).trans th_mg') fun o _ _ => (hag.mg (k := 10) (by simp)).trans th_mg'
theorem QI.snap {R R' : Sto} {b m v : Int} (h : QI R b) (hj : 0 ≤ mg R 17 m) (ho : snapR R m 0 v R') : QI R' b := by
  obtain ⟨o, ho', -, -, -, -, -, hag, e29, e30, hq⟩ := ho.2.2 rfl
  have hg : ∀ (a : Nat) (i : Int), a ≠ 29 → a ≠ 30 → mg R' a i = mg R a i := fun a i h1 h2 => (hag.mg (by simp; omega)).trans th_mg'
  refine h.eq hag.mf hag.mf (fun j _ _ => hg 22 _ (by omega) (by omega)) (fun i _ _ => ⟨hg 19 _ (by omega) (by omega), hg 18 _ (by omega) (by omega), hg 14 _ (by omega) (by omega), fun k _ _ => hg 20 _ (by omega) (by omega)⟩) fun q q0 q1 => ?_
  unfold thO
  rw [hg 24 _ (by omega) (by omega), hg 28 _ (by omega) (by omega), show mnK R' (mg R 24 q) = mnK R (mg R 24 q) from hg 10 _ (by omega) (by omega)]
  by_cases e : q = o
  · rw [e, e29, e30]; omega
  · obtain ⟨a1, a2⟩ := hq q q0 e
    rw [a1, a2]
theorem wsN_e (R : Sto) (o : Int) : wsN R o = mg R 28 o * mnK R (mg R 24 o) + mg R 29 o := rfl
/-- an order's pieces are all begun anew -/
theorem QI.waste {R R' : Sto} {b o : Int} (h : QI R b) (o0 : 0 ≤ o) (hM : nM R' = nM R) (hO : nO R' = nO R) (g : ∀ (a : Nat) (i : Int), a = 14 ∨ a = 18 ∨ a = 19 ∨ a = 20 ∨ a = 22 ∨ a = 24 ∨ a = 10 → mg R' a i = mg R a i) (g28 : ∀ i : Int, 0 ≤ i → mg R' 28 i = if i = o then 0 else mg R 28 i) (g29 : ∀ i : Int, 0 ≤ i → mg R' 29 i = if i = o then 0 else mg R 29 i) (g30 : ∀ i : Int, 0 ≤ i → mg R' 30 i = if i = o then mg R 30 o + wsN R o else mg R 30 i) : QI R' b := by
  refine h.eq hM hO (fun j _ _ => g 22 j (by omega)) (fun i _ _ => ⟨g 19 i (by omega), g 18 i (by omega), g 14 i (by omega), fun k _ _ => g 20 _ (by omega)⟩) fun q q0 q1 => ?_
  unfold thO
  rw [g 24 _ (by omega), g28 q q0, g29 q q0, g30 q q0, show mnK R' (mg R 24 q) = mnK R (mg R 24 q) from g 10 _ (by omega)]
  by_cases e : q = o
  · rw [if_pos e, if_pos e, if_pos e, wsN_e, e, Int.mul_comm (mg R 28 o)]
    omega
  · rw [if_neg e, if_neg e, if_neg e]
theorem QI.cancel {R R' : Sto} {b o v : Int} (h : QI R b) (o0 : 0 ≤ o) (ho : cancelR R o 0 v R') : QI R' b := by
  obtain ⟨T, hT, -, hR⟩ := ho.2.2 rfl
  have gT : ∀ (a : Nat) (i : Int), a ≠ 17 → a ≠ 27 → mg T a i = mg R a i := fun a i h1 h2 => by
    rw [hT]
    split
    · rw [mgU, if_neg (by omega), mgU, if_neg (by omega)]; exact th_mg'
    · exact th_mg'
  have fT : ∀ k, k ≠ 0 → mf T k = mf R k := fun k hk => by
    have : mf (thr R 0) k = mf R k := mfF.trans (if_neg hk)
    rw [hT]
    split
    · exact this
    · exact this
  refine h.waste o0 (by rw [hR]; exact fT 13 (by omega)) (by rw [hR]; exact fT 23 (by omega)) (fun a i ha => ?_) (fun i i0 => ?_) (fun i i0 => ?_) (fun i i0 => ?_)
  · rw [hR, mgU, if_neg (by omega), mgU, if_neg (by omega), mgU, if_neg (by omega), mgU, if_neg (by omega)]; exact gT a i (by omega) (by omega)
  · rw [hR, mgU, if_neg (by omega), mgU]
    by_cases e : i = o
    · rw [if_pos ⟨rfl, by omega⟩, if_pos e]
    · rw [if_neg (by omega), if_neg e, mgU, if_neg (by omega), mgU, if_neg (by omega)]; exact gT _ i (by omega) (by omega)
  · rw [hR, mgU]
    by_cases e : i = o
    · rw [if_pos ⟨rfl, by omega⟩, if_pos e]
    · rw [if_neg (by omega), if_neg e, mgU, if_neg (by omega), mgU, if_neg (by omega), mgU, if_neg (by omega)]; exact gT _ i (by omega) (by omega)
  · rw [hR, mgU, if_neg (by omega), mgU, if_neg (by omega), mgU]
    by_cases e : i = o
    · rw [if_pos ⟨rfl, by omega⟩, if_pos e]
    · rw [if_neg (by omega), if_neg e, mgU, if_neg (by omega)]; exact gT _ i (by omega) (by omega)
theorem QI.match_ {R R' : Sto} {b o c s v : Int} (h : QI R b) (o0 : 0 ≤ o) (ho : matchR R o c s 0 v R') : QI R' b := by
  rcases ho.2.2 rfl with ⟨-, -, hR⟩ | ⟨-, -, hR⟩
  · have g : ∀ (a : Nat) (i : Int), a ≠ 31 → mg R' a i = mg R a i := fun a i ha => by rw [hR, mgU, if_neg (by omega)]; exact th_mg'
    exact h.eq' (by rw [hR]; rfl) (by rw [hR]; rfl) (fun a i ha => g a i (by omega)) fun o _ _ => g 10 _ (by omega)
  · obtain ⟨X, hX⟩ : ∃ X, X = updI (thr R 0) (mt 31) (6 * o + c).toNat s := ⟨_, rfl⟩
    rw [← hX] at hR
    have gX : ∀ (a : Nat) (i : Int), a ≠ 31 → mg X a i = mg R a i := fun a i ha => by rw [hX, mgU, if_neg (by omega)]; exact th_mg'
    have ew : wsN X o = wsN R o := by
      rw [wsN_e, wsN_e, gX 28 _ (by omega), gX 29 _ (by omega), gX 24 _ (by omega), show mnK X (mg R 24 o) = mnK R (mg R 24 o) from gX 10 _ (by omega)]
    unfold wsU at hR
    refine h.waste o0 (by rw [hR, hX]; rfl) (by rw [hR, hX]; rfl) (fun a i ha => ?_) (fun i i0 => ?_) (fun i i0 => ?_) (fun i i0 => ?_)
    · rw [hR, mgU, if_neg (by omega), mgU, if_neg (by omega), mgU, if_neg (by omega)]; exact gX a i (by omega)
    · rw [hR, mgU, if_neg (by omega), mgU]
      by_cases e : i = o
      · rw [if_pos ⟨rfl, by omega⟩, if_pos e]
      · rw [if_neg (by omega), if_neg e, mgU, if_neg (by omega)]; exact gX _ i (by omega)
    · rw [hR, mgU]
      by_cases e : i = o
      · rw [if_pos ⟨rfl, by omega⟩, if_pos e]
      · rw [if_neg (by omega), if_neg e, mgU, if_neg (by omega), mgU, if_neg (by omega)]; exact gX _ i (by omega)
    · rw [hR, mgU, if_neg (by omega), mgU, if_neg (by omega), mgU]
      by_cases e : i = o
      · rw [if_pos ⟨rfl, by omega⟩, if_pos e, ew, gX 30 _ (by omega)]
      · rw [if_neg (by omega), if_neg e]; exact gX _ i (by omega)
/-- one stitch is sewn -/
theorem QI.step {n : Int} {R R' : Sto} {b m : Int} (h : QI R b) (hI : MI n R) (m0 : 0 ≤ m) (m1 : m < nM R) (hs : stepP R m R') : QI R' b := by
  obtain ⟨r, hr, hcc, t0, j0, F⟩ := stepP_F hI m0 m1 hs
  obtain ⟨a1, a2, a3, a4, a5, a6, a7, a8, a9, a10⟩ := hI.job m0 m1 j0
  obtain ⟨hag, f22, f19, f18, f20, f21, f29, f28, f26, f17, f27⟩ := F
  have hN := hI.2.1
  have hmm := hI.2.2.2.2.1 m m0 m1
  obtain ⟨q1, q2, q3⟩ := h
  have e13 : nM R' = nM R := hag.mf
  have e23 : nO R' = nO R := hag.mf
  have s1 : lfS R' = lfS R + (-1) := by
    refine sum_one 18 (a := (jbT R m).toNat) (by show (3 * jbC R m + mg R 31 (6 * jbO R m + jbC R m)).toNat < 18; omega) fun j hj => ?_
    rw [f22 _ (by omega)]
    by_cases e : j = (jbT R m).toNat
    · have ej : (j : Int) = jbT R m := by rw [e]; exact Int.toNat_of_nonneg (by show 0 ≤ 3 * jbC R m + mg R 31 (6 * jbO R m + jbC R m); omega)
      rw [if_pos ej, if_pos e, ej]; omega
    · rw [if_neg (fun z => e (by rw [← z]; simp)), if_neg e]
  have s2 : swS R' = swS R + 1 := by
    unfold swS
    rw [e13]
    refine sum_one _ (a := m.toNat) (by omega) fun j hj => ?_
    rw [f19 _ (by omega)]
    by_cases e : j = m.toNat
    · rw [if_pos (by omega), if_pos e, show (j : Int) = m by omega]
    · rw [if_neg (by omega), if_neg e]
  have s3 : thS R' = thS R + 1 := by
    unfold thS
    rw [e23]
    refine sum_one _ (a := (jbO R m).toNat) (by omega) fun j hj => ?_
    have g : ∀ (a : Nat) (i : Int), a = 24 ∨ a = 30 ∨ a = 10 → mg R' a i = mg R a i := fun a i ha => hag.mg (by simp; omega)
    unfold thO
    rw [g 24 _ (by omega), g 30 _ (by omega), f28 _ (by omega), f29 _ (by omega), show mnK R' (mg R 24 (j : Int)) = mnK R (mg R 24 (j : Int)) from g 10 _ (by omega)]
    by_cases e : j = (jbO R m).toNat
    · have ej : (j : Int) = jbO R m := by omega
      rw [if_pos e, ej]
      by_cases z : mg R 29 (jbO R m) + 1 = mnK R (jbD R m)
      · rw [if_pos ⟨rfl, z⟩, if_pos rfl, if_pos z]
        have z' : mnK R (mg R 24 (jbO R m)) = mg R 29 (jbO R m) + 1 := z.symm
        rw [z', Int.mul_add]
        omega
      · rw [if_neg (fun y => z y.2), if_pos rfl, if_neg z]; omega
    · have ej : (j : Int) ≠ jbO R m := by omega
      rw [if_neg e, if_neg (fun y => ej y.1), if_neg ej]
  refine ⟨by rw [s1, s2]; omega, by rw [s2, s3, q2], fun i i0 i1 => ?_⟩
  rw [e13] at i1
  obtain ⟨b1, b2⟩ := q3 i i0 i1
  have e14 : mg R' 14 i = mg R 14 i := hag.mg (by simp)
  have hmi := hI.2.2.2.2.1 i i0 i1
  by_cases e : i = m
  · subst e
    have h19 : mg R' 19 i = mg R 19 i + 1 := by rw [f19 i i0, if_pos rfl]
    have hr20 : hdK R' i r = jbC R i := by show mg R' 20 (6 * i + r) = _; rw [f20 _ (by omega), if_pos rfl]
    have h18 : (hdK R i r = jbC R i ∧ mg R' 18 i = mg R 18 i) ∨ mg R' 18 i = mg R 18 i + 1 := by
      rw [f18 i i0]
      by_cases z : hdK R i r = jbC R i
      · exact Or.inl ⟨z, if_neg (fun y => y.2 z)⟩
      · exact Or.inr (if_pos ⟨rfl, z⟩)
    have hpos : mg R' 18 i ≠ 0 := by
      rcases h18 with ⟨z, y⟩ | y
      · rw [y]
        intro w
        have := b2.mp w r hr.1 hr.2
        omega
      · have := hmi.2.2.2.1
        omega
    refine ⟨by omega, fun z => absurd z hpos, fun z => ?_⟩
    rw [e14] at z
    have := z r hr.1 hr.2
    omega
  · refine ⟨by rw [f18 i i0, if_neg (fun y => e y.1), f19 i i0, if_neg e]; exact b1, ?_⟩
    rw [f18 i i0, if_neg (fun y => e y.1), e14, b2]
    have h6 := hmi.1
    have h6m := hmm.1
    have ek : ∀ k, 0 ≤ k → k < mg R 14 i → hdK R' i k = hdK R i k := fun k k0 k1 => by
      show mg R' 20 (6 * i + k) = mg R 20 (6 * i + k)
      rw [f20 _ (by omega), if_neg (by omega)]
    exact ⟨fun z k k0 k1 => by rw [ek k k0 k1]; exact z k k0 k1, fun z k k0 k1 => by rw [← ek k k0 k1]; exact z k k0 k1⟩
/-- a machine runs -/
theorem run_ok {n : Int} {R R' : Sto} {m s v : Int} (hI : MI n R) (hn : n + 1 ≤ 15000) (m0 : 0 ≤ m) (m1 : m < nM R) (hs : s ≤ 100000) (ho : runR R m s 0 v R') : (∀ b, QI R b → QI R' b) ∧ 0 ≤ v ∧ v ≤ s ∧ mg R' 19 m = mg R 19 m + v ∧ (mg R' 17 m = mg R 17 m ∨ mg R' 17 m = -1 ∧ mg R' 26 (mg R 17 m) = 2 ∧ mg R' 28 (mg R 17 m) = mg R' 25 (mg R 17 m)) ∧ agr [17, 18, 19, 20, 21, 22, 26, 27, 28, 29] (thr R 0) R' := by
  obtain ⟨ch, c0, v0, v1, cv, hst, -⟩ := ho.2.2 rfl
  have hI0 : MI (n + 1) (ch 0) := by rw [c0]; exact (hI.up hn).th0
  have hmm := hI.2.2.2.2.1 m m0 m1
  have e17 : mg (ch 0) 17 m = mg R 17 m := by rw [c0]; exact th_mg'
  have e19 : mg (ch 0) 19 m = mg R 19 m := by rw [c0]; exact th_mg'
  have e18 : mg (ch 0) 18 m = mg R 18 m := by rw [c0]; exact th_mg'
  have eM : nM (ch 0) = nM R := by rw [c0]; rfl
  have key : ∀ k : Nat, (k : Int) ≤ v → (∀ b, QI R b → QI (ch k) b) ∧ mg (ch k) 19 m = mg R 19 m + k ∧ (mg (ch k) 17 m = mg R 17 m ∨ mg (ch k) 17 m = -1 ∧ mg (ch k) 26 (mg R 17 m) = 2 ∧ mg (ch k) 28 (mg R 17 m) = mg (ch k) 25 (mg R 17 m)) ∧ agr [17, 18, 19, 20, 21, 22, 26, 27, 28, 29] (thr R 0) (ch k) := by
    intro k
    induction k with
    | zero =>
      intro _
      exact ⟨by rw [c0]; exact fun b h => h.th_, by rw [e19]; simp, Or.inl e17, by rw [c0]; exact agr.rf⟩
    | succ k ih =>
      intro hk
      obtain ⟨i1, i2, i3, i4⟩ := ih (by omega)
      obtain ⟨w1, w2, w3, w4⟩ := run_MI hI0 m0 (by omega) (by rw [e19, e18]; exact ⟨hmm.2.2.2.2.1.2, hmm.2.2.2.1.2⟩) k (by omega) (fun i hi => hst i (by omega))
      have sk := hst k (by omega)
      have k1 : m < nM (ch k) := by omega
      obtain ⟨r, hr, hcc, t0, j0, F⟩ := stepP_F w1 m0 k1 sk
      obtain ⟨hag, f22, f19, f18, f20, f21, f29, f28, f26, f17, f27⟩ := F
      have ej : mg (ch k) 17 m = mg R 17 m := by
        rcases i3 with z | z
        · exact z
        · have : 0 ≤ mg (ch k) 17 m := j0
          omega
      refine ⟨fun b h => (i1 b h).step w1 m0 k1 sk, by rw [f19 m m0, if_pos rfl, i2, Int.natCast_add]; show _ = _ + ((k : Int) + 1); omega, ?_, i4.trans hag⟩
      by_cases z : mg (ch k) 29 (jbO (ch k) m) + 1 = mnK (ch k) (jbD (ch k) m) ∧ mg (ch k) 28 (jbO (ch k) m) + 1 = mg (ch k) 25 (jbO (ch k) m)
      · right
        have ej' : jbO (ch k) m = mg R 17 m := ej
        have j0' : 0 ≤ mg R 17 m := by rw [← ej']; exact j0
        have h25 : mg (ch (k + 1)) 25 (mg R 17 m) = mg (ch k) 25 (mg R 17 m) := hag.mg (by simp)
        rw [f17 m m0, if_pos ⟨rfl, z⟩, f26 _ j0', if_pos ⟨ej'.symm, z⟩, f28 _ j0', if_pos ⟨ej'.symm, z.1⟩, h25, ← ej']
        exact ⟨rfl, rfl, z.2⟩
      · left
        rw [f17 m m0, if_neg (fun y => z y.2)]
        exact ej
  obtain ⟨k1, k2, k3, k4⟩ := key v.toNat (by omega)
  rw [cv] at k1 k2 k3 k4
  rw [Int.toNat_of_nonneg v0] at k2
  exact ⟨k1, v0, v1, k2, k3, k4⟩

