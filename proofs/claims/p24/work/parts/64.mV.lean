theorem mgU {S : Sto} {a b j : Nat} {v i : Int} : mg (updI S (mt a) j v) b i = if b = a ∧ i.toNat = j then v else mg S b i := by
  show (if mt b = mt a ∧ i.toNat = j then v else S.2.1 (mt b) i.toNat) = _
  by_cases e : b = a
  · subst e; simp
  · rw [if_neg (fun q => e (mt_inj q.1)), if_neg (fun q => e q.1)]
theorem tnE {i j : Int} (hi : 0 ≤ i) (hj : 0 ≤ j) : (i.toNat = j.toNat) = (i = j) := propext ⟨fun e => by omega, fun e => by rw [e]⟩
def sw1 (T : Sto) (th : Int) : Sto := updI T (mt 22) th.toNat (mg T 22 th - 1)
def sw2 (T : Sto) (m : Int) : Sto := updI T (mt 19) m.toNat (mg T 19 m + 1)
def sw3 (T : Sto) (m r : Int) : Sto := updI T (mt 21) (6 * m + r).toNat (mg T 19 m)
def sw4 (T : Sto) (o : Int) : Sto := updI T (mt 29) o.toNat (mg T 29 o + 1)
def swU (T : Sto) (m o th r : Int) : Sto := sw4 (sw3 (sw2 (sw1 T th) m) m r) o
def sw5 (T : Sto) (o : Int) : Sto := updI T (mt 29) o.toNat 0
def sw6 (T : Sto) (o : Int) : Sto := updI T (mt 28) o.toNat (mg T 28 o + 1)
def swV (U : Sto) (o d : Int) : Sto := if mg U 29 o = mnK U d then sw6 (sw5 U o) o else U
def lvU (S : Sto) (o : Int) : Sto := updI (updI S (mt 17) (mg S 27 o).toNat (-1)) (mt 27) o.toNat (-1)
def swW (V : Sto) (o : Int) : Sto := if mg V 28 o = mg V 25 o then lvU (updI V (mt 26) o.toNat 2) o else V
abbrev jbO (R : Sto) (m : Int) : Int := mg R 17 m
abbrev jbD (R : Sto) (m : Int) : Int := mg R 24 (jbO R m)
abbrev jbC (R : Sto) (m : Int) : Int := clK R (jbD R m) (mg R 29 (jbO R m))
abbrev jbT (R : Sto) (m : Int) : Int := 3 * jbC R m + mg R 31 (6 * jbO R m + jbC R m)
/-- a stitch is sewn -/
def stepP (R : Sto) (m : Int) (R' : Sto) : Prop := 0 ≤ jbO R m ∧ 0 < mg R 22 (jbT R m) ∧ ∃ r T, ((hadP R m (jbC R m) r ∧ T = R) ∨ (newP R m (jbC R m) r ∧ T = headU R m (jbC R m) r)) ∧ R' = swW (swV (swU T m (jbO R m) (jbT R m) r) (jbO R m) (jbD R m)) (jbO R m)
/-- the fields behind a stitch -/
def stF (R R' : Sto) (m o d c th r : Int) : Prop := agr [17, 18, 19, 20, 21, 22, 26, 27, 28, 29] R R' ∧
  (∀ i, 0 ≤ i → mg R' 22 i = if i = th then mg R 22 th - 1 else mg R 22 i) ∧
  (∀ i, 0 ≤ i → mg R' 19 i = if i = m then mg R 19 m + 1 else mg R 19 i) ∧
  (∀ i, 0 ≤ i → mg R' 18 i = if i = m ∧ hdK R m r ≠ c then mg R 18 m + 1 else mg R 18 i) ∧
  (∀ i, 0 ≤ i → mg R' 20 i = if i = 6 * m + r then c else mg R 20 i) ∧
  (∀ i, 0 ≤ i → mg R' 21 i = if i = 6 * m + r then mg R 19 m + 1 else mg R 21 i) ∧
  (∀ i, 0 ≤ i → mg R' 29 i = if i = o then (if mg R 29 o + 1 = mnK R d then 0 else mg R 29 o + 1) else mg R 29 i) ∧
  (∀ i, 0 ≤ i → mg R' 28 i = if i = o ∧ mg R 29 o + 1 = mnK R d then mg R 28 o + 1 else mg R 28 i) ∧
  (∀ i, 0 ≤ i → mg R' 26 i = if i = o ∧ mg R 29 o + 1 = mnK R d ∧ mg R 28 o + 1 = mg R 25 o then 2 else mg R 26 i) ∧
  (∀ i, 0 ≤ i → mg R' 17 i = if i = m ∧ mg R 29 o + 1 = mnK R d ∧ mg R 28 o + 1 = mg R 25 o then -1 else mg R 17 i) ∧
  (∀ i, 0 ≤ i → mg R' 27 i = if i = o ∧ mg R 29 o + 1 = mnK R d ∧ mg R 28 o + 1 = mg R 25 o then -1 else mg R 27 i)
theorem sw_F {R T : Sto} {m o d c th r : Int} (m0 : 0 ≤ m) (o0 : 0 ≤ o) (th0 : 0 ≤ th) (r0 : 0 ≤ r) (d0 : 0 ≤ d) (e27 : mg R 27 o = m) (hne : mg R 28 o ≠ mg R 25 o) (hT : (hdK R m r = c ∧ T = R) ∨ (hdK R m r ≠ c ∧ T = headU R m c r)) : stF R (swW (swV (swU T m o th r) o d) o) m o d c th r := by
  have hkr : 0 ≤ 6 * m + r := by omega
  have U1 : ∀ (k : Nat) (i : Int), 0 ≤ i → mg (swU T m o th r) k i = if k = 29 ∧ i = o then mg T 29 o + 1 else if k = 21 ∧ i = 6 * m + r then mg T 19 m + 1 else if k = 19 ∧ i = m then mg T 19 m + 1 else if k = 22 ∧ i = th then mg T 22 th - 1 else mg T k i := fun k i i0 => by
    simp [swU, sw4, sw3, sw2, sw1, mgU, tnE i0 o0, tnE i0 hkr, tnE i0 m0, tnE i0 th0]
  have T1 : ∀ (k : Nat) (i : Int), 0 ≤ i → mg T k i = if k = 20 ∧ i = 6 * m + r then c else if k = 18 ∧ i = m ∧ hdK R m r ≠ c then mg R 18 m + 1 else mg R k i := fun k i i0 => by
    rcases hT with ⟨h1, rfl⟩ | ⟨h1, rfl⟩
    · by_cases e : k = 20 ∧ i = 6 * m + r
      · rw [if_pos e, e.1, e.2]; exact h1
      · rw [if_neg e, if_neg (fun q => q.2.2 h1)]
    · simp [headU, mgU, tnE i0 m0, tnE i0 hkr, h1]
      by_cases e : k = 18 ∧ i = m
      · rw [if_pos e, if_neg (by omega), if_pos e]
      · rw [if_neg e, if_neg e]
  have eU29 : mg (swU T m o th r) 29 o = mg R 29 o + 1 := by rw [U1 _ _ o0, T1 _ _ o0]; simp
  have eU10 : mnK (swU T m o th r) d = mnK R d := by
    show mg (swU T m o th r) 10 d = mg R 10 d
    rw [U1 10 d d0]; simp; rw [T1 10 d d0]; simp
  have eU28 : mg (swU T m o th r) 28 o = mg R 28 o := by rw [U1 28 o o0]; simp; rw [T1 28 o o0]; simp
  have V1 : ∀ (k : Nat) (i : Int), 0 ≤ i → mg (swV (swU T m o th r) o d) k i = if k = 29 ∧ i = o ∧ mg R 29 o + 1 = mnK R d then 0 else if k = 28 ∧ i = o ∧ mg R 29 o + 1 = mnK R d then mg R 28 o + 1 else mg (swU T m o th r) k i := fun k i i0 => by
    unfold swV
    rw [eU29, eU10]
    by_cases e : mg R 29 o + 1 = mnK R d
    · rw [if_pos e]
      simp [sw6, sw5, mgU, tnE i0 o0, e]
      by_cases e1 : k = 28 ∧ i = o
      · rw [if_pos e1, if_neg (by omega), if_pos e1, eU28]
      · rw [if_neg e1, if_neg e1]
    · rw [if_neg e, if_neg (fun q => e q.2.2), if_neg (fun q => e q.2.2)]
  have eV28 : mg (swV (swU T m o th r) o d) 28 o = if mg R 29 o + 1 = mnK R d then mg R 28 o + 1 else mg R 28 o := by
    rw [V1 _ _ o0, eU28]; simp
  have eV25 : mg (swV (swU T m o th r) o d) 25 o = mg R 25 o := by rw [V1 25 o o0, U1 25 o o0]; simp; rw [T1 25 o o0]; simp
  have eV27 : mg (swV (swU T m o th r) o d) 27 o = m := by rw [V1 27 o o0, U1 27 o o0]; simp; rw [T1 27 o o0]; simp [e27]
  have hdn : (mg (swV (swU T m o th r) o d) 28 o = mg (swV (swU T m o th r) o d) 25 o) ↔ (mg R 29 o + 1 = mnK R d ∧ mg R 28 o + 1 = mg R 25 o) := by
    rw [eV28, eV25]
    by_cases e : mg R 29 o + 1 = mnK R d
    · rw [if_pos e]; simp [e]
    · rw [if_neg e]; simp [e, hne]
  have W1 : ∀ (k : Nat) (i : Int), 0 ≤ i → mg (swW (swV (swU T m o th r) o d) o) k i = if k = 26 ∧ i = o ∧ mg R 29 o + 1 = mnK R d ∧ mg R 28 o + 1 = mg R 25 o then 2 else if k = 17 ∧ i = m ∧ mg R 29 o + 1 = mnK R d ∧ mg R 28 o + 1 = mg R 25 o then -1 else if k = 27 ∧ i = o ∧ mg R 29 o + 1 = mnK R d ∧ mg R 28 o + 1 = mg R 25 o then -1 else mg (swV (swU T m o th r) o d) k i := fun k i i0 => by
    unfold swW
    by_cases e : mg (swV (swU T m o th r) o d) 28 o = mg (swV (swU T m o th r) o d) 25 o
    · rw [if_pos e]
      have e2 := hdn.mp e
      have e27' : mg (updI (swV (swU T m o th r) o d) (mt 26) o.toNat 2) 27 o = m := by rw [mgU]; simp [eV27]
      unfold lvU
      rw [e27']
      simp only [mgU, tnE i0 o0, tnE i0 m0]
      by_cases a1 : k = 27 ∧ i = o
      · rw [if_pos a1, if_neg (by omega), if_neg (by omega), if_pos ⟨a1.1, a1.2, e2⟩]
      · rw [if_neg a1]
        by_cases a2 : k = 17 ∧ i = m
        · rw [if_pos a2, if_neg (by omega), if_pos ⟨a2.1, a2.2, e2⟩]
        · rw [if_neg a2]
          by_cases a3 : k = 26 ∧ i = o
          · rw [if_pos a3, if_pos ⟨a3.1, a3.2, e2⟩]
          · rw [if_neg a3, if_neg (fun q => a3 ⟨q.1, q.2.1⟩), if_neg (fun q => a2 ⟨q.1, q.2.1⟩), if_neg (fun q => a1 ⟨q.1, q.2.1⟩)]
    · have e2 := fun q => e (hdn.mpr q)
      rw [if_neg e, if_neg (fun q => e2 q.2.2), if_neg (fun q => e2 q.2.2), if_neg (fun q => e2 q.2.2)]
  have hag : agr [17, 18, 19, 20, 21, 22, 26, 27, 28, 29] R (swW (swV (swU T m o th r) o d) o) := by
    have aT : agr [17, 18, 19, 20, 21, 22, 26, 27, 28, 29] R T := by
      rcases hT with ⟨-, rfl⟩ | ⟨-, rfl⟩
      · exact agr.rf
      · exact (agr.rf.upd (by simp)).upd (by simp)
    have aU : agr [17, 18, 19, 20, 21, 22, 26, 27, 28, 29] R (swU T m o th r) := (((aT.upd (by simp)).upd (by simp)).upd (by simp)).upd (by simp)
    have aV : agr [17, 18, 19, 20, 21, 22, 26, 27, 28, 29] R (swV (swU T m o th r) o d) := by
      unfold swV
      split
      · exact (aU.upd (by simp)).upd (by simp)
      · exact aU
    unfold swW
    split
    · exact ((aV.upd (by simp)).upd (by simp)).upd (by simp)
    · exact aV
  refine ⟨hag, fun i i0 => ?_, fun i i0 => ?_, fun i i0 => ?_, fun i i0 => ?_, fun i i0 => ?_, fun i i0 => ?_, fun i i0 => ?_, fun i i0 => ?_, fun i i0 => ?_, fun i i0 => ?_⟩
  · rw [W1 _ _ i0, V1 _ _ i0, U1 _ _ i0, T1 _ _ th0, T1 _ _ i0]; simp
  · rw [W1 _ _ i0, V1 _ _ i0, U1 _ _ i0, T1 _ _ m0, T1 _ _ i0]; simp
  · rw [W1 _ _ i0, V1 _ _ i0, U1 _ _ i0, T1 _ _ i0]; simp
  · rw [W1 _ _ i0, V1 _ _ i0, U1 _ _ i0, T1 _ _ i0]; simp
  · rw [W1 _ _ i0, V1 _ _ i0, U1 _ _ i0, T1 _ _ m0, T1 _ _ i0]; simp
  · rw [W1 _ _ i0, V1 _ _ i0, U1 _ _ i0, T1 _ _ o0, T1 _ _ i0]
    by_cases e : i = o
    · by_cases e2 : mg R 29 o + 1 = mnK R d
      · simp [e, e2]
      · simp [e, e2]
    · simp [e]
  · rw [W1 _ _ i0, V1 _ _ i0, U1 _ _ i0, T1 _ _ i0]; simp
  · rw [W1 _ _ i0, V1 _ _ i0, U1 _ _ i0, T1 _ _ i0]; simp
  · rw [W1 _ _ i0, V1 _ _ i0, U1 _ _ i0, T1 _ _ i0]; simp
  · rw [W1 _ _ i0, V1 _ _ i0, U1 _ _ i0, T1 _ _ i0]; simp
/-- what holds of a machine's order as it sews -/
theorem MI.job {n : Int} {S : Sto} (h : MI n S) {m : Int} (m0 : 0 ≤ m) (m1 : m < nM S) (j0 : 0 ≤ jbO S m) : jbO S m < nO S ∧ ordI n S (jbO S m) ∧ orOK S (jbO S m) ∧ mg S 26 (jbO S m) = 1 ∧ mg S 27 (jbO S m) = m ∧ stOK S (jbD S m) (mg S 29 (jbO S m)) ∧ (0 ≤ jbC S m ∧ jbC S m < 6) ∧ (0 ≤ mg S 31 (6 * jbO S m + jbC S m) ∧ mg S 31 (6 * jbO S m + jbC S m) < 3) ∧ (0 ≤ jbD S m ∧ jbD S m < nD S) ∧ desI S (jbD S m) := by
  have hN := h.2.1
  have hm := h.2.2.2.2.1 m m0 m1
  have hj := hm.2.2.2.2.2.2.2
  have hj2 := hj.2.2 j0
  have ho := h.2.2.2.2.2.1 (jbO S m) j0 hj.2.1
  have hor := h.or j0 hj.2.1
  have hde := h.2.2.2.1 (jbD S m) ho.1.1 ho.1.2
  have hp := ho.2.2.2.2.1
  have hst := hor.2.2.2.2.2.2.2.2 (mg S 29 (jbO S m)) hp.2.2.1 hp.2.2.2.1
  have hsd := ho.2.2.2.2.2.2 (jbC S m) hst.2.1 hst.2.2
  refine ⟨hj.2.1, ho, hor, hj2.1, hj2.2, hst.1, hst.2, ⟨hsd.2.2 hj2.1 ?_, hsd.2.1⟩, ho.1, hde⟩
  have h1 : 1 ≤ sumTo (fun j : Nat => if jbC S m = -1 ∨ clK S (jbD S m) j = jbC S m then 1 else 0) ((mg S 29 (jbO S m)).toNat + 1) := by
    have h2 := sumTo_0n (f := fun j : Nat => if jbC S m = -1 ∨ clK S (jbD S m) j = jbC S m then 1 else 0) (fun j => by split <;> omega) (mg S 29 (jbO S m)).toNat
    show 1 ≤ sumTo _ _ + (if jbC S m = -1 ∨ clK S (jbD S m) ((mg S 29 (jbO S m)).toNat : Int) = jbC S m then (1 : Int) else 0)
    rw [if_pos (Or.inr (by rw [show (((mg S 29 (jbO S m)).toNat : Nat) : Int) = mg S 29 (jbO S m) by omega]))]
    omega
  have hmono : ∀ (f : Nat → Int), (∀ j, 0 ≤ f j) → ∀ a b : Nat, a ≤ b → sumTo f a ≤ sumTo f b := fun f hf a b hab => by
    induction b with
    | zero => rw [show a = 0 by omega]; exact Int.le_refl _
    | succ b ih =>
      by_cases e : a = b + 1
      · rw [e]; exact Int.le_refl _
      · have := ih (by omega); have := hf b
        show sumTo f a ≤ sumTo f b + f b
        omega
  have hp4 : mg S 29 (jbO S m) < mnK S (jbD S m) := hp.2.2.2.1
  have h3 := hmono (fun j : Nat => if jbC S m = -1 ∨ clK S (jbD S m) j = jbC S m then 1 else 0) (fun j => by split <;> omega) ((mg S 29 (jbO S m)).toNat + 1) (mnK S (jbD S m)).toNat (by omega)
  show 0 < cntC S (jbD S m) (jbC S m) (mnK S (jbD S m)).toNat
  unfold cntC
  omega
theorem stepP_F {n : Int} {R R' : Sto} {m : Int} (h : MI n R) (m0 : 0 ≤ m) (m1 : m < nM R) (hs : stepP R m R') : ∃ r, (0 ≤ r ∧ r < mg R 14 m) ∧ (hdK R m r = jbC R m ∨ newP R m (jbC R m) r) ∧ 0 < mg R 22 (jbT R m) ∧ 0 ≤ jbO R m ∧ stF R R' m (jbO R m) (jbD R m) (jbC R m) (jbT R m) r := by
  obtain ⟨j0, t0, r, T, hT, rfl⟩ := hs
  obtain ⟨a1, a2, a3, a4, a5, a6, a7, a8, a9, a10⟩ := h.job m0 m1 j0
  have hne : mg R 28 (jbO R m) ≠ mg R 25 (jbO R m) := by
    have := a2.2.2.2.2.1.2.2.2.2.1 a4
    omega
  have hr : 0 ≤ r ∧ r < mg R 14 m := by
    rcases hT with ⟨q, -⟩ | ⟨q, -⟩
    · exact ⟨q.1, q.2.1⟩
    · exact ⟨q.2.1, q.2.2.1⟩
  refine ⟨r, hr, ?_, t0, j0, sw_F m0 j0 (by show 0 ≤ 3 * jbC R m + mg R 31 (6 * jbO R m + jbC R m); omega) hr.1 a9.1 a5 hne ?_⟩
  · rcases hT with ⟨q, -⟩ | ⟨q, -⟩
    · exact Or.inl q.2.2
    · exact Or.inr q
  · rcases hT with ⟨q, e⟩ | ⟨q, e⟩
    · exact Or.inl ⟨q.2.2, e⟩
    · exact Or.inr ⟨q.1 r hr.1 hr.2, e⟩

