/-- j stitches of one colour, from R to R' -/
def stG (R R' : Sto) (m o d c th r j : Int) : Prop := agr [17, 18, 19, 20, 21, 22, 26, 27, 28, 29] R R' ∧
  (∀ i, 0 ≤ i → mg R' 22 i = if i = th then mg R 22 th - j else mg R 22 i) ∧
  (∀ i, 0 ≤ i → mg R' 19 i = if i = m then mg R 19 m + j else mg R 19 i) ∧
  (∀ i, 0 ≤ i → mg R' 18 i = if i = m ∧ hdK R m r ≠ c then mg R 18 m + 1 else mg R 18 i) ∧
  (∀ i, 0 ≤ i → mg R' 20 i = if i = 6 * m + r then c else mg R 20 i) ∧
  (∀ i, 0 ≤ i → mg R' 21 i = if i = 6 * m + r then mg R 19 m + j else mg R 21 i) ∧
  (∀ i, 0 ≤ i → mg R' 29 i = if i = o then (if mg R 29 o + j = mnK R d then 0 else mg R 29 o + j) else mg R 29 i) ∧
  (∀ i, 0 ≤ i → mg R' 28 i = if i = o ∧ mg R 29 o + j = mnK R d then mg R 28 o + 1 else mg R 28 i) ∧
  (∀ i, 0 ≤ i → mg R' 26 i = if i = o ∧ mg R 29 o + j = mnK R d ∧ mg R 28 o + 1 = mg R 25 o then 2 else mg R 26 i) ∧
  (∀ i, 0 ≤ i → mg R' 17 i = if i = m ∧ mg R 29 o + j = mnK R d ∧ mg R 28 o + 1 = mg R 25 o then -1 else mg R 17 i) ∧
  (∀ i, 0 ≤ i → mg R' 27 i = if i = o ∧ mg R 29 o + j = mnK R d ∧ mg R 28 o + 1 = mg R 25 o then -1 else mg R 27 i)
theorem stG_s {R R1 R2 : Sto} {m o d c th r j : Int} (m0 : 0 ≤ m) (o0 : 0 ≤ o) (th0 : 0 ≤ th) (r0 : 0 ≤ r) (h : stG R R1 m o d c th r j) (hne : mg R 29 o + j ≠ mnK R d) (h2 : stF R1 R2 m o d c th r) : stG R R2 m o d c th r (j + 1) := by
  obtain ⟨a, g22, g19, g18, g20, g21, g29, g28, g26, g17, g27⟩ := h
  obtain ⟨b, f22, f19, f18, f20, f21, f29, f28, f26, f17, f27⟩ := h2
  have hd1 : hdK R1 m r = c := by
    have := g20 (6 * m + r) (by omega)
    rw [if_pos rfl] at this
    exact this
  have e10 : mnK R1 d = mnK R d := a.mg (by simp)
  have e25 : mg R1 25 o = mg R 25 o := a.mg (by simp)
  have x29 : mg R1 29 o = mg R 29 o + j := by rw [g29 o o0, if_pos rfl, if_neg hne]
  have x28 : ∀ i, 0 ≤ i → mg R1 28 i = mg R 28 i := fun i i0 => by rw [g28 i i0, if_neg (fun q => hne q.2)]
  have x26 : ∀ i, 0 ≤ i → mg R1 26 i = mg R 26 i := fun i i0 => by rw [g26 i i0, if_neg (fun q => hne q.2.1)]
  have x17 : ∀ i, 0 ≤ i → mg R1 17 i = mg R 17 i := fun i i0 => by rw [g17 i i0, if_neg (fun q => hne q.2.1)]
  have x27 : ∀ i, 0 ≤ i → mg R1 27 i = mg R 27 i := fun i i0 => by rw [g27 i i0, if_neg (fun q => hne q.2.1)]
  refine ⟨a.trans b, fun i i0 => ?_, fun i i0 => ?_, fun i i0 => ?_, fun i i0 => ?_, fun i i0 => ?_, fun i i0 => ?_, fun i i0 => ?_, fun i i0 => ?_, fun i i0 => ?_, fun i i0 => ?_⟩
  · rw [f22 i i0, g22 th th0, g22 i i0, if_pos rfl]
    by_cases e : i = th
    · rw [if_pos e, if_pos e]; omega
    · rw [if_neg e, if_neg e, if_neg e]
  · rw [f19 i i0, g19 m m0, g19 i i0, if_pos rfl]
    by_cases e : i = m
    · rw [if_pos e, if_pos e]; omega
    · rw [if_neg e, if_neg e, if_neg e]
  · rw [f18 i i0, if_neg (fun q => q.2 hd1), g18 i i0]
  · rw [f20 i i0, g20 i i0]
    by_cases e : i = 6 * m + r <;> simp [e]
  · rw [f21 i i0, g19 m m0, if_pos rfl, g21 i i0]
    by_cases e : i = 6 * m + r
    · rw [if_pos e, if_pos e]; omega
    · rw [if_neg e, if_neg e, if_neg e]
  · rw [f29 i i0, x29, e10, g29 i i0]
    by_cases e : i = o
    · rw [if_pos e, if_pos e, Int.add_assoc]
    · rw [if_neg e, if_neg e, if_neg e]
  · rw [f28 i i0, x29, e10, x28 o o0, x28 i i0, Int.add_assoc]
  · rw [f26 i i0, x29, e10, x28 o o0, e25, x26 i i0, Int.add_assoc]
  · rw [f17 i i0, x29, e10, x28 o o0, e25, x17 i i0, Int.add_assoc]
  · rw [f27 i i0, x29, e10, x28 o o0, e25, x27 i i0, Int.add_assoc]
theorem stG_job {R R1 : Sto} {m o d c th r j : Int} (h : stG R R1 m o d c th r j) (m0 : 0 ≤ m) (o0 : 0 ≤ o) (th0 : 0 ≤ th) (ho : jbO R m = o) (hd : jbD R m = d) (hth : 3 * c + mg R 31 (6 * o + c) = th) (hne : mg R 29 o + j ≠ mnK R d) (hc : clK R d (mg R 29 o + j) = c) : jbO R1 m = o ∧ jbD R1 m = d ∧ jbC R1 m = c ∧ jbT R1 m = th ∧ mg R1 22 th = mg R 22 th - j := by
  obtain ⟨a, g22, g19, g18, g20, g21, g29, g28, g26, g17, g27⟩ := h
  have e1 : jbO R1 m = o := by
    show mg R1 17 m = o
    rw [g17 m m0, if_neg (fun q => hne q.2.1)]; exact ho
  have e2 : jbD R1 m = d := by
    show mg R1 24 (jbO R1 m) = d
    rw [e1, a.mg (by simp), ← hd, ← ho]
  have x29 : mg R1 29 o = mg R 29 o + j := by rw [g29 o o0, if_pos rfl, if_neg hne]
  have e3 : jbC R1 m = c := by
    show clK R1 (jbD R1 m) (mg R1 29 (jbO R1 m)) = c
    rw [e2, e1, x29, a.cl (by simp) (by simp)]; exact hc
  have e4 : jbT R1 m = th := by
    show 3 * jbC R1 m + mg R1 31 (6 * jbO R1 m + jbC R1 m) = th
    rw [e3, e1, a.mg (k := 31) (by simp)]; exact hth
  exact ⟨e1, e2, e3, e4, by rw [g22 th th0, if_pos rfl]⟩
/-- a chain of stitches within a stretch of one colour -/
theorem stretch {n : Int} {ch : Nat → Sto} {L k : Nat} {m o d c th : Int} (hM : ∀ i : Nat, i < L → MI n (ch i)) (m0 : 0 ≤ m) (m1 : ∀ i : Nat, i < L → m < nM (ch i)) (hs : ∀ i : Nat, i < L → stepP (ch i) m (ch (i + 1))) (ho : jbO (ch 0) m = o) (hd : jbD (ch 0) m = d) (hth : 3 * c + mg (ch 0) 31 (6 * o + c) = th) (th0 : 0 ≤ th)
    (hcol : ∀ j : Nat, j < k → clK (ch 0) d (mg (ch 0) 29 o + j) = c) (hend : mg (ch 0) 29 o + k ≤ mnK (ch 0) d) (L1 : 1 ≤ L) (Lk : L ≤ k) : ∃ r : Int, (0 ≤ r ∧ r < mg (ch 0) 14 m) ∧ (hdK (ch 0) m r = c ∨ newP (ch 0) m c r) ∧ ∀ j : Nat, 1 ≤ j → j ≤ L → stG (ch 0) (ch j) m o d c th r j := by
  have hc0 : jbC (ch 0) m = c := by
    show clK (ch 0) (jbD (ch 0) m) (mg (ch 0) 29 (jbO (ch 0) m)) = c
    have := hcol 0 (by omega)
    rw [hd, ho]
    rw [show mg (ch 0) 29 o + ((0 : Nat) : Int) = mg (ch 0) 29 o by omega] at this
    exact this
  have ht0 : jbT (ch 0) m = th := by
    show 3 * jbC (ch 0) m + mg (ch 0) 31 (6 * jbO (ch 0) m + jbC (ch 0) m) = th
    rw [hc0, ho]; exact hth
  obtain ⟨r, hr, hcc, t0, j0, F⟩ := stepP_F (hM 0 (by omega)) m0 (m1 0 (by omega)) (hs 0 (by omega))
  rw [hc0] at hcc F
  rw [ho] at F j0
  rw [hd, ht0] at F
  refine ⟨r, hr, hcc, fun j => ?_⟩
  induction j with
  | zero => intro a; omega
  | succ j ih =>
    intro _ hj
    by_cases e : j = 0
    · subst e; exact F
    · have G := ih (by omega) (by omega)
      have hne : mg (ch 0) 29 o + (j : Int) ≠ mnK (ch 0) d := by omega
      obtain ⟨y1, y2, y3, y4, y5⟩ := stG_job G m0 j0 th0 ho hd hth hne (hcol j (by omega))
      obtain ⟨r', hr', hcc', -, -, F'⟩ := stepP_F (hM j (by omega)) m0 (m1 j (by omega)) (hs j (by omega))
      rw [y1] at F'
      rw [y2, y4] at F'
      rw [y3] at hcc' F'
      have hdr : hdK (ch j) m r = c := by
        have := G.2.2.2.2.1 (6 * m + r) (by omega)
        rw [if_pos rfl] at this
        exact this
      have e14 : mg (ch j) 14 m = mg (ch 0) 14 m := G.1.mg (by simp)
      have hmac := (hM j (by omega)).2.2.2.2.1 m m0 (m1 j (by omega))
      have c0 : 0 ≤ c := by
        have := ((hM j (by omega)).job m0 (m1 j (by omega)) (by rw [y1]; exact j0)).2.2.2.2.2.2.1.1
        rw [y3] at this
        exact this
      have err : r' = r := by
        rcases hcc' with w | w
        · have hdist := hmac.2.2.2.2.2.2.1
          have h6 := hmac.1.2
          rcases (show r' = r ∨ r' < r ∨ r < r' by omega) with v | v | v
          · exact v
          · exact absurd (w.trans hdr.symm) ((hdist r' r hr'.1 v (by omega)).1 (by omega))
          · exact absurd (hdr.trans w.symm) ((hdist r r' hr.1 v (by omega)).1 (by omega))
        · exact absurd hdr (w.1 r hr.1 (by omega))
      subst err
      exact stG_s m0 j0 th0 hr.1 G hne F'
theorem min_ex (f : Nat → Int) : ∀ n : Nat, 1 ≤ n → ∃ r, r < n ∧ ∀ k, k < n → f r ≤ f k
  | 1, _ => ⟨0, by omega, fun k hk => by rw [show k = 0 by omega]; exact Int.le_refl _⟩
  | n + 2, _ => by
    obtain ⟨r, h1, h2⟩ := min_ex f (n + 1) (by omega)
    by_cases e : f r ≤ f (n + 1)
    · refine ⟨r, by omega, fun k hk => ?_⟩
      rcases (show k < n + 1 ∨ k = n + 1 by omega) with w | w
      · exact h2 k w
      · rw [w]; exact e
    · refine ⟨n + 1, by omega, fun k hk => ?_⟩
      rcases (show k < n + 1 ∨ k = n + 1 by omega) with w | w
      · have := h2 k w; omega
      · rw [w]; exact Int.le_refl _
theorem fst_ex (P : Nat → Prop) : ∀ n : Nat, (∃ k, k < n ∧ P k) → ∃ r, r < n ∧ P r ∧ ∀ k, k < r → ¬ P k
  | 0, h => by obtain ⟨k, h1, -⟩ := h; omega
  | n + 1, h => by
    by_cases e : ∃ k, k < n ∧ P k
    · obtain ⟨r, h1, h2, h3⟩ := fst_ex P n e
      exact ⟨r, by omega, h2, h3⟩
    · obtain ⟨k, h1, h2⟩ := h
      have hk : k = n := by
        rcases (show k < n ∨ k = n by omega) with w | w
        · exact absurd ⟨k, w, h2⟩ e
        · exact w
      subst hk
      exact ⟨k, by omega, h2, fun q hq z => e ⟨q, hq, z⟩⟩
/-- where there is an order and thread, a stitch is sewn -/
theorem step_ex {n : Int} {R : Sto} {m : Int} (h : MI n R) (m0 : 0 ≤ m) (m1 : m < nM R) (j0 : 0 ≤ jbO R m) (t0 : 0 < mg R 22 (jbT R m)) : ∃ R', stepP R m R' := by
  have h14 := (h.2.2.2.2.1 m m0 m1).1
  obtain ⟨a, ha⟩ : ∃ a : Nat, mg R 14 m = a := ⟨_, (Int.toNat_of_nonneg (by omega)).symm⟩
  have key : ∃ r, hadP R m (jbC R m) r ∨ newP R m (jbC R m) r := by
    by_cases e1 : ∃ k : Nat, k < a ∧ hdK R m k = jbC R m
    · obtain ⟨k, k1, k2⟩ := e1
      exact ⟨k, Or.inl ⟨by omega, by omega, k2⟩⟩
    · have n1 : ∀ k, 0 ≤ k → k < mg R 14 m → hdK R m k ≠ jbC R m := fun k k0 k1 z => e1 ⟨k.toNat, by omega, by rw [Int.toNat_of_nonneg k0]; exact z⟩
      by_cases e2 : ∃ k : Nat, k < a ∧ hdK R m k = -1
      · obtain ⟨r, r1, r2, r3⟩ := fst_ex (fun k => hdK R m k = -1) a e2
        exact ⟨r, Or.inr ⟨n1, by omega, by omega, Or.inl ⟨r2, fun k k0 k1 z => r3 k.toNat (by omega) (by show hdK R m (k.toNat : Nat) = -1; rw [Int.toNat_of_nonneg k0]; exact z)⟩⟩⟩
      · obtain ⟨r, r1, r2⟩ := min_ex (fun k => ltK R m k) a (by omega)
        refine ⟨r, Or.inr ⟨n1, by omega, by omega, Or.inr ⟨fun k k0 k1 z => e2 ⟨k.toNat, by omega, by rw [Int.toNat_of_nonneg k0]; exact z⟩, fun k k0 k1 => ?_⟩⟩⟩
        have y : ltK R m r ≤ ltK R m (k.toNat : Nat) := r2 k.toNat (by omega)
        rw [Int.toNat_of_nonneg k0] at y
        exact y
  obtain ⟨r, w⟩ := key
  rcases w with w | w
  · exact ⟨_, j0, t0, r, _, Or.inl ⟨w, rfl⟩, rfl⟩
  · exact ⟨_, j0, t0, r, _, Or.inr ⟨w, rfl⟩, rfl⟩

