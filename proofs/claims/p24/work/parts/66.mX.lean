theorem swV_p {U : Sto} {o d : Int} (h : mg U 29 o = mnK U d) : swV U o d = sw6 (sw5 U o) o := if_pos h
theorem swV_n {U : Sto} {o d : Int} (h : mg U 29 o ≠ mnK U d) : swV U o d = U := if_neg h
theorem swW_p {V : Sto} {o : Int} (h : mg V 28 o = mg V 25 o) : swW V o = lvU (updI V (mt 26) o.toNat 2) o := if_pos h
theorem swW_n {V : Sto} {o : Int} (h : mg V 28 o ≠ mg V 25 o) : swW V o = V := if_neg h
def tP (S T : Sto) (m c r : Int) : Prop := (hadP S m c r ∧ T = S) ∨ (newP S m c r ∧ T = headU S m c r)
theorem tP_f {S T : Sto} {m c r : Int} (h : tP S T m c r) : agr [18, 20] S T ∧ 0 ≤ r ∧ r < mg S 14 m := by
  rcases h with ⟨q, rfl⟩ | ⟨q, rfl⟩
  · exact ⟨agr.rf, q.1, q.2.1⟩
  · exact ⟨(agr.rf.upd (by simp)).upd (by simp), q.2.1, q.2.2.1⟩
theorem swU_g {T : Sto} {m o th r : Int} {k : Nat} {i : Int} (hk : k = 10 ∨ k = 25 ∨ k = 27 ∨ k = 28) : mg (swU T m o th r) k i = mg T k i := by
  rcases hk with rfl | rfl | rfl | rfl <;> simp [swU, sw4, sw3, sw2, sw1, mgU]
theorem swU_p {T : Sto} {m o th r : Int} : mg (swU T m o th r) 29 o = mg T 29 o + 1 := by simp [swU, sw4, sw3, sw2, sw1, mgU]
theorem swV_g {U : Sto} {o d : Int} {k : Nat} {i : Int} (hk : k = 25 ∨ k = 27) : mg (swV U o d) k i = mg U k i := by
  unfold swV
  split
  · rcases hk with rfl | rfl <;> simp [sw5, sw6, mgU]
  · rfl
theorem swV_w {U : Sto} {o d : Int} : mg (swV U o d) 28 o = mg U 28 o ∨ mg (swV U o d) 28 o = mg U 28 o + 1 := by
  unfold swV
  split
  · right; simp [sw5, sw6, mgU]
  · left; rfl
theorem swV_MS {U : Sto} {o d : Int} (h : MS U) : MS (swV U o d) := by
  unfold swV
  split
  · exact h
  · exact h
def s_sewsOne : Spec := fun as S post => match as with
  | [.inr (.inr (some 2)), .inl m] => (∃ n, MI n S) ∧ (0 ≤ m ∧ m < nM S ∧ 0 ≤ jbO S m) ∧ (mg S 22 (jbT S m) = 0 → post (.inl (some (vI 0))) S) ∧ ∀ S', stepP S m S' → post (.inl (some (vI 1))) S'
  | _ => False
/-- a machine sews: the steps, and where they end -/
def runR (S : Sto) (m s k v : Int) (S' : Sto) : Prop := k = (if ¬ (0 ≤ m ∧ m < nM S) then 1 else if ¬ (1 ≤ s ∧ s ≤ 100000) then 2 else if mg S 17 m = -1 then 3 else 0) ∧ (k ≠ 0 → S' = thr S k) ∧
  (k = 0 → ∃ ch : Nat → Sto, ch 0 = thr S 0 ∧ 0 ≤ v ∧ v ≤ s ∧ ch v.toNat = S' ∧ (∀ i : Nat, (i : Int) < v → stepP (ch i) m (ch (i + 1))) ∧ (v = s ∨ mg S' 17 m = -1 ∨ (0 ≤ jbO S' m ∧ mg S' 22 (jbT S' m) = 0)))
theorem MI.up {n : Int} {S : Sto} (h : MI n S) (hn : n + 1 ≤ 15000) : MI (n + 1) S := by
  obtain ⟨hM, hN, hdr, hde, hma, hor, hfr, hst⟩ := h
  refine ⟨hM, by omega, hdr, hde, fun i i0 i1 => ?_, fun o o0 o1 => ?_, hfr, hst⟩
  · obtain ⟨b14, b15, b16, b18, b19, b⟩ := hma i i0 i1
    exact ⟨b14, b15, b16, by omega, by omega, b⟩
  · obtain ⟨b1, b2, b3, b4, b5, b6, b7⟩ := hor o o0 o1
    exact ⟨b1, b2, b3, b4, b5, by omega, b7⟩
theorem th_row {S : Sto} {q k its row : Int} : ∀ n, rowK (thr S q) k its row n = rowK S k its row n
  | 0 => rfl
  | n + 1 => by unfold rowK; rw [th_row n]; rfl
theorem th_rows {S : Sto} {q k its : Int} : ∀ n, rowsK (thr S q) k its n = rowsK S k its n
  | 0 => rfl
  | n + 1 => by unfold rowsK; rw [th_rows n, th_row]; rfl
theorem th_edge {S : Sto} {q k its : Int} : ∀ n, edgeK (thr S q) k its n = edgeK S k its n
  | 0 => rfl
  | n + 1 => by unfold edgeK; rw [th_edge n]; rfl
theorem th_stL {S : Sto} {q k its : Int} : stL (thr S q) k its = stL S k its := by unfold stL; rw [th_rows, th_edge]; rfl
theorem th_dst {S : Sto} {q d : Int} : ∀ n, dstL (thr S q) d n = dstL S d n
  | 0 => rfl
  | n + 1 => by unfold dstL; rw [th_dst n, th_stL]; rfl
theorem th_des {S : Sto} {q d : Int} (h : desI S d) : desI (thr S q) d := by
  obtain ⟨h1, ⟨nd, h2, h3⟩, h4, h5⟩ := h
  refine ⟨h1, ⟨nd, h2, h3⟩, ?_, fun j v hj => ?_⟩
  · rw [th_dst]; exact h4
  · rw [th_dst] at hj; exact h5 j v hj
theorem MI.th0 {n : Int} {S : Sto} (h : MI n S) {k : Int} : MI n (thr S k) := by
  obtain ⟨hM, hN, hdr, hde, hma, hor, hfr, hst⟩ := h
  exact ⟨hM, hN, hdr, fun d d0 d1 => th_des (hde d d0 d1), hma, hor, hfr, hst⟩
theorem run_MI {n m : Int} {ch : Nat → Sto} (h : MI (n + 1) (ch 0)) (m0 : 0 ≤ m) (m1 : m < nM (ch 0)) (hb : mg (ch 0) 19 m ≤ 120000 * n ∧ mg (ch 0) 18 m ≤ 120000 * n) : ∀ k : Nat, k ≤ 100000 → (∀ i : Nat, i < k → stepP (ch i) m (ch (i + 1))) → MI (n + 1) (ch k) ∧ nM (ch k) = nM (ch 0) ∧ mg (ch k) 19 m ≤ 120000 * n + k ∧ mg (ch k) 18 m ≤ 120000 * n + k
  | 0, _, _ => ⟨h, rfl, by omega, by omega⟩
  | k + 1, hk, hs => by
    obtain ⟨a, b, c, d⟩ := run_MI h m0 m1 hb k (by omega) (fun i hi => hs i (by omega))
    obtain ⟨x, y, z, w⟩ := stepP_MI a m0 (by omega) (hs k (by omega)) (by omega)
    exact ⟨x, by omega, by omega, by omega⟩
def s_run : Spec := fun as S post => match as with
  | [.inr (.inr (some 2)), .inl m, .inl s] => (∃ n, MI n S ∧ n + 1 ≤ 15000) ∧ (InR m ∧ InR s) ∧ ∀ k v S', runR S m s k v S' → post (.inl (some (vI v))) S'
  | _ => False
