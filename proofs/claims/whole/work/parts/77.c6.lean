theorem shC.eq {S S' : Sto} {u : Nat} {P : Int → Int → Prop} (h : shC S u P) (e1 : S'.1 u = S.1 u) (e2 : S'.1 (u + 1) = S.1 (u + 1)) (e3 : S'.2.2 u = S.2.2 u) (e4 : S'.2.1 (u + 1) = S.2.1 (u + 1)) : shC S' u P := by
  unfold shC at h ⊢
  rw [e1, e2, e3, e4]; exact h
def seqN (S S' : Sto) (s a n : Nat) : Prop := (∀ t, S'.1 t = if t = s + 1 then some (100, n) else S.1 t) ∧ (∀ t, t ≠ s + 1 → S'.2.1 t = S.2.1 t) ∧ (∀ t, t ≠ s → t ≠ s + 1 → S'.2.2 t = S.2.2 t) ∧ S'.2.2 s 0 = some a ∧ S'.2.2 s 1 = some (s + 1)
theorem seqN.upd {S S' : Sto} {s a n : Nat} (h : seqN S S' s a n) {j : Nat} {v : Int} : seqN S (updI S' (s + 1) j v) s a n :=
  ⟨h.1, fun t ht => by
    funext k
    rw [updI_2, if_neg (fun q => ht q.1), h.2.1 t ht], h.2.2.1, h.2.2.2⟩
theorem seqN.sh {S S' : Sto} {s a n u : Nat} {P : Int → Int → Prop} (h : seqN S S' s a n) (hs : S.1 s = some (3, 2)) (hn : S.1 (s + 1) = none) (hC : shC S u P) : shC S' u P := by
  have n1 : ∀ t y, S.1 t = some y → t ≠ s + 1 := fun t y e q => by rw [q, hn] at e; cases e
  have u1 := n1 _ _ hC.1
  have u2 := n1 _ _ hC.2.2.1
  exact hC.eq (by rw [h.1, if_neg u1]) (by rw [h.1, if_neg u2]) (h.2.2.1 u (fun q => by have := hC.1; rw [q, hs] at this; cases this) u1) (h.2.1 _ u2)
def ndQ (P : Nat → Int → Int → Prop) (nd : Nat → Nat) (n : Nat) : Prop := ∀ q : Nat, q < n → nd q < 128 ∧ ∀ j : Nat, (nd q).testBit j = true ↔ j < q ∧ metQ (P j) (P q)
def s_seqInit : Spec := fun as S post => match as with
  | [.inr (.inr (some s)), .inr (.inr (some a))] => ∃ (n : Nat) (u : Nat → Nat) (P : Nat → Int → Int → Prop), (S.1 s = some (3, 2) ∧ S.1 (s + 1) = none ∧ S.1 a = some (114, n) ∧ 1 ≤ n ∧ n ≤ 7) ∧ (∀ k, k < n → S.2.2 a k = some (u k) ∧ shC S (u k) (P k)) ∧
    ∀ S' nd, seqN S S' s a n → ndQ P nd n → (∀ k, k < n → S'.2.1 (s + 1) k = nd k) → post (.inl none) S'
  | _ => False
def spX3_init : Nat → CD := spF mdX3_init fun i => match i with
  | 1 => (s_meets, 0, 0, 1)
  | _ => noR
set_option maxHeartbeats 4000000 in
set_option maxRecDepth 100000 in
theorem sat_X3_init : Sat mX3_init s_seqInit 1 7 2 := by
  refine sat_of (E := eX3_init) (sp := spX3_init) (ini := true) (by decide +kernel) (fun h => by rfl) okX3_init (fun i => match i with
    | 1 => ⟨sat_X4_meets, Nat.le_of_ble_eq_true rfl⟩
    | i + 2 => ⟨sat_no _, Nat.le_of_ble_eq_true rfl⟩
    | 0 => ⟨sat_no _, Nat.le_of_ble_eq_true rfl⟩) ?_
  intro as S post h
  match as, h with
  | [.inr (.inr (some s)), .inr (.inr (some a))], h =>
    obtain ⟨n, u, P, ⟨p1, p2, p3, p4, p5⟩, hU, h⟩ := h
    have hsa : a ≠ s := fun q => by rw [q, p1] at p3; cases p3
    have hsa1 : a ≠ s + 1 := fun q => by rw [q, p2] at p3; cases p3
    refine bodyL [(19, fun ms L st S' cc => ∃ (k : Nat) (nd : Nat → Nat) (x3 : AV), L = [vT s, vT a, vI k, x3] ∧ st = [] ∧ cc = (1, n) ∧ ms = (7 - k) * 10 + 9 ∧ k ≤ n ∧ seqN S S' s a n ∧ (∀ q, q < n → S'.2.1 (s + 1) q = nd q) ∧ ndQ P nd k ∧ ∀ q, k ≤ q → nd q = 0),
      (27, fun ms L st S' cc => ∃ (k j : Nat) (nd : Nat → Nat), L = [vT s, vT a, vI k, vI j] ∧ st = [] ∧ cc = (1, n) ∧ ms = (7 - k) * 10 + (7 - j) ∧ k < n ∧ j ≤ k ∧ seqN S S' s a n ∧ (∀ q, q < n → S'.2.1 (s + 1) q = nd q) ∧ ndQ P nd k ∧ (nd k < 128 ∧ ∀ i : Nat, (nd k).testBit i = true ↔ i < j ∧ metQ (P i) (P k)) ∧ ∀ q, k < q → nd q = 0)] 100 120 rfl
      (List.forall_mem_cons.mpr ⟨?_, List.forall_mem_cons.mpr ⟨?_, fun q hq => by cases hq⟩⟩) ?_
    · rintro ms L st S' cc ⟨k, nd, x3, rfl, rfl, rfl, rfl, hk, hN, hv, hnd, h0⟩
      have hA : S'.1 a = some (114, n) := by rw [hN.1, if_neg hsa1]; exact p3
      repeat' (first
          | omega
          | with_reducible apply And.intro
          | (intro c9; (try simp only [mg, mf, colK, stK, clK, mnK, shN] at c9))
          | refine ⟨114, n, hA, by omega, ?_⟩
          | (simp only [mg, mf, colK, stK, clK, mnK, shN]; omega)
          | refine Exists.intro _ (And.intro rfl ?_)
          | ((with_reducible show wp _ _ _ _ _ _ _ _ _ _ _ _ _ _); conv => whnf)
          | ((with_reducible show callK _ _ _ _ _ _ _ _ _); conv => whnf)
          | ((with_reducible show condK _ _ _ _ _); conv => whnf)
          | ((with_reducible show st1 _ _ _ _ _ _ _ _ _ _ _ _); conv => whnf)
          | ((with_reducible show (Prod.fst _ : Spec) _ _ _); conv => whnf)
          | ((with_reducible show shortK _ _); conv => whnf)
          | exact Nat.le_of_ble_eq_true rfl)
      · exact h S' nd hN (by rw [show n = k by omega]; exact hnd) hv
      · exact ⟨(7 - k) * 10 + (7 - 0), by omega, k, 0, nd, rfl, rfl, rfl, rfl, by omega, by omega, hN, hv, hnd, ⟨by rw [h0 k (Nat.le_refl _)]; omega, fun i => by rw [h0 k (Nat.le_refl _)]; simp⟩, fun q hq => h0 q (by omega)⟩
    · rintro ms L st S' cc ⟨k, j, nd, rfl, rfl, rfl, rfl, hk, hj, hN, hv, hnd, ⟨hb, hbits⟩, h0⟩
      have hA : S'.1 a = some (114, n) := by rw [hN.1, if_neg hsa1]; exact p3
      have hS1 : S'.1 s = some (3, 2) := by rw [hN.1, if_neg (by omega)]; exact p1
      have hS2 : S'.1 (s + 1) = some (100, n) := by rw [hN.1, if_pos rfl]
      have hR := hN.2.2.2.2
      have uk := hU k hk
      have uj := fun z : j < k => hU j (by omega)
      have rk : S'.2.2 a (k : Int).toNat = some (u k) := by rw [Int.toNat_natCast, hN.2.2.1 a hsa hsa1]; exact uk.1
      have rj : j < k → S'.2.2 a (j : Int).toNat = some (u j) := fun z => by rw [Int.toNat_natCast, hN.2.2.1 a hsa hsa1]; exact (uj z).1
      have sk := hN.sh p1 p2 uk.2
      have sj := fun z : j < k => hN.sh p1 p2 (uj z).2
      have hvk : S'.2.1 (s + 1) k = nd k := hv k hk
      repeat' (first
          | omega
          | with_reducible apply And.intro
          | (intro c9; (try simp only [mg, mf, colK, stK, clK, mnK, shN] at c9))
          | refine ⟨114, n, hA, by omega, ?_⟩
          | exact ⟨114, n, hA, rfl, by omega, by omega⟩
          | exact ⟨2, hS1⟩
          | exact ⟨5, (sj (by omega)).1⟩
          | rw [rk]
          | rw [rj (by omega)]
          | refine ⟨P j, P k, sj (by omega), sk, ?_⟩
          | exact ⟨100, n, hS2, Or.inl rfl, by omega, by omega⟩
          | exact ⟨n, hS2, by omega, by omega⟩
          | (show n + 0 ≤ 7; omega)
          | (simp only [mg, mf, colK, stK, clK, mnK, shN]; omega)
          | refine Exists.intro _ (And.intro rfl ?_)
          | refine Exists.intro _ (And.intro ((rj (by omega))) ?_)
          | refine Exists.intro _ (And.intro (hR) ?_)
          | ((with_reducible show wp _ _ _ _ _ _ _ _ _ _ _ _ _ _); conv => whnf)
          | ((with_reducible show callK _ _ _ _ _ _ _ _ _); conv => whnf)
          | ((with_reducible show condK _ _ _ _ _); conv => whnf)
          | ((with_reducible show st1 _ _ _ _ _ _ _ _ _ _ _ _); conv => whnf)
          | ((with_reducible show (Prod.fst _ : Spec) _ _ _); conv => whnf)
          | ((with_reducible show shortK _ _); conv => whnf)
          | exact Nat.le_of_ble_eq_true rfl)
      · have e : j = k := by omega
        subst e
        refine ⟨(7 - (j + 1)) * 10 + 9, by omega, j + 1, nd, _, by rw [Int.natCast_add]; rfl, rfl, rfl, rfl, by omega, hN, hv, fun q hq => ?_, fun q hq => h0 q (by omega)⟩
        by_cases e2 : q = j
        · rw [e2]; exact ⟨hb, hbits⟩
        · exact hnd q (by omega)
      · exact ⟨(7 - k) * 10 + (7 - (j + 1)), by omega, k, j + 1, nd, by rw [Int.natCast_add]; rfl, rfl, rfl, rfl, hk, by omega, hN, hv, hnd, ⟨hb, fun i => by
          rw [hbits i]
          constructor
          · rintro ⟨q1, q2⟩; exact ⟨by omega, q2⟩
          · rintro ⟨q1, q2⟩
            refine ⟨?_, q2⟩
            by_cases e : i = j
            · rw [e] at q2; exact absurd q2 (isB0 ‹isB _ (metQ (P j) (P k))› c9)
            · omega⟩, h0⟩
      · have hmet := isB1 ‹isB _ (metQ (P j) (P k))› c9
        have e1 := bz_or (nd k) j hb (by omega)
        rw [← hvk] at e1
        refine ⟨(7 - k) * 10 + (7 - (j + 1)), by omega, k, j + 1, fun q => if q = k then nd k ||| 2 ^ j else nd q, by rw [Int.natCast_add]; rfl, rfl, rfl, rfl, hk, by omega, hN.upd, fun q hq => ?_, fun q hq => ?_, ?_, fun q hq => ?_⟩
        · rw [updI_2]
          by_cases e : q = k
          · rw [if_pos ⟨rfl, by omega⟩]
            show _ = (((if q = k then nd k ||| 2 ^ j else nd q) : Nat) : Int)
            rw [if_pos e, Int.toNat_natCast, e1]
          · rw [if_neg (by rintro ⟨-, z⟩; omega)]
            show _ = (((if q = k then nd k ||| 2 ^ j else nd q) : Nat) : Int)
            rw [if_neg e]; exact hv q hq
        · show (if q = k then nd k ||| 2 ^ j else nd q) < 128 ∧ ∀ i : Nat, (if q = k then nd k ||| 2 ^ j else nd q).testBit i = true ↔ i < q ∧ metQ (P i) (P q)
          rw [if_neg (by omega)]; exact hnd q hq
        · show (if k = k then nd k ||| 2 ^ j else nd k) < 128 ∧ ∀ i : Nat, (if k = k then nd k ||| 2 ^ j else nd k).testBit i = true ↔ i < j + 1 ∧ metQ (P i) (P k)
          rw [if_pos rfl]
          refine ⟨Nat.or_lt_two_pow (n := 7) hb (Nat.pow_lt_pow_right (by omega) (by omega)), fun i => ?_⟩
          rw [Nat.testBit_or, Nat.testBit_two_pow, Bool.or_eq_true, decide_eq_true_eq, hbits i]
          constructor
          · rintro (⟨q1, q2⟩ | q1)
            · exact ⟨by omega, q2⟩
            · subst q1; exact ⟨by omega, hmet⟩
          · rintro ⟨q1, q2⟩
            by_cases e : j = i
            · exact Or.inr e
            · exact Or.inl ⟨by omega, q2⟩
        · show (if q = k then nd k ||| 2 ^ j else nd q) = 0
          rw [if_neg (by omega)]; exact h0 q hq
    · have hX : ∃ m, (newS (updR S s 0 (some a)) (s + 1) (100, (n : Int).toNat)).1 s = some (3, m) := ⟨2, by rw [newS_1, if_neg (by omega)]; exact p1⟩
      repeat' (first
          | omega
          | with_reducible apply And.intro
          | (intro c9; (try simp only [mg, mf, colK, stK, clK, mnK, shN] at c9))
          | exact ⟨2, p1⟩
          | refine ⟨114, n, p3, by omega, ?_⟩
          | refine Exists.intro (s + 1) (And.intro p2 ?_)
          | exact hX
          | (simp only [mg, mf, colK, stK, clK, mnK, shN]; omega)
          | refine Exists.intro _ (And.intro rfl ?_)
          | ((with_reducible show wp _ _ _ _ _ _ _ _ _ _ _ _ _ _); conv => whnf)
          | ((with_reducible show callK _ _ _ _ _ _ _ _ _); conv => whnf)
          | ((with_reducible show condK _ _ _ _ _); conv => whnf)
          | ((with_reducible show st1 _ _ _ _ _ _ _ _ _ _ _ _); conv => whnf)
          | ((with_reducible show (Prod.fst _ : Spec) _ _ _); conv => whnf)
          | ((with_reducible show shortK _ _); conv => whnf)
          | exact Nat.le_of_ble_eq_true rfl)
      refine ⟨79, by omega, 0, fun _ => 0, _, rfl, rfl, by rw [Int.toNat_natCast]; show (0 + 1, 0 + n) = _; rw [Nat.zero_add, Nat.zero_add], rfl, by omega, ⟨fun t => ?_, fun t ht => ?_, fun t t1 t2 => ?_, ?_, ?_⟩, fun q hq => ?_, fun q hq => absurd hq (by omega), fun q _ => rfl⟩
      · rw [Int.toNat_natCast]; rfl
      · funext j
        show (newS (updR S s 0 (some a)) (s + 1) (100, (n : Int).toNat)).2.1 t j = S.2.1 t j
        rw [newS_2, if_neg ht]; rfl
      · funext j
        rw [updR_3, if_neg (fun z => t1 z.1), newS_3, if_neg t2, updR_3, if_neg (fun z => t1 z.1)]
      · rw [updR_3, if_neg (by omega), newS_3, if_neg (by omega), updR_3, if_pos ⟨rfl, rfl⟩]
      · rw [updR_3, if_pos ⟨rfl, rfl⟩]
      · show (newS (updR S s 0 (some a)) (s + 1) (100, (n : Int).toNat)).2.1 (s + 1) q = ((0 : Nat) : Int)
        rw [newS_2, if_pos rfl]; rfl
