theorem shC.eq {S S' : Sto} {u : Nat} {P : Int → Int → Prop} (h : shC S u P) (e1 : S'.1 u = S.1 u) (e2 : S'.1 (u + 1) = S.1 (u + 1)) (e3 : S'.2.2 u = S.2.2 u) (e4 : S'.2.1 (u + 1) = S.2.1 (u + 1)) : shC S' u P := by
  unfold shC at h ⊢
  rw [e1, e2, e3, e4]; exact h
def seqN (S S' : Sto) (s a n : Nat) : Prop := (∀ t, S'.1 t = if t = s + 1 then some (100, n) else if t = s + 5 then some (100, n) else S.1 t) ∧ (∀ t, t ≠ s + 1 → t ≠ s + 5 → S'.2.1 t = S.2.1 t) ∧ (∀ t, t ≠ s → t ≠ s + 1 → t ≠ s + 5 → S'.2.2 t = S.2.2 t) ∧ S'.2.2 s 0 = some a ∧ S'.2.2 s 1 = some (s + 1) ∧ S'.2.2 s 2 = some (s + 5)
theorem seqN.upd {S S' : Sto} {s a n : Nat} (h : seqN S S' s a n) {f j : Nat} {v : Int} (hf : f = s + 1 ∨ f = s + 5) : seqN S (updI S' f j v) s a n :=
  ⟨h.1, fun t ht ht5 => by
    funext k
    rw [updI_2, if_neg (fun q => by omega), h.2.1 t ht ht5], h.2.2.1, h.2.2.2⟩
theorem seqN.sh {S S' : Sto} {s a n u : Nat} {P : Int → Int → Prop} (h : seqN S S' s a n) (hs : S.1 s = some (3, 3)) (hn : S.1 (s + 1) = none) (hn5 : S.1 (s + 5) = none) (hC : shC S u P) : shC S' u P := by
  have n1 : ∀ t y, S.1 t = some y → t ≠ s + 1 := fun t y e q => by rw [q, hn] at e; cases e
  have n5 : ∀ t y, S.1 t = some y → t ≠ s + 5 := fun t y e q => by rw [q, hn5] at e; cases e
  have u1 := n1 _ _ hC.1
  have u2 := n1 _ _ hC.2.2.1
  have u3 := n5 _ _ hC.1
  have u4 := n5 _ _ hC.2.2.1
  exact hC.eq (by rw [h.1, if_neg u1, if_neg u3]) (by rw [h.1, if_neg u2, if_neg u4]) (h.2.2.1 u (fun q => by have := hC.1; rw [q, hs] at this; cases this) u1 u3) (h.2.1 _ u2 u4)
def ndQ (P : Nat → Int → Int → Prop) (nd : Nat → Nat) (n : Nat) : Prop := ∀ q : Nat, q < n → nd q < 128 ∧ ∀ j : Nat, (nd q).testBit j = true ↔ j < q ∧ metQ (P j) (P q)
theorem metQ.sym {P Q : Int → Int → Prop} (h : metQ P Q) : metQ Q P := by
  obtain ⟨c, c1, c2, c3, c4⟩ := h
  exact ⟨c, c1, c2, c4, c3⟩
/-- a number's bits -/
def bitR (w : Nat) (Q : Nat → Prop) : Prop := w < 128 ∧ ∀ i : Nat, w.testBit i = true ↔ Q i
theorem bitR.skip {w j : Nat} {Q : Nat → Prop} (h : bitR w (fun i => i < j ∧ Q i)) (hq : ¬ Q j) : bitR w (fun i => i < j + 1 ∧ Q i) := ⟨h.1, fun i => by
  rw [h.2 i]
  constructor
  · rintro ⟨a, b⟩; exact ⟨by omega, b⟩
  · rintro ⟨a, b⟩
    refine ⟨?_, b⟩
    by_cases e : i = j
    · rw [e] at b; exact absurd b hq
    · omega⟩
theorem bitR.add {w j : Nat} {Q : Nat → Prop} (h : bitR w (fun i => i < j ∧ Q i)) (hj : j < 7) (hq : Q j) : bitR (w ||| 2 ^ j) (fun i => i < j + 1 ∧ Q i) := by
  refine ⟨Nat.or_lt_two_pow (n := 7) h.1 (Nat.pow_lt_pow_right (by omega) hj), fun i => ?_⟩
  rw [Nat.testBit_or, Nat.testBit_two_pow, Bool.or_eq_true, decide_eq_true_eq, h.2 i]
  constructor
  · rintro (⟨q1, q2⟩ | q1)
    · exact ⟨by omega, q2⟩
    · subst q1; exact ⟨by omega, hq⟩
  · rintro ⟨q1, q2⟩
    by_cases e : j = i
    · exact Or.inr e
    · exact Or.inl ⟨by omega, q2⟩
/-- rows of bits in an array: those ahead of k whole, the row k up to j -/
def rowsI (S' : Sto) (t n k j : Nat) (Q : Nat → Nat → Prop) : Prop := ∀ q : Nat, q < n → ∃ w : Nat, S'.2.1 t q = w ∧ bitR w (fun i => i < (if q < k then n else if q = k then j else 0) ∧ Q q i)
theorem rowsI.nx {S' : Sto} {t n k : Nat} {Q : Nat → Nat → Prop} (h : rowsI S' t n k n Q) : rowsI S' t n (k + 1) 0 Q := fun q hq => by
  obtain ⟨w, w1, w2⟩ := h q hq
  refine ⟨w, w1, ?_⟩
  by_cases e : q ≤ k
  · have e1 : (if q < k then n else if q = k then n else 0) = n := by split <;> (try split) <;> omega
    have e2 : (if q < k + 1 then n else if q = k + 1 then 0 else 0) = n := by rw [if_pos (by omega)]
    rw [e1] at w2
    rw [e2]; exact w2
  · have e1 : (if q < k then n else if q = k then n else 0) = 0 := by rw [if_neg (by omega), if_neg (by omega)]
    have e2 : (if q < k + 1 then n else if q = k + 1 then 0 else 0) = 0 := by rw [if_neg (by omega)]; split <;> rfl
    rw [e1] at w2
    rw [e2]; exact w2
theorem rowsI.eq {S S' : Sto} {t n k j : Nat} {Q : Nat → Nat → Prop} (h : rowsI S t n k j Q) (e : S'.2.1 t = S.2.1 t) : rowsI S' t n k j Q := by
  unfold rowsI at h ⊢
  rw [e]; exact h
theorem rowsI.set {S' : Sto} {t n k j : Nat} {Q : Nat → Nat → Prop} (h : rowsI S' t n k j Q) (hk : k < n) (hj : j < n) (hn : n ≤ 7) {x : Int} (hx : (x = 0 ∧ ¬ Q k j) ∨ (x = bShl 1 (j : Int) ∧ Q k j)) : rowsI (updI S' t (k : Int).toNat (bOr (S'.2.1 t (k : Int).toNat) x)) t n k (j + 1) Q := fun q hq => by
  obtain ⟨w, w1, w2⟩ := h q hq
  rw [updI_2, Int.toNat_natCast]
  by_cases e : q = k
  · rw [e] at w1 w2 ⊢
    rw [if_pos ⟨rfl, rfl⟩, w1]
    rw [if_neg (by omega), if_pos rfl] at w2
    rw [if_neg (by omega), if_pos rfl]
    rcases hx with ⟨rfl, hx⟩ | ⟨rfl, hx⟩
    · refine ⟨w, ?_, w2.skip hx⟩
      have hw := w2.1
      rw [bz_or0 _ (by omega)]
    · exact ⟨w ||| 2 ^ j, bz_or w j w2.1 (by omega), w2.add (by omega) hx⟩
  · rw [if_neg (fun z => e z.2)]
    refine ⟨w, w1, ?_⟩
    have e1 : (if q < k then n else if q = k then j + 1 else 0) = (if q < k then n else if q = k then j else 0) := by rw [if_neg e, if_neg e]
    rw [e1]; exact w2
def s_seqInit : Spec := fun as S post => match as with
  | [.inr (.inr (some s)), .inr (.inr (some a))] => ∃ (n : Nat) (u : Nat → Nat) (P : Nat → Int → Int → Prop) (col : Nat → Int), (S.1 s = some (3, 3) ∧ S.1 (s + 1) = none ∧ S.1 (s + 5) = none ∧ S.1 a = some (114, n) ∧ 1 ≤ n ∧ n ≤ 7) ∧ (∀ k, k < n → S.2.2 a k = some (u k) ∧ shC S (u k) (P k) ∧ S.2.1 (u k) 1 = col k ∧ 0 ≤ col k ∧ col k < 6) ∧
    ∀ S' nd, seqN S S' s a n → ndQ P nd n → (∀ k, k < n → S'.2.1 (s + 1) k = nd k) → ulV S' s n col → post (.inl none) S'
  | _ => False
def spX3_init : Nat → CD := spF mdX3_init fun i => match i with
  | 1 => (s_meets, 0, 0, 1)
  | 2 => (s_isUnlike, 0, 0, 1)
  | _ => noR
set_option maxHeartbeats 4000000 in
set_option maxRecDepth 100000 in
theorem sat_X3_init : Sat mX3_init s_seqInit 2 14 2 := by
  refine sat_of (E := eX3_init) (sp := spX3_init) (ini := true) (by decide +kernel) (fun h => by rfl) okX3_init (fun i => match i with
    | 1 => ⟨sat_X4_meets, Nat.le_of_ble_eq_true rfl⟩
    | 2 => ⟨sat_X4_isUnlike, Nat.le_of_ble_eq_true rfl⟩
    | i + 3 => ⟨sat_no _, Nat.le_of_ble_eq_true rfl⟩
    | 0 => ⟨sat_no _, Nat.le_of_ble_eq_true rfl⟩) ?_
  intro as S post h
  match as, h with
  | [.inr (.inr (some s)), .inr (.inr (some a))], h =>
    obtain ⟨n, u, P, col, ⟨p1, p2, p25, p3, p4, p5⟩, hU, h⟩ := h
    have hsa : a ≠ s := fun q => by rw [q, p1] at p3; cases p3
    have hsa1 : a ≠ s + 1 := fun q => by rw [q, p2] at p3; cases p3
    have hsa5 : a ≠ s + 5 := fun q => by rw [q, p25] at p3; cases p3
    refine bodyL [(27, fun ms L st S' cc => ∃ (k : Nat) (x3 x4 : AV), L = [vT s, vT a, vI k, x3, x4] ∧ st = [] ∧ cc = (2, n + n) ∧ ms = (7 - k) * 100 + 99 ∧ k ≤ n ∧ seqN S S' s a n ∧ rowsI S' (s + 1) n k 0 (fun q i => i < q ∧ metQ (P i) (P q)) ∧ rowsI S' (s + 5) n k 0 (fun q i => col q ≠ col i)),
      (40, fun ms L st S' cc => ∃ (k j : Nat), L = [vT s, vT a, vI k, vT (u k), vI j] ∧ st = [] ∧ cc = (2, n + n) ∧ ms = (7 - k) * 100 + (7 - j) * 2 ∧ k < n ∧ j ≤ n ∧ seqN S S' s a n ∧ rowsI S' (s + 1) n k j (fun q i => i < q ∧ metQ (P i) (P q)) ∧ rowsI S' (s + 5) n k j (fun q i => col q ≠ col i)),
      (85, fun ms L st S' cc => ∃ (k j : Nat), L = [vT s, vT a, vI k, vT (u k), vI j] ∧ st = [] ∧ cc = (2, n + n) ∧ ms = (7 - k) * 100 + (7 - j) * 2 - 1 ∧ k < n ∧ j < n ∧ seqN S S' s a n ∧ rowsI S' (s + 1) n k (j + 1) (fun q i => i < q ∧ metQ (P i) (P q)) ∧ rowsI S' (s + 5) n k j (fun q i => col q ≠ col i))] 1000 120 rfl
      (List.forall_mem_cons.mpr ⟨?_, List.forall_mem_cons.mpr ⟨?_, List.forall_mem_cons.mpr ⟨?_, fun q hq => by cases hq⟩⟩⟩) ?_
    · rintro ms L st S' cc ⟨k, x3, x4, rfl, rfl, rfl, rfl, hk, hN, hA1, hA5⟩
      have hA : S'.1 a = some (114, n) := by rw [hN.1, if_neg hsa1, if_neg hsa5]; exact p3
      have rk : k < n → S'.2.2 a (k : Int).toNat = some (u k) := fun z => by rw [Int.toNat_natCast, hN.2.2.1 a hsa hsa1 hsa5]; exact (hU k z).1
      repeat' (first
          | omega
          | with_reducible apply And.intro
          | (intro c9; (try simp only [mg, mf, colK, stK, clK, mnK, shN] at c9))
          | refine ⟨114, n, hA, by omega, ?_⟩
          | exact ⟨114, n, hA, rfl, by omega, by omega⟩
          | rw [rk (by omega)]
          | (simp only [mg, mf, colK, stK, clK, mnK, shN]; omega)
          | refine Exists.intro _ (And.intro rfl ?_)
          | refine Exists.intro _ (And.intro ((rk (by omega))) ?_)
          | ((with_reducible show wp _ _ _ _ _ _ _ _ _ _ _ _ _ _); conv => whnf)
          | ((with_reducible show callK _ _ _ _ _ _ _ _ _); conv => whnf)
          | ((with_reducible show condK _ _ _ _ _); conv => whnf)
          | ((with_reducible show st1 _ _ _ _ _ _ _ _ _ _ _ _); conv => whnf)
          | ((with_reducible show (Prod.fst _ : Spec) _ _ _); conv => whnf)
          | ((with_reducible show shortK _ _); conv => whnf)
          | exact Nat.le_of_ble_eq_true rfl)
      · have hkn : k = n := by omega
        have hz : ∀ q : Nat, q < n → (if q < k then n else if q = k then 0 else 0) = n := fun q hq => if_pos (by omega)
        refine h S' (fun q => (S'.2.1 (s + 1) q).toNat) hN (fun q hq => ?_) (fun q hq => ?_) (fun q hq => ?_)
        · obtain ⟨w, w1, w2⟩ := hA1 q hq
          rw [hz q hq] at w2
          show (S'.2.1 (s + 1) q).toNat < 128 ∧ ∀ j : Nat, ((S'.2.1 (s + 1) q).toNat).testBit j = true ↔ j < q ∧ metQ (P j) (P q)
          rw [w1, Int.toNat_natCast]
          refine ⟨w2.1, fun j => (w2.2 j).trans ⟨fun z => z.2, fun z => ⟨by omega, z⟩⟩⟩
        · obtain ⟨w, w1, w2⟩ := hA1 q hq
          show S'.2.1 (s + 1) q = ((S'.2.1 (s + 1) q).toNat : Int)
          omega
        · obtain ⟨w, w1, w2⟩ := hA5 q hq
          rw [hz q hq] at w2
          exact ⟨w, w1, w2.1, fun j hj => (w2.2 j).trans ⟨fun z => z.2, fun z => ⟨hj, z⟩⟩⟩
      · exact ⟨(7 - k) * 100 + (7 - 0) * 2, by omega, k, 0, rfl, rfl, rfl, rfl, by omega, by omega, hN, hA1, hA5⟩
    · rintro ms L st S' cc ⟨k, j, rfl, rfl, rfl, rfl, hk, hj, hN, hA1, hA5⟩
      have hA : S'.1 a = some (114, n) := by rw [hN.1, if_neg hsa1, if_neg hsa5]; exact p3
      have hS1 : S'.1 s = some (3, 3) := by rw [hN.1, if_neg (by omega), if_neg (by omega)]; exact p1
      have hS2 : S'.1 (s + 1) = some (100, n) := by rw [hN.1, if_pos rfl]
      have hR := hN.2.2.2.2.1
      have sk := hN.sh p1 p2 p25 (hU k hk).2.1
      have rj : j < n → S'.2.2 a (j : Int).toNat = some (u j) := fun z => by rw [Int.toNat_natCast, hN.2.2.1 a hsa hsa1 hsa5]; exact (hU j z).1
      have sj := fun z : j < n => hN.sh p1 p2 p25 (hU j z).2.1
      repeat' (first
          | omega
          | with_reducible apply And.intro
          | (intro c9; (try simp only [mg, mf, colK, stK, clK, mnK, shN] at c9))
          | (with_reducible (have q9 : (some _ : Option Nat) = _ := c9; clear q9; cases c9))
          | refine ⟨114, n, hA, by omega, ?_⟩
          | exact ⟨114, n, hA, rfl, by omega, by omega⟩
          | exact ⟨3, hS1⟩
          | exact ⟨5, sk.1⟩
          | rw [rj (by omega)]
          | refine ⟨P k, P j, sk, sj (by omega), ?_⟩
          | exact ⟨100, n, hS2, Or.inl rfl, by omega, by omega⟩
          | exact ⟨n, hS2, by omega, by omega⟩
          | (show n + n + 0 ≤ 14; omega)
          | (simp only [mg, mf, colK, stK, clK, mnK, shN]; omega)
          | refine Exists.intro _ (And.intro rfl ?_)
          | refine Exists.intro _ (And.intro ((rj (by omega))) ?_)
          | refine Exists.intro _ (And.intro (hR) ?_)
          | ((with_reducible show wp _ _ _ _ _ _ _ _ _ _ _ _ _ _); conv => whnf)
          | ((with_reducible show callK _ _ _ _ _ _ _ _ _); conv => whnf)
          | ((with_reducible show condK _ _ _ _ _); conv => whnf)
          | ((with_reducible show st1 _ _ _ _ _ _ _ _ _ _ _ _); conv => whnf)
          | ((with_reducible show (Prod.fst _ : Spec) _ _ _); conv => whnf)
          | ((with_reducible show shortK _ _); conv => whnf)
          | exact Nat.le_of_ble_eq_true rfl)
      · have e : j = n := by omega
        subst e
        exact ⟨(7 - (k + 1)) * 100 + 99, by omega, k + 1, _, _, by rw [Int.natCast_add]; rfl, rfl, rfl, rfl, by omega, hN, hA1.nx, hA5.nx⟩
      all_goals first
        | exact ⟨(7 - k) * 100 + (7 - j) * 2 - 1, by omega, k, j, rfl, rfl, rfl, rfl, hk, by omega, hN.upd (Or.inl rfl), hA1.set hk (by omega) p5 (Or.inl ⟨rfl, fun z => absurd z.1 (by omega)⟩), hA5.eq (by funext i; rw [updI_2, if_neg (by omega)])⟩
        | exact ⟨(7 - k) * 100 + (7 - j) * 2 - 1, by omega, k, j, rfl, rfl, rfl, rfl, hk, by omega, hN.upd (Or.inl rfl), hA1.set hk (by omega) p5 (Or.inl ⟨rfl, fun z => isB0 ‹isB _ (metQ (P k) (P j))› c9 z.2.sym⟩), hA5.eq (by funext i; rw [updI_2, if_neg (by omega)])⟩
        | exact ⟨(7 - k) * 100 + (7 - j) * 2 - 1, by omega, k, j, rfl, rfl, rfl, rfl, hk, by omega, hN.upd (Or.inl rfl), hA1.set hk (by omega) p5 (Or.inr ⟨rfl, by omega, (isB1 ‹isB _ (metQ (P k) (P j))› c9).sym⟩), hA5.eq (by funext i; rw [updI_2, if_neg (by omega)])⟩
    · rintro ms L st S' cc ⟨k, j, rfl, rfl, rfl, rfl, hk, hj, hN, hA1, hA5⟩
      have hA : S'.1 a = some (114, n) := by rw [hN.1, if_neg hsa1, if_neg hsa5]; exact p3
      have hS1 : S'.1 s = some (3, 3) := by rw [hN.1, if_neg (by omega), if_neg (by omega)]; exact p1
      have hS2 : S'.1 (s + 5) = some (100, n) := by rw [hN.1, if_neg (by omega), if_pos rfl]
      have hR := hN.2.2.2.2.2
      have sk := hN.sh p1 p2 p25 (hU k hk).2.1
      have rj : S'.2.2 a (j : Int).toNat = some (u j) := by rw [Int.toNat_natCast, hN.2.2.1 a hsa hsa1 hsa5]; exact (hU j hj).1
      have sj := hN.sh p1 p2 p25 (hU j hj).2.1
      have hcu : ∀ i, i < n → S'.2.1 (u i) 1 = col i ∧ 0 ≤ col i ∧ col i < 6 := fun i hi => by
        obtain ⟨z1, z2, z3⟩ := hU i hi
        rw [hN.2.1 (u i) (fun e => by have := z2.1; rw [e, p2] at this; cases this) (fun e => by have := z2.1; rw [e, p25] at this; cases this)]
        exact z3
      have ck := hcu k hk
      have cj := hcu j hj
      repeat' (first
          | omega
          | with_reducible apply And.intro
          | (intro c9; (try simp only [mg, mf, colK, stK, clK, mnK, shN] at c9))
          | (with_reducible (have q9 : (some _ : Option Nat) = _ := c9; clear q9; cases c9))
          | refine ⟨114, n, hA, by omega, ?_⟩
          | exact ⟨114, n, hA, rfl, by omega, by omega⟩
          | exact ⟨3, hS1⟩
          | exact ⟨5, sk.1⟩
          | rw [rj]
          | refine ⟨sk.1, sj.1, by omega, ?_⟩
          | exact ⟨100, n, hS2, Or.inl rfl, by omega, by omega⟩
          | exact ⟨n, hS2, by omega, by omega⟩
          | (show n + n + 0 ≤ 14; omega)
          | (simp only [mg, mf, colK, stK, clK, mnK, shN]; omega)
          | refine Exists.intro _ (And.intro rfl ?_)
          | refine Exists.intro _ (And.intro (rj) ?_)
          | refine Exists.intro _ (And.intro (hR) ?_)
          | ((with_reducible show wp _ _ _ _ _ _ _ _ _ _ _ _ _ _); conv => whnf)
          | ((with_reducible show callK _ _ _ _ _ _ _ _ _); conv => whnf)
          | ((with_reducible show condK _ _ _ _ _); conv => whnf)
          | ((with_reducible show st1 _ _ _ _ _ _ _ _ _ _ _ _); conv => whnf)
          | ((with_reducible show (Prod.fst _ : Spec) _ _ _); conv => whnf)
          | ((with_reducible show shortK _ _); conv => whnf)
          | exact Nat.le_of_ble_eq_true rfl)
      all_goals first
        | exact ⟨(7 - k) * 100 + (7 - (j + 1)) * 2, by omega, k, j + 1, by rw [Int.natCast_add]; rfl, rfl, rfl, rfl, hk, by omega, hN.upd (Or.inr rfl), hA1.eq (by funext i; rw [updI_2, if_neg (by omega)]), hA5.set hk hj p5 (Or.inl ⟨rfl, fun z => isB0 ‹isB _ (S'.2.1 (u k) 1 ≠ S'.2.1 (u j) 1)› c9 (by rw [ck.1, cj.1]; exact z)⟩)⟩
        | exact ⟨(7 - k) * 100 + (7 - (j + 1)) * 2, by omega, k, j + 1, by rw [Int.natCast_add]; rfl, rfl, rfl, rfl, hk, by omega, hN.upd (Or.inr rfl), hA1.eq (by funext i; rw [updI_2, if_neg (by omega)]), hA5.set hk hj p5 (Or.inr ⟨rfl, by have z := isB1 ‹isB _ (S'.2.1 (u k) 1 ≠ S'.2.1 (u j) 1)› c9; rw [ck.1, cj.1] at z; exact z⟩)⟩
    · have hX : ∃ m, (newS (updR S s 0 (some a)) (s + 1) (100, (n : Int).toNat)).1 s = some (3, m) := ⟨3, by rw [newS_1, if_neg (by omega)]; exact p1⟩
      have hX2 : ∃ m, (newS (updR (newS (updR S s 0 (some a)) (s + 1) (100, (n : Int).toNat)) s 1 (some (s + 1))) (s + 5) (100, (n : Int).toNat)).1 s = some (3, m) := ⟨3, by rw [newS_1, if_neg (by omega), updR_1, newS_1, if_neg (by omega)]; exact p1⟩
      have hA2 : (updR (newS (updR S s 0 (some a)) (s + 1) (100, (n : Int).toNat)) s 1 (some (s + 1))).1 a = some (114, n) := by rw [updR_1, newS_1, if_neg hsa1]; exact p3
      have hN5 : (updR (newS (updR S s 0 (some a)) (s + 1) (100, (n : Int).toNat)) s 1 (some (s + 1))).1 (s + 5) = none := by rw [updR_1, newS_1, if_neg (by omega)]; exact p25
      repeat' (first
          | omega
          | with_reducible apply And.intro
          | (intro c9; (try simp only [mg, mf, colK, stK, clK, mnK, shN] at c9))
          | exact ⟨3, p1⟩
          | refine ⟨114, n, p3, by omega, ?_⟩
          | refine ⟨114, n, hA2, by omega, ?_⟩
          | refine Exists.intro (s + 1) (And.intro p2 ?_)
          | refine Exists.intro (s + 5) (And.intro hN5 ?_)
          | exact hX
          | exact hX2
          | (simp only [mg, mf, colK, stK, clK, mnK, shN]; omega)
          | refine Exists.intro _ (And.intro rfl ?_)
          | ((with_reducible show wp _ _ _ _ _ _ _ _ _ _ _ _ _ _); conv => whnf)
          | ((with_reducible show callK _ _ _ _ _ _ _ _ _); conv => whnf)
          | ((with_reducible show condK _ _ _ _ _); conv => whnf)
          | ((with_reducible show st1 _ _ _ _ _ _ _ _ _ _ _ _); conv => whnf)
          | ((with_reducible show (Prod.fst _ : Spec) _ _ _); conv => whnf)
          | ((with_reducible show shortK _ _); conv => whnf)
          | exact Nat.le_of_ble_eq_true rfl)
      rw [Int.toNat_natCast]
      refine ⟨799, by omega, 0, _, _, rfl, rfl, ?_, rfl, by omega, ⟨fun t => ?_, fun t ht ht5 => ?_, fun t t1 t2 t5 => ?_, ?_, ?_, ?_⟩, fun q hq => ⟨0, ?_, by omega, fun i => ?_⟩, fun q hq => ⟨0, ?_, by omega, fun i => ?_⟩⟩
      · show ((0 + 1 + 1 : Nat), 0 + n + n) = (2, n + n)
        rw [Nat.zero_add n]
      · rw [updR_1, newS_1]
        by_cases e5 : t = s + 5
        · rw [if_pos e5, if_neg (by omega), if_pos e5]
        · rw [if_neg e5, updR_1, newS_1]
          by_cases e1 : t = s + 1
          · rw [if_pos e1, if_pos e1]
          · rw [if_neg e1, if_neg e1, if_neg e5]; rfl
      · funext j
        rw [updR_2, newS_2, if_neg ht5, updR_2, newS_2, if_neg ht]; rfl
      · funext j
        rw [updR_3, if_neg (fun z => t1 z.1), newS_3, if_neg t5, updR_3, if_neg (fun z => t1 z.1), newS_3, if_neg t2, updR_3, if_neg (fun z => t1 z.1)]
      · rw [updR_3, if_neg (by omega), newS_3, if_neg (by omega), updR_3, if_neg (by omega), newS_3, if_neg (by omega), updR_3, if_pos ⟨rfl, rfl⟩]
      · rw [updR_3, if_neg (by omega), newS_3, if_neg (by omega), updR_3, if_pos ⟨rfl, rfl⟩]
      · rw [updR_3, if_pos ⟨rfl, rfl⟩]
      · rw [updR_2, newS_2, if_neg (by omega), updR_2, newS_2, if_pos rfl]; rfl
      · simp
      · rw [updR_2, newS_2, if_pos rfl]; rfl
      · simp

