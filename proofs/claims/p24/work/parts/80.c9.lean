theorem shpC.out {S : Sto} {T a n : Nat} {u : Nat → Nat} {P : Nat → Int → Int → Prop} {col : Nat → Int} (h : shpC S T a n u P col) {t : Nat} {y : Nat × Nat} (e : S.1 t = some y) (hy : y ≠ (0, 9)) : t < T ∨ T + 6 < t := by
  rcases Nat.lt_or_ge t T with q | q
  · exact Or.inl q
  · rcases Nat.lt_or_ge (T + 6) t with q2 | q2
    · exact Or.inr q2
    · exfalso
      by_cases z : t = T
      · rw [z, h.1] at e
        exact hy (Option.some.inj e).symm
      · have := h.2.1 (t - T) (by omega) (by omega)
        rw [show T + (t - T) = t by omega, e] at this
        cases this
theorem shpC.u {S : Sto} {T a n : Nat} {u : Nat → Nat} {P : Nat → Int → Int → Prop} {col : Nat → Int} (h : shpC S T a n u P col) {k : Nat} (hk : k < n) : (u k < T ∨ T + 6 < u k) ∧ (u k + 1 < T ∨ T + 6 < u k + 1) ∧ ∀ j, j < n → u k + 1 ≠ u j := by
  have e := (h.2.2.2.2.1 k hk).2.1
  refine ⟨h.out e.1 (by simp), h.out e.2.2.1 (by simp), fun j hj z => ?_⟩
  have e2 := (h.2.2.2.2.1 j hj).2.1.1
  rw [← z, e.2.2.1] at e2
  cases e2
theorem shpC.a {S : Sto} {T a n : Nat} {u : Nat → Nat} {P : Nat → Int → Int → Prop} {col : Nat → Int} (h : shpC S T a n u P col) : a < T ∨ T + 6 < a := h.out h.2.2.1 (by simp)
theorem dsB.sh {S S' : Sto} {T a n : Nat} {u : Nat → Nat} {P : Nat → Int → Int → Prop} {col : Nat → Int} {i : Int} (hB : dsB S S' T n u i) (h : shpC S T a n u P col) {k : Nat} (hk : k < n) : shC S' (u k) (P k) := by
  obtain ⟨o1, o2, o3⟩ := h.u hk
  exact (h.2.2.2.2.1 k hk).2.1.eq (hB.1 _ o1).1 (hB.1 _ o2).1 (hB.1 _ o1).2 (hB.2.1 _ o2 (fun j hj => o3 j hj))
theorem ndQ.ok {P : Nat → Int → Int → Prop} {nd : Nat → Nat} {n : Nat} (h : ndQ P nd n) : needOK nd n := fun k hk q hq => (((h k hk).2 q).mp hq).1
theorem dsB.sq {S S' : Sto} {T a n : Nat} {u : Nat → Nat} {P : Nat → Int → Int → Prop} {col : Nat → Int} {i : Int} {nd : Nat → Nat} (hB : dsB S S' T n u i) (h : shpC S T a n u P col) (h1 : dsS1 S' T a n col nd) (hnd : ndQ P nd n) : sqC S' (T + 1) a n u col nd := by
  obtain ⟨s1, s2, s3, s4, s5, s6⟩ := h1
  have ha := hB.1 a h.a
  refine ⟨s1, s3, s4, by rw [ha.1]; exact h.2.2.1, s5, h.2.2.2.1, fun k hk => ?_, fun k hk => ⟨s6 k hk, (hnd k hk).1⟩, hnd.ok⟩
  have e := h.2.2.2.2.1 k hk
  exact ⟨by rw [ha.2]; exact e.1, by rw [(hB.1 _ (h.u hk).1).1]; exact e.2.1.1, (hB.2.2.1 k hk 1 (by omega) (by omega)).trans e.2.2.1, e.2.2.2.1, e.2.2.2.2.1⟩
theorem dsB.sqA {S S' : Sto} {T a n : Nat} {u : Nat → Nat} {P : Nat → Int → Int → Prop} {col : Nat → Int} {i : Int} {nd : Nat → Nat} (hB : dsB S S' T n u i) (h : shpC S T a n u P col) (h2 : dsS2 S' T n u col nd) (hnd : ndQ P nd n) : sqA S' (T + 4) n (fun p => u (gat n col nd p).toNat) := by
  refine ⟨h2.2.1, h.2.2.2.1, fun p hp => ?_⟩
  have hg := gat_lt (col := col) h.2.2.2.1.2 hnd.ok hp
  have e := h.2.2.2.2.1 _ hg
  have e1 := hB.2.2.1 _ hg 1 (by omega) (by omega)
  refine ⟨h2.2.2 p hp, by rw [(hB.1 _ (h.u hg).1).1]; exact e.2.1.1, ?_⟩
  rw [e1]
  omega
/-- S2 is S1 but for the ints of the object T -/
def toE (S1 S2 : Sto) (T : Nat) : Prop := S2.1 = S1.1 ∧ S2.2.2 = S1.2.2 ∧ (∀ t, t ≠ T → S2.2.1 t = S1.2.1 t) ∧ S2.2.1 T 0 = S1.2.1 T 0
theorem toE.upd {S1 : Sto} {T k : Nat} {v : Int} (hk : k ≠ 0) : toE S1 (updI S1 T k v) T := ⟨rfl, rfl, fun t ht => by
  funext j
  rw [updI_2, if_neg (fun q => ht q.1)], by rw [updI_2, if_neg (fun q => hk q.2.symm)]⟩
theorem toE.trans {S1 S2 S3 : Sto} {T : Nat} (h : toE S1 S2 T) (h2 : toE S2 S3 T) : toE S1 S3 T := ⟨h2.1.trans h.1, h2.2.1.trans h.2.1, fun t ht => (h2.2.2.1 t ht).trans (h.2.2.1 t ht), h2.2.2.2.trans h.2.2.2⟩
theorem dsB.tr {S S1 S2 : Sto} {T n : Nat} {u : Nat → Nat} {i : Int} (hB : dsB S S1 T n u i) (e1 : ∀ t, (t < T ∨ T + 6 < t) → S2.1 t = S1.1 t ∧ S2.2.2 t = S1.2.2 t) (e2 : ∀ t, (t < T ∨ T + 6 < t) → (∀ k, k < n → t ≠ u k) → S2.2.1 t = S1.2.1 t) (e3 : ∀ k, k < n → ∀ j, j ≠ 3 → j ≠ 4 → S2.2.1 (u k) j = S1.2.1 (u k) j) (e4 : S2.1 T = some (0, 9)) (e5 : S2.2.1 T 0 = S1.2.1 T 0) : dsB S S2 T n u i :=
  ⟨fun t ht => ⟨(e1 t ht).1.trans (hB.1 t ht).1, (e1 t ht).2.trans (hB.1 t ht).2⟩, fun t ht hu => (e2 t ht hu).trans (hB.2.1 t ht hu), fun k hk j j3 j4 => (e3 k hk j j3 j4).trans (hB.2.2.1 k hk j j3 j4), e4, e5.trans hB.2.2.2.2⟩
theorem toE.B {S S1 S2 : Sto} {T a n : Nat} {u : Nat → Nat} {P : Nat → Int → Int → Prop} {col : Nat → Int} {i : Int} (h : shpC S T a n u P col) (e : toE S1 S2 T) (hB : dsB S S1 T n u i) : dsB S S2 T n u i := by
  obtain ⟨e1, e2, e3, e4⟩ := e
  obtain ⟨b1, b2, b3, b4, b5⟩ := hB
  refine ⟨fun t ht => by rw [e1, e2]; exact b1 t ht, fun t ht hu => by rw [e3 t (by omega)]; exact b2 t ht hu, fun k hk j j3 j4 => ?_, by rw [e1]; exact b4, by rw [e4]; exact b5⟩
  have := (h.u hk).1
  rw [e3 (u k) (by omega)]; exact b3 k hk j j3 j4
theorem toE.S1 {S1 S2 : Sto} {T a n : Nat} {col : Nat → Int} {nd : Nat → Nat} (e : toE S1 S2 T) (h : dsS1 S1 T a n col nd) : dsS1 S2 T a n col nd := by
  obtain ⟨e1, e2, e3, e4⟩ := e
  obtain ⟨b1, b2, b3, b4, b5, b6⟩ := h
  exact ⟨b1.eq (by rw [e1]) (by rw [e2]) (by rw [e1]) (e3 _ (by omega)), by rw [e2]; exact b2, by rw [e2]; exact b3, by rw [e2]; exact b4, by rw [e1]; exact b5, fun k hk => by rw [e3 _ (by omega)]; exact b6 k hk⟩
theorem toE.S2 {S1 S2 : Sto} {T n : Nat} {u : Nat → Nat} {col : Nat → Int} {nd : Nat → Nat} (e : toE S1 S2 T) (h : dsS2 S1 T n u col nd) : dsS2 S2 T n u col nd := by
  obtain ⟨e1, e2, -⟩ := e
  exact ⟨by rw [e2]; exact h.1, by rw [e1]; exact h.2.1, fun p hp => by rw [e2]; exact h.2.2 p hp⟩
theorem toE.S3 {S1 S2 : Sto} {T n : Nat} {q : Nat → Nat} {Q : Nat → Int → Int → Prop} (e : toE S1 S2 T) (hq : ∀ p, p < n → q p ≠ T) (h : dsS3 S1 T n q Q) : dsS3 S2 T n q Q := by
  obtain ⟨e1, e2, e3, -⟩ := e
  exact ⟨by rw [e2]; exact h.1, by rw [e1]; exact h.2.1, fun p hp => by rw [e3 _ (hq p hp)]; exact h.2.2.1 p hp, fun p hp j v hj => by rw [e3 _ (by omega)]; exact h.2.2.2 p hp j v hj⟩
theorem toE.chg {S1 S2 : Sto} {T n : Nat} {q : Nat → Nat} (e : toE S1 S2 T) (hq : ∀ p, p < n → q p ≠ T) : chgQ S2 q n = chgQ S1 q n := by
  unfold chgQ
  refine sumTo_congr _ fun p hp => ?_
  rw [e.2.2.1 _ (hq p (by omega)), e.2.2.1 _ (hq (p + 1) (by omega))]
theorem toE.jj {S1 S2 : Sto} {T n : Nat} {q : Nat → Nat} {Q : Nat → Int → Int → Prop} {hid : Int} (e : toE S1 S2 T) (hq : ∀ p, p < n → q p ≠ T) (k : Nat) : jjN S2 (T + 5) n q Q hid k = jjN S1 (T + 5) n q Q hid k := by
  unfold jjN
  refine sumTo_congr _ fun j hj => ?_
  have h : jjP S2 (T + 5) n q Q hid (j + 1) ↔ jjP S1 (T + 5) n q Q hid (j + 1) := by
    unfold jjP jpP
    have e5 : S2.2.1 (T + 5) = S1.2.1 (T + 5) := e.2.2.1 _ (by omega)
    constructor
    · rintro ⟨p, p1, p2, p3, p4⟩
      rw [e5, e.2.2.1 _ (hq p p1), e.2.2.1 _ (hq (p - 1) (by omega))] at p4
      exact ⟨p, p1, p2, p3, p4⟩
    · rintro ⟨p, p1, p2, p3, p4⟩
      refine ⟨p, p1, p2, p3, ?_⟩
      rw [e5, e.2.2.1 _ (hq p p1), e.2.2.1 _ (hq (p - 1) (by omega))]
      exact p4
  rw [show jjP S2 (T + 5) n q Q hid (j + 1) = jjP S1 (T + 5) n q Q hid (j + 1) from propext h]
def s_shInit : Spec := fun as S post => match as with
  | [.inr (.inr (some u)), .inl i, .inl c, .inr (.inr (some r))] => S.1 u = some (4, 5) ∧ post (.inl none) (updR (updI (updI S u 0 i) u 1 c) u 2 (some r))
  | _ => False
def spX4_init : Nat → CD := spF mdX4_init fun i => match i with
  | _ => noR
set_option maxHeartbeats 4000000 in
set_option maxRecDepth 100000 in
theorem sat_X4_init : Sat mX4_init s_shInit 0 0 1 := by
  refine sat_of (E := eX4_init) (sp := spX4_init) (ini := true) (by decide +kernel) (fun h => by rfl) okX4_init (fun i => match i with
    | _ => ⟨sat_no _, Nat.le_of_ble_eq_true rfl⟩) ?_
  intro as S post h
  match as, h with
  | [.inr (.inr (some u)), .inl i, .inl c, .inr (.inr (some r))], h =>
    obtain ⟨h1, h⟩ := h
    refine body0 60 rfl ?_
    repeat' (first
        | omega
        | with_reducible apply And.intro
        | (intro c9; (try simp only [mg, mf, colK, stK, clK, mnK, shN] at c9))
        | exact ⟨5, h1⟩
        | exact kr_i ( h ) (Nat.le_of_ble_eq_true rfl) (Nat.le_of_ble_eq_true rfl)
        | (simp only [mg, mf, colK, stK, clK, mnK, shN]; omega)
        | refine Exists.intro _ (And.intro rfl ?_)
        | ((with_reducible show wp _ _ _ _ _ _ _ _ _ _ _ _ _ _); conv => whnf)
        | ((with_reducible show callK _ _ _ _ _ _ _ _ _); conv => whnf)
        | ((with_reducible show condK _ _ _ _ _); conv => whnf)
        | ((with_reducible show st1 _ _ _ _ _ _ _ _ _ _ _ _); conv => whnf)
        | ((with_reducible show (Prod.fst _ : Spec) _ _ _); conv => whnf)
        | ((with_reducible show shortK _ _); conv => whnf)
        | exact Nat.le_of_ble_eq_true rfl)
def s_dsInit : Spec := fun as S post => match as with
  | [.inr (.inr (some T)), .inl i, .inr (.inr (some a))] => ∃ n u P col, shpC S T a n u P col ∧ ∀ S' nd, desN S S' T a n u P col i nd → post (.inl none) S'
  | _ => False
def spX0_init : Nat → CD := spF mdX0_init fun i => match i with
  | 1 => (s_seqInit, 2, 14, 2)
  | 2 => (s_bestOrder, 2, 903, 5)
  | 3 => (s_cellsOf, 1, 2240, 4)
  | 4 => (s_countChanges, 0, 0, 2)
  | 5 => (s_countJumps, 0, 0, 3)
  | 6 => (s_xOf, 0, 0, 1)
  | 7 => (s_max, 0, 0, 1)
  | 8 => (s_yOf, 0, 0, 1)
  | _ => noR
set_option maxHeartbeats 4000000 in
set_option maxRecDepth 100000 in
theorem sat_X0_init : Sat mX0_init s_dsInit 6 3160 6 := by
  refine sat_of (E := eX0_init) (sp := spX0_init) (ini := true) (by decide +kernel) (fun h => by rfl) okX0_init (fun i => match i with
    | 1 => ⟨sat_X3_init, Nat.le_of_ble_eq_true rfl⟩
    | 2 => ⟨sat_X3_bestOrder, Nat.le_of_ble_eq_true rfl⟩
    | 3 => ⟨sat_X0_cellsOf, Nat.le_of_ble_eq_true rfl⟩
    | 4 => ⟨sat_X0_countChanges, Nat.le_of_ble_eq_true rfl⟩
    | 5 => ⟨sat_X0_countJumps, Nat.le_of_ble_eq_true rfl⟩
    | 6 => ⟨sat_X6_xOf, Nat.le_of_ble_eq_true rfl⟩
    | 7 => ⟨sat_J9_max_7cf53, Nat.le_of_ble_eq_true rfl⟩
    | 8 => ⟨sat_X6_yOf, Nat.le_of_ble_eq_true rfl⟩
    | i + 9 => ⟨sat_no _, Nat.le_of_ble_eq_true rfl⟩
    | 0 => ⟨sat_no _, Nat.le_of_ble_eq_true rfl⟩) ?_
  intro as S post h
  match as, h with
  | [.inr (.inr (some T)), .inl i, .inr (.inr (some a))], h =>
    obtain ⟨n, u, P, col, hS, h⟩ := h
    have hS2 := hS
    obtain ⟨p1, p2, p3, p4, p5, p6⟩ := hS2
    have f1 : S.1 (T + 1) = none := p2 1 (by omega) (by omega)
    have f2 : S.1 (T + 2) = none := p2 2 (by omega) (by omega)
    have f3 : S.1 (T + 3) = none := p2 3 (by omega) (by omega)
    have f4 : S.1 (T + 4) = none := p2 4 (by omega) (by omega)
    have f5 : S.1 (T + 5) = none := p2 5 (by omega) (by omega)
    have f6 : S.1 (T + 6) = none := p2 6 (by omega) (by omega)
    have hgl := fun (nd : Nat → Nat) (z : ndQ P nd n) (p : Nat) (hp : p < n) => gat_lt (col := col) p4.2 z.ok hp
    have hqT := fun (nd : Nat → Nat) (z : ndQ P nd n) (p : Nat) (hp : p < n) => (show u (gat n col nd p).toNat ≠ T by have := (hS.u (hgl nd z p hp)).1; omega)
    have haT := hS.a
    have hdis : ∀ (nd : Nat → Nat), ndQ P nd n → ∀ x y, x < y → y < n → u (gat n col nd x).toNat ≠ u (gat n col nd y).toNat := fun nd z x y hxy hy e => by
      rcases Nat.lt_or_gt_of_ne (gat_ne (col := col) p4.2 z.ok hxy hy) with w | w
      · exact p6 _ _ w (hgl nd z y hy) e
      · exact p6 _ _ w (hgl nd z x (by omega)) e.symm
    refine bodyL [(21, fun ms L st S' cc => ∃ nd : Nat → Nat, L = [vT T, vI i, vT a, uu, uu, uu] ∧ st = [] ∧ cc = (3, 17) ∧ ms = 3000 ∧ ndQ P nd n ∧ dsB S S' T n u i ∧ dsS1 S' T a n col nd ∧ S'.1 (T + 3) = none ∧ S'.1 (T + 4) = none ∧ S'.1 (T + 5) = none),
      (32, fun ms L st S' cc => ∃ nd : Nat → Nat, L = [vT T, vI i, vT a, uu, uu, uu] ∧ st = [] ∧ cc = (5, 920) ∧ ms = 2900 ∧ ndQ P nd n ∧ dsB S S' T n u i ∧ dsS1 S' T a n col nd ∧ dsS2 S' T n u col nd ∧ S'.1 (T + 5) = none),
      (43, fun ms L st S' cc => ∃ nd : Nat → Nat, L = [vT T, vI i, vT a, uu, uu, uu] ∧ st = [] ∧ cc = (6, 3160) ∧ ms = 2800 ∧ ndQ P nd n ∧ dsB S S' T n u i ∧ dsS1 S' T a n col nd ∧ dsS2 S' T n u col nd ∧ dsS3 S' T n (fun p => u (gat n col nd p).toNat) (fun p => P (gat n col nd p).toNat)),
      (54, fun ms L st S' cc => ∃ nd : Nat → Nat, L = [vT T, vI i, vT a, uu, uu, uu] ∧ st = [] ∧ cc = (6, 3160) ∧ ms = 2700 ∧ ndQ P nd n ∧ dsB S S' T n u i ∧ dsS1 S' T a n col nd ∧ dsS2 S' T n u col nd ∧ dsS3 S' T n (fun p => u (gat n col nd p).toNat) (fun p => P (gat n col nd p).toNat) ∧ S'.2.1 T 4 = chgQ S' (fun p => u (gat n col nd p).toNat) n),
      (70, fun ms L st S' cc => ∃ nd : Nat → Nat, L = [vT T, vI i, vT a, uu, uu, uu] ∧ st = [] ∧ cc = (6, 3160) ∧ ms = 2600 ∧ ndQ P nd n ∧ dsB S S' T n u i ∧ dsS1 S' T a n col nd ∧ dsS2 S' T n u col nd ∧ dsS3 S' T n (fun p => u (gat n col nd p).toNat) (fun p => P (gat n col nd p).toNat) ∧ S'.2.1 T 4 = chgQ S' (fun p => u (gat n col nd p).toNat) n ∧ S'.2.1 T 5 = jjN S' (T + 5) n (fun p => u (gat n col nd p).toNat) (fun p => P (gat n col nd p).toNat) 0 (bgN (fun p => P (gat n col nd p).toNat) n)),
      (86, fun ms L st S' cc => ∃ nd : Nat → Nat, L = [vT T, vI i, vT a, uu, uu, uu] ∧ st = [] ∧ cc = (6, 3160) ∧ ms = 2500 ∧ ndQ P nd n ∧ dsB S S' T n u i ∧ dsS1 S' T a n col nd ∧ dsS2 S' T n u col nd ∧ dsS3 S' T n (fun p => u (gat n col nd p).toNat) (fun p => P (gat n col nd p).toNat) ∧ S'.2.1 T 4 = chgQ S' (fun p => u (gat n col nd p).toNat) n ∧ S'.2.1 T 5 = jjN S' (T + 5) n (fun p => u (gat n col nd p).toNat) (fun p => P (gat n col nd p).toNat) 0 (bgN (fun p => P (gat n col nd p).toNat) n) ∧ S'.2.1 T 6 = jjN S' (T + 5) n (fun p => u (gat n col nd p).toNat) (fun p => P (gat n col nd p).toNat) 1 (bgN (fun p => P (gat n col nd p).toNat) n)),
      (94, fun ms L st S' cc => ∃ (nd : Nat → Nat) (gx gy : Int) (k : Nat), L = [vT T, vI i, vT a, vI gx, vI gy, vI k] ∧ st = [] ∧ cc = (6, 3160) ∧ ms = 2240 - k ∧ k ≤ bgN (fun p => P (gat n col nd p).toNat) n ∧ (0 ≤ gx ∧ gx < 16 ∧ 0 ≤ gy ∧ gy < 16 ∧ (∀ j : Nat, j < k → S'.2.1 (T + 5) j % 16 ≤ gx ∧ S'.2.1 (T + 5) j / 16 ≤ gy) ∧ (k = 0 → gx = 0 ∧ gy = 0) ∧ (0 < k → (∃ j : Nat, j < k ∧ S'.2.1 (T + 5) j % 16 = gx) ∧ ∃ j : Nat, j < k ∧ S'.2.1 (T + 5) j / 16 = gy)) ∧ ndQ P nd n ∧ dsB S S' T n u i ∧ dsS1 S' T a n col nd ∧ dsS2 S' T n u col nd ∧ dsS3 S' T n (fun p => u (gat n col nd p).toNat) (fun p => P (gat n col nd p).toNat) ∧ S'.2.1 T 4 = chgQ S' (fun p => u (gat n col nd p).toNat) n ∧ S'.2.1 T 5 = jjN S' (T + 5) n (fun p => u (gat n col nd p).toNat) (fun p => P (gat n col nd p).toNat) 0 (bgN (fun p => P (gat n col nd p).toNat) n) ∧ S'.2.1 T 6 = jjN S' (T + 5) n (fun p => u (gat n col nd p).toNat) (fun p => P (gat n col nd p).toNat) 1 (bgN (fun p => P (gat n col nd p).toNat) n))] 4000 200 rfl
      (List.forall_mem_cons.mpr ⟨?_, List.forall_mem_cons.mpr ⟨?_, List.forall_mem_cons.mpr ⟨?_, List.forall_mem_cons.mpr ⟨?_, List.forall_mem_cons.mpr ⟨?_, List.forall_mem_cons.mpr ⟨?_, List.forall_mem_cons.mpr ⟨?_, fun q hq => by cases hq⟩⟩⟩⟩⟩⟩⟩) ?_
    · rintro ms L st S' cc ⟨nd, rfl, rfl, rfl, rfl, hnd, hB, h1, n3, n4, n5⟩
      have hsq := hB.sq hS h1 hnd
      have hT9 := hB.2.2.2.1
      repeat' (first
          | omega
          | with_reducible apply And.intro
          | (intro c9; (try simp only [mg, mf, colK, stK, clK, mnK, shN] at c9))
          | exact ⟨9, hT9⟩
          | exact ⟨3, h1.1.1⟩
          | rw [gfR (ci := 0) h1.2.1 rfl]
          | refine ⟨a, n, u, col, nd, hsq, n3, n4, ?_⟩
          | exact ⟨9, by rw [c9.1, if_neg (by omega), if_neg (by omega)]; exact hT9⟩
          | (simp only [mg, mf, colK, stK, clK, mnK, shN]; omega)
          | refine Exists.intro _ (And.intro rfl ?_)
          | refine Exists.intro _ (And.intro ((h1.2.1)) ?_)
          | ((with_reducible show wp _ _ _ _ _ _ _ _ _ _ _ _ _ _); conv => whnf)
          | ((with_reducible show callK _ _ _ _ _ _ _ _ _); conv => whnf)
          | ((with_reducible show condK _ _ _ _ _); conv => whnf)
          | ((with_reducible show st1 _ _ _ _ _ _ _ _ _ _ _ _); conv => whnf)
          | ((with_reducible show (Prod.fst _ : Spec) _ _ _); conv => whnf)
          | ((with_reducible show shortK _ _); conv => whnf)
          | exact Nat.le_of_ble_eq_true rfl)
      rename_i S2
      obtain ⟨b1, b2, b3⟩ := c9
      obtain ⟨q1, q2, q3, q4, q5, q6⟩ := h1
      have bT : S2.1 T = some (0, 9) := by rw [b1, if_neg (by omega), if_neg (by omega)]; exact hT9
      have br : ∀ t, t ≠ T → (updR S2 T 2 (some (T + 1 + 3))).2.2 t = S2.2.2 t := fun t ht => by
        funext j
        rw [updR_3, if_neg (fun z => ht z.1)]
      refine ⟨2900, by omega, nd, rfl, rfl, rfl, rfl, hnd, hB.tr (fun t ht => ⟨?_, ?_⟩) (fun t ht hu => (b2 t (by omega) (by omega)).1) (fun k hk j j3 j4 => by rw [updR_2, (b2 (u k) (by have := (hS.u hk).1; omega) (by have := (hS.u hk).1; omega)).1]) bT (by rw [updR_2, (b2 T (by omega) (by omega)).1]), ⟨?_, ?_, ?_, ?_, ?_, fun k hk => ?_⟩, ⟨?_, ?_, fun p hp => ?_⟩, ?_⟩
      · rw [updR_1, b1, if_neg (by omega), if_neg (by omega)]
      · rw [br t (by omega), (b2 t (by omega) (by omega)).2]
      · exact q1.eq (by rw [updR_1, b1, if_neg (by omega), if_neg (by omega)]) (by rw [br _ (by omega), (b2 (T + 1) (by omega) (by omega)).2]) (by rw [updR_1, b1, if_neg (by omega), if_neg (by omega)]) (by rw [updR_2, (b2 (T + 1 + 5) (by omega) (by omega)).1])
      · rw [updR_3, if_neg (by omega), (b2 T (by omega) (by omega)).2]; exact q2
      · rw [br _ (by omega), (b2 (T + 1) (by omega) (by omega)).2]; exact q3
      · rw [br _ (by omega), (b2 (T + 1) (by omega) (by omega)).2]; exact q4
      · rw [updR_1, b1, if_neg (by omega), if_neg (by omega)]; exact q5
      · rw [updR_2, (b2 (T + 2) (by omega) (by omega)).1]; exact q6 k hk
      · rw [updR_3, if_pos ⟨rfl, rfl⟩]
      · rw [updR_1, b1, if_pos (by omega)]
      · rw [br _ (by omega)]; exact b3 p hp
      · rw [updR_1, b1, if_neg (by omega), if_neg (by omega)]; exact n5
    · rintro ms L st S' cc ⟨nd, rfl, rfl, rfl, rfl, hnd, hB, h1, h2, n5⟩
      have hT9 := hB.2.2.2.1
      have hA := hB.sqA hS h2 hnd
      repeat' (first
          | omega
          | with_reducible apply And.intro
          | (intro c9; (try simp only [mg, mf, colK, stK, clK, mnK, shN] at c9))
          | exact ⟨9, hT9⟩
          | rw [gfR (ci := 0) h2.1 rfl]
          | refine ⟨n, fun p => u (gat n col nd p).toNat, fun p => P (gat n col nd p).toNat, hA, fun k hk => ⟨hB.sh hS (hgl nd hnd k hk), (p5 _ (hgl nd hnd k hk)).2.2.2.2.2.1⟩, hdis nd hnd, n5, ?_⟩
          | exact ⟨9, by rw [c9.1, if_neg (by omega)]; exact hT9⟩
          | (simp only [mg, mf, colK, stK, clK, mnK, shN]; omega)
          | refine Exists.intro _ (And.intro rfl ?_)
          | refine Exists.intro _ (And.intro ((h2.1)) ?_)
          | ((with_reducible show wp _ _ _ _ _ _ _ _ _ _ _ _ _ _); conv => whnf)
          | ((with_reducible show callK _ _ _ _ _ _ _ _ _); conv => whnf)
          | ((with_reducible show condK _ _ _ _ _); conv => whnf)
          | ((with_reducible show st1 _ _ _ _ _ _ _ _ _ _ _ _); conv => whnf)
          | ((with_reducible show (Prod.fst _ : Spec) _ _ _); conv => whnf)
          | ((with_reducible show shortK _ _); conv => whnf)
          | exact Nat.le_of_ble_eq_true rfl)
      rename_i S2
      obtain ⟨b1, b2, b3, b4, b5⟩ := c9
      obtain ⟨q1, q2, q3, q4, q5, q6⟩ := h1
      have bT : S2.1 T = some (0, 9) := by rw [b1, if_neg (by omega)]; exact hT9
      have br : ∀ t, t ≠ T → (updR S2 T 3 (some (T + 4 + 1))).2.2 t = S2.2.2 t := fun t ht => by
        funext j
        rw [updR_3, if_neg (fun z => ht z.1)]
      have hqo : ∀ p, p < n → u (gat n col nd p).toNat < T ∨ T + 6 < u (gat n col nd p).toNat := fun p hp => (hS.u (hgl nd hnd p hp)).1
      refine ⟨2800, by omega, nd, rfl, rfl, rfl, rfl, hnd, hB.tr (fun t ht => ⟨?_, ?_⟩) (fun t ht hu => b3 t (by omega) (fun j hj => hu _ (hgl nd hnd j hj))) (fun k hk j j3 j4 => ?_) bT (by rw [updR_2, b3 T (by omega) (fun j hj e => by have e' : T = u (gat n col nd j).toNat := e; have := hqo j hj; omega)]), ⟨?_, ?_, ?_, ?_, ?_, fun k hk => ?_⟩, ⟨?_, ?_, fun p hp => ?_⟩, ⟨?_, ?_, fun p hp => ?_, fun p hp j v hj => ?_⟩⟩
      · rw [updR_1, b1, if_neg (by omega)]
      · rw [br t (by omega), b2 t (by omega)]
      · rw [updR_2]
        by_cases e : ∃ p, p < n ∧ u (gat n col nd p).toNat = u k
        · obtain ⟨p, p1, p2⟩ := e
          rw [← p2]; exact (b4 p p1).1 j j3 j4
        · rw [b3 (u k) (by have := (hS.u hk).1; omega) (fun p hp z => e ⟨p, hp, z.symm⟩)]
      · exact q1.eq (by rw [updR_1, b1, if_neg (by omega)]) (by rw [br _ (by omega), b2 (T + 1) (by omega)]) (by rw [updR_1, b1, if_neg (by omega)]) (by rw [updR_2, b3 (T + 1 + 5) (by omega) (fun j hj e => by have e' : T + 1 + 5 = u (gat n col nd j).toNat := e; have := hqo j hj; omega)])
      · rw [updR_3, if_neg (by omega), b2 T (by omega)]; exact q2
      · rw [br _ (by omega), b2 (T + 1) (by omega)]; exact q3
      · rw [br _ (by omega), b2 (T + 1) (by omega)]; exact q4
      · rw [updR_1, b1, if_neg (by omega)]; exact q5
      · rw [updR_2, b3 (T + 2) (by omega) (fun j hj e => by have e' : T + 2 = u (gat n col nd j).toNat := e; have := hqo j hj; omega)]; exact q6 k hk
      · rw [updR_3, if_neg (by omega), b2 T (by omega)]; exact h2.1
      · rw [updR_1, b1, if_neg (by omega)]; exact h2.2.1
      · rw [br _ (by omega), b2 (T + 4) (by omega)]; exact h2.2.2 p hp
      · rw [updR_3, if_pos ⟨rfl, rfl⟩]
      · rw [updR_1, b1, if_pos (by omega)]
      · rw [updR_2]; exact ⟨(b4 p hp).2.1, (b4 p hp).2.2⟩
      · rw [updR_2]; exact b5 p hp j v hj
    · rintro ms L st S' cc ⟨nd, rfl, rfl, rfl, rfl, hnd, hB, h1, h2, h3⟩
      have hT9 := hB.2.2.2.1
      have hA := hB.sqA hS h2 hnd
      repeat' (first
          | omega
          | with_reducible apply And.intro
          | (intro c9; (try simp only [mg, mf, colK, stK, clK, mnK, shN] at c9))
          | exact ⟨9, hT9⟩
          | rw [gfR (ci := 0) h2.1 rfl]
          | refine ⟨n, fun p => u (gat n col nd p).toNat, hA, ?_⟩
          | (simp only [mg, mf, colK, stK, clK, mnK, shN]; omega)
          | refine Exists.intro _ (And.intro rfl ?_)
          | refine Exists.intro _ (And.intro ((h2.1)) ?_)
          | ((with_reducible show wp _ _ _ _ _ _ _ _ _ _ _ _ _ _); conv => whnf)
          | ((with_reducible show callK _ _ _ _ _ _ _ _ _); conv => whnf)
          | ((with_reducible show condK _ _ _ _ _); conv => whnf)
          | ((with_reducible show st1 _ _ _ _ _ _ _ _ _ _ _ _); conv => whnf)
          | ((with_reducible show (Prod.fst _ : Spec) _ _ _); conv => whnf)
          | ((with_reducible show shortK _ _); conv => whnf)
          | exact Nat.le_of_ble_eq_true rfl)
      refine ⟨2700, by omega, nd, rfl, rfl, rfl, rfl, hnd, (toE.upd (by omega)).B hS hB, (toE.upd (by omega)).S1 h1, (toE.upd (by omega)).S2 h2, (toE.upd (by omega)).S3 (hqT nd hnd) h3, ?_⟩
      rw [(toE.upd (show 4 ≠ 0 by omega)).chg (hqT nd hnd), updI_2, if_pos ⟨rfl, rfl⟩]
      rfl
    · rintro ms L st S' cc ⟨nd, rfl, rfl, rfl, rfl, hnd, hB, h1, h2, h3, h4⟩
      have hT9 := hB.2.2.2.1
      have hA := hB.sqA hS h2 hnd
      have hLd : laid S' (T + 4) (T + 5) n (fun p => u (gat n col nd p).toNat) (fun p => P (gat n col nd p).toNat) := ⟨hA, fun k hk => ⟨hB.sh hS (hgl nd hnd k hk), (p5 _ (hgl nd hnd k hk)).2.2.2.2.2.1⟩, h3.2.1, h3.2.2.1, fun j hj => h3.rng (fun p hp => (p5 _ (hgl nd hnd p hp)).2.2.2.2.2.2) hj⟩
      repeat' (first
          | omega
          | with_reducible apply And.intro
          | (intro c9; (try simp only [mg, mf, colK, stK, clK, mnK, shN] at c9))
          | exact ⟨9, hT9⟩
          | rw [gfR (ci := 0) h2.1 rfl]
          | rw [gfR (ci := 0) h3.1 rfl]
          | refine ⟨n, fun p => u (gat n col nd p).toNat, fun p => P (gat n col nd p).toNat, hLd, Or.inl rfl, ?_⟩
          | (simp only [mg, mf, colK, stK, clK, mnK, shN]; omega)
          | refine Exists.intro _ (And.intro rfl ?_)
          | refine Exists.intro _ (And.intro ((h2.1)) ?_)
          | refine Exists.intro _ (And.intro ((h3.1)) ?_)
          | ((with_reducible show wp _ _ _ _ _ _ _ _ _ _ _ _ _ _); conv => whnf)
          | ((with_reducible show callK _ _ _ _ _ _ _ _ _); conv => whnf)
          | ((with_reducible show condK _ _ _ _ _); conv => whnf)
          | ((with_reducible show st1 _ _ _ _ _ _ _ _ _ _ _ _); conv => whnf)
          | ((with_reducible show (Prod.fst _ : Spec) _ _ _); conv => whnf)
          | ((with_reducible show shortK _ _); conv => whnf)
          | exact Nat.le_of_ble_eq_true rfl)
      refine ⟨2600, by omega, nd, rfl, rfl, rfl, rfl, hnd, (toE.upd (by omega)).B hS hB, (toE.upd (by omega)).S1 h1, (toE.upd (by omega)).S2 h2, (toE.upd (by omega)).S3 (hqT nd hnd) h3, ?_, ?_⟩
      · rw [(toE.upd (show 5 ≠ 0 by omega)).chg (hqT nd hnd), updI_2, if_neg (by omega)]; exact h4
      · rw [(toE.upd (show 5 ≠ 0 by omega)).jj (hqT nd hnd), updI_2, if_pos ⟨rfl, rfl⟩]
    · rintro ms L st S' cc ⟨nd, rfl, rfl, rfl, rfl, hnd, hB, h1, h2, h3, h4, h5⟩
      have hT9 := hB.2.2.2.1
      have hA := hB.sqA hS h2 hnd
      have hLd : laid S' (T + 4) (T + 5) n (fun p => u (gat n col nd p).toNat) (fun p => P (gat n col nd p).toNat) := ⟨hA, fun k hk => ⟨hB.sh hS (hgl nd hnd k hk), (p5 _ (hgl nd hnd k hk)).2.2.2.2.2.1⟩, h3.2.1, h3.2.2.1, fun j hj => h3.rng (fun p hp => (p5 _ (hgl nd hnd p hp)).2.2.2.2.2.2) hj⟩
      repeat' (first
          | omega
          | with_reducible apply And.intro
          | (intro c9; (try simp only [mg, mf, colK, stK, clK, mnK, shN] at c9))
          | exact ⟨9, hT9⟩
          | rw [gfR (ci := 0) h2.1 rfl]
          | rw [gfR (ci := 0) h3.1 rfl]
          | refine ⟨n, fun p => u (gat n col nd p).toNat, fun p => P (gat n col nd p).toNat, hLd, Or.inr rfl, ?_⟩
          | (simp only [mg, mf, colK, stK, clK, mnK, shN]; omega)
          | refine Exists.intro _ (And.intro rfl ?_)
          | refine Exists.intro _ (And.intro ((h2.1)) ?_)
          | refine Exists.intro _ (And.intro ((h3.1)) ?_)
          | ((with_reducible show wp _ _ _ _ _ _ _ _ _ _ _ _ _ _); conv => whnf)
          | ((with_reducible show callK _ _ _ _ _ _ _ _ _); conv => whnf)
          | ((with_reducible show condK _ _ _ _ _); conv => whnf)
          | ((with_reducible show st1 _ _ _ _ _ _ _ _ _ _ _ _); conv => whnf)
          | ((with_reducible show (Prod.fst _ : Spec) _ _ _); conv => whnf)
          | ((with_reducible show shortK _ _); conv => whnf)
          | exact Nat.le_of_ble_eq_true rfl)
      refine ⟨2500, by omega, nd, rfl, rfl, rfl, rfl, hnd, (toE.upd (by omega)).B hS hB, (toE.upd (by omega)).S1 h1, (toE.upd (by omega)).S2 h2, (toE.upd (by omega)).S3 (hqT nd hnd) h3, ?_, ?_, ?_⟩
      · rw [(toE.upd (show 6 ≠ 0 by omega)).chg (hqT nd hnd), updI_2, if_neg (by omega)]; exact h4
      · rw [(toE.upd (show 6 ≠ 0 by omega)).jj (hqT nd hnd), updI_2, if_neg (by omega)]; exact h5
      · rw [(toE.upd (show 6 ≠ 0 by omega)).jj (hqT nd hnd), updI_2, if_pos ⟨rfl, rfl⟩]
    · rintro ms L st S' cc ⟨nd, rfl, rfl, rfl, rfl, hnd, hB, h1, h2, h3, h4, h5, h6⟩
      repeat' (first
          | omega
          | with_reducible apply And.intro
          | (intro c9; (try simp only [mg, mf, colK, stK, clK, mnK, shN] at c9))
          | (simp only [mg, mf, colK, stK, clK, mnK, shN]; omega)
          | refine Exists.intro _ (And.intro rfl ?_)
          | ((with_reducible show wp _ _ _ _ _ _ _ _ _ _ _ _ _ _); conv => whnf)
          | ((with_reducible show callK _ _ _ _ _ _ _ _ _); conv => whnf)
          | ((with_reducible show condK _ _ _ _ _); conv => whnf)
          | ((with_reducible show st1 _ _ _ _ _ _ _ _ _ _ _ _); conv => whnf)
          | ((with_reducible show (Prod.fst _ : Spec) _ _ _); conv => whnf)
          | ((with_reducible show shortK _ _); conv => whnf)
          | exact Nat.le_of_ble_eq_true rfl)
      exact ⟨2240, by omega, nd, 0, 0, 0, rfl, rfl, rfl, rfl, by omega, ⟨by omega, by omega, by omega, by omega, fun j hj => by omega, fun _ => ⟨rfl, rfl⟩, fun z => by omega⟩, hnd, hB, h1, h2, h3, h4, h5, h6⟩
    · rintro ms L st S' cc ⟨nd, gx, gy, k, rfl, rfl, rfl, rfl, hk, ⟨g1, g2, g3, g4, g5, g6, g7⟩, hnd, hB, h1, h2, h3, h4, h5, h6⟩
      have hT9 := hB.2.2.2.1
      have hr := fun z => h3.rng (fun p hp => (p5 _ (hgl nd hnd p hp)).2.2.2.2.2.2) (j := k) z
      have hm : bgN (fun p => P (gat n col nd p).toNat) n ≤ 2240 := Nat.le_trans (bgN_le (fun p hp => (p5 _ (hgl nd hnd p hp)).2.2.2.2.2.1) n (Nat.le_refl _)) (by omega)
      generalize hM : bgN (fun p => P (gat n col nd p).toNat) n = M at *
      have hM5 : S'.1 (T + 5) = some (100, M) := by rw [← hM]; exact h3.2.1
      repeat' (first
          | omega
          | with_reducible apply And.intro
          | (intro c9; (try simp only [mg, mf, colK, stK, clK, mnK, shN, Int.toNat_natCast] at c9))
          | exact ⟨9, hT9⟩
          | refine ⟨100, M, hM5, by omega, ?_⟩
          | exact ⟨100, M, hM5, Or.inl rfl, by omega, by omega⟩
          | (rw [Int.toNat_natCast])
          | (with_reducible (have q9 : _ = (_ : Int) % 16 := c9; clear q9; subst c9))
          | (with_reducible (have q9 : _ = (_ : Int) / 16 := c9; clear q9; subst c9))
          | (have q := hr (by omega); omega)
          | (simp only [mg, mf, colK, stK, clK, mnK, shN, Int.toNat_natCast]; omega)
          | refine Exists.intro _ (And.intro rfl ?_)
          | refine Exists.intro _ (And.intro ((h3.1)) ?_)
          | ((with_reducible show wp _ _ _ _ _ _ _ _ _ _ _ _ _ _); conv => whnf)
          | ((with_reducible show callK _ _ _ _ _ _ _ _ _); conv => whnf)
          | ((with_reducible show condK _ _ _ _ _); conv => whnf)
          | ((with_reducible show st1 _ _ _ _ _ _ _ _ _ _ _ _); conv => whnf)
          | ((with_reducible show (Prod.fst _ : Spec) _ _ _); conv => whnf)
          | ((with_reducible show shortK _ _); conv => whnf)
          | exact Nat.le_of_ble_eq_true rfl)
      · have hE : toE S' (updI (updI S' T 7 (gx + 1)) T 8 (gy + 1)) T := (toE.upd (by omega)).trans (toE.upd (by omega))
        have e7 : (updI (updI S' T 7 (gx + 1)) T 8 (gy + 1)).2.1 T 7 = gx + 1 := by rw [updI_2, if_neg (by omega), updI_2, if_pos ⟨rfl, rfl⟩]
        have e8 : (updI (updI S' T 7 (gx + 1)) T 8 (gy + 1)).2.1 T 8 = gy + 1 := by rw [updI_2, if_pos ⟨rfl, rfl⟩]
        have ek : ∀ j, j < 7 → (updI (updI S' T 7 (gx + 1)) T 8 (gy + 1)).2.1 T j = S'.2.1 T j := fun j hj => by rw [updI_2, if_neg (by omega), updI_2, if_neg (by omega)]
        have hM0 : 0 < M := by
          have z1 := bgN_mono (P := fun p => P (gat n col nd p).toNat) (a := 1) n p4.1
          have z2 : bgN (fun p => P (gat n col nd p).toNat) 1 = 0 + (clsL (P (gat n col nd 0).toNat)).length := rfl
          have z3 := (p5 _ (hgl nd hnd 0 (by omega))).2.2.2.2.2.1.2.2
          omega
        obtain ⟨⟨j1, j2, j3⟩, ⟨k1, k2, k3⟩⟩ := g7 (by omega)
        refine h _ nd ⟨hnd, hE.B hS hB, hE.S1 h1, hE.S2 h2, hE.S3 (hqT nd hnd) h3, ?_, ?_, ?_, ?_⟩
        · rw [hE.chg (hqT nd hnd), ek 4 (by omega)]; exact h4
        · rw [hE.jj (hqT nd hnd), ek 5 (by omega), hM]; exact h5
        · rw [hE.jj (hqT nd hnd), ek 6 (by omega), hM]; exact h6
        · rw [e7, e8, hM]
          have e5 := hE.2.2.1 (T + 5) (by omega)
          unfold hoopP
          rw [e5]
          refine ⟨fun j hj => ?_, ⟨j1, by omega, by omega⟩, ⟨k1, by omega, by omega⟩⟩
          have := g5 j (by omega)
          omega
      · rename_i hkM x2 hx2 y2
        have hkM : k < M := by omega
        have q := hr hkM
        have z1 : 0 ≤ S'.2.1 (T + 5) k % 16 ∧ S'.2.1 (T + 5) k % 16 < 16 := by omega
        have z2 : 0 ≤ S'.2.1 (T + 5) k / 16 ∧ S'.2.1 (T + 5) k / 16 < 16 := by omega
        refine ⟨2240 - (k + 1), by omega, nd, x2, y2, k + 1, by rw [Int.natCast_add]; rfl, rfl, rfl, rfl, by rw [hM]; omega, ⟨by rw [hx2]; split <;> omega, by rw [hx2]; split <;> omega, by rw [c9]; split <;> omega, by rw [c9]; split <;> omega, fun j hj => ?_, fun z => by omega, fun _ => ⟨?_, ?_⟩⟩, hnd, hB, h1, h2, h3, h4, by rw [hM]; exact h5, by rw [hM]; exact h6⟩
        · by_cases e : j = k
          · rw [e, hx2, c9]
            refine ⟨by split <;> omega, by split <;> omega⟩
          · have y := g5 j (by omega)
            rw [hx2, c9]
            refine ⟨by split <;> omega, by split <;> omega⟩
        · by_cases e : gx ≤ S'.2.1 (T + 5) k % 16
          · exact ⟨k, by omega, by rw [hx2, if_pos e]⟩
          · by_cases e0 : k = 0
            · have := g6 e0; omega
            · obtain ⟨j, j0, j1⟩ := (g7 (by omega)).1
              exact ⟨j, by omega, by rw [hx2, if_neg e]; exact j1⟩
        · by_cases e : gy ≤ S'.2.1 (T + 5) k / 16
          · exact ⟨k, by omega, by rw [c9, if_pos e]⟩
          · by_cases e0 : k = 0
            · have := g6 e0; omega
            · obtain ⟨j, j0, j1⟩ := (g7 (by omega)).2
              exact ⟨j, by omega, by rw [c9, if_neg e]; exact j1⟩
    · have g0 : (newS (updI S T 0 i) (T + 1) (3, clN 3)).1 (T + 1) = some (3, 3) := by rw [newS_1, if_pos rfl]; rfl
      have g1 : ∀ t, t ≠ T + 1 → (newS (updI S T 0 i) (T + 1) (3, clN 3)).1 t = S.1 t := fun t ht => by rw [newS_1, if_neg ht]; rfl
      have g2 : ∀ t, t ≠ T + 1 → (newS (updI S T 0 i) (T + 1) (3, clN 3)).2.2 t = S.2.2 t := fun t ht => by funext j; rw [newS_3, if_neg ht]; rfl
      have g3 : ∀ t, t ≠ T + 1 → t ≠ T → (newS (updI S T 0 i) (T + 1) (3, clN 3)).2.1 t = S.2.1 t := fun t ht hT => by funext j; rw [newS_2, if_neg ht, updI_2, if_neg (fun z => hT z.1)]
      have g4 : (newS (updI S T 0 i) (T + 1) (3, clN 3)).2.1 T 0 = i := by rw [newS_2, if_neg (by omega), updI_2, if_pos ⟨rfl, rfl⟩]
      generalize hX : newS (updI S T 0 i) (T + 1) (3, clN 3) = X at *
      have hsh : ∀ k, k < n → X.2.2 a k = some (u k) ∧ shC X (u k) (P k) ∧ X.2.1 (u k) 1 = col k ∧ 0 ≤ col k ∧ col k < 6 := fun k hk => by
        have z := hS.u hk
        exact ⟨by rw [g2 a (by omega)]; exact (p5 k hk).1, (p5 k hk).2.1.eq (g1 _ (by omega)) (g1 _ (by omega)) (g2 _ (by omega)) (g3 _ (by omega) (by omega)), by rw [g3 _ (by omega) (by omega)]; exact (p5 k hk).2.2.1, (p5 k hk).2.2.2.1, (p5 k hk).2.2.2.2.1⟩
      repeat' (first
          | omega
          | with_reducible apply And.intro
          | (intro c9; (try simp only [mg, mf, colK, stK, clK, mnK, shN] at c9))
          | exact ⟨9, p1⟩
          | refine Exists.intro (T + 1) (And.intro f1 ?_)
          | rw [hX]
          | refine ⟨n, u, P, col, ⟨g0, (g1 _ (by omega)).trans f2, (g1 _ (by omega)).trans f6, (g1 _ (by omega)).trans p3, p4.1, p4.2⟩, hsh, ?_⟩
          | exact ⟨9, by rw [‹seqN _ _ _ _ _›.1, if_neg (by omega), if_neg (by omega), g1 _ (by omega)]; exact p1⟩
          | (simp only [mg, mf, colK, stK, clK, mnK, shN]; omega)
          | refine Exists.intro _ (And.intro rfl ?_)
          | ((with_reducible show wp _ _ _ _ _ _ _ _ _ _ _ _ _ _); conv => whnf)
          | ((with_reducible show callK _ _ _ _ _ _ _ _ _); conv => whnf)
          | ((with_reducible show condK _ _ _ _ _); conv => whnf)
          | ((with_reducible show st1 _ _ _ _ _ _ _ _ _ _ _ _); conv => whnf)
          | ((with_reducible show (Prod.fst _ : Spec) _ _ _); conv => whnf)
          | ((with_reducible show shortK _ _); conv => whnf)
          | exact Nat.le_of_ble_eq_true rfl)
      rename_i S2 nd hsN hnd hnv
      obtain ⟨w1, w2, w3, w4⟩ := hsN
      have nn : ∀ t, t ≠ T → t ≠ T + 1 → t ≠ T + 2 → t ≠ T + 6 → S2.1 t = S.1 t := fun t a1 a2 a3 a4 => by rw [w1, if_neg (by omega), if_neg (by omega), g1 _ (by omega)]
      have n2 : ∀ t, t ≠ T → (updR S2 T 1 (some (T + 1))).2.2 t = S2.2.2 t := fun t a1 => by
        funext j
        rw [updR_3, if_neg (fun z => a1 z.1)]
      refine ⟨3000, by omega, nd, rfl, rfl, rfl, rfl, hnd, ⟨fun t ht => ⟨?_, ?_⟩, ?_, ?_, ?_, ?_⟩, ⟨?_, ?_, ?_, ?_, ?_, ?_⟩, ?_, ?_, ?_⟩
      · rw [updR_1, w1, if_neg (by omega), if_neg (by omega), g1 _ (by omega)]
      · rw [n2 _ (by omega), w3 _ (by omega) (by omega) (by omega), g2 _ (by omega)]
      · intro t ht hu
        rw [updR_2, w2 _ (by omega) (by omega), g3 _ (by omega) (by omega)]
      · intro k hk j j3 j4
        have := (hS.u hk).1
        rw [updR_2, w2 _ (by omega) (by omega), g3 _ (by omega) (by omega)]
      · rw [updR_1, w1, if_neg (by omega), if_neg (by omega), g1 _ (by omega)]; exact p1
      · rw [updR_2, w2 _ (by omega) (by omega)]; exact g4
      · refine ⟨by rw [updR_1, w1, if_neg (by omega), if_neg (by omega)]; exact g0, by rw [n2 _ (by omega)]; exact w4.2.2, by rw [updR_1, w1, if_neg (by omega), if_pos rfl], ?_⟩
        unfold ulV at c9 ⊢
        rw [updR_2]; exact c9
      · rw [updR_3, if_pos ⟨rfl, rfl⟩]
      · rw [n2 _ (by omega)]; exact w4.1
      · rw [n2 _ (by omega)]; exact w4.2.1
      · rw [updR_1, w1, if_pos rfl]
      · intro k hk
        rw [updR_2]; exact hnv k hk
      · rw [updR_1, w1, if_neg (by omega), if_neg (by omega), g1 _ (by omega)]; exact f3
      · rw [updR_1, w1, if_neg (by omega), if_neg (by omega), g1 _ (by omega)]; exact f4
      · rw [updR_1, w1, if_neg (by omega), if_neg (by omega), g1 _ (by omega)]; exact f5

