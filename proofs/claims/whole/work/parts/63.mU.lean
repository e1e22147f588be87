/-- S' is S but for the reference's memory -/
def outM (S S' : Sto) : Prop := ∀ t, t ≠ 2 → (∀ k, k < 33 → t ≠ mt k) → S'.1 t = S.1 t ∧ S'.2.1 t = S.2.1 t ∧ S'.2.2 t = S.2.2 t
/-- the reference's arrays of the first K fields are made -/
def iniP (S : Sto) (K : Nat) (S' : Sto) : Prop := S'.1 2 = some (7, 33) ∧ (∀ k, S'.2.2 2 k = if k < K then mRef k else none) ∧ (∀ k, k < 33 → S'.1 (mt k) = if k < K ∧ isR 7 k = true then some (100, mLen k) else none) ∧ (∀ j, S'.2.1 2 j = 0) ∧ (∀ k j, k < K → isR 7 k = true → S'.2.1 (mt k) j = 0) ∧ outM S S'
theorem ini_f {S S' : Sto} {K : Nat} (h : iniP S K S') (hK : K < 33) : S'.1 (mt K) = none := by
  rw [h.2.2.1 K hK, if_neg (by rintro ⟨q, -⟩; omega)]
theorem ini_o {S S' : Sto} {K : Nat} {x : Nat × Nat} (h : iniP S K S') : ∃ n, (newS S' (mt K) x).1 2 = some (7, n) := ⟨33, by
  rw [newS_1, if_neg (by unfold mt; omega)]; exact h.1⟩
theorem ini_s {S S' : Sto} {K K' : Nat} (h : iniP S K S') (hK : isR 7 K = true) (h1 : K < K') (h2 : K' ≤ 33) (hn : ∀ k, K < k → k < K' → isR 7 k = false) : iniP S K' (updR (newS S' (mt K) (100, mLen K)) 2 K (some (mt K))) := by
  obtain ⟨a1, a2, a3, a4, a5, a6⟩ := h
  have h2K : 2 ≠ mt K := by unfold mt; omega
  refine ⟨?_, fun k => ?_, fun k k33 => ?_, fun j => ?_, fun k j hk hr => ?_, fun t t2 tk => ?_⟩
  · rw [updR_1, newS_1, if_neg h2K]; exact a1
  · rw [updR_3, newS_3, if_neg h2K, a2 k]
    by_cases e : k = K
    · subst e
      rw [if_pos ⟨rfl, rfl⟩, if_pos h1]
      unfold mRef
      rw [hK, show Nat.blt k 33 = true from by simp; omega]
      rfl
    · rw [if_neg (by rintro ⟨-, q⟩; exact e q)]
      by_cases q : k < K
      · rw [if_pos q, if_pos (by omega)]
      · rw [if_neg q]
        by_cases q2 : k < K'
        · rw [if_pos q2]
          unfold mRef
          rw [hn k (by omega) q2]; rfl
        · rw [if_neg q2]
  · rw [updR_1, newS_1]
    by_cases e : k = K
    · subst e
      rw [if_pos rfl, if_pos ⟨h1, hK⟩]
    · rw [if_neg (fun q => e (mt_inj q)), a3 k k33]
      by_cases q : k < K
      · by_cases r : isR 7 k = true
        · rw [if_pos ⟨q, r⟩, if_pos ⟨by omega, r⟩]
        · rw [if_neg (fun z => r z.2), if_neg (fun z => r z.2)]
      · rw [if_neg (fun z => q z.1)]
        by_cases q2 : k < K'
        · rw [if_neg (fun z => by have := hn k (by omega) q2; rw [this] at z; cases z.2)]
        · rw [if_neg (fun z => q2 z.1)]
  · rw [updR_2, newS_2, if_neg h2K]; exact a4 j
  · rw [updR_2, newS_2]
    by_cases e : k = K
    · rw [if_pos (by rw [e])]
    · rw [if_neg (fun q => e (mt_inj q))]
      refine a5 k j ?_ hr
      by_cases q : k < K
      · exact q
      · have := hn k (by omega) hk
        rw [this] at hr; cases hr
  · obtain ⟨b1, b2, b3⟩ := a6 t t2 tk
    have htK : t ≠ mt K := tk K (by omega)
    refine ⟨?_, ?_, ?_⟩
    · rw [updR_1, newS_1, if_neg htK]; exact b1
    · rw [updR_2]; funext j; rw [newS_2, if_neg htK, b2]
    · funext j; rw [updR_3, if_neg (by rintro ⟨q, -⟩; exact t2 q), newS_3, if_neg htK, b3]
def fill31 (T : Sto) : Nat → Sto
  | 0 => T
  | n + 1 => updI (fill31 T n) (mt 31) (n : Int).toNat (-1)
theorem fill31_ag {T : Sto} : ∀ n, agr [31] T (fill31 T n)
  | 0 => agr.rf
  | n + 1 => (fill31_ag n).upd (by simp)
theorem fill31_v {T : Sto} : ∀ (n : Nat) (j : Nat), (fill31 T n).2.1 (mt 31) j = if j < n then -1 else T.2.1 (mt 31) j
  | 0, j => by rw [if_neg (by omega)]; rfl
  | n + 1, j => by
    show (if mt 31 = mt 31 ∧ j = (n : Int).toNat then (-1 : Int) else (fill31 T n).2.1 (mt 31) j) = _
    rw [fill31_v n j]
    by_cases e : j = n
    · rw [if_pos ⟨rfl, by omega⟩, if_pos (by omega)]
    · rw [if_neg (by rintro ⟨-, q⟩; omega)]
      by_cases q : j < n
      · rw [if_pos q, if_pos (by omega)]
      · rw [if_neg q, if_neg (by omega)]
theorem ini_MS {S T : Sto} (h : iniP S 33 T) : MS T := by
  obtain ⟨a1, a2, a3, -⟩ := h
  refine ⟨a1, ?_, fun k hr hk => ?_⟩
  · funext k
    rw [a2 k]
    by_cases q : k < 33
    · rw [if_pos q]
    · rw [if_neg q]
      unfold mRef
      rw [show Nat.blt k 33 = false from (by cases hb : Nat.blt k 33 with | false => rfl | true => exact absurd (by simpa using hb) q), Bool.and_false]; rfl
  · rw [a3 k hk, if_pos ⟨hk, hr⟩]
theorem ini_out {S T : Sto} (h : iniP S 33 T) : outM S (fill31 T 120) := by
  intro t t2 tk
  obtain ⟨b1, b2, b3⟩ := h.2.2.2.2.2 t t2 tk
  have hag := fill31_ag (T := T) 120
  refine ⟨by rw [hag.1]; exact b1, ?_, by rw [hag.2.1]; exact b3⟩
  rw [hag.2.2 t (fun k hk => by rw [List.mem_singleton.mp hk]; exact tk 31 (by omega))]; exact b2
theorem ini_MI {S T : Sto} (h : iniP S 33 T) : MI 0 (fill31 T 120) ∧ nD (fill31 T 120) = 0 ∧ nM (fill31 T 120) = 0 ∧ nO (fill31 T 120) = 0 ∧ shN (fill31 T 120) 6 = 0 ∧ ∀ k, mg (fill31 T 120) 22 k = 0 := by
  have hag := fill31_ag (T := T) 120
  have hM := ini_MS h
  obtain ⟨a1, a2, a3, a4, a5, a6⟩ := h
  have f0 : ∀ k, mf (fill31 T 120) k = 0 := fun k => by rw [hag.mf]; exact a4 k
  have g0 : ∀ k, k < 33 → isR 7 k = true → k ≠ 31 → ∀ i, mg (fill31 T 120) k i = 0 := fun k hk hr h31 i => by
    rw [hag.mg (k := k) (by simp; exact h31)]; exact a5 k _ hk hr
  have e8 : nD (fill31 T 120) = 0 := f0 8
  have e13 : nM (fill31 T 120) = 0 := f0 13
  have e23 : nO (fill31 T 120) = 0 := f0 23
  have s6 : shN (fill31 T 120) 6 = 0 := g0 1 (by omega) rfl (by omega) 6
  refine ⟨⟨hag.ms hM, by omega, ⟨by omega, by omega, fun k k0 k1 => by omega⟩, fun d d0 d1 => by omega, fun i i0 i1 => by omega, fun o o0 o1 => by omega, ⟨fun d _ _ => g0 10 (by omega) rfl (by omega) d, fun i _ _ => ⟨g0 18 (by omega) rfl (by omega) i, g0 19 (by omega) rfl (by omega) i, fun k _ _ => g0 21 (by omega) rfl (by omega) _⟩, fun o o0 o1 => ⟨g0 26 (by omega) rfl (by omega) o, g0 28 (by omega) rfl (by omega) o, g0 29 (by omega) rfl (by omega) o, g0 30 (by omega) rfl (by omega) o, fun c c0 c1 => ?_⟩⟩, fun k k0 k1 => ?_⟩, e8, e13, e23, s6, fun k => g0 22 (by omega) rfl (by omega) k⟩
  · show (fill31 T 120).2.1 (mt 31) (6 * o + c).toNat = -1
    rw [fill31_v, if_pos (by omega)]
  · have := g0 22 (by omega) rfl (by omega) k
    omega
def s_minit : Spec := fun as S post => match as with
  | [.inr (.inr (some 2))] => (S.1 2 = some (7, 33) ∧ (∀ k, S.2.2 2 k = none) ∧ (∀ k, S.2.1 2 k = 0) ∧ ∀ k, k < 33 → S.1 (mt k) = none) ∧ ∀ S', MI 0 S' → nD S' = 0 → nM S' = 0 → nO S' = 0 → shN S' 6 = 0 → (∀ k, mg S' 22 k = 0) → outM S S' → post (.inl none) S'
  | _ => False
def spX7_init : Nat → CD := spF mdX7_init fun i => match i with
  | _ => noR
set_option maxHeartbeats 4000000 in
set_option maxRecDepth 100000 in
theorem sat_X7_init : Sat mX7_init s_minit 29 15170 1 := by
  refine sat_of (E := eX7_init) (sp := spX7_init) (ini := true) (by decide +kernel) (fun h => by rfl) okX7_init (fun i => match i with
    | _ => ⟨sat_no _, Nat.le_of_ble_eq_true rfl⟩) ?_
  intro as S post h
  match as, h with
  | [.inr (.inr (some 2))], h =>
    obtain ⟨⟨p1, p2, p3, p4⟩, h⟩ := h
    have h0 : iniP S 1 S := by
      refine ⟨p1, fun k => ?_, fun k hk => ?_, p3, fun k j hk hr => ?_, fun t _ _ => ⟨rfl, rfl, rfl⟩⟩
      · rw [p2 k]
        by_cases q : k < 1
        · rw [if_pos q, show k = 0 by omega]; rfl
        · rw [if_neg q]
      · rw [p4 k hk, if_neg]
        rintro ⟨q, r⟩
        rw [show k = 0 by omega] at r; cases r
      · rw [show k = 0 by omega] at hr; cases hr
    refine bodyL [(4, fun m L st S' c => L = [vT 2, uu] ∧ st = [] ∧ c = (0, 0) ∧ m = 500 ∧ iniP S 1 S'),
      (12, fun m L st S' c => L = [vT 2, uu] ∧ st = [] ∧ c = (1, 7) ∧ m = 499 ∧ iniP S 2 S'),
      (20, fun m L st S' c => L = [vT 2, uu] ∧ st = [] ∧ c = (2, 56) ∧ m = 498 ∧ iniP S 3 S'),
      (28, fun m L st S' c => L = [vT 2, uu] ∧ st = [] ∧ c = (3, 105) ∧ m = 497 ∧ iniP S 4 S'),
      (36, fun m L st S' c => L = [vT 2, uu] ∧ st = [] ∧ c = (4, 154) ∧ m = 496 ∧ iniP S 5 S'),
      (44, fun m L st S' c => L = [vT 2, uu] ∧ st = [] ∧ c = (5, 203) ∧ m = 495 ∧ iniP S 6 S'),
      (52, fun m L st S' c => L = [vT 2, uu] ∧ st = [] ∧ c = (6, 252) ∧ m = 494 ∧ iniP S 7 S'),
      (60, fun m L st S' c => L = [vT 2, uu] ∧ st = [] ∧ c = (7, 301) ∧ m = 493 ∧ iniP S 9 S'),
      (68, fun m L st S' c => L = [vT 2, uu] ∧ st = [] ∧ c = (8, 343) ∧ m = 492 ∧ iniP S 10 S'),
      (76, fun m L st S' c => L = [vT 2, uu] ∧ st = [] ∧ c = (9, 349) ∧ m = 491 ∧ iniP S 11 S'),
      (85, fun m L st S' c => L = [vT 2, uu] ∧ st = [] ∧ c = (10, 13789) ∧ m = 490 ∧ iniP S 12 S'),
      (94, fun m L st S' c => L = [vT 2, uu] ∧ st = [] ∧ c = (11, 14813) ∧ m = 489 ∧ iniP S 14 S'),
      (101, fun m L st S' c => L = [vT 2, uu] ∧ st = [] ∧ c = (12, 14817) ∧ m = 488 ∧ iniP S 15 S'),
      (108, fun m L st S' c => L = [vT 2, uu] ∧ st = [] ∧ c = (13, 14821) ∧ m = 487 ∧ iniP S 16 S'),
      (115, fun m L st S' c => L = [vT 2, uu] ∧ st = [] ∧ c = (14, 14825) ∧ m = 486 ∧ iniP S 17 S'),
      (122, fun m L st S' c => L = [vT 2, uu] ∧ st = [] ∧ c = (15, 14829) ∧ m = 485 ∧ iniP S 18 S'),
      (129, fun m L st S' c => L = [vT 2, uu] ∧ st = [] ∧ c = (16, 14833) ∧ m = 484 ∧ iniP S 19 S'),
      (136, fun m L st S' c => L = [vT 2, uu] ∧ st = [] ∧ c = (17, 14837) ∧ m = 483 ∧ iniP S 20 S'),
      (144, fun m L st S' c => L = [vT 2, uu] ∧ st = [] ∧ c = (18, 14861) ∧ m = 482 ∧ iniP S 21 S'),
      (152, fun m L st S' c => L = [vT 2, uu] ∧ st = [] ∧ c = (19, 14885) ∧ m = 481 ∧ iniP S 22 S'),
      (160, fun m L st S' c => L = [vT 2, uu] ∧ st = [] ∧ c = (20, 14903) ∧ m = 480 ∧ iniP S 24 S'),
      (168, fun m L st S' c => L = [vT 2, uu] ∧ st = [] ∧ c = (21, 14923) ∧ m = 479 ∧ iniP S 25 S'),
      (176, fun m L st S' c => L = [vT 2, uu] ∧ st = [] ∧ c = (22, 14943) ∧ m = 478 ∧ iniP S 26 S'),
      (184, fun m L st S' c => L = [vT 2, uu] ∧ st = [] ∧ c = (23, 14963) ∧ m = 477 ∧ iniP S 27 S'),
      (192, fun m L st S' c => L = [vT 2, uu] ∧ st = [] ∧ c = (24, 14983) ∧ m = 476 ∧ iniP S 28 S'),
      (200, fun m L st S' c => L = [vT 2, uu] ∧ st = [] ∧ c = (25, 15003) ∧ m = 475 ∧ iniP S 29 S'),
      (208, fun m L st S' c => L = [vT 2, uu] ∧ st = [] ∧ c = (26, 15023) ∧ m = 474 ∧ iniP S 30 S'),
      (216, fun m L st S' c => L = [vT 2, uu] ∧ st = [] ∧ c = (27, 15043) ∧ m = 473 ∧ iniP S 31 S'),
      (224, fun m L st S' c => L = [vT 2, uu] ∧ st = [] ∧ c = (28, 15163) ∧ m = 472 ∧ iniP S 32 S'),
      (234, fun m L st S' c => ∃ (k : Nat) (T : Sto), L = [vT 2, vI k] ∧ st = [] ∧ c = (29, 15170) ∧ m = 120 - k ∧ k ≤ 120 ∧ iniP S 33 T ∧ S' = fill31 T k)] 600 60 rfl ?_ ?_
    · refine List.forall_mem_cons.mpr ⟨?_, List.forall_mem_cons.mpr ⟨?_, List.forall_mem_cons.mpr ⟨?_, List.forall_mem_cons.mpr ⟨?_, List.forall_mem_cons.mpr ⟨?_, List.forall_mem_cons.mpr ⟨?_, List.forall_mem_cons.mpr ⟨?_, List.forall_mem_cons.mpr ⟨?_, List.forall_mem_cons.mpr ⟨?_, List.forall_mem_cons.mpr ⟨?_, List.forall_mem_cons.mpr ⟨?_, List.forall_mem_cons.mpr ⟨?_, List.forall_mem_cons.mpr ⟨?_, List.forall_mem_cons.mpr ⟨?_, List.forall_mem_cons.mpr ⟨?_, List.forall_mem_cons.mpr ⟨?_, List.forall_mem_cons.mpr ⟨?_, List.forall_mem_cons.mpr ⟨?_, List.forall_mem_cons.mpr ⟨?_, List.forall_mem_cons.mpr ⟨?_, List.forall_mem_cons.mpr ⟨?_, List.forall_mem_cons.mpr ⟨?_, List.forall_mem_cons.mpr ⟨?_, List.forall_mem_cons.mpr ⟨?_, List.forall_mem_cons.mpr ⟨?_, List.forall_mem_cons.mpr ⟨?_, List.forall_mem_cons.mpr ⟨?_, List.forall_mem_cons.mpr ⟨?_, List.forall_mem_cons.mpr ⟨?_, List.forall_mem_cons.mpr ⟨?_, fun q hq => by cases hq⟩⟩⟩⟩⟩⟩⟩⟩⟩⟩⟩⟩⟩⟩⟩⟩⟩⟩⟩⟩⟩⟩⟩⟩⟩⟩⟩⟩⟩⟩
      · rintro m L st S' c ⟨rfl, rfl, rfl, rfl, hI⟩
        repeat' (first
            | omega
            | with_reducible apply And.intro
            | (intro c9; (try simp only [mg, mf, colK, stK, clK, mnK, shN] at c9))
            | exact ms_o ⟨hI.1, ‹_›⟩
            | exact ini_o hI
            | refine Exists.intro (mt 1) (And.intro (ini_f hI (by omega)) ?_)
            | (simp only [mg, mf, colK, stK, clK, mnK, shN]; omega)
            | refine Exists.intro _ (And.intro rfl ?_)
            | ((with_reducible show wp _ _ _ _ _ _ _ _ _ _ _ _ _ _); conv => whnf)
            | ((with_reducible show callK _ _ _ _ _ _ _ _ _); conv => whnf)
            | ((with_reducible show condK _ _ _ _ _); conv => whnf)
            | ((with_reducible show st1 _ _ _ _ _ _ _ _ _ _ _ _); conv => whnf)
            | ((with_reducible show (Prod.fst _ : Spec) _ _ _); conv => whnf)
            | ((with_reducible show shortK _ _); conv => whnf)
            | exact Nat.le_of_ble_eq_true rfl)
        exact ⟨499, by omega, rfl, rfl, rfl, rfl, ini_s (K' := 2) hI rfl (by omega) (by omega) (fun k a b => by first | omega | (rw [show k = 2 by omega]; rfl))⟩
      · rintro m L st S' c ⟨rfl, rfl, rfl, rfl, hI⟩
        repeat' (first
            | omega
            | with_reducible apply And.intro
            | (intro c9; (try simp only [mg, mf, colK, stK, clK, mnK, shN] at c9))
            | exact ms_o ⟨hI.1, ‹_›⟩
            | exact ini_o hI
            | refine Exists.intro (mt 2) (And.intro (ini_f hI (by omega)) ?_)
            | (simp only [mg, mf, colK, stK, clK, mnK, shN]; omega)
            | refine Exists.intro _ (And.intro rfl ?_)
            | ((with_reducible show wp _ _ _ _ _ _ _ _ _ _ _ _ _ _); conv => whnf)
            | ((with_reducible show callK _ _ _ _ _ _ _ _ _); conv => whnf)
            | ((with_reducible show condK _ _ _ _ _); conv => whnf)
            | ((with_reducible show st1 _ _ _ _ _ _ _ _ _ _ _ _); conv => whnf)
            | ((with_reducible show (Prod.fst _ : Spec) _ _ _); conv => whnf)
            | ((with_reducible show shortK _ _); conv => whnf)
            | exact Nat.le_of_ble_eq_true rfl)
        exact ⟨498, by omega, rfl, rfl, rfl, rfl, ini_s (K' := 3) hI rfl (by omega) (by omega) (fun k a b => by first | omega | (rw [show k = 3 by omega]; rfl))⟩
      · rintro m L st S' c ⟨rfl, rfl, rfl, rfl, hI⟩
        repeat' (first
            | omega
            | with_reducible apply And.intro
            | (intro c9; (try simp only [mg, mf, colK, stK, clK, mnK, shN] at c9))
            | exact ms_o ⟨hI.1, ‹_›⟩
            | exact ini_o hI
            | refine Exists.intro (mt 3) (And.intro (ini_f hI (by omega)) ?_)
            | (simp only [mg, mf, colK, stK, clK, mnK, shN]; omega)
            | refine Exists.intro _ (And.intro rfl ?_)
            | ((with_reducible show wp _ _ _ _ _ _ _ _ _ _ _ _ _ _); conv => whnf)
            | ((with_reducible show callK _ _ _ _ _ _ _ _ _); conv => whnf)
            | ((with_reducible show condK _ _ _ _ _); conv => whnf)
            | ((with_reducible show st1 _ _ _ _ _ _ _ _ _ _ _ _); conv => whnf)
            | ((with_reducible show (Prod.fst _ : Spec) _ _ _); conv => whnf)
            | ((with_reducible show shortK _ _); conv => whnf)
            | exact Nat.le_of_ble_eq_true rfl)
        exact ⟨497, by omega, rfl, rfl, rfl, rfl, ini_s (K' := 4) hI rfl (by omega) (by omega) (fun k a b => by first | omega | (rw [show k = 4 by omega]; rfl))⟩
      · rintro m L st S' c ⟨rfl, rfl, rfl, rfl, hI⟩
        repeat' (first
            | omega
            | with_reducible apply And.intro
            | (intro c9; (try simp only [mg, mf, colK, stK, clK, mnK, shN] at c9))
            | exact ms_o ⟨hI.1, ‹_›⟩
            | exact ini_o hI
            | refine Exists.intro (mt 4) (And.intro (ini_f hI (by omega)) ?_)
            | (simp only [mg, mf, colK, stK, clK, mnK, shN]; omega)
            | refine Exists.intro _ (And.intro rfl ?_)
            | ((with_reducible show wp _ _ _ _ _ _ _ _ _ _ _ _ _ _); conv => whnf)
            | ((with_reducible show callK _ _ _ _ _ _ _ _ _); conv => whnf)
            | ((with_reducible show condK _ _ _ _ _); conv => whnf)
            | ((with_reducible show st1 _ _ _ _ _ _ _ _ _ _ _ _); conv => whnf)
            | ((with_reducible show (Prod.fst _ : Spec) _ _ _); conv => whnf)
            | ((with_reducible show shortK _ _); conv => whnf)
            | exact Nat.le_of_ble_eq_true rfl)
        exact ⟨496, by omega, rfl, rfl, rfl, rfl, ini_s (K' := 5) hI rfl (by omega) (by omega) (fun k a b => by first | omega | (rw [show k = 5 by omega]; rfl))⟩
      · rintro m L st S' c ⟨rfl, rfl, rfl, rfl, hI⟩
        repeat' (first
            | omega
            | with_reducible apply And.intro
            | (intro c9; (try simp only [mg, mf, colK, stK, clK, mnK, shN] at c9))
            | exact ms_o ⟨hI.1, ‹_›⟩
            | exact ini_o hI
            | refine Exists.intro (mt 5) (And.intro (ini_f hI (by omega)) ?_)
            | (simp only [mg, mf, colK, stK, clK, mnK, shN]; omega)
            | refine Exists.intro _ (And.intro rfl ?_)
            | ((with_reducible show wp _ _ _ _ _ _ _ _ _ _ _ _ _ _); conv => whnf)
            | ((with_reducible show callK _ _ _ _ _ _ _ _ _); conv => whnf)
            | ((with_reducible show condK _ _ _ _ _); conv => whnf)
            | ((with_reducible show st1 _ _ _ _ _ _ _ _ _ _ _ _); conv => whnf)
            | ((with_reducible show (Prod.fst _ : Spec) _ _ _); conv => whnf)
            | ((with_reducible show shortK _ _); conv => whnf)
            | exact Nat.le_of_ble_eq_true rfl)
        exact ⟨495, by omega, rfl, rfl, rfl, rfl, ini_s (K' := 6) hI rfl (by omega) (by omega) (fun k a b => by first | omega | (rw [show k = 6 by omega]; rfl))⟩
      · rintro m L st S' c ⟨rfl, rfl, rfl, rfl, hI⟩
        repeat' (first
            | omega
            | with_reducible apply And.intro
            | (intro c9; (try simp only [mg, mf, colK, stK, clK, mnK, shN] at c9))
            | exact ms_o ⟨hI.1, ‹_›⟩
            | exact ini_o hI
            | refine Exists.intro (mt 6) (And.intro (ini_f hI (by omega)) ?_)
            | (simp only [mg, mf, colK, stK, clK, mnK, shN]; omega)
            | refine Exists.intro _ (And.intro rfl ?_)
            | ((with_reducible show wp _ _ _ _ _ _ _ _ _ _ _ _ _ _); conv => whnf)
            | ((with_reducible show callK _ _ _ _ _ _ _ _ _); conv => whnf)
            | ((with_reducible show condK _ _ _ _ _); conv => whnf)
            | ((with_reducible show st1 _ _ _ _ _ _ _ _ _ _ _ _); conv => whnf)
            | ((with_reducible show (Prod.fst _ : Spec) _ _ _); conv => whnf)
            | ((with_reducible show shortK _ _); conv => whnf)
            | exact Nat.le_of_ble_eq_true rfl)
        exact ⟨494, by omega, rfl, rfl, rfl, rfl, ini_s (K' := 7) hI rfl (by omega) (by omega) (fun k a b => by first | omega | (rw [show k = 7 by omega]; rfl))⟩
      · rintro m L st S' c ⟨rfl, rfl, rfl, rfl, hI⟩
        repeat' (first
            | omega
            | with_reducible apply And.intro
            | (intro c9; (try simp only [mg, mf, colK, stK, clK, mnK, shN] at c9))
            | exact ms_o ⟨hI.1, ‹_›⟩
            | exact ini_o hI
            | refine Exists.intro (mt 7) (And.intro (ini_f hI (by omega)) ?_)
            | (simp only [mg, mf, colK, stK, clK, mnK, shN]; omega)
            | refine Exists.intro _ (And.intro rfl ?_)
            | ((with_reducible show wp _ _ _ _ _ _ _ _ _ _ _ _ _ _); conv => whnf)
            | ((with_reducible show callK _ _ _ _ _ _ _ _ _); conv => whnf)
            | ((with_reducible show condK _ _ _ _ _); conv => whnf)
            | ((with_reducible show st1 _ _ _ _ _ _ _ _ _ _ _ _); conv => whnf)
            | ((with_reducible show (Prod.fst _ : Spec) _ _ _); conv => whnf)
            | ((with_reducible show shortK _ _); conv => whnf)
            | exact Nat.le_of_ble_eq_true rfl)
        exact ⟨493, by omega, rfl, rfl, rfl, rfl, ini_s (K' := 9) hI rfl (by omega) (by omega) (fun k a b => by first | omega | (rw [show k = 8 by omega]; rfl))⟩
      · rintro m L st S' c ⟨rfl, rfl, rfl, rfl, hI⟩
        repeat' (first
            | omega
            | with_reducible apply And.intro
            | (intro c9; (try simp only [mg, mf, colK, stK, clK, mnK, shN] at c9))
            | exact ms_o ⟨hI.1, ‹_›⟩
            | exact ini_o hI
            | refine Exists.intro (mt 9) (And.intro (ini_f hI (by omega)) ?_)
            | (simp only [mg, mf, colK, stK, clK, mnK, shN]; omega)
            | refine Exists.intro _ (And.intro rfl ?_)
            | ((with_reducible show wp _ _ _ _ _ _ _ _ _ _ _ _ _ _); conv => whnf)
            | ((with_reducible show callK _ _ _ _ _ _ _ _ _); conv => whnf)
            | ((with_reducible show condK _ _ _ _ _); conv => whnf)
            | ((with_reducible show st1 _ _ _ _ _ _ _ _ _ _ _ _); conv => whnf)
            | ((with_reducible show (Prod.fst _ : Spec) _ _ _); conv => whnf)
            | ((with_reducible show shortK _ _); conv => whnf)
            | exact Nat.le_of_ble_eq_true rfl)
        exact ⟨492, by omega, rfl, rfl, rfl, rfl, ini_s (K' := 10) hI rfl (by omega) (by omega) (fun k a b => by first | omega | (rw [show k = 10 by omega]; rfl))⟩
      · rintro m L st S' c ⟨rfl, rfl, rfl, rfl, hI⟩
        repeat' (first
            | omega
            | with_reducible apply And.intro
            | (intro c9; (try simp only [mg, mf, colK, stK, clK, mnK, shN] at c9))
            | exact ms_o ⟨hI.1, ‹_›⟩
            | exact ini_o hI
            | refine Exists.intro (mt 10) (And.intro (ini_f hI (by omega)) ?_)
            | (simp only [mg, mf, colK, stK, clK, mnK, shN]; omega)
            | refine Exists.intro _ (And.intro rfl ?_)
            | ((with_reducible show wp _ _ _ _ _ _ _ _ _ _ _ _ _ _); conv => whnf)
            | ((with_reducible show callK _ _ _ _ _ _ _ _ _); conv => whnf)
            | ((with_reducible show condK _ _ _ _ _); conv => whnf)
            | ((with_reducible show st1 _ _ _ _ _ _ _ _ _ _ _ _); conv => whnf)
            | ((with_reducible show (Prod.fst _ : Spec) _ _ _); conv => whnf)
            | ((with_reducible show shortK _ _); conv => whnf)
            | exact Nat.le_of_ble_eq_true rfl)
        exact ⟨491, by omega, rfl, rfl, rfl, rfl, ini_s (K' := 11) hI rfl (by omega) (by omega) (fun k a b => by first | omega | (rw [show k = 11 by omega]; rfl))⟩
      · rintro m L st S' c ⟨rfl, rfl, rfl, rfl, hI⟩
        repeat' (first
            | omega
            | with_reducible apply And.intro
            | (intro c9; (try simp only [mg, mf, colK, stK, clK, mnK, shN] at c9))
            | exact ms_o ⟨hI.1, ‹_›⟩
            | exact ini_o hI
            | refine Exists.intro (mt 11) (And.intro (ini_f hI (by omega)) ?_)
            | (simp only [mg, mf, colK, stK, clK, mnK, shN]; omega)
            | refine Exists.intro _ (And.intro rfl ?_)
            | ((with_reducible show wp _ _ _ _ _ _ _ _ _ _ _ _ _ _); conv => whnf)
            | ((with_reducible show callK _ _ _ _ _ _ _ _ _); conv => whnf)
            | ((with_reducible show condK _ _ _ _ _); conv => whnf)
            | ((with_reducible show st1 _ _ _ _ _ _ _ _ _ _ _ _); conv => whnf)
            | ((with_reducible show (Prod.fst _ : Spec) _ _ _); conv => whnf)
            | ((with_reducible show shortK _ _); conv => whnf)
            | exact Nat.le_of_ble_eq_true rfl)
        exact ⟨490, by omega, rfl, rfl, rfl, rfl, ini_s (K' := 12) hI rfl (by omega) (by omega) (fun k a b => by first | omega | (rw [show k = 12 by omega]; rfl))⟩
      · rintro m L st S' c ⟨rfl, rfl, rfl, rfl, hI⟩
        repeat' (first
            | omega
            | with_reducible apply And.intro
            | (intro c9; (try simp only [mg, mf, colK, stK, clK, mnK, shN] at c9))
            | exact ms_o ⟨hI.1, ‹_›⟩
            | exact ini_o hI
            | refine Exists.intro (mt 12) (And.intro (ini_f hI (by omega)) ?_)
            | (simp only [mg, mf, colK, stK, clK, mnK, shN]; omega)
            | refine Exists.intro _ (And.intro rfl ?_)
            | ((with_reducible show wp _ _ _ _ _ _ _ _ _ _ _ _ _ _); conv => whnf)
            | ((with_reducible show callK _ _ _ _ _ _ _ _ _); conv => whnf)
            | ((with_reducible show condK _ _ _ _ _); conv => whnf)
            | ((with_reducible show st1 _ _ _ _ _ _ _ _ _ _ _ _); conv => whnf)
            | ((with_reducible show (Prod.fst _ : Spec) _ _ _); conv => whnf)
            | ((with_reducible show shortK _ _); conv => whnf)
            | exact Nat.le_of_ble_eq_true rfl)
        exact ⟨489, by omega, rfl, rfl, rfl, rfl, ini_s (K' := 14) hI rfl (by omega) (by omega) (fun k a b => by first | omega | (rw [show k = 13 by omega]; rfl))⟩
      · rintro m L st S' c ⟨rfl, rfl, rfl, rfl, hI⟩
        repeat' (first
            | omega
            | with_reducible apply And.intro
            | (intro c9; (try simp only [mg, mf, colK, stK, clK, mnK, shN] at c9))
            | exact ms_o ⟨hI.1, ‹_›⟩
            | exact ini_o hI
            | refine Exists.intro (mt 14) (And.intro (ini_f hI (by omega)) ?_)
            | (simp only [mg, mf, colK, stK, clK, mnK, shN]; omega)
            | refine Exists.intro _ (And.intro rfl ?_)
            | ((with_reducible show wp _ _ _ _ _ _ _ _ _ _ _ _ _ _); conv => whnf)
            | ((with_reducible show callK _ _ _ _ _ _ _ _ _); conv => whnf)
            | ((with_reducible show condK _ _ _ _ _); conv => whnf)
            | ((with_reducible show st1 _ _ _ _ _ _ _ _ _ _ _ _); conv => whnf)
            | ((with_reducible show (Prod.fst _ : Spec) _ _ _); conv => whnf)
            | ((with_reducible show shortK _ _); conv => whnf)
            | exact Nat.le_of_ble_eq_true rfl)
        exact ⟨488, by omega, rfl, rfl, rfl, rfl, ini_s (K' := 15) hI rfl (by omega) (by omega) (fun k a b => by first | omega | (rw [show k = 15 by omega]; rfl))⟩
      · rintro m L st S' c ⟨rfl, rfl, rfl, rfl, hI⟩
        repeat' (first
            | omega
            | with_reducible apply And.intro
            | (intro c9; (try simp only [mg, mf, colK, stK, clK, mnK, shN] at c9))
            | exact ms_o ⟨hI.1, ‹_›⟩
            | exact ini_o hI
            | refine Exists.intro (mt 15) (And.intro (ini_f hI (by omega)) ?_)
            | (simp only [mg, mf, colK, stK, clK, mnK, shN]; omega)
            | refine Exists.intro _ (And.intro rfl ?_)
            | ((with_reducible show wp _ _ _ _ _ _ _ _ _ _ _ _ _ _); conv => whnf)
            | ((with_reducible show callK _ _ _ _ _ _ _ _ _); conv => whnf)
            | ((with_reducible show condK _ _ _ _ _); conv => whnf)
            | ((with_reducible show st1 _ _ _ _ _ _ _ _ _ _ _ _); conv => whnf)
            | ((with_reducible show (Prod.fst _ : Spec) _ _ _); conv => whnf)
            | ((with_reducible show shortK _ _); conv => whnf)
            | exact Nat.le_of_ble_eq_true rfl)
        exact ⟨487, by omega, rfl, rfl, rfl, rfl, ini_s (K' := 16) hI rfl (by omega) (by omega) (fun k a b => by first | omega | (rw [show k = 16 by omega]; rfl))⟩
      · rintro m L st S' c ⟨rfl, rfl, rfl, rfl, hI⟩
        repeat' (first
            | omega
            | with_reducible apply And.intro
            | (intro c9; (try simp only [mg, mf, colK, stK, clK, mnK, shN] at c9))
            | exact ms_o ⟨hI.1, ‹_›⟩
            | exact ini_o hI
            | refine Exists.intro (mt 16) (And.intro (ini_f hI (by omega)) ?_)
            | (simp only [mg, mf, colK, stK, clK, mnK, shN]; omega)
            | refine Exists.intro _ (And.intro rfl ?_)
            | ((with_reducible show wp _ _ _ _ _ _ _ _ _ _ _ _ _ _); conv => whnf)
            | ((with_reducible show callK _ _ _ _ _ _ _ _ _); conv => whnf)
            | ((with_reducible show condK _ _ _ _ _); conv => whnf)
            | ((with_reducible show st1 _ _ _ _ _ _ _ _ _ _ _ _); conv => whnf)
            | ((with_reducible show (Prod.fst _ : Spec) _ _ _); conv => whnf)
            | ((with_reducible show shortK _ _); conv => whnf)
            | exact Nat.le_of_ble_eq_true rfl)
        exact ⟨486, by omega, rfl, rfl, rfl, rfl, ini_s (K' := 17) hI rfl (by omega) (by omega) (fun k a b => by first | omega | (rw [show k = 17 by omega]; rfl))⟩
      · rintro m L st S' c ⟨rfl, rfl, rfl, rfl, hI⟩
        repeat' (first
            | omega
            | with_reducible apply And.intro
            | (intro c9; (try simp only [mg, mf, colK, stK, clK, mnK, shN] at c9))
            | exact ms_o ⟨hI.1, ‹_›⟩
            | exact ini_o hI
            | refine Exists.intro (mt 17) (And.intro (ini_f hI (by omega)) ?_)
            | (simp only [mg, mf, colK, stK, clK, mnK, shN]; omega)
            | refine Exists.intro _ (And.intro rfl ?_)
            | ((with_reducible show wp _ _ _ _ _ _ _ _ _ _ _ _ _ _); conv => whnf)
            | ((with_reducible show callK _ _ _ _ _ _ _ _ _); conv => whnf)
            | ((with_reducible show condK _ _ _ _ _); conv => whnf)
            | ((with_reducible show st1 _ _ _ _ _ _ _ _ _ _ _ _); conv => whnf)
            | ((with_reducible show (Prod.fst _ : Spec) _ _ _); conv => whnf)
            | ((with_reducible show shortK _ _); conv => whnf)
            | exact Nat.le_of_ble_eq_true rfl)
        exact ⟨485, by omega, rfl, rfl, rfl, rfl, ini_s (K' := 18) hI rfl (by omega) (by omega) (fun k a b => by first | omega | (rw [show k = 18 by omega]; rfl))⟩
      · rintro m L st S' c ⟨rfl, rfl, rfl, rfl, hI⟩
        repeat' (first
            | omega
            | with_reducible apply And.intro
            | (intro c9; (try simp only [mg, mf, colK, stK, clK, mnK, shN] at c9))
            | exact ms_o ⟨hI.1, ‹_›⟩
            | exact ini_o hI
            | refine Exists.intro (mt 18) (And.intro (ini_f hI (by omega)) ?_)
            | (simp only [mg, mf, colK, stK, clK, mnK, shN]; omega)
            | refine Exists.intro _ (And.intro rfl ?_)
            | ((with_reducible show wp _ _ _ _ _ _ _ _ _ _ _ _ _ _); conv => whnf)
            | ((with_reducible show callK _ _ _ _ _ _ _ _ _); conv => whnf)
            | ((with_reducible show condK _ _ _ _ _); conv => whnf)
            | ((with_reducible show st1 _ _ _ _ _ _ _ _ _ _ _ _); conv => whnf)
            | ((with_reducible show (Prod.fst _ : Spec) _ _ _); conv => whnf)
            | ((with_reducible show shortK _ _); conv => whnf)
            | exact Nat.le_of_ble_eq_true rfl)
        exact ⟨484, by omega, rfl, rfl, rfl, rfl, ini_s (K' := 19) hI rfl (by omega) (by omega) (fun k a b => by first | omega | (rw [show k = 19 by omega]; rfl))⟩
      · rintro m L st S' c ⟨rfl, rfl, rfl, rfl, hI⟩
        repeat' (first
            | omega
            | with_reducible apply And.intro
            | (intro c9; (try simp only [mg, mf, colK, stK, clK, mnK, shN] at c9))
            | exact ms_o ⟨hI.1, ‹_›⟩
            | exact ini_o hI
            | refine Exists.intro (mt 19) (And.intro (ini_f hI (by omega)) ?_)
            | (simp only [mg, mf, colK, stK, clK, mnK, shN]; omega)
            | refine Exists.intro _ (And.intro rfl ?_)
            | ((with_reducible show wp _ _ _ _ _ _ _ _ _ _ _ _ _ _); conv => whnf)
            | ((with_reducible show callK _ _ _ _ _ _ _ _ _); conv => whnf)
            | ((with_reducible show condK _ _ _ _ _); conv => whnf)
            | ((with_reducible show st1 _ _ _ _ _ _ _ _ _ _ _ _); conv => whnf)
            | ((with_reducible show (Prod.fst _ : Spec) _ _ _); conv => whnf)
            | ((with_reducible show shortK _ _); conv => whnf)
            | exact Nat.le_of_ble_eq_true rfl)
        exact ⟨483, by omega, rfl, rfl, rfl, rfl, ini_s (K' := 20) hI rfl (by omega) (by omega) (fun k a b => by first | omega | (rw [show k = 20 by omega]; rfl))⟩
      · rintro m L st S' c ⟨rfl, rfl, rfl, rfl, hI⟩
        repeat' (first
            | omega
            | with_reducible apply And.intro
            | (intro c9; (try simp only [mg, mf, colK, stK, clK, mnK, shN] at c9))
            | exact ms_o ⟨hI.1, ‹_›⟩
            | exact ini_o hI
            | refine Exists.intro (mt 20) (And.intro (ini_f hI (by omega)) ?_)
            | (simp only [mg, mf, colK, stK, clK, mnK, shN]; omega)
            | refine Exists.intro _ (And.intro rfl ?_)
            | ((with_reducible show wp _ _ _ _ _ _ _ _ _ _ _ _ _ _); conv => whnf)
            | ((with_reducible show callK _ _ _ _ _ _ _ _ _); conv => whnf)
            | ((with_reducible show condK _ _ _ _ _); conv => whnf)
            | ((with_reducible show st1 _ _ _ _ _ _ _ _ _ _ _ _); conv => whnf)
            | ((with_reducible show (Prod.fst _ : Spec) _ _ _); conv => whnf)
            | ((with_reducible show shortK _ _); conv => whnf)
            | exact Nat.le_of_ble_eq_true rfl)
        exact ⟨482, by omega, rfl, rfl, rfl, rfl, ini_s (K' := 21) hI rfl (by omega) (by omega) (fun k a b => by first | omega | (rw [show k = 21 by omega]; rfl))⟩
      · rintro m L st S' c ⟨rfl, rfl, rfl, rfl, hI⟩
        repeat' (first
            | omega
            | with_reducible apply And.intro
            | (intro c9; (try simp only [mg, mf, colK, stK, clK, mnK, shN] at c9))
            | exact ms_o ⟨hI.1, ‹_›⟩
            | exact ini_o hI
            | refine Exists.intro (mt 21) (And.intro (ini_f hI (by omega)) ?_)
            | (simp only [mg, mf, colK, stK, clK, mnK, shN]; omega)
            | refine Exists.intro _ (And.intro rfl ?_)
            | ((with_reducible show wp _ _ _ _ _ _ _ _ _ _ _ _ _ _); conv => whnf)
            | ((with_reducible show callK _ _ _ _ _ _ _ _ _); conv => whnf)
            | ((with_reducible show condK _ _ _ _ _); conv => whnf)
            | ((with_reducible show st1 _ _ _ _ _ _ _ _ _ _ _ _); conv => whnf)
            | ((with_reducible show (Prod.fst _ : Spec) _ _ _); conv => whnf)
            | ((with_reducible show shortK _ _); conv => whnf)
            | exact Nat.le_of_ble_eq_true rfl)
        exact ⟨481, by omega, rfl, rfl, rfl, rfl, ini_s (K' := 22) hI rfl (by omega) (by omega) (fun k a b => by first | omega | (rw [show k = 22 by omega]; rfl))⟩
      · rintro m L st S' c ⟨rfl, rfl, rfl, rfl, hI⟩
        repeat' (first
            | omega
            | with_reducible apply And.intro
            | (intro c9; (try simp only [mg, mf, colK, stK, clK, mnK, shN] at c9))
            | exact ms_o ⟨hI.1, ‹_›⟩
            | exact ini_o hI
            | refine Exists.intro (mt 22) (And.intro (ini_f hI (by omega)) ?_)
            | (simp only [mg, mf, colK, stK, clK, mnK, shN]; omega)
            | refine Exists.intro _ (And.intro rfl ?_)
            | ((with_reducible show wp _ _ _ _ _ _ _ _ _ _ _ _ _ _); conv => whnf)
            | ((with_reducible show callK _ _ _ _ _ _ _ _ _); conv => whnf)
            | ((with_reducible show condK _ _ _ _ _); conv => whnf)
            | ((with_reducible show st1 _ _ _ _ _ _ _ _ _ _ _ _); conv => whnf)
            | ((with_reducible show (Prod.fst _ : Spec) _ _ _); conv => whnf)
            | ((with_reducible show shortK _ _); conv => whnf)
            | exact Nat.le_of_ble_eq_true rfl)
        exact ⟨480, by omega, rfl, rfl, rfl, rfl, ini_s (K' := 24) hI rfl (by omega) (by omega) (fun k a b => by first | omega | (rw [show k = 23 by omega]; rfl))⟩
      · rintro m L st S' c ⟨rfl, rfl, rfl, rfl, hI⟩
        repeat' (first
            | omega
            | with_reducible apply And.intro
            | (intro c9; (try simp only [mg, mf, colK, stK, clK, mnK, shN] at c9))
            | exact ms_o ⟨hI.1, ‹_›⟩
            | exact ini_o hI
            | refine Exists.intro (mt 24) (And.intro (ini_f hI (by omega)) ?_)
            | (simp only [mg, mf, colK, stK, clK, mnK, shN]; omega)
            | refine Exists.intro _ (And.intro rfl ?_)
            | ((with_reducible show wp _ _ _ _ _ _ _ _ _ _ _ _ _ _); conv => whnf)
            | ((with_reducible show callK _ _ _ _ _ _ _ _ _); conv => whnf)
            | ((with_reducible show condK _ _ _ _ _); conv => whnf)
            | ((with_reducible show st1 _ _ _ _ _ _ _ _ _ _ _ _); conv => whnf)
            | ((with_reducible show (Prod.fst _ : Spec) _ _ _); conv => whnf)
            | ((with_reducible show shortK _ _); conv => whnf)
            | exact Nat.le_of_ble_eq_true rfl)
        exact ⟨479, by omega, rfl, rfl, rfl, rfl, ini_s (K' := 25) hI rfl (by omega) (by omega) (fun k a b => by first | omega | (rw [show k = 25 by omega]; rfl))⟩
      · rintro m L st S' c ⟨rfl, rfl, rfl, rfl, hI⟩
        repeat' (first
            | omega
            | with_reducible apply And.intro
            | (intro c9; (try simp only [mg, mf, colK, stK, clK, mnK, shN] at c9))
            | exact ms_o ⟨hI.1, ‹_›⟩
            | exact ini_o hI
            | refine Exists.intro (mt 25) (And.intro (ini_f hI (by omega)) ?_)
            | (simp only [mg, mf, colK, stK, clK, mnK, shN]; omega)
            | refine Exists.intro _ (And.intro rfl ?_)
            | ((with_reducible show wp _ _ _ _ _ _ _ _ _ _ _ _ _ _); conv => whnf)
            | ((with_reducible show callK _ _ _ _ _ _ _ _ _); conv => whnf)
            | ((with_reducible show condK _ _ _ _ _); conv => whnf)
            | ((with_reducible show st1 _ _ _ _ _ _ _ _ _ _ _ _); conv => whnf)
            | ((with_reducible show (Prod.fst _ : Spec) _ _ _); conv => whnf)
            | ((with_reducible show shortK _ _); conv => whnf)
            | exact Nat.le_of_ble_eq_true rfl)
        exact ⟨478, by omega, rfl, rfl, rfl, rfl, ini_s (K' := 26) hI rfl (by omega) (by omega) (fun k a b => by first | omega | (rw [show k = 26 by omega]; rfl))⟩
      · rintro m L st S' c ⟨rfl, rfl, rfl, rfl, hI⟩
        repeat' (first
            | omega
            | with_reducible apply And.intro
            | (intro c9; (try simp only [mg, mf, colK, stK, clK, mnK, shN] at c9))
            | exact ms_o ⟨hI.1, ‹_›⟩
            | exact ini_o hI
            | refine Exists.intro (mt 26) (And.intro (ini_f hI (by omega)) ?_)
            | (simp only [mg, mf, colK, stK, clK, mnK, shN]; omega)
            | refine Exists.intro _ (And.intro rfl ?_)
            | ((with_reducible show wp _ _ _ _ _ _ _ _ _ _ _ _ _ _); conv => whnf)
            | ((with_reducible show callK _ _ _ _ _ _ _ _ _); conv => whnf)
            | ((with_reducible show condK _ _ _ _ _); conv => whnf)
            | ((with_reducible show st1 _ _ _ _ _ _ _ _ _ _ _ _); conv => whnf)
            | ((with_reducible show (Prod.fst _ : Spec) _ _ _); conv => whnf)
            | ((with_reducible show shortK _ _); conv => whnf)
            | exact Nat.le_of_ble_eq_true rfl)
        exact ⟨477, by omega, rfl, rfl, rfl, rfl, ini_s (K' := 27) hI rfl (by omega) (by omega) (fun k a b => by first | omega | (rw [show k = 27 by omega]; rfl))⟩
      · rintro m L st S' c ⟨rfl, rfl, rfl, rfl, hI⟩
        repeat' (first
            | omega
            | with_reducible apply And.intro
            | (intro c9; (try simp only [mg, mf, colK, stK, clK, mnK, shN] at c9))
            | exact ms_o ⟨hI.1, ‹_›⟩
            | exact ini_o hI
            | refine Exists.intro (mt 27) (And.intro (ini_f hI (by omega)) ?_)
            | (simp only [mg, mf, colK, stK, clK, mnK, shN]; omega)
            | refine Exists.intro _ (And.intro rfl ?_)
            | ((with_reducible show wp _ _ _ _ _ _ _ _ _ _ _ _ _ _); conv => whnf)
            | ((with_reducible show callK _ _ _ _ _ _ _ _ _); conv => whnf)
            | ((with_reducible show condK _ _ _ _ _); conv => whnf)
            | ((with_reducible show st1 _ _ _ _ _ _ _ _ _ _ _ _); conv => whnf)
            | ((with_reducible show (Prod.fst _ : Spec) _ _ _); conv => whnf)
            | ((with_reducible show shortK _ _); conv => whnf)
            | exact Nat.le_of_ble_eq_true rfl)
        exact ⟨476, by omega, rfl, rfl, rfl, rfl, ini_s (K' := 28) hI rfl (by omega) (by omega) (fun k a b => by first | omega | (rw [show k = 28 by omega]; rfl))⟩
      · rintro m L st S' c ⟨rfl, rfl, rfl, rfl, hI⟩
        repeat' (first
            | omega
            | with_reducible apply And.intro
            | (intro c9; (try simp only [mg, mf, colK, stK, clK, mnK, shN] at c9))
            | exact ms_o ⟨hI.1, ‹_›⟩
            | exact ini_o hI
            | refine Exists.intro (mt 28) (And.intro (ini_f hI (by omega)) ?_)
            | (simp only [mg, mf, colK, stK, clK, mnK, shN]; omega)
            | refine Exists.intro _ (And.intro rfl ?_)
            | ((with_reducible show wp _ _ _ _ _ _ _ _ _ _ _ _ _ _); conv => whnf)
            | ((with_reducible show callK _ _ _ _ _ _ _ _ _); conv => whnf)
            | ((with_reducible show condK _ _ _ _ _); conv => whnf)
            | ((with_reducible show st1 _ _ _ _ _ _ _ _ _ _ _ _); conv => whnf)
            | ((with_reducible show (Prod.fst _ : Spec) _ _ _); conv => whnf)
            | ((with_reducible show shortK _ _); conv => whnf)
            | exact Nat.le_of_ble_eq_true rfl)
        exact ⟨475, by omega, rfl, rfl, rfl, rfl, ini_s (K' := 29) hI rfl (by omega) (by omega) (fun k a b => by first | omega | (rw [show k = 29 by omega]; rfl))⟩
      · rintro m L st S' c ⟨rfl, rfl, rfl, rfl, hI⟩
        repeat' (first
            | omega
            | with_reducible apply And.intro
            | (intro c9; (try simp only [mg, mf, colK, stK, clK, mnK, shN] at c9))
            | exact ms_o ⟨hI.1, ‹_›⟩
            | exact ini_o hI
            | refine Exists.intro (mt 29) (And.intro (ini_f hI (by omega)) ?_)
            | (simp only [mg, mf, colK, stK, clK, mnK, shN]; omega)
            | refine Exists.intro _ (And.intro rfl ?_)
            | ((with_reducible show wp _ _ _ _ _ _ _ _ _ _ _ _ _ _); conv => whnf)
            | ((with_reducible show callK _ _ _ _ _ _ _ _ _); conv => whnf)
            | ((with_reducible show condK _ _ _ _ _); conv => whnf)
            | ((with_reducible show st1 _ _ _ _ _ _ _ _ _ _ _ _); conv => whnf)
            | ((with_reducible show (Prod.fst _ : Spec) _ _ _); conv => whnf)
            | ((with_reducible show shortK _ _); conv => whnf)
            | exact Nat.le_of_ble_eq_true rfl)
        exact ⟨474, by omega, rfl, rfl, rfl, rfl, ini_s (K' := 30) hI rfl (by omega) (by omega) (fun k a b => by first | omega | (rw [show k = 30 by omega]; rfl))⟩
      · rintro m L st S' c ⟨rfl, rfl, rfl, rfl, hI⟩
        repeat' (first
            | omega
            | with_reducible apply And.intro
            | (intro c9; (try simp only [mg, mf, colK, stK, clK, mnK, shN] at c9))
            | exact ms_o ⟨hI.1, ‹_›⟩
            | exact ini_o hI
            | refine Exists.intro (mt 30) (And.intro (ini_f hI (by omega)) ?_)
            | (simp only [mg, mf, colK, stK, clK, mnK, shN]; omega)
            | refine Exists.intro _ (And.intro rfl ?_)
            | ((with_reducible show wp _ _ _ _ _ _ _ _ _ _ _ _ _ _); conv => whnf)
            | ((with_reducible show callK _ _ _ _ _ _ _ _ _); conv => whnf)
            | ((with_reducible show condK _ _ _ _ _); conv => whnf)
            | ((with_reducible show st1 _ _ _ _ _ _ _ _ _ _ _ _); conv => whnf)
            | ((with_reducible show (Prod.fst _ : Spec) _ _ _); conv => whnf)
            | ((with_reducible show shortK _ _); conv => whnf)
            | exact Nat.le_of_ble_eq_true rfl)
        exact ⟨473, by omega, rfl, rfl, rfl, rfl, ini_s (K' := 31) hI rfl (by omega) (by omega) (fun k a b => by first | omega | (rw [show k = 31 by omega]; rfl))⟩
      · rintro m L st S' c ⟨rfl, rfl, rfl, rfl, hI⟩
        repeat' (first
            | omega
            | with_reducible apply And.intro
            | (intro c9; (try simp only [mg, mf, colK, stK, clK, mnK, shN] at c9))
            | exact ms_o ⟨hI.1, ‹_›⟩
            | exact ini_o hI
            | refine Exists.intro (mt 31) (And.intro (ini_f hI (by omega)) ?_)
            | (simp only [mg, mf, colK, stK, clK, mnK, shN]; omega)
            | refine Exists.intro _ (And.intro rfl ?_)
            | ((with_reducible show wp _ _ _ _ _ _ _ _ _ _ _ _ _ _); conv => whnf)
            | ((with_reducible show callK _ _ _ _ _ _ _ _ _); conv => whnf)
            | ((with_reducible show condK _ _ _ _ _); conv => whnf)
            | ((with_reducible show st1 _ _ _ _ _ _ _ _ _ _ _ _); conv => whnf)
            | ((with_reducible show (Prod.fst _ : Spec) _ _ _); conv => whnf)
            | ((with_reducible show shortK _ _); conv => whnf)
            | exact Nat.le_of_ble_eq_true rfl)
        exact ⟨472, by omega, rfl, rfl, rfl, rfl, ini_s (K' := 32) hI rfl (by omega) (by omega) (fun k a b => by first | omega | (rw [show k = 32 by omega]; rfl))⟩
      · rintro m L st S' c ⟨rfl, rfl, rfl, rfl, hI⟩
        repeat' (first
            | omega
            | with_reducible apply And.intro
            | (intro c9; (try simp only [mg, mf, colK, stK, clK, mnK, shN] at c9))
            | exact ms_o ⟨hI.1, ‹_›⟩
            | exact ini_o hI
            | refine Exists.intro (mt 32) (And.intro (ini_f hI (by omega)) ?_)
            | (simp only [mg, mf, colK, stK, clK, mnK, shN]; omega)
            | refine Exists.intro _ (And.intro rfl ?_)
            | ((with_reducible show wp _ _ _ _ _ _ _ _ _ _ _ _ _ _); conv => whnf)
            | ((with_reducible show callK _ _ _ _ _ _ _ _ _); conv => whnf)
            | ((with_reducible show condK _ _ _ _ _); conv => whnf)
            | ((with_reducible show st1 _ _ _ _ _ _ _ _ _ _ _ _); conv => whnf)
            | ((with_reducible show (Prod.fst _ : Spec) _ _ _); conv => whnf)
            | ((with_reducible show shortK _ _); conv => whnf)
            | exact Nat.le_of_ble_eq_true rfl)
        exact ⟨120, by omega, 0, _, rfl, rfl, rfl, rfl, by omega, ini_s (K' := 33) hI rfl (by omega) (by omega) (fun k a b => by omega), rfl⟩
      · rintro m L st S' c ⟨k, T, rfl, rfl, rfl, rfl, hk, hI, hS⟩
        have hM : MS S' := by rw [hS]; exact (fill31_ag k).ms (ini_MS hI)
        have hr := hM.2.1
        repeat' (first
            | omega
            | with_reducible apply And.intro
            | (intro c9; (try simp only [mg, mf, colK, stK, clK, mnK, shN] at c9))
            | exact hM
            | exact ms_o hM
            | (refine ms_r hM rfl rfl ?_ ?_ <;> (try simp only [mLen]) <;> omega)
            | (refine ms_w hM rfl rfl ?_ ?_ <;> (try simp only [mLen]) <;> omega)
            | (simp only [mg, mf, colK, stK, clK, mnK, shN]; omega)
            | refine Exists.intro _ (And.intro rfl ?_)
            | refine Exists.intro _ (And.intro ((congrFun hr _).trans rfl) ?_)
            | ((with_reducible show wp _ _ _ _ _ _ _ _ _ _ _ _ _ _); conv => whnf)
            | ((with_reducible show callK _ _ _ _ _ _ _ _ _); conv => whnf)
            | ((with_reducible show condK _ _ _ _ _); conv => whnf)
            | ((with_reducible show st1 _ _ _ _ _ _ _ _ _ _ _ _); conv => whnf)
            | ((with_reducible show (Prod.fst _ : Spec) _ _ _); conv => whnf)
            | ((with_reducible show shortK _ _); conv => whnf)
            | exact Nat.le_of_ble_eq_true rfl)
        · have e : k = 120 := by omega
          subst e
          obtain ⟨q1, q2, q3, q4, q5, q6⟩ := ini_MI hI
          have q7 := ini_out hI
          rw [← hS] at q1 q2 q3 q4 q5 q6 q7
          exact h _ q1 q2 q3 q4 q5 q6 q7
        · exact ⟨120 - (k + 1), by omega, k + 1, T, by rw [Int.natCast_add]; rfl, rfl, rfl, rfl, by omega, hI, by rw [hS]; rfl⟩
    · repeat' (first
          | omega
          | with_reducible apply And.intro
          | (intro c9; (try simp only [mg, mf, colK, stK, clK, mnK, shN] at c9))
          | exact ⟨33, p1⟩
          | (simp only [mg, mf, colK, stK, clK, mnK, shN]; omega)
          | refine Exists.intro _ (And.intro rfl ?_)
          | ((with_reducible show wp _ _ _ _ _ _ _ _ _ _ _ _ _ _); conv => whnf)
          | ((with_reducible show callK _ _ _ _ _ _ _ _ _); conv => whnf)
          | ((with_reducible show condK _ _ _ _ _); conv => whnf)
          | ((with_reducible show st1 _ _ _ _ _ _ _ _ _ _ _ _); conv => whnf)
          | ((with_reducible show (Prod.fst _ : Spec) _ _ _); conv => whnf)
          | ((with_reducible show shortK _ _); conv => whnf)
          | exact Nat.le_of_ble_eq_true rfl)
      exact ⟨500, by omega, rfl, rfl, rfl, rfl, h0⟩
