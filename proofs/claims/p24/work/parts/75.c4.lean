/-! THE CLASS: the sequencer -/
/-- of each shape the shapes of unlike colours, as bits -/
def ulV (S : Sto) (s n : Nat) (col : Nat → Int) : Prop := ∀ k, k < n → ∃ w : Nat, S.2.1 (s + 5) k = w ∧ w < 128 ∧ ∀ j : Nat, j < n → (w.testBit j = true ↔ col k ≠ col j)
def ulC (S : Sto) (s n : Nat) (col : Nat → Int) : Prop := S.1 s = some (3, 3) ∧ S.2.2 s 2 = some (s + 5) ∧ S.1 (s + 5) = some (100, n) ∧ ulV S s n col
theorem ulC.eq {S S' : Sto} {s n : Nat} {col : Nat → Int} (h : ulC S s n col) (e1 : S'.1 s = S.1 s) (e2 : S'.2.2 s = S.2.2 s) (e3 : S'.1 (s + 5) = S.1 (s + 5)) (e4 : S'.2.1 (s + 5) = S.2.1 (s + 5)) : ulC S' s n col := by
  unfold ulC ulV at h ⊢
  rw [e1, e2, e3, e4]; exact h
def sqC (S : Sto) (s a n : Nat) (u : Nat → Nat) (col : Nat → Int) (nd : Nat → Nat) : Prop := ulC S s n col ∧ S.2.2 s 0 = some a ∧ S.2.2 s 1 = some (s + 1) ∧ S.1 a = some (114, n) ∧ S.1 (s + 1) = some (100, n) ∧ (1 ≤ n ∧ n ≤ 7) ∧
  (∀ k, k < n → S.2.2 a k = some (u k) ∧ S.1 (u k) = some (4, 5) ∧ S.2.1 (u k) 1 = col k ∧ 0 ≤ col k ∧ col k < 6) ∧ (∀ k, k < n → S.2.1 (s + 1) k = nd k ∧ nd k < 128) ∧ needOK nd n
theorem sqC.upd {S : Sto} {s a n : Nat} {u : Nat → Nat} {col : Nat → Int} {nd : Nat → Nat} (h : sqC S s a n u col nd) {f L j : Nat} {v : Int} (hf : S.1 f = some (100, L)) (hs : f ≠ s + 1) (hs5 : f ≠ s + 5) : sqC (updI S f j v) s a n u col nd := by
  obtain ⟨h1, h2, h3, h4, h5, h6, h7, h8, h9⟩ := h
  refine ⟨h1.eq rfl rfl rfl (by funext k; rw [updI_2, if_neg (fun q => hs5 q.1.symm)]), h2, h3, h4, h5, h6, fun k hk => ?_, fun k hk => ?_, h9⟩
  · obtain ⟨a1, a2, a3, a4⟩ := h7 k hk
    have hne : u k ≠ f := fun e => by rw [e, hf] at a2; cases a2
    refine ⟨a1, a2, ?_, a4⟩
    rw [updI_2, if_neg (fun q => hne q.1)]; exact a3
  · rw [updI_2, if_neg (fun q => hs q.1.symm)]; exact h8 k hk
def chgL (col : Nat → Int) (l : Int) (x : Nat) : Int := if l = -1 then 0 else chg col l.toNat x
theorem chgL_r (col : Nat → Int) (l : Int) (x : Nat) : 0 ≤ chgL col l x ∧ chgL col l x ≤ 1 := by unfold chgL chg; split <;> (try split) <;> omega
def s_changeC : Spec := fun as S post => match as with
  | [.inr (.inr (some s)), .inl l, .inl x] => ∃ a n u col nd, sqC S s a n u col nd ∧ (-1 ≤ l ∧ l < n ∧ 0 ≤ x ∧ x < n) ∧ post (.inl (some (vI (chgL col l x.toNat)))) S
  | _ => False
def spX3_change : Nat → CD := spF mdX3_change fun i => match i with
  | _ => noR
set_option maxHeartbeats 4000000 in
set_option maxRecDepth 100000 in
theorem sat_X3_change : Sat mX3_change s_changeC 0 0 1 := by
  refine sat_of (E := eX3_change) (sp := spX3_change) (ini := false) (by decide +kernel) (fun h => by cases h) okX3_change (fun i => match i with
    | _ => ⟨sat_no _, Nat.le_of_ble_eq_true rfl⟩) ?_
  intro as S post h
  match as, h with
  | [.inr (.inr (some s)), .inl l, .inl x], h =>
    obtain ⟨a, n, u, col, nd, hC, hlx, h⟩ := h
    obtain ⟨⟨c1, c2, c3, c4⟩, -, -, -, -, c6, -⟩ := hC
    refine body0 120 rfl ?_
    by_cases l0 : 0 ≤ l
    · obtain ⟨w, w1, w2, w3⟩ := c4 l.toNat (by omega)
      have w4 := w3 x.toNat (by omega)
      have b1 := bz_has w x.toNat w2 (by omega)
      rw [show ((x.toNat : Nat) : Int) = x by omega, ← w1] at b1
      have hv : chgL col l x.toNat = bAnd (bShr (S.2.1 (s + 5) l.toNat) x) 1 := by
        rw [b1]
        unfold chgL chg
        rw [if_neg (by omega)]
        by_cases e : col l.toNat = col x.toNat
        · rw [if_pos e, if_neg (fun z => (w4.mp z) e)]
        · rw [if_neg e, if_pos (w4.mpr e)]
      rw [hv] at h
      repeat' (first
          | omega
          | with_reducible apply And.intro
          | (intro c9; (try simp only [mg, mf, colK, stK, clK, mnK, shN] at c9))
          | exact ⟨3, c1⟩
          | refine ⟨100, n, c3, by omega, ?_⟩
          | exact ⟨100, n, c3, Or.inl rfl, by omega, by omega⟩
          | exact h
          | (simp only [mg, mf, colK, stK, clK, mnK, shN]; omega)
          | refine Exists.intro _ (And.intro rfl ?_)
          | refine Exists.intro _ (And.intro (c2) ?_)
          | ((with_reducible show wp _ _ _ _ _ _ _ _ _ _ _ _ _ _); conv => whnf)
          | ((with_reducible show callK _ _ _ _ _ _ _ _ _); conv => whnf)
          | ((with_reducible show condK _ _ _ _ _); conv => whnf)
          | ((with_reducible show st1 _ _ _ _ _ _ _ _ _ _ _ _); conv => whnf)
          | ((with_reducible show (Prod.fst _ : Spec) _ _ _); conv => whnf)
          | ((with_reducible show shortK _ _); conv => whnf)
          | exact Nat.le_of_ble_eq_true rfl)
    · unfold chgL at h
      rw [if_pos (by omega)] at h
      repeat' (first
          | omega
          | with_reducible apply And.intro
          | (intro c9; (try simp only [mg, mf, colK, stK, clK, mnK, shN] at c9))
          | exact h
          | (simp only [mg, mf, colK, stK, clK, mnK, shN]; omega)
          | refine Exists.intro _ (And.intro rfl ?_)
          | ((with_reducible show wp _ _ _ _ _ _ _ _ _ _ _ _ _ _); conv => whnf)
          | ((with_reducible show callK _ _ _ _ _ _ _ _ _); conv => whnf)
          | ((with_reducible show condK _ _ _ _ _); conv => whnf)
          | ((with_reducible show st1 _ _ _ _ _ _ _ _ _ _ _ _); conv => whnf)
          | ((with_reducible show (Prod.fst _ : Spec) _ _ _); conv => whnf)
          | ((with_reducible show shortK _ _); conv => whnf)
          | exact Nat.le_of_ble_eq_true rfl)
def s_mayFollow : Spec := fun as S post => match as with
  | [.inr (.inr (some s)), .inl w, .inl x] => ∃ a n u col nd, sqC S s a n u col nd ∧ (0 ≤ w ∧ w < 128 ∧ 0 ≤ x ∧ x < n) ∧ ∀ r, isB r (canB nd n w.toNat x.toNat = true) → post (.inl (some (vI r))) S
  | _ => False
def spX3_mayFollow : Nat → CD := spF mdX3_mayFollow fun i => match i with
  | _ => noR
set_option maxHeartbeats 4000000 in
set_option maxRecDepth 100000 in
theorem sat_X3_mayFollow : Sat mX3_mayFollow s_mayFollow 0 0 1 := by
  refine sat_of (E := eX3_mayFollow) (sp := spX3_mayFollow) (ini := false) (by decide +kernel) (fun h => by cases h) okX3_mayFollow (fun i => match i with
    | _ => ⟨sat_no _, Nat.le_of_ble_eq_true rfl⟩) ?_
  intro as S post h
  match as, h with
  | [.inr (.inr (some s)), .inl w, .inl x], h =>
    obtain ⟨a, n, u, col, nd, hC, hwx, h⟩ := h
    obtain ⟨c1, c2, c3, c4, c5, c6, c7, c8, c9'⟩ := hC
    have h8 := c8 x.toNat (by omega)
    have b1 := bz_has w.toNat x.toNat (by omega) (by omega)
    have b2 := bz_sub (nd x.toNat) w.toNat h8.2 (by omega)
    have b3 := bz_subR (nd x.toNat) w.toNat h8.2 (by omega)
    rw [show ((w.toNat : Nat) : Int) = w by omega] at b1 b2 b3
    rw [show ((x.toNat : Nat) : Int) = x by omega] at b1
    rw [← h8.1] at b2 b3
    have hcan := canB_e (need := nd) (n := n) (s := w.toNat) (x := x.toNat)
    have hbit : (bAnd (bShr w x) 1 = 1 ∧ w.toNat.testBit x.toNat = true) ∨ (bAnd (bShr w x) 1 = 0 ∧ w.toNat.testBit x.toNat = false) := by
      cases hb : w.toNat.testBit x.toNat with
      | true => rw [hb, if_pos rfl] at b1; exact Or.inl ⟨b1, rfl⟩
      | false => rw [hb, if_neg (by simp)] at b1; exact Or.inr ⟨b1, rfl⟩
    refine body0 120 rfl ?_
    repeat' (first
        | omega
        | with_reducible apply And.intro
        | (intro c9; (try simp only [mg, mf, colK, stK, clK, mnK, shN] at c9))
        | exact ⟨3, c1.1⟩
        | refine ⟨100, n, c5, by omega, ?_⟩
        | exact ⟨100, n, c5, Or.inl rfl, by omega, by omega⟩
        | exact b3.1
        | exact b3.2
        | (simp only [mg, mf, colK, stK, clK, mnK, shN]; omega)
        | refine Exists.intro _ (And.intro rfl ?_)
        | refine Exists.intro _ (And.intro (c3) ?_)
        | ((with_reducible show wp _ _ _ _ _ _ _ _ _ _ _ _ _ _); conv => whnf)
        | ((with_reducible show callK _ _ _ _ _ _ _ _ _); conv => whnf)
        | ((with_reducible show condK _ _ _ _ _); conv => whnf)
        | ((with_reducible show st1 _ _ _ _ _ _ _ _ _ _ _ _); conv => whnf)
        | ((with_reducible show (Prod.fst _ : Spec) _ _ _); conv => whnf)
        | ((with_reducible show shortK _ _); conv => whnf)
        | exact Nat.le_of_ble_eq_true rfl)
    all_goals first
      | exact kr_i ( h _ (isBf fun q => by have q2 := (hcan.mp q).2.1; rcases hbit with z | z; rw [z.2] at q2; cases q2; exact c9 z.1) ) (Nat.le_of_ble_eq_true rfl) (Nat.le_of_ble_eq_true rfl)
      | exact kr_i ( h _ (isBf fun q => c9 (b2.mpr (hcan.mp q).2.2)) ) (Nat.le_of_ble_eq_true rfl) (Nat.le_of_ble_eq_true rfl)
      | exact kr_i ( h _ (isBt (hcan.mpr ⟨by omega, by rcases hbit with z | z; omega; exact z.2, b2.mp c9⟩)) ) (Nat.le_of_ble_eq_true rfl) (Nat.le_of_ble_eq_true rfl)
theorem idx_n (a n x : Nat) : ((a : Int) * (n : Int) + (x : Int)).toNat = a * n + x := by
  rw [← Int.natCast_mul, ← Int.natCast_add, Int.toNat_natCast]
theorem idx_lt {a n x m : Nat} (ha : a < m) (hx : x < n) : a * n + x < m * n := by
  have := Nat.mul_le_mul_right n (show a + 1 ≤ m from ha)
  rw [Nat.add_mul, Nat.one_mul] at this
  omega
abbrev fv (S : Sto) (f n s x : Nat) : Int := S.2.1 f (s * n + x)
def s_changesBy : Spec := fun as S post => match as with
  | [.inr (.inr (some s)), .inl w, .inl l, .inl x, .inr (.inr (some f))] => ∃ a n u col nd, sqC S s a n u col nd ∧ S.1 f = some (100, 2 ^ n * n) ∧ (0 ≤ w ∧ w.toNat < 2 ^ n ∧ -1 ≤ l ∧ l < n ∧ 0 ≤ x ∧ x < n) ∧ post (.inl (some (vI (chgL col l x.toNat + fv S f n (w.toNat ||| 2 ^ x.toNat) x.toNat)))) S
  | _ => False
def spX3_changesBy : Nat → CD := spF mdX3_changesBy fun i => match i with
  | 1 => (s_changeC, 0, 0, 1)
  | _ => noR
set_option maxHeartbeats 4000000 in
set_option maxRecDepth 100000 in
theorem sat_X3_changesBy : Sat mX3_changesBy s_changesBy 0 0 2 := by
  refine sat_of (E := eX3_changesBy) (sp := spX3_changesBy) (ini := false) (by decide +kernel) (fun h => by cases h) okX3_changesBy (fun i => match i with
    | 1 => ⟨sat_X3_change, Nat.le_of_ble_eq_true rfl⟩
    | i + 2 => ⟨sat_no _, Nat.le_of_ble_eq_true rfl⟩
    | 0 => ⟨sat_no _, Nat.le_of_ble_eq_true rfl⟩) ?_
  intro as S post h
  match as, h with
  | [.inr (.inr (some s)), .inl w, .inl l, .inl x, .inr (.inr (some f))], h =>
    obtain ⟨a, n, u, col, nd, hC, hf, hwx, h⟩ := h
    have hC2 := hC
    obtain ⟨c1, c2, c3, c4, c5, c6, c7, c8, c9'⟩ := hC2
    have hp7 : 2 ^ n ≤ 128 := Nat.pow_le_pow_right (n := 2) (by omega) c6.2
    have hlt := or_lt (x := x.toNat) hwx.2.1 (by omega)
    have e1 := bz_or w.toNat x.toNat (by omega) (by omega)
    rw [show ((w.toNat : Nat) : Int) = w by omega, show ((x.toNat : Nat) : Int) = x by omega] at e1
    have hi := idx_lt (n := n) hlt (show x.toNat < n by omega)
    have e2 := idx_n (w.toNat ||| 2 ^ x.toNat) n x.toNat
    rw [show ((x.toNat : Nat) : Int) = x by omega] at e2
    have e3 : 0 ≤ ((w.toNat ||| 2 ^ x.toNat : Nat) : Int) * (n : Int) + x := by
      have : 0 ≤ ((w.toNat ||| 2 ^ x.toNat : Nat) : Int) * (n : Int) := Int.mul_nonneg (by omega) (by omega)
      omega
    have hsz : 2 ^ n * n ≤ 896 := Nat.le_trans (Nat.mul_le_mul_right n hp7) (by omega)
    generalize hI : ((w.toNat ||| 2 ^ x.toNat : Nat) : Int) * (n : Int) + x = I at *
    have hI2 : I < ((2 ^ n * n : Nat) : Int) := by omega
    have hI3 : I ≤ 896 := by omega
    have hsz2 : ((2 ^ n * n : Nat) : Int) ≤ 896 := by omega
    unfold fv at h
    rw [← e2] at h
    refine body0 120 rfl ?_
    repeat' (first
        | omega
        | with_reducible apply And.intro
        | (intro c9; (try simp only [mg, mf, colK, stK, clK, mnK, shN] at c9))
        | exact ⟨3, c1.1⟩
        | rw [e1]
        | rw [hI]
        | refine ⟨114, n, c4, by omega, ?_⟩
        | refine ⟨100, 2 ^ n * n, hf, by omega, ?_⟩
        | exact ⟨100, 2 ^ n * n, hf, Or.inl rfl, by omega, by omega⟩
        | refine ⟨a, n, u, col, nd, hC, by omega, ?_⟩
        | (simp only [mg, mf, colK, stK, clK, mnK, shN]; omega)
        | refine Exists.intro _ (And.intro rfl ?_)
        | refine Exists.intro _ (And.intro (c2) ?_)
        | ((with_reducible show wp _ _ _ _ _ _ _ _ _ _ _ _ _ _); conv => whnf)
        | ((with_reducible show callK _ _ _ _ _ _ _ _ _); conv => whnf)
        | ((with_reducible show condK _ _ _ _ _); conv => whnf)
        | ((with_reducible show st1 _ _ _ _ _ _ _ _ _ _ _ _); conv => whnf)
        | ((with_reducible show (Prod.fst _ : Spec) _ _ _); conv => whnf)
        | ((with_reducible show shortK _ _); conv => whnf)
        | exact Nat.le_of_ble_eq_true rfl)
    all_goals first
      | exact h
      | omega
/-- what the next shape is weighed by -/
def bnG (S : Sto) (f n : Nat) (col : Nat → Int) (nd : Nat → Nat) (w : Nat) (l : Int) : Nat → Int := fun x => if canB nd n w x = true then chgL col l x + fv S f n (w ||| 2 ^ x) x else 1000
def s_bestNext : Spec := fun as S post => match as with
  | [.inr (.inr (some s)), .inl w, .inl l, .inr (.inr (some f))] => ∃ a n u col nd, sqC S s a n u col nd ∧ S.1 f = some (100, 2 ^ n * n) ∧ (0 ≤ w ∧ w.toNat < 2 ^ n ∧ -1 ≤ l ∧ l < n) ∧ (∀ x : Nat, x < n → canB nd n w.toNat x = true → 0 ≤ fv S f n (w.toNat ||| 2 ^ x) x ∧ fv S f n (w.toNat ||| 2 ^ x) x ≤ 200) ∧ post (.inl (some (vI (argTo (bnG S f n col nd w.toNat l) 1000 n)))) S
  | _ => False
def spX3_bestNext : Nat → CD := spF mdX3_bestNext fun i => match i with
  | 1 => (s_mayFollow, 0, 0, 1)
  | 2 => (s_changesBy, 0, 0, 2)
  | _ => noR
set_option maxHeartbeats 4000000 in
set_option maxRecDepth 100000 in
theorem sat_X3_bestNext : Sat mX3_bestNext s_bestNext 0 0 3 := by
  refine sat_of (E := eX3_bestNext) (sp := spX3_bestNext) (ini := false) (by decide +kernel) (fun h => by cases h) okX3_bestNext (fun i => match i with
    | 1 => ⟨sat_X3_mayFollow, Nat.le_of_ble_eq_true rfl⟩
    | 2 => ⟨sat_X3_changesBy, Nat.le_of_ble_eq_true rfl⟩
    | i + 3 => ⟨sat_no _, Nat.le_of_ble_eq_true rfl⟩
    | 0 => ⟨sat_no _, Nat.le_of_ble_eq_true rfl⟩) ?_
  intro as S post h
  match as, h with
  | [.inr (.inr (some s)), .inl w, .inl l, .inr (.inr (some f))], h =>
    obtain ⟨a, n, u, col, nd, hC, hf, hwl, hfv, h⟩ := h
    have hC2 := hC
    obtain ⟨c1, c2, c3, c4, c5, c6, c7, c8, c9'⟩ := hC2
    have hp7 : 2 ^ n ≤ 128 := Nat.pow_le_pow_right (n := 2) (by omega) c6.2
    have hw128 : w < 128 := by
      have := Nat.lt_of_lt_of_le hwl.2.1 hp7
      omega
    obtain ⟨G, hG⟩ : ∃ G, bnG S f n col nd w.toNat l = G := ⟨_, rfl⟩
    rw [hG] at h
    have hGc : ∀ x : Nat, x < n → canB nd n w.toNat x = true → G x = chgL col l x + fv S f n (w.toNat ||| 2 ^ x) x ∧ 0 ≤ G x ∧ G x ≤ 201 := fun x hx hc => by
      have q := hfv x hx hc
      have q2 := chgL_r col l x
      have e : G x = chgL col l x + fv S f n (w.toNat ||| 2 ^ x) x := by rw [← hG]; unfold bnG; rw [if_pos hc]
      exact ⟨e, by omega, by omega⟩
    have hGn : ∀ x : Nat, ¬ canB nd n w.toNat x = true → G x = 1000 := fun x hc => by rw [← hG]; unfold bnG; rw [if_neg hc]
    refine bodyL [(6, fun ms L st S' cc => ∃ (k : Nat) (x6 : AV), L = [vT s, vI w, vI l, vT f, vI (argTo G 1000 k), vI k, x6] ∧ st = [] ∧ S' = S ∧ cc = (0, 0) ∧ ms = n - k ∧ k ≤ n)] 8 120 rfl
      (List.forall_mem_cons.mpr ⟨?_, fun q hq => by cases hq⟩) ?_
    · rintro ms L st S' cc ⟨k, x6, rfl, rfl, rfl, rfl, rfl, hk⟩
      have hao := argTo_ok (g := G) (b := 1000) k
      have hr : -1 ≤ argTo G 1000 k ∧ argTo G 1000 k < n := by
        rcases hao with q | ⟨x, q1, q2, -⟩ <;> omega
      have es : argTo G 1000 (k + 1) = if G k < minTo G 1000 k then (k : Int) else argTo G 1000 k := rfl
      have hml := (minTo_le (g := G) (b := 1000) k).1
      have nx : ∀ (v : Int) (y6 : AV), k < n → v = argTo G 1000 (k + 1) → ∃ m, m < n - k ∧ ∃ (k2 : Nat) (z6 : AV), [vT s, vI w, vI l, vT f, vI v, vI ((k : Int) + 1), y6] = [vT s, vI w, vI l, vT f, vI (argTo G 1000 k2), vI k2, z6] ∧ ([] : List AV) = [] ∧ S' = S' ∧ ((0, 0) : Nat × Nat) = (0, 0) ∧ m = n - k2 ∧ k2 ≤ n := fun v y6 hkn hv =>
        ⟨n - (k + 1), by omega, k + 1, y6, by rw [hv, Int.natCast_add]; rfl, rfl, rfl, rfl, rfl, by omega⟩
      have hkc := fun (hkn : k < n) (hc : canB nd n w.toNat (k : Int).toNat = true) => hGc k hkn (by rw [Int.toNat_natCast] at hc; exact hc)
      have hbb : argTo G 1000 k ≠ -1 → minTo G 1000 k = chgL col l (argTo G 1000 k).toNat + fv S' f n (w.toNat ||| 2 ^ (argTo G 1000 k).toNat) (argTo G 1000 k).toNat ∧ 0 ≤ minTo G 1000 k ∧ minTo G 1000 k ≤ 201 := fun hne => by
        rcases hao with ⟨q, -⟩ | ⟨x, q1, q2, q3, q4⟩
        · exact absurd q hne
        · have hcx : canB nd n w.toNat x = true := Classical.byContradiction fun z => by have := hGn x z; omega
          have q5 := hGc x (by omega) hcx
          rw [q2, Int.toNat_natCast, q3]
          exact q5
      repeat' (first
          | omega
          | with_reducible apply And.intro
          | (intro c9; (try simp only [mg, mf, colK, stK, clK, mnK, shN] at c9))
          | exact ⟨3, c1.1⟩
          | refine ⟨114, n, c4, by omega, ?_⟩
          | refine ⟨a, n, u, col, nd, hC, by omega, ?_⟩
          | refine ⟨a, n, u, col, nd, hC, hf, by omega, ?_⟩
          | (rw [Int.toNat_natCast])
          | (have q := hkc (by omega) (isB1 ‹isB _ (canB nd n w.toNat (k : Int).toNat = true)› ‹_›); omega)
          | (have q := hbb ‹_ ≠ -1›; omega)
          | (simp only [mg, mf, colK, stK, clK, mnK, shN]; omega)
          | refine Exists.intro _ (And.intro rfl ?_)
          | refine Exists.intro _ (And.intro (c2) ?_)
          | ((with_reducible show wp _ _ _ _ _ _ _ _ _ _ _ _ _ _); conv => whnf)
          | ((with_reducible show callK _ _ _ _ _ _ _ _ _); conv => whnf)
          | ((with_reducible show condK _ _ _ _ _); conv => whnf)
          | ((with_reducible show st1 _ _ _ _ _ _ _ _ _ _ _ _); conv => whnf)
          | ((with_reducible show (Prod.fst _ : Spec) _ _ _); conv => whnf)
          | ((with_reducible show shortK _ _); conv => whnf)
          | exact Nat.le_of_ble_eq_true rfl)
      · rw [show n = k by omega] at h; exact h
      · have q1 := hkc (by omega) (isB1 ‹isB _ (canB nd n w.toNat (k : Int).toNat = true)› ‹_›)
        have q2 := hbb ‹_ ≠ -1›
        exact nx _ _ (by omega) (by rw [es, if_neg (by omega)])
      · have q1 := hkc (by omega) (isB1 ‹isB _ (canB nd n w.toNat (k : Int).toNat = true)› ‹_›)
        have q2 := hbb ‹_ ≠ -1›
        exact nx _ _ (by omega) (by rw [es, if_pos (by omega)])
      · have q1 := hkc (by omega) (isB1 ‹isB _ (canB nd n w.toNat (k : Int).toNat = true)› ‹_›)
        have q2 : minTo G 1000 k = 1000 := by rcases hao with q | ⟨x, z1, z2, -⟩; exact q.2; omega
        exact nx _ _ (by omega) (by rw [es, if_pos (by omega)])
      · have q1 := hGn k (fun z => isB0 ‹isB _ (canB nd n w.toNat (k : Int).toNat = true)› c9 (by rw [Int.toNat_natCast]; exact z))
        exact nx _ _ (by omega) (by rw [es, if_neg (by omega)])
    · repeat' (first
          | omega
          | with_reducible apply And.intro
          | (intro c9; (try simp only [mg, mf, colK, stK, clK, mnK, shN] at c9))
          | (simp only [mg, mf, colK, stK, clK, mnK, shN]; omega)
          | refine Exists.intro _ (And.intro rfl ?_)
          | ((with_reducible show wp _ _ _ _ _ _ _ _ _ _ _ _ _ _); conv => whnf)
          | ((with_reducible show callK _ _ _ _ _ _ _ _ _); conv => whnf)
          | ((with_reducible show condK _ _ _ _ _); conv => whnf)
          | ((with_reducible show st1 _ _ _ _ _ _ _ _ _ _ _ _); conv => whnf)
          | ((with_reducible show (Prod.fst _ : Spec) _ _ _); conv => whnf)
          | ((with_reducible show shortK _ _); conv => whnf)
          | exact Nat.le_of_ble_eq_true rfl)
      exact ⟨n, by omega, 0, _, rfl, rfl, rfl, rfl, rfl, by omega⟩
/-- the class's table is the fewest changes left, from the set w on -/
def tabC (S : Sto) (f n : Nat) (col : Nat → Int) (nd : Nat → Nat) (w : Nat) : Prop := ∀ w' l : Nat, w < w' → w' < 2 ^ n → l < n → fv S f n w' l = dpV n col nd w' l
theorem dpV_full {n : Nat} {col : Nat → Int} {nd : Nat → Nat} (hn : n ≤ 7) (hnd : needOK nd n) (l : Nat) : dpV n col nd (2 ^ n - 1) l = 0 := by
  have hp := Nat.two_pow_pos n
  have h1 := (dpV_range (col := col) hn hnd (2 ^ n) (2 ^ n - 1) l (by omega) (by omega)).1
  rw [dpV_eq hn (by omega), if_pos rfl] at h1 ⊢
  have h2 := (minTo_le (g := fun x => if canB nd n (2 ^ n - 1) x = true then dpV n col nd ((2 ^ n - 1) ||| 2 ^ x) x + chg col l x else 1000) (b := 0) n).1
  omega
/-- with the table, the class's weights are the reference's -/
theorem bnG_dp {S : Sto} {f n : Nat} {col : Nat → Int} {nd : Nat → Nat} {w : Nat} {l : Int} (hw : w < 2 ^ n) (ht : tabC S f n col nd w) (x : Nat) (hx : x < n) : bnG S f n col nd w l x = if canB nd n w x = true then dpV n col nd (w ||| 2 ^ x) x + chgL col l x else 1000 := by
  unfold bnG
  by_cases hc : canB nd n w x = true
  · rw [if_pos hc, if_pos hc]
    obtain ⟨q1, q2, -⟩ := canB_e.mp hc
    rw [ht _ x (or_gt q2) (or_lt hw q1) hx]; omega
  · rw [if_neg hc, if_neg hc]
def s_fewestByBegin : Spec := fun as S post => match as with
  | [.inr (.inr (some s))] => ∃ a n u col nd, sqC S s a n u col nd ∧ S.1 (s + 2) = none ∧ ∀ S', S'.1 = (newS S (s + 2) (100, 2 ^ n * n)).1 → S'.2.2 = (newS S (s + 2) (100, 2 ^ n * n)).2.2 → (∀ t, t ≠ s + 2 → S'.2.1 t = S.2.1 t) → tabC S' (s + 2) n col nd 0 → post (.inl (some (vT (s + 2)))) S'
  | _ => False
theorem sqC.new {S : Sto} {s a n : Nat} {u : Nat → Nat} {col : Nat → Int} {nd : Nat → Nat} (h : sqC S s a n u col nd) {f : Nat} {x : Nat × Nat} (hf : S.1 f = none) : sqC (newS S f x) s a n u col nd := by
  obtain ⟨h1, h2, h3, h4, h5, h6, h7, h8, h9⟩ := h
  have n1 : ∀ t y, S.1 t = some y → t ≠ f := fun t y e q => by rw [q, hf] at e; cases e
  have n0 := n1 _ _ h1.1
  have n5 := n1 _ _ h1.2.2.1
  refine ⟨h1.eq (by rw [newS_1, if_neg n0]) (by funext k; rw [newS_3, if_neg n0]) (by rw [newS_1, if_neg n5]) (by funext k; rw [newS_2, if_neg n5]), by rw [newS_3, if_neg n0]; exact h2, by rw [newS_3, if_neg n0]; exact h3, by rw [newS_1, if_neg (n1 _ _ h4)]; exact h4, by rw [newS_1, if_neg (n1 _ _ h5)]; exact h5, h6, fun k hk => ?_, fun k hk => by rw [newS_2, if_neg (n1 _ _ h5)]; exact h8 k hk, h9⟩
  obtain ⟨a1, a2, a3, a4⟩ := h7 k hk
  exact ⟨by rw [newS_3, if_neg (n1 _ _ h4)]; exact a1, by rw [newS_1, if_neg (n1 _ _ a2)]; exact a2, by rw [newS_2, if_neg (n1 _ _ a2)]; exact a3, a4⟩
theorem sqC.eq {S S' : Sto} {s a n : Nat} {u : Nat → Nat} {col : Nat → Int} {nd : Nat → Nat} (h : sqC S s a n u col nd) {f L : Nat} (e1 : S'.1 = S.1) (e2 : S'.2.2 = S.2.2) (e3 : ∀ t, t ≠ f → S'.2.1 t = S.2.1 t) (hf : S.1 f = some (100, L)) (hs : f ≠ s + 1) (hs5 : f ≠ s + 5) : sqC S' s a n u col nd := by
  obtain ⟨h1, h2, h3, h4, h5, h6, h7, h8, h9⟩ := h
  refine ⟨h1.eq (by rw [e1]) (by rw [e2]) (by rw [e1]) (e3 _ (fun q => hs5 q.symm)), by rw [e2]; exact h2, by rw [e2]; exact h3, by rw [e1]; exact h4, by rw [e1]; exact h5, h6, fun k hk => ?_, fun k hk => by rw [e3 _ (fun q => hs q.symm)]; exact h8 k hk, h9⟩
  obtain ⟨a1, a2, a3, a4⟩ := h7 k hk
  exact ⟨by rw [e2]; exact a1, by rw [e1]; exact a2, by rw [e3 _ (fun q => by rw [q, hf] at a2; cases a2)]; exact a3, a4⟩
def spX3_fewestByBegin : Nat → CD := spF mdX3_fewestByBegin fun i => match i with
  | 1 => (s_bestNext, 0, 0, 3)
  | 2 => (s_changesBy, 0, 0, 2)
  | _ => noR
set_option maxHeartbeats 4000000 in
set_option maxRecDepth 100000 in
theorem sat_X3_fewestByBegin : Sat mX3_fewestByBegin s_fewestByBegin 1 896 4 := by
  refine sat_of (E := eX3_fewestByBegin) (sp := spX3_fewestByBegin) (ini := false) (by decide +kernel) (fun h => by cases h) okX3_fewestByBegin (fun i => match i with
    | 1 => ⟨sat_X3_bestNext, Nat.le_of_ble_eq_true rfl⟩
    | 2 => ⟨sat_X3_changesBy, Nat.le_of_ble_eq_true rfl⟩
    | i + 3 => ⟨sat_no _, Nat.le_of_ble_eq_true rfl⟩
    | 0 => ⟨sat_no _, Nat.le_of_ble_eq_true rfl⟩) ?_
  intro as S post h
  match as, h with
  | [.inr (.inr (some s))], h =>
    obtain ⟨a, n, u, col, nd, hC, hnone, h⟩ := h
    have hC0 := hC.new (x := (100, 2 ^ n * n)) hnone
    have hC2 := hC
    obtain ⟨c1, c2, c3, c4, c5, c6, c7, c8, c9'⟩ := hC2
    have hp7 : 2 ^ n ≤ 128 := Nat.pow_le_pow_right (n := 2) (by omega) c6.2
    have hp1 : 2 ≤ 2 ^ n := Nat.pow_le_pow_right (n := 2) (i := 1) (by omega) c6.1
    have hsz : 2 ^ n * n ≤ 896 := Nat.le_trans (Nat.mul_le_mul_right n hp7) (by omega)
    have hshl := bz_shl n (by omega)
    have hpi : ((2 ^ n : Nat) : Int) ≤ 128 := by omega
    generalize hX : newS S (s + 2) (100, 2 ^ n * n) = X at *
    have hX1 : X.1 (s + 2) = some (100, 2 ^ n * n) := by rw [← hX, newS_1, if_pos rfl]
    have hXi : ∀ t, t ≠ s + 2 → X.2.1 t = S.2.1 t := fun t ht => by rw [← hX]; funext j; rw [newS_2, if_neg ht]
    have hX0 : ∀ j, X.2.1 (s + 2) j = 0 := fun j => by rw [← hX, newS_2, if_pos rfl]
    refine bodyL [(22, fun ms L st S' cc => ∃ (w : Nat) (x4 x5 : AV), L = [vT s, vI (2 ^ n : Nat), vT (s + 2), vI w, x4, x5] ∧ st = [] ∧ cc = (1, 2 ^ n * n) ∧ ms = w * 10 + 9 ∧ w + 1 < 2 ^ n ∧ S'.1 = X.1 ∧ S'.2.2 = X.2.2 ∧ (∀ t, t ≠ s + 2 → S'.2.1 t = X.2.1 t) ∧ tabC S' (s + 2) n col nd w),
      (29, fun ms L st S' cc => ∃ (w l : Nat) (x5 : AV), L = [vT s, vI (2 ^ n : Nat), vT (s + 2), vI w, vI l, x5] ∧ st = [] ∧ cc = (1, 2 ^ n * n) ∧ ms = w * 10 + (8 - l) ∧ 0 < w ∧ w + 1 < 2 ^ n ∧ l ≤ n ∧ S'.1 = X.1 ∧ S'.2.2 = X.2.2 ∧ (∀ t, t ≠ s + 2 → S'.2.1 t = X.2.1 t) ∧ tabC S' (s + 2) n col nd w ∧ ∀ q : Nat, q < l → fv S' (s + 2) n w q = dpV n col nd w q)] 2000 120 rfl
      (List.forall_mem_cons.mpr ⟨?_, List.forall_mem_cons.mpr ⟨?_, fun q hq => by cases hq⟩⟩) ?_
    · rintro ms L st S' cc ⟨w, x4, x5, rfl, rfl, rfl, rfl, hw, e1, e2, e3, ht⟩
      repeat' (first
          | omega
          | with_reducible apply And.intro
          | (intro c9; (try simp only [mg, mf, colK, stK, clK, mnK, shN] at c9))
          | (simp only [mg, mf, colK, stK, clK, mnK, shN]; omega)
          | refine Exists.intro _ (And.intro rfl ?_)
          | ((with_reducible show wp _ _ _ _ _ _ _ _ _ _ _ _ _ _); conv => whnf)
          | ((with_reducible show callK _ _ _ _ _ _ _ _ _); conv => whnf)
          | ((with_reducible show condK _ _ _ _ _); conv => whnf)
          | ((with_reducible show st1 _ _ _ _ _ _ _ _ _ _ _ _); conv => whnf)
          | ((with_reducible show (Prod.fst _ : Spec) _ _ _); conv => whnf)
          | ((with_reducible show shortK _ _); conv => whnf)
          | exact Nat.le_of_ble_eq_true rfl)
      · rw [show w = 0 by omega] at ht
        exact h S' e1 e2 (fun t z => (e3 t z).trans (hXi t z)) ht
      · exact ⟨w * 10 + (8 - 0), by omega, w, 0, _, rfl, rfl, rfl, rfl, by omega, hw, by omega, e1, e2, e3, ht, fun q hq => by omega⟩
    · rintro ms L st S' cc ⟨w, l, x5, rfl, rfl, rfl, rfl, hw0, hw, hl, e1, e2, e3, ht, hrow⟩
      have hC' := hC0.eq e1 e2 e3 hX1 (by omega) (by omega)
      obtain ⟨d1, d2, d3, d4, d5, d6, d7, d8, d9⟩ := hC'
      have hC' := hC0.eq e1 e2 e3 hX1 (by omega) (by omega)
      have hf' : S'.1 (s + 2) = some (100, 2 ^ n * n) := by rw [e1]; exact hX1
      have hGe := fun (x : Nat) (hx : x < n) => bnG_dp (S := S') (f := s + 2) (l := (l : Int)) (w := w) (by omega) ht x hx
      have hcl : ∀ x : Nat, chgL col (l : Int) x = chg col l x := fun x => by unfold chgL; rw [if_neg (by omega), Int.toNat_natCast]
      have hfr : ∀ x : Nat, x < n → canB nd n w x = true → 0 ≤ fv S' (s + 2) n (w ||| 2 ^ x) x ∧ fv S' (s + 2) n (w ||| 2 ^ x) x ≤ 200 := fun x hx hc => by
        obtain ⟨q1, q2, -⟩ := canB_e.mp hc
        have hlt := or_lt (show w < 2 ^ n by omega) q1
        rw [ht _ x (or_gt q2) hlt hx]
        have := dpV_range (col := col) c6.2 c9' (2 ^ n) (w ||| 2 ^ x) x hlt (by omega)
        omega
      have key : l < n → ∃ x : Nat, x < n ∧ argTo (bnG S' (s + 2) n col nd w l) 1000 n = x ∧ chgL col l x + fv S' (s + 2) n (w ||| 2 ^ x) x = dpV n col nd w l := fun hln => by
        obtain ⟨y, hy⟩ := cand_ex (need := nd) (n := n) (s := w) c9' (by omega) (by omega)
        have hyn := (canB_e.mp hy).1
        have h1 := (minTo_le (g := bnG S' (s + 2) n col nd w l) (b := 1000) n).2 y hyn
        have h2 : bnG S' (s + 2) n col nd w l y ≤ 201 := by
          unfold bnG
          rw [if_pos hy]
          have a1 := hfr y hyn hy
          have a2 := chgL_r col l y
          omega
        have hd : dpV n col nd w l = minTo (bnG S' (s + 2) n col nd w l) 1000 n := by
          rw [dpV_eq c6.2 (by omega), if_neg (by omega)]
          refine minTo_congr n fun x hx => ?_
          rw [hGe x hx, hcl]
        rcases argTo_ok (g := bnG S' (s + 2) n col nd w l) (b := 1000) n with ⟨q1, q2⟩ | ⟨x, q1, q2, q3, q4⟩
        · omega
        · refine ⟨x, q1, q2, ?_⟩
          rw [hd, q3]
          by_cases hc : canB nd n w x = true
          · unfold bnG; rw [if_pos hc]
          · exfalso; unfold bnG at q4; rw [if_neg hc] at q4; omega
      have hi0 : 0 ≤ (w : Int) * (n : Int) + (l : Int) := by
        have : 0 ≤ (w : Int) * (n : Int) := Int.mul_nonneg (by omega) (by omega)
        omega
      have hie := idx_n w n l
      by_cases hln : l < n
      · obtain ⟨x, hx, hkx, hval⟩ := key hln
        have hil := idx_lt (show w < 2 ^ n by omega) hln
        have hi1 : (w : Int) * (n : Int) + (l : Int) < ((2 ^ n * n : Nat) : Int) := by omega
        repeat' (first
            | omega
            | with_reducible apply And.intro
            | (intro c9; (try simp only [mg, mf, colK, stK, clK, mnK, shN, Int.toNat_natCast] at c9))
            | exact hsz
            | exact ⟨3, d1.1⟩
            | refine ⟨114, n, d4, by omega, ?_⟩
            | (rw [Int.toNat_natCast, hkx])
            | refine ⟨a, n, u, col, nd, hC', hf', by omega, ?_⟩
            | (rw [Int.toNat_natCast]; exact (hfr _ ‹_ < n› c9).1)
            | (rw [Int.toNat_natCast]; exact (hfr _ ‹_ < n› c9).2)
            | exact ⟨_, hf', hi0, hi1⟩
            | (simp only [mg, mf, colK, stK, clK, mnK, shN, Int.toNat_natCast]; omega)
            | refine Exists.intro _ (And.intro rfl ?_)
            | refine Exists.intro _ (And.intro (d2) ?_)
            | ((with_reducible show wp _ _ _ _ _ _ _ _ _ _ _ _ _ _); conv => whnf)
            | ((with_reducible show callK _ _ _ _ _ _ _ _ _); conv => whnf)
            | ((with_reducible show condK _ _ _ _ _); conv => whnf)
            | ((with_reducible show st1 _ _ _ _ _ _ _ _ _ _ _ _); conv => whnf)
            | ((with_reducible show (Prod.fst _ : Spec) _ _ _); conv => whnf)
            | ((with_reducible show shortK _ _); conv => whnf)
            | exact Nat.le_of_ble_eq_true rfl)
        refine ⟨w * 10 + (8 - (l + 1)), by omega, w, l + 1, _, by rw [Int.natCast_add]; rfl, rfl, rfl, rfl, hw0, hw, by omega, e1, e2, fun t z => ?_, fun w' l' z1 z2 z3 => ?_, fun q hq => ?_⟩
        · funext j
          rw [updI_2, if_neg (fun r => z r.1), e3 t z]
        · show (updI S' (s + 2) ((w : Int) * (n : Int) + (l : Int)).toNat _).2.1 (s + 2) (w' * n + l') = _
          have := idx_lt z1 hln
          have := Nat.le_add_right (w' * n) l'
          rw [updI_2, hie, if_neg (by rintro ⟨-, r⟩; omega)]
          exact ht w' l' z1 z2 z3
        · show (updI S' (s + 2) ((w : Int) * (n : Int) + (l : Int)).toNat _).2.1 (s + 2) (w * n + q) = _
          rw [updI_2, hie]
          by_cases e : q = l
          · rw [if_pos ⟨rfl, by rw [e]⟩, e]
            rw [Int.toNat_natCast, Int.toNat_natCast]
            exact hval
          · rw [if_neg (by rintro ⟨-, r⟩; omega)]
            exact hrow q (by omega)
      · have e : l = n := by omega
        repeat' (first
            | omega
            | with_reducible apply And.intro
            | (intro c9; (try simp only [mg, mf, colK, stK, clK, mnK, shN] at c9))
            | exact ⟨3, d1.1⟩
            | refine ⟨114, n, d4, by omega, ?_⟩
            | (simp only [mg, mf, colK, stK, clK, mnK, shN]; omega)
            | refine Exists.intro _ (And.intro rfl ?_)
            | refine Exists.intro _ (And.intro (d2) ?_)
            | ((with_reducible show wp _ _ _ _ _ _ _ _ _ _ _ _ _ _); conv => whnf)
            | ((with_reducible show callK _ _ _ _ _ _ _ _ _); conv => whnf)
            | ((with_reducible show condK _ _ _ _ _); conv => whnf)
            | ((with_reducible show st1 _ _ _ _ _ _ _ _ _ _ _ _); conv => whnf)
            | ((with_reducible show (Prod.fst _ : Spec) _ _ _); conv => whnf)
            | ((with_reducible show shortK _ _); conv => whnf)
            | exact Nat.le_of_ble_eq_true rfl)
        refine ⟨(w - 1) * 10 + 9, by omega, w - 1, _, _, by rw [show ((w - 1 : Nat) : Int) = (w : Int) + -1 by omega]; rfl, rfl, rfl, rfl, by omega, e1, e2, e3, fun w' l' z1 z2 z3 => ?_⟩
        by_cases e4 : w' = w
        · rw [e4]; exact hrow l' (by omega)
        · exact ht w' l' (by omega) z2 z3
    · repeat' (first
          | omega
          | with_reducible apply And.intro
          | (intro c9; (try simp only [mg, mf, colK, stK, clK, mnK, shN] at c9))
          | exact ⟨3, c1.1⟩
          | refine ⟨114, n, c4, by omega, ?_⟩
          | rw [hshl]
          | refine Exists.intro (s + 2) (And.intro hnone ?_)
          | (simp only [mg, mf, colK, stK, clK, mnK, shN]; omega)
          | refine Exists.intro _ (And.intro rfl ?_)
          | refine Exists.intro _ (And.intro (c2) ?_)
          | ((with_reducible show wp _ _ _ _ _ _ _ _ _ _ _ _ _ _); conv => whnf)
          | ((with_reducible show callK _ _ _ _ _ _ _ _ _); conv => whnf)
          | ((with_reducible show condK _ _ _ _ _); conv => whnf)
          | ((with_reducible show st1 _ _ _ _ _ _ _ _ _ _ _ _); conv => whnf)
          | ((with_reducible show (Prod.fst _ : Spec) _ _ _); conv => whnf)
          | ((with_reducible show shortK _ _); conv => whnf)
          | exact Nat.le_of_ble_eq_true rfl)
      have ee : ((2 ^ n : Nat) : Int) * (n : Int) = ((2 ^ n * n : Nat) : Int) := by rw [Int.natCast_mul]
      have e9 : newS S (s + 2) (100, (((2 ^ n : Nat) : Int) * (n : Int)).toNat) = X := by rw [ee, Int.toNat_natCast]; exact hX
      refine ⟨(2 ^ n - 2) * 10 + 9, by omega, 2 ^ n - 2, _, _, by rw [show ((2 ^ n - 2 : Nat) : Int) = ((2 ^ n : Nat) : Int) - 2 by omega]; rfl, rfl, ?_, rfl, by omega, ?_, ?_, ?_, fun w' l' z1 z2 z3 => ?_⟩
      · show ((0 : Nat) + 1, 0 + (((2 ^ n : Nat) : Int) * (n : Int)).toNat) = _
        rw [ee, Int.toNat_natCast, Nat.zero_add, Nat.zero_add]
      · show (newS S (s + 2) (100, (((2 ^ n : Nat) : Int) * (n : Int)).toNat)).1 = _
        rw [e9]
      · show (newS S (s + 2) (100, (((2 ^ n : Nat) : Int) * (n : Int)).toNat)).2.2 = _
        rw [e9]
      · intro t z
        show (newS S (s + 2) (100, (((2 ^ n : Nat) : Int) * (n : Int)).toNat)).2.1 t = _
        rw [e9]
      · show (newS S (s + 2) (100, (((2 ^ n : Nat) : Int) * (n : Int)).toNat)).2.1 (s + 2) _ = _
        rw [e9, hX0, show w' = 2 ^ n - 1 by omega, dpV_full c6.2 c9']

