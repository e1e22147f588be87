theorem sqC.ext2 {S S' : Sto} {s a n : Nat} {u : Nat → Nat} {col : Nat → Int} {nd : Nat → Nat} (h : sqC S s a n u col nd) {f g : Nat} (hf : S.1 f = none) (hg : S.1 g = none) (e1 : ∀ t, t ≠ f → t ≠ g → S'.1 t = S.1 t) (e2 : ∀ t, t ≠ f → t ≠ g → S'.2.1 t = S.2.1 t ∧ S'.2.2 t = S.2.2 t) : sqC S' s a n u col nd := by
  obtain ⟨h1, h2, h3, h4, h5, h6, h7, h8, h9⟩ := h
  have n1 : ∀ t y, S.1 t = some y → t ≠ f := fun t y e q => by rw [q, hf] at e; cases e
  have n2 : ∀ t y, S.1 t = some y → t ≠ g := fun t y e q => by rw [q, hg] at e; cases e
  have m0 := e1 _ (n1 _ _ h1.1) (n2 _ _ h1.1)
  have m2 := e2 _ (n1 _ _ h1.1) (n2 _ _ h1.1)
  refine ⟨h1.eq m0 m2.2 (e1 _ (n1 _ _ h1.2.2.1) (n2 _ _ h1.2.2.1)) (e2 _ (n1 _ _ h1.2.2.1) (n2 _ _ h1.2.2.1)).1, by rw [m2.2]; exact h2, by rw [m2.2]; exact h3, by rw [e1 _ (n1 _ _ h4) (n2 _ _ h4)]; exact h4, by rw [e1 _ (n1 _ _ h5) (n2 _ _ h5)]; exact h5, h6, fun k hk => ?_, fun k hk => by rw [(e2 _ (n1 _ _ h5) (n2 _ _ h5)).1]; exact h8 k hk, h9⟩
  obtain ⟨a1, a2, a3, a4⟩ := h7 k hk
  exact ⟨by rw [(e2 _ (n1 _ _ h4) (n2 _ _ h4)).2]; exact a1, by rw [e1 _ (n1 _ _ a2) (n2 _ _ a2)]; exact a2, by rw [(e2 _ (n1 _ _ a2) (n2 _ _ a2)).1]; exact a3, a4⟩
theorem tabC.mono {S : Sto} {f n : Nat} {col : Nat → Int} {nd : Nat → Nat} {w w2 : Nat} (h : tabC S f n col nd w) (hw : w ≤ w2) : tabC S f n col nd w2 := fun a l h1 h2 h3 => h a l (by omega) h2 h3
def bestP (S S' : Sto) (s n : Nat) (u : Nat → Nat) (col : Nat → Int) (nd : Nat → Nat) (p : Nat) : Prop := (∀ t, S'.1 t = if t = s + 3 then some (114, n) else if t = s + 2 then some (100, 2 ^ n * n) else S.1 t) ∧ (∀ t, t ≠ s + 2 → t ≠ s + 3 → S'.2.1 t = S.2.1 t ∧ S'.2.2 t = S.2.2 t) ∧ ∀ q, q < p → S'.2.2 (s + 3) q = some (u (gat n col nd q).toNat)
def s_bestOrder : Spec := fun as S post => match as with
  | [.inr (.inr (some s))] => ∃ a n u col nd, sqC S s a n u col nd ∧ S.1 (s + 2) = none ∧ S.1 (s + 3) = none ∧ ∀ S', bestP S S' s n u col nd n → post (.inl (some (vT (s + 3)))) S'
  | _ => False
def spX3_bestOrder : Nat → CD := spF mdX3_bestOrder fun i => match i with
  | 1 => (s_fewestByBegin, 1, 896, 4)
  | 2 => (s_bestNext, 0, 0, 3)
  | _ => noR
set_option maxHeartbeats 4000000 in
set_option maxRecDepth 100000 in
theorem sat_X3_bestOrder : Sat mX3_bestOrder s_bestOrder 2 903 5 := by
  refine sat_of (E := eX3_bestOrder) (sp := spX3_bestOrder) (ini := false) (by decide +kernel) (fun h => by cases h) okX3_bestOrder (fun i => match i with
    | 1 => ⟨sat_X3_fewestByBegin, Nat.le_of_ble_eq_true rfl⟩
    | 2 => ⟨sat_X3_bestNext, Nat.le_of_ble_eq_true rfl⟩
    | i + 3 => ⟨sat_no _, Nat.le_of_ble_eq_true rfl⟩
    | 0 => ⟨sat_no _, Nat.le_of_ble_eq_true rfl⟩) ?_
  intro as S post h
  match as, h with
  | [.inr (.inr (some s))], h =>
    obtain ⟨a, n, u, col, nd, hC, hn2, hn3, h⟩ := h
    have hC2 := hC
    obtain ⟨c1, c2, c3, c4, c5, c6, c7, c8, c9'⟩ := hC2
    have hp7 : 2 ^ n ≤ 128 := Nat.pow_le_pow_right (n := 2) (by omega) c6.2
    have hsz : 2 ^ n * n ≤ 896 := Nat.le_trans (Nat.mul_le_mul_right n hp7) (by omega)
    refine bodyL [(22, fun ms L st S' cc => ∃ p : Nat, L = [vT s, vT (s + 2), vT (s + 3), vI (gseq n col nd p).1, vI (gseq n col nd p).2, vI p] ∧ st = [] ∧ cc = (2, 896 + n) ∧ ms = n - p ∧ p ≤ n ∧ bestP S S' s n u col nd p ∧ tabC S' (s + 2) n col nd 0),
      (4, fun ms L st S' cc => L = [vT s, uu, uu, uu, uu, uu] ∧ st = [vT (s + 2)] ∧ cc = (1, 896) ∧ ms = 9 ∧ S'.1 = (newS S (s + 2) (100, 2 ^ n * n)).1 ∧ S'.2.2 = (newS S (s + 2) (100, 2 ^ n * n)).2.2 ∧ (∀ t, t ≠ s + 2 → S'.2.1 t = S.2.1 t) ∧ tabC S' (s + 2) n col nd 0)] 12 120 rfl
      (List.forall_mem_cons.mpr ⟨?_, List.forall_mem_cons.mpr ⟨?_, fun q hq => by cases hq⟩⟩) ?_
    · rintro ms L st S' cc ⟨p, rfl, rfl, rfl, rfl, hp, hb, ht⟩
      obtain ⟨b1, b2, b3⟩ := hb
      have hC' := hC.ext2 hn2 hn3 (fun t t1 t2 => by rw [b1, if_neg t2, if_neg t1]) b2
      have hC2 := hC'
      obtain ⟨d1, d2, d3, d4, d5, d6, d7, d8, d9⟩ := hC2
      have hf' : S'.1 (s + 2) = some (100, 2 ^ n * n) := by rw [b1, if_neg (by omega), if_pos rfl]
      have hg' : S'.1 (s + 3) = some (114, n) := by rw [b1, if_pos rfl]
      obtain ⟨k1, k2, k3, k4⟩ := gseq_ok (col := col) c6.2 c9' p hp
      have hl : -1 ≤ (gseq n col nd p).2 ∧ (gseq n col nd p).2 < n := by
        by_cases e : p = 0
        · rw [k3 e]; omega
        · have := k4 (by omega); omega
      have hstep := fun z : p < n => gseq_step (col := col) c6.2 c9' z
      generalize hw9 : (gseq n col nd p).1 = w at *
      generalize hl9 : (gseq n col nd p).2 = l at *
      have hfr : ∀ x : Nat, x < n → canB nd n w x = true → 0 ≤ fv S' (s + 2) n (w ||| 2 ^ x) x ∧ fv S' (s + 2) n (w ||| 2 ^ x) x ≤ 200 := fun x hx hc => by
        obtain ⟨q1, q2, -⟩ := canB_e.mp hc
        have hlt := or_lt k1 q1
        rw [ht _ x (Nat.lt_of_le_of_lt (Nat.zero_le _) (or_gt q2)) hlt hx]
        have := dpV_range (col := col) c6.2 c9' (2 ^ n) (w ||| 2 ^ x) x hlt (by omega)
        omega
      have hpk : argTo (bnG S' (s + 2) n col nd w l) 1000 n = pick n col nd w l := by
        unfold pick
        refine argTo_congr n fun x hx => ?_
        rw [bnG_dp k1 (ht.mono (Nat.zero_le _)) x hx]
        unfold pkG chgL
        rfl
      by_cases hpn : p < n
      · obtain ⟨x, g1, g2, g3, g4, g5, g6, g7⟩ := hstep hpn
        have hx := d7 x g2
        have e1 := bz_or w x (by omega) (by omega)
        repeat' (first
            | omega
            | with_reducible apply And.intro
            | (intro c9; (try simp only [mg, mf, colK, stK, clK, mnK, shN] at c9))
            | (show 896 + n + 0 ≤ 903; omega)
            | exact ⟨3, d1.1⟩
            | refine ⟨114, n, d4, by omega, ?_⟩
            | refine ⟨114, n, hg', by omega, ?_⟩
            | (rw [Int.toNat_natCast, hpk, g6])
            | refine ⟨a, n, u, col, nd, hC', hf', by omega, ?_⟩
            | (rw [Int.toNat_natCast]; exact (hfr _ ‹_ < n› c9).1)
            | (rw [Int.toNat_natCast]; exact (hfr _ ‹_ < n› c9).2)
            | exact ⟨114, n, d4, rfl, by omega, by omega⟩
            | exact ⟨4, n, 5, hg', rfl, hx.2.1, by omega, by omega⟩
            | (simp only [mg, mf, colK, stK, clK, mnK, shN]; omega)
            | refine Exists.intro _ (And.intro rfl ?_)
            | refine Exists.intro _ (And.intro (d2) ?_)
            | refine Exists.intro _ (And.intro ((hx.1)) ?_)
            | ((with_reducible show wp _ _ _ _ _ _ _ _ _ _ _ _ _ _); conv => whnf)
            | ((with_reducible show callK _ _ _ _ _ _ _ _ _); conv => whnf)
            | ((with_reducible show condK _ _ _ _ _); conv => whnf)
            | ((with_reducible show st1 _ _ _ _ _ _ _ _ _ _ _ _); conv => whnf)
            | ((with_reducible show (Prod.fst _ : Spec) _ _ _); conv => whnf)
            | ((with_reducible show shortK _ _); conv => whnf)
            | exact Nat.le_of_ble_eq_true rfl)
        refine ⟨n - (p + 1), by omega, p + 1, by rw [g4, e1, Int.natCast_add]; rfl, rfl, rfl, rfl, by omega, ⟨b1, fun t t1 t2 => ⟨(b2 t t1 t2).1, ?_⟩, fun q hq => ?_⟩, ht⟩
        · rw [← (b2 t t1 t2).2]
          funext j
          rw [updR_3, if_neg (fun z => t2 z.1)]
        · rw [updR_3, Int.toNat_natCast]
          by_cases e : q = p
          · rw [if_pos ⟨rfl, e⟩, e, g1, Int.toNat_natCast]
          · rw [if_neg (fun z => e z.2)]; exact b3 q (by omega)
      · have e : p = n := by omega
        repeat' (first
            | omega
            | with_reducible apply And.intro
            | (intro c9; (try simp only [mg, mf, colK, stK, clK, mnK, shN] at c9))
            | refine ⟨114, n, hg', by omega, ?_⟩
            | (simp only [mg, mf, colK, stK, clK, mnK, shN]; omega)
            | refine Exists.intro _ (And.intro rfl ?_)
            | ((with_reducible show wp _ _ _ _ _ _ _ _ _ _ _ _ _ _); conv => whnf)
            | ((with_reducible show callK _ _ _ _ _ _ _ _ _); conv => whnf)
            | ((with_reducible show condK _ _ _ _ _); conv => whnf)
            | ((with_reducible show st1 _ _ _ _ _ _ _ _ _ _ _ _); conv => whnf)
            | ((with_reducible show (Prod.fst _ : Spec) _ _ _); conv => whnf)
            | ((with_reducible show shortK _ _); conv => whnf)
            | exact Nat.le_of_ble_eq_true rfl)
        exact h S' ⟨b1, b2, fun q hq => b3 q (by omega)⟩
    · rintro ms L st S' cc ⟨rfl, rfl, rfl, rfl, e1, e2, e3, ht⟩
      have hC' := hC.ext2 (S' := S') hn2 hn2 (fun t t1 _ => by rw [e1, newS_1, if_neg t1]) (fun t t1 _ => ⟨e3 t t1, by rw [e2]; funext j; rw [newS_3, if_neg t1]⟩)
      have hn3' : S'.1 (s + 3) = none := by rw [e1, newS_1, if_neg (by omega)]; exact hn3
      obtain ⟨d1, d2, d3, d4, d5, d6, d7, d8, d9⟩ := hC'
      repeat' (first
          | omega
          | with_reducible apply And.intro
          | (intro c9; (try simp only [mg, mf, colK, stK, clK, mnK, shN] at c9))
          | exact ⟨3, d1.1⟩
          | refine ⟨114, n, d4, by omega, ?_⟩
          | refine Exists.intro (s + 3) (And.intro hn3' ?_)
          | (show 896 + n ≤ 903; omega)
          | (simp only [mg, mf, colK, stK, clK, mnK, shN]; omega)
          | refine Exists.intro _ (And.intro rfl ?_)
          | refine Exists.intro _ (And.intro (d2) ?_)
          | ((with_reducible show wp _ _ _ _ _ _ _ _ _ _ _ _ _ _); conv => whnf)
          | ((with_reducible show callK _ _ _ _ _ _ _ _ _); conv => whnf)
          | ((with_reducible show condK _ _ _ _ _); conv => whnf)
          | ((with_reducible show st1 _ _ _ _ _ _ _ _ _ _ _ _); conv => whnf)
          | ((with_reducible show (Prod.fst _ : Spec) _ _ _); conv => whnf)
          | ((with_reducible show shortK _ _); conv => whnf)
          | exact Nat.le_of_ble_eq_true rfl)
      refine ⟨n, by omega, 0, rfl, rfl, rfl, by omega, by omega, ⟨fun t => ?_, fun t t1 t2 => ⟨?_, ?_⟩, fun q hq => absurd hq (by omega)⟩, fun w' l z1 z2 z3 => ?_⟩
      · rw [newS_1]
        by_cases t3 : t = s + 3
        · rw [if_pos t3, if_pos t3]; rfl
        · rw [if_neg t3, if_neg t3, e1, newS_1]
      · funext j
        rw [newS_2, if_neg t2, e3 t t1]
      · funext j
        rw [newS_3, if_neg t2, e2, newS_3, if_neg t1]
      · show (newS S' (s + 3) _).2.1 (s + 2) _ = _
        rw [newS_2, if_neg (by omega)]
        exact ht w' l z1 z2 z3
    · repeat' (first
          | omega
          | with_reducible apply And.intro
          | (intro c9; (try simp only [mg, mf, colK, stK, clK, mnK, shN] at c9))
          | exact ⟨3, c1.1⟩
          | refine ⟨114, n, c4, by omega, ?_⟩
          | refine ⟨a, n, u, col, nd, hC, hn2, ?_⟩
          | (simp only [mg, mf, colK, stK, clK, mnK, shN]; omega)
          | refine Exists.intro _ (And.intro rfl ?_)
          | refine Exists.intro _ (And.intro (c2) ?_)
          | ((with_reducible show wp _ _ _ _ _ _ _ _ _ _ _ _ _ _); conv => whnf)
          | ((with_reducible show callK _ _ _ _ _ _ _ _ _); conv => whnf)
          | ((with_reducible show condK _ _ _ _ _); conv => whnf)
          | ((with_reducible show st1 _ _ _ _ _ _ _ _ _ _ _ _); conv => whnf)
          | ((with_reducible show (Prod.fst _ : Spec) _ _ _); conv => whnf)
          | ((with_reducible show shortK _ _); conv => whnf)
          | exact Nat.le_of_ble_eq_true rfl)
      exact ⟨9, by omega, rfl, rfl, rfl, rfl, ‹_›, ‹_›, ‹_›, c9⟩
/-! all orders tried -/
theorem bc_le : ∀ (k w : Nat), bc k w ≤ k
  | 0, _ => Nat.le_refl _
  | k + 1, w => by have := bc_le k w; unfold bc; split <;> omega
theorem bc_eq : ∀ (k w : Nat), bc k w = k → ∀ i, i < k → w.testBit i = true
  | 0, _, _, i, hi => by omega
  | k + 1, w, h, i, hi => by
    have h1 := bc_le k w
    unfold bc at h
    cases hb : w.testBit k with
    | true =>
      rw [hb, if_pos rfl] at h
      by_cases e : i = k
      · rw [e]; exact hb
      · exact bc_eq k w (by omega) i (by omega)
    | false => rw [hb] at h; simp at h; omega
theorem bc_fulle {n w : Nat} (hw : w < 2 ^ n) (h : bc n w = n) : w = 2 ^ n - 1 := Nat.eq_of_testBit_eq fun i => by
  rw [Nat.testBit_two_pow_sub_one]
  by_cases hi : i < n
  · rw [bc_eq n w h i hi, decide_eq_true hi]
  · rw [decide_eq_false hi, Nat.testBit_lt_two_pow (Nat.lt_of_lt_of_le hw (Nat.pow_le_pow_right (by omega) (by omega)))]
theorem minTo_base {g : Nat → Int} {b b' : Int} {n y : Nat} (hy : y < n) (h1 : g y ≤ b) (h2 : b ≤ b') : minTo g b n = minTo g b' n := by
  have a1 := minTo_le (g := g) (b := b) n
  have a2 := minTo_le (g := g) (b := b') n
  have c1 := minTo_ge (g := g) (b := b') (m := minTo g b n) (by omega) n (fun x hx => a1.2 x hx)
  have c2 := minTo_ge (g := g) (b := b) (m := minTo g b' n) (by have := a2.2 y hy; omega) n (fun x hx => a2.2 x hx)
  omega
/-- the fewest changes of the rest, also of a rest that is all -/
def dpR (n : Nat) (col : Nat → Int) (nd : Nat → Nat) (w : Nat) (l : Int) : Int := minTo (fun x => if canB nd n w x = true then dpV n col nd (w ||| 2 ^ x) x + chgL col l x else 1000) (if w = 2 ^ n - 1 then 0 else 1000) n
theorem dpR_nat {n : Nat} {col : Nat → Int} {nd : Nat → Nat} (hn : n ≤ 7) {w : Nat} (hw : w < 2 ^ n) (l : Nat) : dpR n col nd w (l : Int) = dpV n col nd w l := by
  rw [dpV_eq hn hw]
  unfold dpR
  refine minTo_congr n fun x hx => ?_
  have : chgL col (l : Int) x = chg col l x := by unfold chgL; rw [if_neg (by omega), Int.toNat_natCast]
  rw [this]
theorem dpR_le {n : Nat} {col : Nat → Int} {nd : Nat → Nat} (hn : n ≤ 7) (hnd : needOK nd n) : ∀ (m w : Nat) (l : Int), w < 2 ^ n → 2 ^ n - w ≤ m → 0 ≤ dpR n col nd w l ∧ dpR n col nd w l + bc n w ≤ n
  | 0, w, l, hw, hm => by omega
  | m + 1, w, l, hw, hm => by
    have hnext : ∀ x, canB nd n w x = true → 0 ≤ dpV n col nd (w ||| 2 ^ x) x + chgL col l x ∧ dpV n col nd (w ||| 2 ^ x) x + chgL col l x + bc n w ≤ n := fun x hc => by
      obtain ⟨q1, q2, -⟩ := canB_e.mp hc
      have h1 := or_gt q2
      have h2 := or_lt hw q1
      have ih := dpR_le (col := col) hn hnd m (w ||| 2 ^ x) (x : Int) h2 (by omega)
      rw [dpR_nat hn h2] at ih
      have hb := bc_or (n := n) q2
      rw [if_pos q1] at hb
      have := chgL_r col l x
      omega
    have h0 : 0 ≤ dpR n col nd w l := by
      unfold dpR
      exact minTo_ge (by split <;> omega) n (fun x _ => by
        split
        · exact (hnext x ‹_›).1
        · omega)
    refine ⟨h0, ?_⟩
    by_cases hf : w = 2 ^ n - 1
    · have h1 : dpR n col nd w l ≤ 0 := by unfold dpR; rw [if_pos hf]; exact (minTo_le n).1
      have := bc_le n w
      omega
    · obtain ⟨x, hc⟩ := cand_ex hnd hw hf
      have hx := (canB_e.mp hc).1
      have h1 : dpR n col nd w l ≤ dpV n col nd (w ||| 2 ^ x) x + chgL col l x := by
        unfold dpR
        have := (minTo_le (g := fun x => if canB nd n w x = true then dpV n col nd (w ||| 2 ^ x) x + chgL col l x else 1000) (b := if w = 2 ^ n - 1 then 0 else 1000) n).2 x hx
        rw [if_pos hc] at this
        exact this
      have := (hnext x hc).2
      omega
def s_try (k : Nat) : Spec := fun as S post => match as with
  | [.inr (.inr (some s)), .inl w, .inl l, .inl d] => ∃ a n u col nd, sqC S s a n u col nd ∧ (0 ≤ w ∧ w.toNat < 2 ^ n ∧ -1 ≤ l ∧ l < n ∧ (bc n w.toNat : Int) = d ∧ n ≤ d.toNat + k) ∧ post (.inl (some (vI (dpR n col nd w.toNat l)))) S
  | _ => False
def spTry (K : Spec × Nat × Nat × Nat) : Nat → CD := spF mdX3_tryOrders fun i => match i with
  | 1 => (s_mayFollow, 0, 0, 1)
  | 2 => K
  | 3 => (s_changeC, 0, 0, 1)
  | 4 => (s_min, 0, 0, 1)
  | _ => noR
theorem dpR_full {n : Nat} {col : Nat → Int} {nd : Nat → Nat} (hn : n ≤ 7) (hnd : needOK nd n) {w : Nat} {l : Int} (hw : w < 2 ^ n) (h : n ≤ bc n w) : dpR n col nd w l = 0 := by
  have := dpR_le (col := col) (l := l) hn hnd (2 ^ n) w hw (by omega)
  omega
set_option maxHeartbeats 4000000 in
set_option maxRecDepth 100000 in
theorem sat_try0 : Sat mX3_tryOrders (s_try 0) 0 0 3 := by
  refine sat_of (E := eX3_tryOrders) (sp := spTry noR) (ini := false) (by decide +kernel) (fun h => by cases h) okX3_tryOrders (fun i => match i with
    | 1 => ⟨sat_X3_mayFollow, Nat.le_of_ble_eq_true rfl⟩
    | 2 => ⟨sat_no _, Nat.le_of_ble_eq_true rfl⟩
    | 3 => ⟨sat_X3_change, Nat.le_of_ble_eq_true rfl⟩
    | 4 => ⟨sat_J9_min_7cf53, Nat.le_of_ble_eq_true rfl⟩
    | i + 5 => ⟨sat_no _, Nat.le_of_ble_eq_true rfl⟩
    | 0 => ⟨sat_no _, Nat.le_of_ble_eq_true rfl⟩) ?_
  intro as S post h
  match as, h with
  | [.inr (.inr (some s)), .inl w, .inl l, .inl d], h =>
    obtain ⟨a, n, u, col, nd, hC, hw, h⟩ := h
    have hC2 := hC
    obtain ⟨c1, c2, c3, c4, c5, c6, c7, c8, c9'⟩ := hC2
    have hbc := bc_le n w.toNat
    rw [dpR_full c6.2 c9' hw.2.1 (by omega)] at h
    refine body0 60 rfl ?_
    repeat' (first
        | omega
        | with_reducible apply And.intro
        | (intro c9; (try simp only [mg, mf, colK, stK, clK, mnK, shN] at c9))
        | exact ⟨3, c1.1⟩
        | refine ⟨114, n, c4, by omega, ?_⟩
        | exact h
        | (simp only [mg, mf, colK, stK, clK, mnK, shN]; omega)
        | refine Exists.intro _ (And.intro rfl ?_)
        | refine Exists.intro _ (And.intro (c2) ?_)
        | ((with_reducible show wp _ _ _ _ _ _ _ _ _ _ _ _ _ _); conv => whnf)
        | ((with_reducible show callK _ _ _ _ _ _ _ _ _); conv => whnf)
        | ((with_reducible show condK _ _ _ _ _); conv => whnf)
        | ((with_reducible show st1 _ _ _ _ _ _ _ _ _ _ _ _); conv => whnf)
        | ((with_reducible show (Prod.fst _ : Spec) _ _ _); conv => whnf)
        | ((with_reducible show shortK _ _); conv => whnf)
        | exact Nat.le_of_ble_eq_true rfl)
set_option maxHeartbeats 4000000 in
set_option maxRecDepth 100000 in
theorem sat_tryN (k : Nat) (ih : Sat mX3_tryOrders (s_try k) 0 0 (3 + k)) : Sat mX3_tryOrders (s_try (k + 1)) 0 0 (3 + (k + 1)) := by
  refine sat_of (E := eX3_tryOrders) (sp := spTry (s_try k, 0, 0, 3 + k)) (ini := false) (by decide +kernel) (fun h => by cases h) okX3_tryOrders (fun i => match i with
    | 1 => ⟨sat_X3_mayFollow, by show 1 < 3 + (k + 1); omega⟩
    | 2 => ⟨ih, by show 3 + k < 3 + (k + 1); omega⟩
    | 3 => ⟨sat_X3_change, by show 1 < 3 + (k + 1); omega⟩
    | 4 => ⟨sat_J9_min_7cf53, by show 1 < 3 + (k + 1); omega⟩
    | i + 5 => ⟨sat_no _, by show 0 < 3 + (k + 1); omega⟩
    | 0 => ⟨sat_no _, by show 0 < 3 + (k + 1); omega⟩) ?_
  intro as S post h
  match as, h with
  | [.inr (.inr (some s)), .inl w, .inl l, .inl d], h =>
    obtain ⟨a, n, u, col, nd, hC, hw, h⟩ := h
    have hC2 := hC
    obtain ⟨c1, c2, c3, c4, c5, c6, c7, c8, c9'⟩ := hC2
    have hp7 : 2 ^ n ≤ 128 := Nat.pow_le_pow_right (n := 2) (by omega) c6.2
    have hw128 : w < 128 := by have := Nat.lt_of_lt_of_le hw.2.1 hp7; omega
    have hbc := bc_le n w.toNat
    obtain ⟨G, hG⟩ : ∃ G : Nat → Int, G = fun x => if canB nd n w.toNat x = true then dpV n col nd (w.toNat ||| 2 ^ x) x + chgL col l x else 1000 := ⟨_, rfl⟩
    have hGc : ∀ x : Nat, canB nd n w.toNat x = true → G x = dpV n col nd (w.toNat ||| 2 ^ x) x + chgL col l x ∧ 0 ≤ G x ∧ G x ≤ n ∧ 0 ≤ dpV n col nd (w.toNat ||| 2 ^ x) x ∧ dpV n col nd (w.toNat ||| 2 ^ x) x ≤ 7 ∧ (w.toNat ||| 2 ^ x) < 2 ^ n ∧ bc n (w.toNat ||| 2 ^ x) = bc n w.toNat + 1 := fun x hc => by
      obtain ⟨q1, q2, -⟩ := canB_e.mp hc
      have h2 := or_lt hw.2.1 q1
      have i1 := dpR_le (col := col) c6.2 c9' (2 ^ n) (w.toNat ||| 2 ^ x) (x : Int) h2 (by omega)
      rw [dpR_nat c6.2 h2] at i1
      have hb := bc_or (n := n) q2
      rw [if_pos q1] at hb
      have hcr := chgL_r col l x
      have e : G x = dpV n col nd (w.toNat ||| 2 ^ x) x + chgL col l x := by rw [hG]; exact if_pos hc
      exact ⟨e, by omega, by omega, i1.1, by omega, h2, hb⟩
    have hGn : ∀ x : Nat, ¬ canB nd n w.toNat x = true → G x = 1000 := fun x hc => by rw [hG]; exact if_neg hc
    refine bodyL [(22, fun ms L st S' cc => ∃ (x : Nat) (x7 : AV), L = [vT s, vI w, vI l, vI d, vI n, vI (minTo G n x), vI x, x7] ∧ st = [] ∧ S' = S ∧ cc = (0, 0) ∧ ms = n - x ∧ x ≤ n ∧ d < n)] 8 120 rfl
      (List.forall_mem_cons.mpr ⟨?_, fun q hq => by cases hq⟩) ?_
    · rintro ms L st S' cc ⟨x, x7, rfl, rfl, rfl, rfl, rfl, hx, hdn⟩
      have es : minTo G n (x + 1) = if G x < minTo G n x then G x else minTo G n x := rfl
      have hml := (minTo_le (g := G) (b := n) x).1
      have hmg := minTo_ge (g := G) (b := n) (m := 0) (by omega) x (fun y _ => by
        by_cases hc : canB nd n w.toNat y = true
        · exact (hGc y hc).2.1
        · rw [hGn y hc]; omega)
      have e1 := fun z : x < n => bz_or w.toNat x (by omega) (by omega)
      rw [show ((w.toNat : Nat) : Int) = w by omega] at e1
      by_cases hxn : x < n
      · have e1 := e1 hxn
        by_cases hc : canB nd n w.toNat x = true
        · obtain ⟨g1, g2, g3, g4, g5, g6, g7⟩ := hGc x hc
          have hcr := chgL_r col l x
          have hpre : 0 ≤ ((w.toNat ||| 2 ^ x : Nat) : Int) ∧ (((w.toNat ||| 2 ^ x : Nat) : Int)).toNat < 2 ^ n ∧ -1 ≤ (x : Int) ∧ (x : Int) < n ∧ (bc n (((w.toNat ||| 2 ^ x : Nat) : Int)).toNat : Int) = d + 1 ∧ n ≤ (d + 1).toNat + k := by
            rw [Int.toNat_natCast, g7]
            exact ⟨by omega, g6, by omega, by omega, by omega, by omega⟩
          repeat' (first
              | omega
              | with_reducible apply And.intro
              | (intro c9; (try simp only [mg, mf, colK, stK, clK, mnK, shN, Int.toNat_natCast] at c9))
              | exact ⟨3, c1.1⟩
              | refine ⟨114, n, c4, by omega, ?_⟩
              | rw [e1]
              | refine ⟨a, n, u, col, nd, hC, hpre, ?_⟩
              | (rw [Int.toNat_natCast, dpR_nat c6.2 g6])
              | refine ⟨a, n, u, col, nd, hC, by omega, ?_⟩
              | (rw [Int.toNat_natCast]; omega)
              | (simp only [mg, mf, colK, stK, clK, mnK, shN, Int.toNat_natCast]; omega)
              | refine Exists.intro _ (And.intro rfl ?_)
              | refine Exists.intro _ (And.intro (c2) ?_)
              | ((with_reducible show wp _ _ _ _ _ _ _ _ _ _ _ _ _ _); conv => whnf)
              | ((with_reducible show callK _ _ _ _ _ _ _ _ _); conv => whnf)
              | ((with_reducible show condK _ _ _ _ _); conv => whnf)
              | ((with_reducible show st1 _ _ _ _ _ _ _ _ _ _ _ _); conv => whnf)
              | ((with_reducible show (Prod.fst _ : Spec) _ _ _); conv => whnf)
              | ((with_reducible show shortK _ _); conv => whnf)
              | exact Nat.le_of_ble_eq_true rfl)
          · exact absurd hc (isB0 ‹isB _ (canB nd n w.toNat x = true)› c9)
          · exact ⟨n - (x + 1), by omega, x + 1, _, by rw [es, c9, Int.natCast_add]; rw [show (if minTo G n x ≤ chgL col l x + dpV n col nd (w.toNat ||| 2 ^ x) x then minTo G n x else chgL col l x + dpV n col nd (w.toNat ||| 2 ^ x) x) = (if G x < minTo G n x then G x else minTo G n x) by (split <;> split <;> omega)]; rfl, rfl, rfl, rfl, rfl, by omega, hdn⟩
        · have g1 := hGn x hc
          repeat' (first
              | omega
              | with_reducible apply And.intro
              | (intro c9; (try simp only [mg, mf, colK, stK, clK, mnK, shN, Int.toNat_natCast] at c9))
              | exact ⟨3, c1.1⟩
              | refine ⟨114, n, c4, by omega, ?_⟩
              | refine ⟨a, n, u, col, nd, hC, by omega, ?_⟩
              | exact absurd (isB1 ‹isB _ (canB nd n w.toNat x = true)› ‹_ ≠ 0›) hc
              | (simp only [mg, mf, colK, stK, clK, mnK, shN, Int.toNat_natCast]; omega)
              | refine Exists.intro _ (And.intro rfl ?_)
              | refine Exists.intro _ (And.intro (c2) ?_)
              | ((with_reducible show wp _ _ _ _ _ _ _ _ _ _ _ _ _ _); conv => whnf)
              | ((with_reducible show callK _ _ _ _ _ _ _ _ _); conv => whnf)
              | ((with_reducible show condK _ _ _ _ _); conv => whnf)
              | ((with_reducible show st1 _ _ _ _ _ _ _ _ _ _ _ _); conv => whnf)
              | ((with_reducible show (Prod.fst _ : Spec) _ _ _); conv => whnf)
              | ((with_reducible show shortK _ _); conv => whnf)
              | exact Nat.le_of_ble_eq_true rfl)
          · exact ⟨n - (x + 1), by omega, x + 1, _, by rw [es, if_neg (by omega), Int.natCast_add]; rfl, rfl, rfl, rfl, rfl, by omega, hdn⟩
          · exact absurd (isB1 ‹isB _ (canB nd n w.toNat x = true)› c9) hc
      · have exn : x = n := by omega
        repeat' (first
            | omega
            | with_reducible apply And.intro
            | (intro c9; (try simp only [mg, mf, colK, stK, clK, mnK, shN] at c9))
            | (simp only [mg, mf, colK, stK, clK, mnK, shN]; omega)
            | refine Exists.intro _ (And.intro rfl ?_)
            | ((with_reducible show wp _ _ _ _ _ _ _ _ _ _ _ _ _ _); conv => whnf)
            | ((with_reducible show callK _ _ _ _ _ _ _ _ _); conv => whnf)
            | ((with_reducible show condK _ _ _ _ _); conv => whnf)
            | ((with_reducible show st1 _ _ _ _ _ _ _ _ _ _ _ _); conv => whnf)
            | ((with_reducible show (Prod.fst _ : Spec) _ _ _); conv => whnf)
            | ((with_reducible show shortK _ _); conv => whnf)
            | exact Nat.le_of_ble_eq_true rfl)
        have hnf : w.toNat ≠ 2 ^ n - 1 := fun e => by
          have := bc_full n n (Nat.le_refl n)
          rw [← e] at this
          omega
        obtain ⟨y, hy⟩ := cand_ex (need := nd) c9' hw.2.1 hnf
        have hyn := (canB_e.mp hy).1
        have hgy := hGc y hy
        have e9 : dpR n col nd w.toNat l = minTo G n n := by
          unfold dpR
          rw [if_neg hnf, ← hG]
          exact (minTo_base hyn (by omega) (by omega)).symm
        rw [e9] at h
        rw [exn]; exact h
    · repeat' (first
          | omega
          | with_reducible apply And.intro
          | (intro c9; (try simp only [mg, mf, colK, stK, clK, mnK, shN] at c9))
          | exact ⟨3, c1.1⟩
          | refine ⟨114, n, c4, by omega, ?_⟩
          | (simp only [mg, mf, colK, stK, clK, mnK, shN]; omega)
          | refine Exists.intro _ (And.intro rfl ?_)
          | refine Exists.intro _ (And.intro (c2) ?_)
          | ((with_reducible show wp _ _ _ _ _ _ _ _ _ _ _ _ _ _); conv => whnf)
          | ((with_reducible show callK _ _ _ _ _ _ _ _ _); conv => whnf)
          | ((with_reducible show condK _ _ _ _ _); conv => whnf)
          | ((with_reducible show st1 _ _ _ _ _ _ _ _ _ _ _ _); conv => whnf)
          | ((with_reducible show (Prod.fst _ : Spec) _ _ _); conv => whnf)
          | ((with_reducible show shortK _ _); conv => whnf)
          | exact Nat.le_of_ble_eq_true rfl)
      · exact ⟨n, by omega, 0, _, rfl, rfl, rfl, rfl, rfl, by omega, c9⟩
      · rw [dpR_full c6.2 c9' hw.2.1 (by omega)] at h
        exact h
theorem sat_try : ∀ k : Nat, Sat mX3_tryOrders (s_try k) 0 0 (3 + k)
  | 0 => sat_try0
  | k + 1 => sat_tryN k (sat_try k)
theorem sat_X3_tryOrders : Sat mX3_tryOrders (s_try 7) 0 0 10 := sat_try 7
def s_fewestOf : Spec := fun as S post => match as with
  | [.inr (.inr (some s))] => ∃ a n u col nd, sqC S s a n u col nd ∧ post (.inl (some (vI (dpR n col nd 0 (-1))))) S
  | _ => False
def spX3_fewestOfAllOrders : Nat → CD := spF mdX3_fewestOfAllOrders fun i => match i with
  | 1 => ((s_try 7), 0, 0, 10)
  | _ => noR
set_option maxHeartbeats 4000000 in
set_option maxRecDepth 100000 in
theorem sat_X3_fewestOfAllOrders : Sat mX3_fewestOfAllOrders s_fewestOf 0 0 11 := by
  refine sat_of (E := eX3_fewestOfAllOrders) (sp := spX3_fewestOfAllOrders) (ini := false) (by decide +kernel) (fun h => by cases h) okX3_fewestOfAllOrders (fun i => match i with
    | 1 => ⟨sat_X3_tryOrders, Nat.le_of_ble_eq_true rfl⟩
    | i + 2 => ⟨sat_no _, Nat.le_of_ble_eq_true rfl⟩
    | 0 => ⟨sat_no _, Nat.le_of_ble_eq_true rfl⟩) ?_
  intro as S post h
  match as, h with
  | [.inr (.inr (some s))], h =>
    obtain ⟨a, n, u, col, nd, hC, h⟩ := h
    have hp := Nat.two_pow_pos n
    have h0 : bc n (0 : Int).toNat = 0 := bc_0 n
    have c6 := hC.2.2.2.2.2.1
    have hpre : 0 ≤ (0 : Int) ∧ (0 : Int).toNat < 2 ^ n ∧ -1 ≤ (-1 : Int) ∧ (-1 : Int) < n ∧ (bc n (0 : Int).toNat : Int) = 0 ∧ n ≤ (0 : Int).toNat + 7 := ⟨by omega, hp, by omega, by omega, by rw [h0]; rfl, by omega⟩
    refine body0 60 rfl ?_
    repeat' (first
        | omega
        | with_reducible apply And.intro
        | (intro c9; (try simp only [mg, mf, colK, stK, clK, mnK, shN] at c9))
        | refine ⟨a, n, u, col, nd, hC, hpre, ?_⟩
        | exact h
        | (simp only [mg, mf, colK, stK, clK, mnK, shN]; omega)
        | refine Exists.intro _ (And.intro rfl ?_)
        | ((with_reducible show wp _ _ _ _ _ _ _ _ _ _ _ _ _ _); conv => whnf)
        | ((with_reducible show callK _ _ _ _ _ _ _ _ _); conv => whnf)
        | ((with_reducible show condK _ _ _ _ _); conv => whnf)
        | ((with_reducible show st1 _ _ _ _ _ _ _ _ _ _ _ _); conv => whnf)
        | ((with_reducible show (Prod.fst _ : Spec) _ _ _); conv => whnf)
        | ((with_reducible show shortK _ _); conv => whnf)
        | exact Nat.le_of_ble_eq_true rfl)

