theorem agr.eRow {ks : List Nat} {S S' : Sto} (h : agr ks S S') (hk : ∀ q, 2 ≤ q → q ≤ 7 → q ∉ ks) {k its row : Int} : ∀ n, rowK S' k its row n = rowK S k its row n
  | 0 => rfl
  | n + 1 => by
    unfold rowK
    rw [agr.eRow h hk n, h.mg (k := 2) (hk 2 (by omega) (by omega)), h.mg (k := 4) (hk 4 (by omega) (by omega)), h.mg (k := 5) (hk 5 (by omega) (by omega)), h.mg (k := 6) (hk 6 (by omega) (by omega))]
theorem agr.eRows {ks : List Nat} {S S' : Sto} (h : agr ks S S') (hk : ∀ q, 2 ≤ q → q ≤ 7 → q ∉ ks) {k its : Int} : ∀ n, rowsK S' k its n = rowsK S k its n
  | 0 => rfl
  | n + 1 => by
    unfold rowsK
    rw [agr.eRows h hk n, h.eRow hk, h.mg (k := 2) (hk 2 (by omega) (by omega)), h.mg (k := 6) (hk 6 (by omega) (by omega))]
theorem agr.eEdg {ks : List Nat} {S S' : Sto} (h : agr ks S S') (hk : ∀ q, 2 ≤ q → q ≤ 7 → q ∉ ks) {k x y : Int} : edgP S' k x y = edgP S k x y := by
  unfold edgP
  simp only [h.has hk]
theorem agr.eEdge {ks : List Nat} {S S' : Sto} (h : agr ks S S') (hk : ∀ q, 2 ≤ q → q ≤ 7 → q ∉ ks) {k its : Int} : ∀ n, edgeK S' k its n = edgeK S k its n
  | 0 => rfl
  | n + 1 => by
    unfold edgeK
    rw [agr.eEdge h hk n, h.eEdg hk]
theorem agr.eStL {ks : List Nat} {S S' : Sto} (h : agr ks S S') (hk : ∀ q, 2 ≤ q → q ≤ 7 → q ∉ ks) {k its : Int} : stL S' k its = stL S k its := by
  unfold stL
  rw [h.eRows hk, h.eEdge hk, h.mg (k := 7) (hk 7 (by omega) (by omega))]
theorem agr.eDst {ks : List Nat} {S S' : Sto} (h : agr ks S S') (hk : ∀ q, 2 ≤ q → q ≤ 7 → q ∉ ks) (h9 : 9 ∉ ks) {d : Int} : ∀ n, dstL S' d n = dstL S d n
  | 0 => rfl
  | n + 1 => by
    have e : seqK S' d n = seqK S d n := h.mg h9
    unfold dstL
    rw [agr.eDst h hk h9 n, e, h.eStL hk]
theorem agr.eNd {ks : List Nat} {S S' : Sto} (h : agr ks S S') (hk : ∀ q, 2 ≤ q → q ≤ 7 → q ∉ ks) {d : Int} {nd : Nat → Nat} {n : Nat} : ndP S' d nd n ↔ ndP S d nd n := by
  unfold ndP
  simp only [h.met hk]
theorem agr.eCol {ks : List Nat} {S S' : Sto} (h : agr ks S S') (h3 : 3 ∉ ks) {d : Int} : colF S' d = colF S d := by
  funext x
  exact h.mg h3
theorem agr.eDsh {ks : List Nat} {S S' : Sto} (h : agr ks S S') (hk : ∀ q, 2 ≤ q → q ≤ 7 → q ∉ ks) (h1 : 1 ∉ ks) {d : Int} : dshOK S' d ↔ dshOK S d := by
  have e : shN S' d = shN S d := h.mg h1
  unfold dshOK
  simp only [h.sh hk, e]
theorem agr.eDes {ks : List Nat} {S S' : Sto} (h : agr ks S S') (hk : ∀ q, 2 ≤ q → q ≤ 7 → q ∉ ks) (h1 : 1 ∉ ks) (h9 : 9 ∉ ks) (h10 : 10 ∉ ks) (h11 : 11 ∉ ks) {d : Int} : desI S' d ↔ desI S d := by
  have e1 : shN S' d = shN S d := h.mg h1
  have e10 : mnK S' d = mnK S d := h.mg h10
  have e9 : ∀ p : Nat, seqK S' d p = seqK S d p := fun p => h.mg h9
  have e11 : ∀ j : Nat, stK S' d j = stK S d j := fun j => h.mg h11
  unfold desI
  simp only [h.eDsh hk h1, h.eNd hk, h.eCol (hk 3 (by omega) (by omega)), h.eDst hk h9, e1, e10, e9, e11]
theorem stA.app {S S1 S2 : Sto} {d m : Int} {l l2 : List Int} (h : stA S S1 d m l) (h2 : stA S1 S2 d (mnK S1 d) l2) (d0 : 0 ≤ d) (m0 : 0 ≤ m) : stA S S2 d m (l ++ l2) := by
  obtain ⟨a1, a2, a3, a4, a5⟩ := h
  obtain ⟨b1, b2, b3, b4, b5⟩ := h2
  rw [a2] at b2 b3 b5
  refine ⟨a1.trans b1, ?_, fun j v hj => ?_, fun i i0 hi => ?_, fun i i0 hi => ?_⟩
  · rw [b2, List.length_append]; omega
  · rw [List.getElem?_append] at hj
    by_cases q : j < l.length
    · rw [if_pos q] at hj
      rw [b5 _ (by omega) (Or.inl (by omega))]
      exact a3 j v hj
    · rw [if_neg q] at hj
      have e := b3 _ v hj
      rw [show 2240 * d + (m + (j : Int)) = 2240 * d + (m + (l.length : Int) + ((j - l.length : Nat) : Int)) by omega]
      exact e
  · rw [b4 i i0 hi, a4 i i0 hi]
  · rw [List.length_append] at hi
    rw [b5 i i0 (by omega), a5 i i0 (by omega)]
theorem dstL_len {S : Sto} {d : Int} : ∀ n : Nat, (∀ q : Nat, q < n → shOK S (7 * d + seqK S d q)) → (dstL S d n).length ≤ 320 * n
  | 0, _ => Nat.le_refl _
  | n + 1, h => by
    have h1 := dstL_len n (fun q hq => h q (by omega))
    have h2 := stL_len (its := seqK S d n) (h n (by omega))
    unfold dstL
    rw [List.length_append]
    omega
def cp1 (T : Sto) (k : Nat) (to fr : Int) : Sto := updI T (mt k) to.toNat (mg T k fr)
def cpU (T : Sto) (to fr : Int) : Sto := cp1 (cp1 (cp1 (cp1 (cp1 (cp1 T 2 to fr) 3 to fr) 4 to fr) 5 to fr) 6 to fr) 7 to fr
def cpF (S : Sto) (d : Int) : Nat → Sto
  | 0 => S
  | k + 1 => cpU (cpF S d k) (7 * d + k) (42 + k)
theorem cpU_v {T : Sto} {to fr i : Int} {a : Nat} (h2 : 2 ≤ a) (h7 : a ≤ 7) : mg (cpU T to fr) a i = if i.toNat = to.toNat then mg T a fr else mg T a i := by
  rcases (show a = 2 ∨ a = 3 ∨ a = 4 ∨ a = 5 ∨ a = 6 ∨ a = 7 by omega) with rfl | rfl | rfl | rfl | rfl | rfl
  all_goals simp [cpU, cp1, mg, updI_2, mt_c]
theorem cpF_ag {S : Sto} {d : Int} : ∀ n, agr [2, 3, 4, 5, 6, 7] S (cpF S d n)
  | 0 => agr.rf
  | n + 1 => ((((((cpF_ag n).upd (by simp)).upd (by simp)).upd (by simp)).upd (by simp)).upd (by simp)).upd (by simp)
theorem cpF_v {S : Sto} {d : Int} (d0 : 0 ≤ d) (d6 : d < 6) {a : Nat} (h2 : 2 ≤ a) (h7 : a ≤ 7) : ∀ (n : Nat), n ≤ 7 → ∀ i : Int, 0 ≤ i → mg (cpF S d n) a i = if 7 * d ≤ i ∧ i < 7 * d + n then mg S a (42 + (i - 7 * d)) else mg S a i
  | 0, _, i, i0 => by rw [if_neg (by omega)]; rfl
  | n + 1, hn, i, i0 => by
    show mg (cpU (cpF S d n) (7 * d + n) (42 + n)) a i = _
    rw [cpU_v h2 h7, cpF_v d0 d6 h2 h7 n (by omega) i i0, cpF_v d0 d6 h2 h7 n (by omega) (42 + n) (by omega)]
    by_cases e : i = 7 * d + n
    · rw [if_pos (by omega), if_neg (by omega), if_pos (by omega), show (42 : Int) + (i - 7 * d) = 42 + n by omega]
    · rw [if_neg (by omega)]
      by_cases q : 7 * d ≤ i ∧ i < 7 * d + n
      · rw [if_pos q, if_pos (by omega)]
      · rw [if_neg q, if_neg (by omega)]
/-- the draft's shapes are copied to the design d -/
def desX (S : Sto) (d : Int) (n : Nat) : Sto := updI (updI (cpF (thr S 0) d n) (mt 1) d.toNat n) (mt 1) 6 0
def designR (S : Sto) (k v : Int) (S' : Sto) : Prop := k = (if shN S 6 = 0 ∨ nD S = 6 then 1 else 0) ∧ (k ≠ 0 → S' = thr S k) ∧
  (k = 0 → v = nD S ∧ ∃ T, agr [1, 2, 3, 4, 5, 6, 7, 9, 10, 11, 12, 32] (thr S 0) T ∧ S' = updI T 2 8 (nD S + 1) ∧
    (∀ (a : Nat) (i : Int), 2 ≤ a → a ≤ 7 → 0 ≤ i → mg T a i = if 7 * nD S ≤ i ∧ i < 7 * nD S + shN S 6 then mg S a (42 + (i - 7 * nD S)) else mg S a i) ∧
    shN T (nD S) = shN S 6 ∧ shN T 6 = 0 ∧ (∀ i, 0 ≤ i → i < 6 → i ≠ nD S → shN T i = shN S i) ∧
    (∀ i, 0 ≤ i → (i < 7 * nD S ∨ 7 * nD S + 7 ≤ i) → mg T 9 i = mg S 9 i) ∧ (∀ i, 0 ≤ i → i ≠ nD S → mg T 10 i = mg S 10 i) ∧ (∀ i, 0 ≤ i → i < 2240 * nD S → mg T 11 i = mg S 11 i) ∧ desI T (nD S))
theorem desX_sh {S : Sto} {d : Int} {n : Nat} (d0 : 0 ≤ d) (d6 : d < 6) (n0 : 0 < n) (hn : n ≤ 7) (hdr : ∀ k, 0 ≤ k → k < (n : Int) → shOK S (42 + k)) : agr [1, 2, 3, 4, 5, 6, 7] (thr S 0) (desX S d n) ∧ dshOK (desX S d n) d ∧ shN (desX S d n) d = n ∧ shN (desX S d n) 6 = 0 ∧ (∀ i, 0 ≤ i → i < 6 → i ≠ d → shN (desX S d n) i = shN S i) ∧
    (∀ (a : Nat) (i : Int), 2 ≤ a → a ≤ 7 → 0 ≤ i → mg (desX S d n) a i = if 7 * d ≤ i ∧ i < 7 * d + n then mg S a (42 + (i - 7 * d)) else mg S a i) := by
  have hv : ∀ (a : Nat) (i : Int), 2 ≤ a → a ≤ 7 → 0 ≤ i → mg (desX S d n) a i = if 7 * d ≤ i ∧ i < 7 * d + n then mg S a (42 + (i - 7 * d)) else mg S a i := fun a i h2 h7 i0 => by
    have e : mg (desX S d n) a i = mg (cpF (thr S 0) d n) a i := by
      have ha : ¬ a = 1 := by omega
      simp [desX, mg, updI_2, mt_c, ha]
    have et : ∀ q, mg (thr S 0) a q = mg S a q := fun q => u2
    rw [e, cpF_v d0 d6 h2 h7 n hn i i0, et, et]
  have hag := cpF_ag (S := thr S 0) (d := d) n
  have h1 : ∀ i, mg (cpF (thr S 0) d n) 1 i = mg S 1 i := fun i => hag.mg (k := 1) (by simp)
  have e1 : shN (desX S d n) d = n := by
    show (if mt 1 = mt 1 ∧ d.toNat = 6 then 0 else if mt 1 = mt 1 ∧ d.toNat = d.toNat then (n : Int) else _) = _
    rw [if_neg (by rintro ⟨-, e⟩; omega), if_pos ⟨rfl, rfl⟩]
  refine ⟨((hag.sub (by simp)).upd (by simp)).upd (by simp), ⟨d0, d6, by omega, by omega, fun k k0 k1 => ?_⟩, e1, ?_, fun i i0 i6 hi => ?_, hv⟩
  · have q := hdr k k0 (by omega)
    have ev : ∀ a : Nat, 2 ≤ a → a ≤ 7 → mg (desX S d n) a (7 * d + k) = mg S a (42 + k) := fun a h2 h7 => by
      rw [hv a _ h2 h7 (by omega), if_pos (by omega), show 42 + (7 * d + k - 7 * d) = 42 + k by omega]
    unfold shOK at q ⊢
    rw [ev 2 (by omega) (by omega), ev 3 (by omega) (by omega), ev 4 (by omega) (by omega), ev 5 (by omega) (by omega), ev 6 (by omega) (by omega), ev 7 (by omega) (by omega)]
    omega
  · show (if mt 1 = mt 1 ∧ (6 : Int).toNat = 6 then (0 : Int) else mg (updI (cpF (thr S 0) d n) (mt 1) d.toNat n) 1 6) = 0
    exact if_pos ⟨rfl, rfl⟩
  · show (if mt 1 = mt 1 ∧ i.toNat = 6 then 0 else if mt 1 = mt 1 ∧ i.toNat = d.toNat then (n : Int) else mg (cpF (thr S 0) d n) 1 i) = _
    rw [if_neg (by rintro ⟨-, e⟩; omega), if_neg (by rintro ⟨-, e⟩; omega), h1]
def s_design : Spec := fun as S post => match as with
  | [.inr (.inr (some 2))] => (∃ n, MI n S) ∧ True ∧ ∀ k v S', designR S k v S' → post (.inl (some (vI v))) S'
  | _ => False
def spX7_design : Nat → CD := spF mdX7_design fun i => match i with
  | 1 => (s_holds, 0, 0, 1)
  | 2 => (s_laysSequence, 0, 0, 6)
  | 3 => (s_laysStitches, 0, 0, 3)
  | _ => noR
set_option maxHeartbeats 4000000 in
set_option maxRecDepth 100000 in
theorem sat_X7_design : Sat mX7_design s_design 0 0 7 := by
  refine sat_of (E := eX7_design) (sp := spX7_design) (ini := false) (by decide +kernel) (fun h => by cases h) okX7_design (fun i => match i with
    | 1 => ⟨sat_X7_holds, Nat.le_of_ble_eq_true rfl⟩
    | 2 => ⟨sat_X7_laysSequence, Nat.le_of_ble_eq_true rfl⟩
    | 3 => ⟨sat_X7_laysStitches, Nat.le_of_ble_eq_true rfl⟩
    | i + 4 => ⟨sat_no _, Nat.le_of_ble_eq_true rfl⟩
    | 0 => ⟨sat_no _, Nat.le_of_ble_eq_true rfl⟩) ?_
  intro as S post h
  match as, h with
  | [.inr (.inr (some 2))], h =>
    obtain ⟨⟨n9, hI⟩, -, h⟩ := h
    have hI2 := hI
    obtain ⟨hM, hN, ⟨g0, g1, hdr⟩, -, -, -, hfree, -⟩ := hI2
    have hr := hM.2.1
    obtain ⟨d, hd⟩ : ∃ d, nD S = d := ⟨_, rfl⟩
    obtain ⟨n, hn⟩ : ∃ n : Nat, shN S 6 = n := ⟨(shN S 6).toNat, by omega⟩
    have hmn : d < 6 → mnK S d = 0 := fun q => hfree.1 d (by omega) q
    rw [hn] at g0 g1 hdr
    rw [hd] at hN
    unfold designR at h
    rw [hd, hn] at h
    have hd8 : S.2.1 2 8 = d := hd
    have hn6 : S.2.1 (mt 1) 6 = n := hn
    refine bodyL [(37, fun ms L st S' c => ∃ (k : Nat) (x3 x4 : AV), L = [vT 2, vI n, vI k, x3, x4] ∧ st = [] ∧ c = (0, 0) ∧ ms = 20 + (7 - k) ∧ k ≤ n ∧ 0 < n ∧ d < 6 ∧ S' = cpF (thr S 0) d k),
      (170, fun ms L st S' c => ∃ (p : Nat) (S2 : Sto) (nd : Nat → Nat) (x3 x4 : AV), L = [vT 2, vI n, vI p, x3, x4] ∧ st = [] ∧ c = (0, 0) ∧ ms = 7 - p ∧ p ≤ n ∧ 0 < n ∧ d < 6 ∧ sqS (desX S d n) S2 d ∧ ndP (desX S d n) d nd n ∧ (∀ q : Nat, q < n → mg S2 9 (7 * d + q) = gat n (colF (desX S d n) d) nd q) ∧ stA S2 S' d 0 (dstL S2 d p))] 40 300 rfl
      (List.forall_mem_cons.mpr ⟨?_, List.forall_mem_cons.mpr ⟨?_, fun q hq => by cases hq⟩⟩) ?_
    · rintro ms L st S' c ⟨k, x3, x4, rfl, rfl, rfl, rfl, hk, n0, d6, hS⟩
      have hag : agr [2, 3, 4, 5, 6, 7] (thr S 0) S' := by rw [hS]; exact cpF_ag k
      have hM : MS S' := hag.ms hM
      have hr := hM.2.1
      have e8 : S'.2.1 2 8 = d := (hag.mf (k := 8)).trans hd
      obtain ⟨x1, x2, x3', x4', x5, x6⟩ := desX_sh (S := S) (n := n) (d := d) (by omega) d6 n0 (by omega) hdr
      have hMX : k = n → MS (updI (updI S' (mt 1) (S'.2.1 2 8).toNat n) (mt 1) 6 0) := fun _ => hM
      have hX : k = n → updI (updI S' (mt 1) (S'.2.1 2 8).toNat n) (mt 1) 6 0 = desX S d n := fun e => by rw [e8, hS, e]; rfl
      repeat' (first
          | omega
          | with_reducible apply And.intro
          | (intro c9; (try simp only [mg, mf, colK, stK, clK, mnK, shN] at c9))
          | exact hM
          | exact ms_o hM
          | (refine ms_r hM rfl rfl ?_ ?_ <;> (try simp only [mLen]) <;> omega)
          | (refine ms_w hM rfl rfl ?_ ?_ <;> (try simp only [mLen]) <;> omega)
          | (show dshOK (updI (updI S' (mt 1) (S'.2.1 2 8).toNat n) (mt 1) 6 0) (S'.2.1 2 8); rw [hX (by omega), e8]; exact x2)
          | (simp only [mg, mf, colK, stK, clK, mnK, shN]; omega)
          | refine Exists.intro _ (And.intro rfl ?_)
          | refine Exists.intro _ (And.intro ((congrFun hr _).trans rfl) ?_)
          | ((with_reducible show wp _ _ _ _ _ _ _ _ _ _ _ _ _ _); conv => whnf)
          | ((with_reducible show callK _ _ _ _ _ _ _ _ _); conv => whnf)
          | ((with_reducible show condK _ _ _ _ _); conv => whnf)
          | ((with_reducible show st1 _ _ _ _ _ _ _ _ _ _ _ _); conv => whnf)
          | ((with_reducible show (Prod.fst _ : Spec) _ _ _); conv => whnf)
          | ((with_reducible show shortK _ _); conv => whnf)
          | exact Nat.le_of_ble_eq_true rfl)
      · rename_i S2 nd hsq hnd
        have eX := hX (by omega)
        change sqS (updI (updI S' (mt 1) (S'.2.1 2 8).toNat n) (mt 1) 6 0) S2 (S'.2.1 2 8) at hsq
        change ndP (updI (updI S' (mt 1) (S'.2.1 2 8).toNat n) (mt 1) 6 0) (S'.2.1 2 8) nd (shN (updI (updI S' (mt 1) (S'.2.1 2 8).toNat n) (mt 1) 6 0) (S'.2.1 2 8)).toNat at hnd
        change ∀ p : Nat, p < (shN (updI (updI S' (mt 1) (S'.2.1 2 8).toNat n) (mt 1) 6 0) (S'.2.1 2 8)).toNat → mg S2 9 (7 * (S'.2.1 2 8) + p) = gat (shN (updI (updI S' (mt 1) (S'.2.1 2 8).toNat n) (mt 1) 6 0) (S'.2.1 2 8)).toNat (colF (updI (updI S' (mt 1) (S'.2.1 2 8).toNat n) (mt 1) 6 0) (S'.2.1 2 8)) nd p at c9
        rw [eX, e8] at hsq
        rw [eX, e8, x3', Int.toNat_natCast] at hnd
        rw [eX, e8, x3', Int.toNat_natCast] at c9
        have em : mnK S2 d = 0 := (hsq.1.mg (by simp)).trans ((x1.mg (by simp)).trans (u2.trans (hmn d6)))
        have q := stA.rf (S := S2) (d := d)
        rw [em] at q
        exact ⟨7, by omega, 0, S2, nd, _, _, rfl, rfl, rfl, rfl, by omega, n0, d6, hsq, hnd, c9, q⟩
      · exact ⟨20 + (7 - (k + 1)), by omega, k + 1, _, _, by rw [Int.natCast_add]; rfl, rfl, rfl, rfl, by omega, n0, d6, by rw [e8, hS]; rfl⟩
    · rintro ms L st S' c ⟨p, S2, nd, x3, x4, rfl, rfl, rfl, rfl, hp, n0, d6, hsq, hnd, hseq, hst⟩
      obtain ⟨x1, x2, x3', x4', x5, x6⟩ := desX_sh (S := S) (n := n) (d := d) (by omega) d6 n0 (by omega) hdr
      have hag : agr [9, 10, 11, 12, 32] (desX S d n) S' := (hsq.1.sub (by simp)).trans (hst.1.sub (by simp))
      have hM : MS S' := hag.ms (x1.ms hM)
      have hr := hM.2.1
      have e8 : S'.2.1 2 8 = d := (hag.mf (k := 8)).trans ((x1.mf (k := 8)).trans hd)
      have hks : ∀ q, 2 ≤ q → q ≤ 7 → q ∉ [9, 10, 11, 12, 32] := fun q q1 q2 => by simp; omega
      have hks2 : ∀ q, 2 ≤ q → q ≤ 7 → q ∉ [12, 32, 9] := fun q q1 q2 => by simp; omega
      have hks3 : ∀ q, 2 ≤ q → q ≤ 7 → q ∉ [10, 11] := fun q q1 q2 => by simp; omega
      have hgr : ∀ q : Nat, q < n → 0 ≤ seqK S2 d q ∧ seqK S2 d q < n := fun q hq => by
        have e := hseq q hq
        have e2 := gat_r (col := colF (desX S d n) d) (nd := nd) (n := n) (by omega) hnd.ok hq
        show 0 ≤ mg S2 9 (7 * d + q) ∧ mg S2 9 (7 * d + q) < n
        omega
      have hs2 : ∀ q : Nat, q < n → shOK S2 (7 * d + seqK S2 d q) := fun q hq => (hsq.1.sh hks2).mpr (x2.2.2.2.2 _ (hgr q hq).1 (by have := (hgr q hq).2; omega))
      have hlen := dstL_len (S := S2) (d := d) p (fun q hq => hs2 q (by omega))
      have hmn := hst.2.1
      have e9 : S'.2.1 (mt 9) (7 * d + p).toNat = seqK S2 d p := hst.1.mg (by simp)
      have hp9 := hgr p
      have hs9 : p < n → shOK S' (7 * d + seqK S2 d p) := fun q => (hst.1.sh hks3).mpr (hs2 p q)
      repeat' (first
          | omega
          | with_reducible apply And.intro
          | (intro c9; (try simp only [mg, mf, colK, stK, clK, mnK, shN, e8, e9] at c9))
          | exact hM
          | exact ms_o hM
          | (refine ms_r hM rfl rfl ?_ ?_ <;> (try simp only [mLen]) <;> omega)
          | (refine ms_w hM rfl rfl ?_ ?_ <;> (try simp only [mLen]) <;> omega)
          | (simp only [e8, e9]; exact hs9 (by omega))
          | (rw [e8, hmn]; omega)
          | (simp only [mg, mf, colK, stK, clK, mnK, shN, e8, e9]; omega)
          | (simp only [mg, mf, colK, stK, clK, mnK, shN, e8, e9]; omega)
          | refine Exists.intro _ (And.intro rfl ?_)
          | refine Exists.intro _ (And.intro ((congrFun hr _).trans rfl) ?_)
          | ((with_reducible show wp _ _ _ _ _ _ _ _ _ _ _ _ _ _); conv => whnf)
          | ((with_reducible show callK _ _ _ _ _ _ _ _ _); conv => whnf)
          | ((with_reducible show condK _ _ _ _ _); conv => whnf)
          | ((with_reducible show st1 _ _ _ _ _ _ _ _ _ _ _ _); conv => whnf)
          | ((with_reducible show (Prod.fst _ : Spec) _ _ _); conv => whnf)
          | ((with_reducible show shortK _ _); conv => whnf)
          | exact Nat.le_of_ble_eq_true rfl)
      · have ep : p = n := by omega
        subst ep
        show post (.inl (some (vI (S'.2.1 2 8 + 1 - 1)))) (updI S' 2 8 (S'.2.1 2 8 + 1))
        rw [e8, show d + 1 - 1 = d by omega]
        have ag1 : agr [1, 2, 3, 4, 5, 6, 7, 9, 10, 11, 12, 32] (thr S 0) S' := (x1.sub (by simp)).trans (hag.sub (by simp))
        have e1 : ∀ i, mg S' 1 i = mg (desX S d p) 1 i := fun i => hag.mg (by simp)
        have h9 := hgr
        refine h 0 d _ ⟨by rw [if_neg (by omega)], fun q => absurd rfl q, fun _ => ⟨rfl, S', ag1, rfl, fun a i a2 a7 i0 => ?_, (e1 d).trans x3', (e1 6).trans x4', fun i i0 i6 hi => (e1 i).trans (x5 i i0 i6 hi), fun i i0 hi => ?_, fun i i0 hi => ?_, fun i i0 hi => ?_, ?_⟩⟩
        · rw [hag.mg (by simp; omega)]; exact x6 a i a2 a7 i0
        · rw [hst.1.mg (k := 9) (by simp), hsq.2 i i0 hi, x1.mg (k := 9) (by simp)]; exact u2
        · rw [hst.2.2.2.1 i i0 hi, hsq.1.mg (k := 10) (by simp), x1.mg (k := 10) (by simp)]; exact u2
        · rw [hst.2.2.2.2 i i0 (Or.inl (by omega)), hsq.1.mg (k := 11) (by simp), x1.mg (k := 11) (by simp)]; exact u2
        · have en : shN S' d = p := (e1 d).trans x3'
          have ed : dstL S' d p = dstL S2 d p := hst.1.eDst hks3 (by simp) p
          refine ⟨(hag.eDsh hks (by simp)).mpr x2, ⟨nd, ?_, fun q hq => ?_⟩, ?_, fun j v hj => ?_⟩
          · rw [en, Int.toNat_natCast, hag.eNd hks]; exact hnd
          · rw [en, Int.toNat_natCast] at hq ⊢
            rw [hag.eCol (by simp)]
            exact (hst.1.mg (k := 9) (by simp)).trans (hseq q hq)
          · rw [en, Int.toNat_natCast, ed]
            have := hst.2.1
            omega
          · rw [en, Int.toNat_natCast, ed] at hj
            have q := hst.2.2.1 j v hj
            rw [show 0 + (j : Int) = j by omega] at q
            exact q
      · rename_i S3
        have q := hst.app c9 (by omega) (by omega)
        rw [hst.1.eStL hks3] at q
        exact ⟨7 - (p + 1), by omega, p + 1, S2, nd, _, _, by rw [Int.natCast_add]; rfl, rfl, rfl, rfl, by omega, n0, d6, hsq, hnd, hseq, q⟩
    · have hnI : S.2.1 (mt 1) (Int.toNat 6) = n := hn
      repeat' (first
          | omega
          | with_reducible apply And.intro
          | (intro c9; (try simp only [mg, mf, colK, stK, clK, mnK, shN, u2, hd8, hn6] at c9))
          | exact hM
          | exact ms_o hM
          | (refine ms_r hM rfl rfl ?_ ?_ <;> (try simp only [mLen]) <;> omega)
          | (refine ms_w hM rfl rfl ?_ ?_ <;> (try simp only [mLen]) <;> omega)
          | (rw [hnI]; omega)
          | (simp only [mg, mf, colK, stK, clK, mnK, shN, u2, hd8, hn6]; omega)
          | refine Exists.intro _ (And.intro rfl ?_)
          | refine Exists.intro _ (And.intro ((congrFun hr _).trans rfl) ?_)
          | ((with_reducible show wp _ _ _ _ _ _ _ _ _ _ _ _ _ _); conv => whnf)
          | ((with_reducible show callK _ _ _ _ _ _ _ _ _); conv => whnf)
          | ((with_reducible show condK _ _ _ _ _); conv => whnf)
          | ((with_reducible show st1 _ _ _ _ _ _ _ _ _ _ _ _); conv => whnf)
          | ((with_reducible show (Prod.fst _ : Spec) _ _ _); conv => whnf)
          | ((with_reducible show shortK _ _); conv => whnf)
          | exact Nat.le_of_ble_eq_true rfl)
      all_goals first
        | exact h 1 _ _ ⟨by rw [if_pos (by omega)], fun _ => rfl, fun q => by omega⟩
        | exact ⟨27, by omega, 0, _, _, by rw [hnI]; rfl, rfl, rfl, rfl, by omega, by omega, by omega, rfl⟩
        | (exfalso; exact (isB1' ‹isB _ True›) ‹_›)
      done
