theorem agr.eRow {ks : List Nat} {S S' : Sto} (h : agr ks S S') (hk : ∀ q, 2 ≤ q → q ≤ 7 → q ∉ ks) {k its row : Int} : ∀ n, rowK S' k its row n = rowK S k its row n
  | 0 => rfl
  | n + 1 => by
    unfold rowK
    rw [agr.eRow h hk n, h.mg (k := 2) (hk 2 (by omega) (by omega)), h.mg (k := 4) (hk 4 (by omega) (by omega)), h.mg (k := 5) (hk 5 (by omega) (by omega)), h.mg (k := 6) (hk 6 (by omega) (by omega))]
theorem agr.eRows {ks : List Nat} {S S' : Sto} (h : agr ks S S') (hk : ∀ q, 2 ≤ q → q ≤ 7 → q ∉ ks) {k its : Int} : ∀ n, rowsK S' k its n = rowsK S k its n
  | 0 => rfl
  | n + 1 => by
    unfold rowsK
    rw [agr.eRows h hk n, h.eRow hk, h.mg (k := 2) (hk 2 (by omega) (by omega)), h.mg (k := 6) (hk 6 (by omega) (by omega))]
theorem agr.eEdg {ks : List Nat} {S S' : Sto} (h : agr ks S S') (hk : ∀ q, 2 ≤ q → q ≤ 7 → q ∉ ks) {k x y : Int} : edgP S' k x y = edgP S k x y := by
  unfold edgP
  simp only [h.has hk]
theorem agr.eEdge {ks : List Nat} {S S' : Sto} (h : agr ks S S') (hk : ∀ q, 2 ≤ q → q ≤ 7 → q ∉ ks) {k its : Int} : ∀ n, edgeK S' k its n = edgeK S k its n
  | 0 => rfl
  | n + 1 => by
    unfold edgeK
    rw [agr.eEdge h hk n, h.eEdg hk]
theorem agr.eStL {ks : List Nat} {S S' : Sto} (h : agr ks S S') (hk : ∀ q, 2 ≤ q → q ≤ 7 → q ∉ ks) {k its : Int} : stL S' k its = stL S k its := by
  unfold stL
  rw [h.eRows hk, h.eEdge hk, h.mg (k := 7) (hk 7 (by omega) (by omega))]
theorem agr.eDst {ks : List Nat} {S S' : Sto} (h : agr ks S S') (hk : ∀ q, 2 ≤ q → q ≤ 7 → q ∉ ks) (h9 : 9 ∉ ks) {d : Int} : ∀ n, dstL S' d n = dstL S d n
  | 0 => rfl
  | n + 1 => by
    have e : seqK S' d n = seqK S d n := h.mg h9
    unfold dstL
    rw [agr.eDst h hk h9 n, e, h.eStL hk]
theorem agr.eNd {ks : List Nat} {S S' : Sto} (h : agr ks S S') (hk : ∀ q, 2 ≤ q → q ≤ 7 → q ∉ ks) {d : Int} {nd : Nat → Nat} {n : Nat} : ndP S' d nd n ↔ ndP S d nd n := by
  unfold ndP
  simp only [h.met hk]
theorem agr.eCol {ks : List Nat} {S S' : Sto} (h : agr ks S S') (h3 : 3 ∉ ks) {d : Int} : colF S' d = colF S d := by
  funext x
  exact h.mg h3
theorem agr.eDsh {ks : List Nat} {S S' : Sto} (h : agr ks S S') (hk : ∀ q, 2 ≤ q → q ≤ 7 → q ∉ ks) (h1 : 1 ∉ ks) {d : Int} : dshOK S' d ↔ dshOK S d := by
  have e : shN S' d = shN S d := h.mg h1
  unfold dshOK
  simp only [h.sh hk, e]
theorem agr.eDes {ks : List Nat} {S S' : Sto} (h : agr ks S S') (hk : ∀ q, 2 ≤ q → q ≤ 7 → q ∉ ks) (h1 : 1 ∉ ks) (h9 : 9 ∉ ks) (h10 : 10 ∉ ks) (h11 : 11 ∉ ks) {d : Int} : desI S' d ↔ desI S d := by
  have e1 : shN S' d = shN S d := h.mg h1
  have e10 : mnK S' d = mnK S d := h.mg h10
  have e9 : ∀ p : Nat, seqK S' d p = seqK S d p := fun p => h.mg h9
  have e11 : ∀ j : Nat, stK S' d j = stK S d j := fun j => h.mg h11
  unfold desI
  simp only [h.eDsh hk h1, h.eNd hk, h.eCol (hk 3 (by omega) (by omega)), h.eDst hk h9, e1, e10, e9, e11]
theorem stA.app {S S1 S2 : Sto} {d m : Int} {l l2 : List Int} (h : stA S S1 d m l) (h2 : stA S1 S2 d (mnK S1 d) l2) (d0 : 0 ≤ d) (m0 : 0 ≤ m) : stA S S2 d m (l ++ l2) := by
  obtain ⟨a1, a2, a3, a4, a5⟩ := h
  obtain ⟨b1, b2, b3, b4, b5⟩ := h2
  rw [a2] at b2 b3 b5
  refine ⟨a1.trans b1, ?_, fun j v hj => ?_, fun i i0 hi => ?_, fun i i0 hi => ?_⟩
  · rw [b2, List.length_append]; omega
  · rw [List.getElem?_append] at hj
    by_cases q : j < l.length
    · rw [if_pos q] at hj
      rw [b5 _ (by omega) (Or.inl (by omega))]
      exact a3 j v hj
    · rw [if_neg q] at hj
      have e := b3 _ v hj
      rw [show 2240 * d + (m + (j : Int)) = 2240 * d + (m + (l.length : Int) + ((j - l.length : Nat) : Int)) by omega]
      exact e
  · rw [b4 i i0 hi, a4 i i0 hi]
  · rw [List.length_append] at hi
    rw [b5 i i0 (by omega), a5 i i0 (by omega)]
theorem dstL_len {S : Sto} {d : Int} : ∀ n : Nat, (∀ q : Nat, q < n → shOK S (7 * d + seqK S d q)) → (dstL S d n).length ≤ 320 * n
  | 0, _ => Nat.le_refl _
  | n + 1, h => by
    have h1 := dstL_len n (fun q hq => h q (by omega))
    have h2 := stL_len (its := seqK S d n) (h n (by omega))
    unfold dstL
    rw [List.length_append]
    omega
def cp1 (T : Sto) (k : Nat) (to fr : Int) : Sto := updI T (mt k) to.toNat (mg T k fr)
def cpU (T : Sto) (to fr : Int) : Sto := cp1 (cp1 (cp1 (cp1 (cp1 (cp1 T 2 to fr) 3 to fr) 4 to fr) 5 to fr) 6 to fr) 7 to fr
def cpF (S : Sto) (d : Int) : Nat → Sto
  | 0 => S
  | k + 1 => cpU (cpF S d k) (7 * d + k) (42 + k)
theorem cpU_v {T : Sto} {to fr i : Int} {a : Nat} (h2 : 2 ≤ a) (h7 : a ≤ 7) : mg (cpU T to fr) a i = if i.toNat = to.toNat then mg T a fr else mg T a i := by
  rcases (show a = 2 ∨ a = 3 ∨ a = 4 ∨ a = 5 ∨ a = 6 ∨ a = 7 by omega) with rfl | rfl | rfl | rfl | rfl | rfl
  all_goals simp [cpU, cp1, mg, updI_2, mt_c]
theorem cpF_ag {S : Sto} {d : Int} : ∀ n, agr [2, 3, 4, 5, 6, 7] S (cpF S d n)
  | 0 => agr.rf
  | n + 1 => ((((((cpF_ag n).upd (by simp)).upd (by simp)).upd (by simp)).upd (by simp)).upd (by simp)).upd (by simp)
theorem cpF_v {S : Sto} {d : Int} (d0 : 0 ≤ d) (d6 : d < 6) {a : Nat} (h2 : 2 ≤ a) (h7 : a ≤ 7) : ∀ (n : Nat), n ≤ 7 → ∀ i : Int, 0 ≤ i → mg (cpF S d n) a i = if 7 * d ≤ i ∧ i < 7 * d + n then mg S a (42 + (i - 7 * d)) else mg S a i
  | 0, _, i, i0 => by rw [if_neg (by omega)]; rfl
  | n + 1, hn, i, i0 => by
    show mg (cpU (cpF S d n) (7 * d + n) (42 + n)) a i = _
    rw [cpU_v h2 h7, cpF_v d0 d6 h2 h7 n (by omega) i i0, cpF_v d0 d6 h2 h7 n (by omega) (42 + n) (by omega)]
    by_cases e : i = 7 * d + n
    · rw [if_pos (by omega), if_neg (by omega), if_pos (by omega), show (42 : Int) + (i - 7 * d) = 42 + n by omega]
    · rw [if_neg (by omega)]
      by_cases q : 7 * d ≤ i ∧ i < 7 * d + n
      · rw [if_pos q, if_pos (by omega)]
      · rw [if_neg q, if_neg (by omega)]
/-- the draft's shapes are copied to the design d -/
def desX (S : Sto) (d : Int) (n : Nat) : Sto := updI (updI (cpF (thr S 0) d n) (mt 1) d.toNat n) (mt 1) 6 0
def designR (S : Sto) (k v : Int) (S' : Sto) : Prop := k = (if shN S 6 = 0 ∨ nD S = 6 then 1 else 0) ∧ (k ≠ 0 → S' = thr S k) ∧
  (k = 0 → v = nD S ∧ ∃ T, agr [1, 2, 3, 4, 5, 6, 7, 9, 10, 11, 12, 32] (thr S 0) T ∧ S' = updI T 2 8 (nD S + 1) ∧
    (∀ (a : Nat) (i : Int), 2 ≤ a → a ≤ 7 → 0 ≤ i → mg T a i = if 7 * nD S ≤ i ∧ i < 7 * nD S + shN S 6 then mg S a (42 + (i - 7 * nD S)) else mg S a i) ∧
    shN T (nD S) = shN S 6 ∧ shN T 6 = 0 ∧ (∀ i, 0 ≤ i → i < 6 → i ≠ nD S → shN T i = shN S i) ∧
    (∀ i, 0 ≤ i → (i < 7 * nD S ∨ 7 * nD S + 7 ≤ i) → mg T 9 i = mg S 9 i) ∧ (∀ i, 0 ≤ i → i ≠ nD S → mg T 10 i = mg S 10 i) ∧ (∀ i, 0 ≤ i → i < 2240 * nD S → mg T 11 i = mg S 11 i) ∧ desI T (nD S))
theorem desX_sh {S : Sto} {d : Int} {n : Nat} (d0 : 0 ≤ d) (d6 : d < 6) (n0 : 0 < n) (hn : n ≤ 7) (hdr : ∀ k, 0 ≤ k → k < (n : Int) → shOK S (42 + k)) : agr [1, 2, 3, 4, 5, 6, 7] (thr S 0) (desX S d n) ∧ dshOK (desX S d n) d ∧ shN (desX S d n) d = n ∧ shN (desX S d n) 6 = 0 ∧ (∀ i, 0 ≤ i → i < 6 → i ≠ d → shN (desX S d n) i = shN S i) ∧
    (∀ (a : Nat) (i : Int), 2 ≤ a → a ≤ 7 → 0 ≤ i → mg (desX S d n) a i = if 7 * d ≤ i ∧ i < 7 * d + n then mg S a (42 + (i - 7 * d)) else mg S a i) := by
  have hv : ∀ (a : Nat) (i : Int), 2 ≤ a → a ≤ 7 → 0 ≤ i → mg (desX S d n) a i = if 7 * d ≤ i ∧ i < 7 * d + n then mg S a (42 + (i - 7 * d)) else mg S a i := fun a i h2 h7 i0 => by
    have e : mg (desX S d n) a i = mg (cpF (thr S 0) d n) a i := by
      have ha : ¬ a = 1 := by omega
      simp [desX, mg, updI_2, mt_c, ha]
    have et : ∀ q, mg (thr S 0) a q = mg S a q := fun q => u2
    rw [e, cpF_v d0 d6 h2 h7 n hn i i0, et, et]
  have hag := cpF_ag (S := thr S 0) (d := d) n
  have h1 : ∀ i, mg (cpF (thr S 0) d n) 1 i = mg S 1 i := fun i => hag.mg (k := 1) (by simp)
  have e1 : shN (desX S d n) d = n := by
    show (if mt 1 = mt 1 ∧ d.toNat = 6 then 0 else if mt 1 = mt 1 ∧ d.toNat = d.toNat then (n : Int) else _) = _
    rw [if_neg (by rintro ⟨-, e⟩; omega), if_pos ⟨rfl, rfl⟩]
  refine ⟨((hag.sub (by simp)).upd (by simp)).upd (by simp), ⟨d0, d6, by omega, by omega, fun k k0 k1 => ?_⟩, e1, ?_, fun i i0 i6 hi => ?_, hv⟩
  · have q := hdr k k0 (by omega)
    have ev : ∀ a : Nat, 2 ≤ a → a ≤ 7 → mg (desX S d n) a (7 * d + k) = mg S a (42 + k) := fun a h2 h7 => by
      rw [hv a _ h2 h7 (by omega), if_pos (by omega), show 42 + (7 * d + k - 7 * d) = 42 + k by omega]
    unfold shOK at q ⊢
    rw [ev 2 (by omega) (by omega), ev 3 (by omega) (by omega), ev 4 (by omega) (by omega), ev 5 (by omega) (by omega), ev 6 (by omega) (by omega), ev 7 (by omega) (by omega)]
    omega
  · show (if mt 1 = mt 1 ∧ (6 : Int).toNat = 6 then (0 : Int) else mg (updI (cpF (thr S 0) d n) (mt 1) d.toNat n) 1 6) = 0
    exact if_pos ⟨rfl, rfl⟩
  · show (if mt 1 = mt 1 ∧ i.toNat = 6 then 0 else if mt 1 = mt 1 ∧ i.toNat = d.toNat then (n : Int) else mg (cpF (thr S 0) d n) 1 i) = _
    rw [if_neg (by rintro ⟨-, e⟩; omega), if_neg (by rintro ⟨-, e⟩; omega), h1]
def s_design : Spec := fun as S post => match as with
  | [.inr (.inr (some 2))] => (∃ n, MI n S) ∧ True ∧ ∀ k v S', designR S k v S' → post (.inl (some (vI v))) S'
  | _ => False
