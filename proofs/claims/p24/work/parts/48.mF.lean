/-! WHAT HOLDS OF THE REFERENCE BETWEEN CALLS; n: a bound for the number of calls so far -/
def nD (S : Sto) : Int := mf S 8
def nM (S : Sto) : Int := mf S 13
def nO (S : Sto) : Int := mf S 23
abbrev seqK (S : Sto) (d p : Int) : Int := mg S 9 (7 * d + p)
/-- the stitches of the first places of a design -/
noncomputable def dstL (S : Sto) (d : Int) : Nat → List Int
  | 0 => []
  | p + 1 => dstL S d p ++ stL S (7 * d + seqK S d p) (seqK S d p)
def draftI (S : Sto) : Prop := 0 ≤ shN S 6 ∧ shN S 6 ≤ 7 ∧ ∀ k, 0 ≤ k → k < shN S 6 → shOK S (42 + k)
def desI (S : Sto) (d : Int) : Prop := dshOK S d ∧ (∃ nd, ndP S d nd (shN S d).toNat ∧ ∀ p : Nat, p < (shN S d).toNat → seqK S d p = gat (shN S d).toNat (colF S d) nd p) ∧
  mnK S d = (dstL S d (shN S d).toNat).length ∧ ∀ (j : Nat) (v : Int), (dstL S d (shN S d).toNat)[j]? = some v → stK S d j = v
abbrev hdK (S : Sto) (i k : Int) : Int := mg S 20 (6 * i + k)
abbrev ltK (S : Sto) (i k : Int) : Int := mg S 21 (6 * i + k)
def macI (n : Int) (S : Sto) (i : Int) : Prop := (1 ≤ mg S 14 i ∧ mg S 14 i ≤ 6) ∧ (1 ≤ mg S 15 i ∧ mg S 15 i ≤ 16) ∧ (1 ≤ mg S 16 i ∧ mg S 16 i ≤ 16) ∧ (0 ≤ mg S 18 i ∧ mg S 18 i ≤ 120000 * n) ∧ (0 ≤ mg S 19 i ∧ mg S 19 i ≤ 120000 * n) ∧
  (∀ k, 0 ≤ k → k < 6 → -1 ≤ hdK S i k ∧ hdK S i k < 6 ∧ 0 ≤ ltK S i k ∧ ltK S i k ≤ mg S 19 i ∧ (mg S 14 i ≤ k → hdK S i k = -1) ∧ (hdK S i k ≠ -1 → 0 < ltK S i k)) ∧
  (∀ k l, 0 ≤ k → k < l → l < 6 → (hdK S i k ≠ -1 → hdK S i k ≠ hdK S i l) ∧ (hdK S i k ≠ -1 → hdK S i l ≠ -1 → ltK S i k ≠ ltK S i l)) ∧
  (-1 ≤ mg S 17 i ∧ mg S 17 i < nO S ∧ (0 ≤ mg S 17 i → mg S 26 (mg S 17 i) = 1 ∧ mg S 27 (mg S 17 i) = i))
abbrev sdK (S : Sto) (o c : Int) : Int := mg S 31 (6 * o + c)
def ordI (n : Int) (S : Sto) (o : Int) : Prop := (0 ≤ mg S 24 o ∧ mg S 24 o < nD S) ∧ (1 ≤ mg S 25 o ∧ mg S 25 o ≤ 50) ∧ (0 ≤ mg S 26 o ∧ mg S 26 o ≤ 3) ∧ (-1 ≤ mg S 27 o ∧ mg S 27 o < nM S ∧ (0 ≤ mg S 27 o → mg S 17 (mg S 27 o) = o) ∧ (mg S 26 o = 1 ↔ 0 ≤ mg S 27 o)) ∧
  (0 ≤ mg S 28 o ∧ mg S 28 o ≤ mg S 25 o ∧ 0 ≤ mg S 29 o ∧ mg S 29 o < mnK S (mg S 24 o) ∧ (mg S 26 o = 1 → mg S 28 o < mg S 25 o) ∧ (mg S 26 o = 2 → mg S 28 o = mg S 25 o ∧ mg S 29 o = 0) ∧ (mg S 26 o ≠ 1 → mg S 26 o ≠ 2 → mg S 28 o = 0 ∧ mg S 29 o = 0)) ∧
  (0 ≤ mg S 30 o ∧ mg S 30 o ≤ 120000 * n) ∧ ∀ c, 0 ≤ c → c < 6 → -1 ≤ sdK S o c ∧ sdK S o c < 3 ∧ (mg S 26 o = 1 → 0 < cntC S (mg S 24 o) c (mnK S (mg S 24 o)).toNat → 0 ≤ sdK S o c)
def freeI (S : Sto) : Prop := (∀ d, nD S ≤ d → d < 6 → mnK S d = 0) ∧ (∀ i, nM S ≤ i → i < 4 → mg S 18 i = 0 ∧ mg S 19 i = 0 ∧ ∀ k, 0 ≤ k → k < 6 → ltK S i k = 0) ∧
  ∀ o, nO S ≤ o → o < 20 → mg S 26 o = 0 ∧ mg S 28 o = 0 ∧ mg S 29 o = 0 ∧ mg S 30 o = 0 ∧ ∀ c, 0 ≤ c → c < 6 → sdK S o c = -1
def MI (n : Int) (S : Sto) : Prop := MS S ∧ (0 ≤ n ∧ n ≤ 15000 ∧ 0 ≤ nD S ∧ nD S ≤ 6 ∧ 0 ≤ nM S ∧ nM S ≤ 4 ∧ 0 ≤ nO S ∧ nO S ≤ 20) ∧ draftI S ∧ (∀ d, 0 ≤ d → d < nD S → desI S d) ∧ (∀ i, 0 ≤ i → i < nM S → macI n S i) ∧ (∀ o, 0 ≤ o → o < nO S → ordI n S o) ∧ freeI S ∧ stkOK S
/-- a stitch's code gives its shape back -/
theorem stL_in {S : Sto} {k its : Int} (h : shOK S k) (h0 : 0 ≤ its) : ∀ v ∈ stL S k its, v / 256 = its ∧ 0 ≤ v % 16 ∧ v % 16 < 16 ∧ 0 ≤ v / 16 % 16 ∧ hasK S k (v % 16) (v / 16 % 16) := by
  have hrow : ∀ (row : Int) (n : Nat), 0 ≤ row → row < mg S 7 k → (n : Int) ≤ wideF (mg S 2 k) (mg S 6 k) row → ∀ v ∈ rowK S k its row n, v / 256 = its ∧ 0 ≤ v % 16 ∧ v % 16 < 16 ∧ 0 ≤ v / 16 % 16 ∧ hasK S k (v % 16) (v / 16 % 16) := by
    intro row n r0 r1
    induction n with
    | zero => intro _ v hv; cases hv
    | succ n ih =>
      intro hn v hv
      have h2 := h
      unfold shOK at h2
      have hw := wideF_r h row r0
      rcases List.mem_append.mp hv with q | q
      · exact ih (by omega) v q
      · have e := List.mem_singleton.mp q
        have hx : 0 ≤ (if row % 2 = 0 then (n : Int) else wideF (mg S 2 k) (mg S 6 k) row - 1 - n) ∧ (if row % 2 = 0 then (n : Int) else wideF (mg S 2 k) (mg S 6 k) row - 1 - n) < wideF (mg S 2 k) (mg S 6 k) row := by omega
        generalize (if row % 2 = 0 then (n : Int) else wideF (mg S 2 k) (mg S 6 k) row - 1 - n) = x at *
        have e1 : v / 256 = its := by omega
        have e2 : v % 16 = mg S 4 k + x := by omega
        have e3 : v / 16 % 16 = mg S 5 k + row := by omega
        refine ⟨e1, by omega, by omega, by omega, ?_⟩
        rw [e2, e3]
        unfold hasK hasP
        rw [show mg S 5 k + row - mg S 5 k = row by omega]
        omega
  have hrows : ∀ n : Nat, (n : Int) ≤ mg S 7 k → ∀ v ∈ rowsK S k its n, v / 256 = its ∧ 0 ≤ v % 16 ∧ v % 16 < 16 ∧ 0 ≤ v / 16 % 16 ∧ hasK S k (v % 16) (v / 16 % 16) := by
    intro n
    induction n with
    | zero => intro _ v hv; cases hv
    | succ n ih =>
      intro hn v hv
      rcases List.mem_append.mp hv with q | q
      · exact ih (by omega) v q
      · have hw := wideF_r h n (by omega)
        exact hrow n _ (by omega) (by omega) (by omega) v q
  have hedge : ∀ n : Nat, n ≤ 256 → ∀ v ∈ edgeK S k its n, v / 256 = its ∧ 0 ≤ v % 16 ∧ v % 16 < 16 ∧ 0 ≤ v / 16 % 16 ∧ hasK S k (v % 16) (v / 16 % 16) := by
    intro n
    induction n with
    | zero => intro _ v hv; cases hv
    | succ n ih =>
      intro hn v hv
      rcases List.mem_append.mp hv with q | q
      · exact ih (by omega) v q
      · by_cases he : edgP S k ((n : Int) % 16) ((n : Int) / 16)
        · rw [if_pos he] at q
          have e := List.mem_singleton.mp q
          have e1 : v / 256 = its := by omega
          have e2 : v % 16 = (n : Int) % 16 := by omega
          have e3 : v / 16 % 16 = (n : Int) / 16 := by omega
          refine ⟨e1, by omega, by omega, by omega, ?_⟩
          rw [e2, e3]
          exact he.1
        · rw [if_neg he] at q; cases q
  intro v hv
  have h2 := h
  unfold shOK at h2
  rcases List.mem_append.mp hv with q | q
  · exact hrows _ (by omega) v q
  · exact hedge 256 (by omega) v q
theorem gat_r {n : Nat} {col : Nat → Int} {nd : Nat → Nat} (hn : n ≤ 7) (hnd : needOK nd n) {p : Nat} (hp : p < n) : 0 ≤ gat n col nd p ∧ gat n col nd p < n := by
  obtain ⟨x, e, h1, -⟩ := gseq_step (col := col) hn hnd hp
  rw [e]; omega
theorem desI.seq {S : Sto} {d : Int} (h : desI S d) {p : Int} (p0 : 0 ≤ p) (p1 : p < shN S d) : 0 ≤ seqK S d p ∧ seqK S d p < shN S d := by
  obtain ⟨⟨-, -, n1, n7, -⟩, ⟨nd, h1, h2⟩, -, -⟩ := h
  have e := h2 p.toNat (by omega)
  have q := gat_r (col := colF S d) (n := (shN S d).toNat) (by omega) h1.ok (p := p.toNat) (by omega)
  rw [show ((p.toNat : Nat) : Int) = p by omega] at e
  rw [e]; omega
/-- what a stitch's code says -/
theorem desI.stl {S : Sto} {d : Int} (h : desI S d) : ∀ n : Nat, (n : Int) ≤ shN S d → (dstL S d n).length ≤ 320 * n ∧ ∀ v ∈ dstL S d n, ∃ p : Int, 0 ≤ p ∧ p < n ∧ v / 256 = seqK S d p ∧ 0 ≤ v % 16 ∧ v % 16 < 16 ∧ 0 ≤ v / 16 % 16 ∧ hasK S (7 * d + seqK S d p) (v % 16) (v / 16 % 16) := by
  intro n
  induction n with
  | zero => intro _; exact ⟨Nat.le_refl _, fun v hv => by cases hv⟩
  | succ n ih =>
    intro hn
    obtain ⟨h1, h2⟩ := ih (by omega)
    have hq := h.seq (p := n) (by omega) (by omega)
    have hs := h.1.2.2.2.2 _ hq.1 hq.2
    refine ⟨?_, fun v hv => ?_⟩
    · unfold dstL
      rw [List.length_append]
      have := stL_len (its := seqK S d n) hs
      omega
    · rcases List.mem_append.mp hv with q | q
      · obtain ⟨p, q0, q1, q2⟩ := h2 v q
        exact ⟨p, q0, by omega, q2⟩
      · exact ⟨n, by omega, by omega, stL_in hs hq.1 v q⟩
theorem desI.mn {S : Sto} {d : Int} (h : desI S d) : 1 ≤ mnK S d ∧ mnK S d ≤ 2240 := by
  have h1 := (h.stl (shN S d).toNat (by have := h.1.2.2.1; omega)).1
  have h2 := h.2.2.1
  have h3 : 1 ≤ shN S d ∧ shN S d ≤ 7 := ⟨h.1.2.2.1, h.1.2.2.2.1⟩
  refine ⟨?_, by omega⟩
  obtain ⟨n, hn⟩ : ∃ n : Nat, (shN S d).toNat = n + 1 := ⟨(shN S d).toNat - 1, by omega⟩
  rw [hn] at h2
  have hq := h.seq (p := 0) (by omega) (by omega)
  have hs := h.1.2.2.2.2 _ hq.1 hq.2
  have hpos : ∀ m : Nat, 1 ≤ (dstL S d (m + 1)).length := fun m => by
    induction m with
    | zero =>
      show 1 ≤ ([] ++ stL S (7 * d + seqK S d (0 : Nat)) (seqK S d (0 : Nat))).length
      rw [List.nil_append]
      show 1 ≤ (stL S (7 * d + seqK S d 0) (seqK S d 0)).length
      generalize seqK S d 0 = q at *
      unfold stL
      have hs2 := hs
      unfold shOK at hs2
      obtain ⟨g, hg⟩ : ∃ g : Nat, (mg S 7 (7 * d + q)).toNat = g + 1 := ⟨(mg S 7 (7 * d + q)).toNat - 1, by omega⟩
      rw [hg, List.length_append]
      show 1 ≤ (rowsK S (7 * d + q) q g ++ rowK S (7 * d + q) q g (wideF (mg S 2 (7 * d + q)) (mg S 6 (7 * d + q)) g).toNat).length + _
      rw [List.length_append, rowK_len]
      have := wideF_r hs g (by omega)
      omega
    | succ m ih => unfold dstL; rw [List.length_append]; omega
  have := hpos n
  omega
theorem desI.st {S : Sto} {d : Int} (h : desI S d) {j : Int} (j0 : 0 ≤ j) (j1 : j < mnK S d) : ∃ p : Int, 0 ≤ p ∧ p < shN S d ∧ stK S d j / 256 = seqK S d p ∧ 0 ≤ stK S d j % 16 ∧ stK S d j % 16 < 16 ∧ 0 ≤ stK S d j / 16 % 16 ∧ hasK S (7 * d + seqK S d p) (stK S d j % 16) (stK S d j / 16 % 16) := by
  have h3 : 1 ≤ shN S d ∧ shN S d ≤ 7 := ⟨h.1.2.2.1, h.1.2.2.2.1⟩
  have h2 := h.2.2.1
  have hj : j.toNat < (dstL S d (shN S d).toNat).length := by omega
  have e := h.2.2.2 j.toNat _ (List.getElem?_eq_getElem hj)
  rw [show ((j.toNat : Nat) : Int) = j by omega] at e
  obtain ⟨p, q0, q1, q2⟩ := (h.stl (shN S d).toNat (by omega)).2 _ (List.getElem_mem hj)
  rw [← e] at q2
  exact ⟨p, q0, by omega, q2⟩
theorem desI.stR {S : Sto} {d : Int} (h : desI S d) {j : Int} (j0 : 0 ≤ j) (j1 : j < mnK S d) : stOK S d j ∧ 0 ≤ clK S d j ∧ clK S d j < 6 ∧ 0 ≤ stK S d j / 256 ∧ stK S d j / 256 < shN S d := by
  obtain ⟨p, p0, p1, e, q0, q1, q2, -⟩ := h.st j0 j1
  have h1 := h.seq p0 p1
  have h2 := h.1.2.2.2.2 _ h1.1 h1.2
  have h3 := h.mn
  have h4 : 0 ≤ d ∧ d < 6 ∧ shN S d ≤ 7 := ⟨h.1.1, h.1.2.1, h.1.2.2.2.1⟩
  unfold shOK at h2
  unfold stOK
  have e2 : clK S d j = mg S 3 (7 * d + seqK S d p) := by show mg S 3 (7 * d + stK S d j / 256) = _; rw [e]
  rw [e2, e]
  omega
theorem desI.ds {S : Sto} {d : Int} (h : desI S d) : dsOK S d := by
  have h3 := h.mn
  exact ⟨h.1.1, h.1.2.1, by omega, h3.2, fun j j0 j1 => ⟨(h.stR j0 j1).1, (h.stR j0 j1).2.1, (h.stR j0 j1).2.2.1⟩⟩
theorem MI.or {n : Int} {S : Sto} (h : MI n S) {o : Int} (h0 : 0 ≤ o) (h1 : o < nO S) : orOK S o := by
  have h2 := h.2.2.2.2.2.1 o h0 h1
  have h3 := (h.2.2.2.1 (mg S 24 o) h2.1.1 h2.1.2).ds
  exact ⟨h0, by have := h.2.1; omega, h2.2.1.1, h2.2.1.2, h3⟩

