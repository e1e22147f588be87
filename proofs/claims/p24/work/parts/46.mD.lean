/-- S' is S but for the reference's arrays ks -/
def agr (ks : List Nat) (S S' : Sto) : Prop := S'.1 = S.1 ∧ S'.2.2 = S.2.2 ∧ ∀ t, (∀ k ∈ ks, t ≠ mt k) → S'.2.1 t = S.2.1 t
theorem agr.rf {ks : List Nat} {S : Sto} : agr ks S S := ⟨rfl, rfl, fun _ _ => rfl⟩
theorem agr.trans {ks : List Nat} {S S1 S2 : Sto} (h : agr ks S S1) (h2 : agr ks S1 S2) : agr ks S S2 :=
  ⟨h2.1.trans h.1, h2.2.1.trans h.2.1, fun t q => (h2.2.2 t q).trans (h.2.2 t q)⟩
theorem agr.sub {ks ks' : List Nat} {S S' : Sto} (h : agr ks S S') (hs : ∀ k ∈ ks, k ∈ ks') : agr ks' S S' := ⟨h.1, h.2.1, fun t q => h.2.2 t fun k hk => q k (hs k hk)⟩
theorem mt_inj {a b : Nat} (h : mt a = mt b) : a = b := by unfold mt at h; omega
theorem agr.ms {ks : List Nat} {S S' : Sto} (h : agr ks S S') (hM : MS S) : MS S' := by
  obtain ⟨h1, h2, h3⟩ := hM
  exact ⟨by rw [h.1]; exact h1, by rw [h.2.1]; exact h2, fun k a b => by rw [h.1]; exact h3 k a b⟩
theorem agr.mg {ks : List Nat} {S S' : Sto} (h : agr ks S S') {k : Nat} {i : Int} (h1 : k ∉ ks) : mg S' k i = mg S k i := by
  show S'.2.1 (mt k) _ = S.2.1 (mt k) _
  rw [h.2.2 (mt k) (fun q hq e => h1 (by rw [mt_inj e]; exact hq))]
theorem agr.mf {ks : List Nat} {S S' : Sto} (h : agr ks S S') {k : Nat} : mf S' k = mf S k := by
  show S'.2.1 2 _ = S.2.1 2 _
  rw [h.2.2 2 (fun q hq e => by unfold mt at e; omega)]
theorem agr.upd {ks : List Nat} {S S' : Sto} (h : agr ks S S') {k j : Nat} {v : Int} (hk : k ∈ ks) : agr ks S (updI S' (mt k) j v) :=
  ⟨h.1, h.2.1, fun t a => by
    funext q
    show (if t = mt k ∧ q = j then v else S'.2.1 t q) = _
    rw [if_neg (by rintro ⟨e, -⟩; exact a k hk e), h.2.2 t a]⟩
theorem rsS.agr {S S' : Sto} (h : rsS S S') : agr [12, 32] S S' := ⟨h.1, h.2.1, fun t q => h.2.2 t (q 12 (by simp)) (q 32 (by simp))⟩
theorem agr.sh {ks : List Nat} {S S' : Sto} (h : agr ks S S') (hk : ∀ k, 2 ≤ k → k ≤ 7 → k ∉ ks) {k : Int} : shOK S' k ↔ shOK S k := by
  unfold shOK
  simp only [h.mg (k := 2) (hk 2 (by omega) (by omega)), h.mg (k := 3) (hk 3 (by omega) (by omega)), h.mg (k := 4) (hk 4 (by omega) (by omega)), h.mg (k := 5) (hk 5 (by omega) (by omega)), h.mg (k := 6) (hk 6 (by omega) (by omega)), h.mg (k := 7) (hk 7 (by omega) (by omega))]
theorem agr.met {ks : List Nat} {S S' : Sto} (h : agr ks S S') (hk : ∀ k, 2 ≤ k → k ≤ 7 → k ∉ ks) {a b : Int} : metP S' a b ↔ metP S a b := by
  unfold metP hasK
  simp only [h.mg (k := 2) (hk 2 (by omega) (by omega)), h.mg (k := 4) (hk 4 (by omega) (by omega)), h.mg (k := 5) (hk 5 (by omega) (by omega)), h.mg (k := 6) (hk 6 (by omega) (by omega)), h.mg (k := 7) (hk 7 (by omega) (by omega))]
/-- how many of the first n are in a set -/
def bc : Nat → Nat → Nat
  | 0, _ => 0
  | k + 1, s => bc k s + if s.testBit k then 1 else 0
theorem bc_or {n s x : Nat} (hx : s.testBit x = false) : bc n (s ||| 2 ^ x) = bc n s + if x < n then 1 else 0 := by
  induction n with
  | zero => rfl
  | succ n ih =>
    unfold bc
    rw [ih, Nat.testBit_or, Nat.testBit_two_pow]
    by_cases e : x = n
    · subst e
      simp [hx]
    · have h1 : decide (x = n) = false := decide_eq_false e
      rw [h1, Bool.or_false]
      by_cases q : x < n
      · rw [if_pos q, if_pos (show x < n + 1 by omega)]; omega
      · rw [if_neg q, if_neg (show ¬ x < n + 1 by omega)]; omega
theorem bc_full : ∀ (n m : Nat), n ≤ m → bc n (2 ^ m - 1) = n
  | 0, _, _ => rfl
  | n + 1, m, h => by
    unfold bc
    rw [bc_full n m (by omega), Nat.testBit_two_pow_sub_one, decide_eq_true (show n < m by omega)]
    rfl
theorem bc_0 : ∀ n, bc n 0 = 0
  | 0 => rfl
  | n + 1 => by unfold bc; rw [bc_0 n]; simp
/-- what the next shape is weighed by -/
def pkG (n : Nat) (col : Nat → Int) (nd : Nat → Nat) (s : Nat) (l : Int) : Nat → Int := fun x => if canB nd n s x then dpV n col nd (s ||| 2 ^ x) x + (if l = -1 then 0 else chg col l.toNat x) else 1000
def pick (n : Nat) (col : Nat → Int) (nd : Nat → Nat) (s : Nat) (l : Int) : Int := argTo (pkG n col nd s l) 1000 n
/-- set and latest shape behind p steps -/
def gseq (n : Nat) (col : Nat → Int) (nd : Nat → Nat) : Nat → Nat × Int
  | 0 => (0, -1)
  | p + 1 => ((gseq n col nd p).1 ||| 2 ^ (pick n col nd (gseq n col nd p).1 (gseq n col nd p).2).toNat, pick n col nd (gseq n col nd p).1 (gseq n col nd p).2)
/-- the shape at a place -/
def gat (n : Nat) (col : Nat → Int) (nd : Nat → Nat) (p : Nat) : Int := (gseq n col nd (p + 1)).2
theorem pkG_0 {n : Nat} {col : Nat → Int} {nd : Nat → Nat} (hn : n ≤ 7) (hnd : needOK nd n) {s : Nat} {l : Int} (hs : s < 2 ^ n) (x : Nat) : 0 ≤ pkG n col nd s l x ∧ (canB nd n s x = true → pkG n col nd s l x ≤ 129) := by
  unfold pkG
  split
  · rename_i hc
    obtain ⟨q1, q2, -⟩ := canB_e.mp hc
    have h1 := dpV_range (col := col) hn hnd (2 ^ n) (s ||| 2 ^ x) x (or_lt hs q1) (by omega)
    have : 0 ≤ (if l = -1 then 0 else chg col l.toNat x) ∧ (if l = -1 then 0 else chg col l.toNat x) ≤ 1 := by unfold chg; split <;> (try split) <;> omega
    exact ⟨by omega, fun _ => by omega⟩
  · exact ⟨by omega, fun q => absurd q ‹_›⟩
theorem pick_ok {n : Nat} {col : Nat → Int} {nd : Nat → Nat} (hn : n ≤ 7) (hnd : needOK nd n) {s : Nat} {l : Int} (hs : s < 2 ^ n) (hne : s ≠ 2 ^ n - 1) :
    ∃ x : Nat, pick n col nd s l = x ∧ canB nd n s x = true ∧ minTo (pkG n col nd s l) 1000 n = pkG n col nd s l x := by
  obtain ⟨y, hy⟩ := cand_ex hnd hs hne
  have hyn := (canB_e.mp hy).1
  have h1 := ((minTo_le (g := pkG n col nd s l) (b := 1000) n).2 y hyn)
  have h2 := (pkG_0 (col := col) (l := l) hn hnd hs y).2 hy
  rcases argTo_ok (g := pkG n col nd s l) (b := 1000) n with ⟨q1, q2⟩ | ⟨x, q1, q2, q3, q4⟩
  · omega
  · refine ⟨x, q2, ?_, q3⟩
    cases hc : canB nd n s x with
    | true => rfl
    | false => unfold pkG at q4; rw [hc] at q4; simp at q4
theorem gseq_ok {n : Nat} {col : Nat → Int} {nd : Nat → Nat} (hn : n ≤ 7) (hnd : needOK nd n) : ∀ p, p ≤ n → (gseq n col nd p).1 < 2 ^ n ∧ bc n (gseq n col nd p).1 = p ∧ (p = 0 → (gseq n col nd p).2 = -1) ∧ (0 < p → 0 ≤ (gseq n col nd p).2 ∧ (gseq n col nd p).2 < n)
  | 0, _ => ⟨Nat.two_pow_pos n, bc_0 n, fun _ => rfl, fun h => absurd h (by omega)⟩
  | p + 1, hp => by
    obtain ⟨h1, h2, -, -⟩ := gseq_ok (col := col) hn hnd p (by omega)
    have hne : (gseq n col nd p).1 ≠ 2 ^ n - 1 := fun e => by
      rw [e, bc_full n n (Nat.le_refl n)] at h2; omega
    obtain ⟨x, e1, e2, -⟩ := pick_ok (col := col) (l := (gseq n col nd p).2) hn hnd h1 hne
    obtain ⟨q1, q2, -⟩ := canB_e.mp e2
    have e3 : gseq n col nd (p + 1) = ((gseq n col nd p).1 ||| 2 ^ x, (x : Int)) := by
      show ((gseq n col nd p).1 ||| 2 ^ (pick n col nd (gseq n col nd p).1 (gseq n col nd p).2).toNat, pick n col nd (gseq n col nd p).1 (gseq n col nd p).2) = _
      rw [e1]; rfl
    rw [e3]
    refine ⟨or_lt h1 q1, ?_, fun h => absurd h (by omega), fun _ => ⟨by show (0 : Int) ≤ x; omega, by show (x : Int) < n; omega⟩⟩
    show bc n ((gseq n col nd p).1 ||| 2 ^ x) = p + 1
    rw [bc_or q2, if_pos q1, h2]
theorem gseq_step {n : Nat} {col : Nat → Int} {nd : Nat → Nat} (hn : n ≤ 7) (hnd : needOK nd n) {p : Nat} (hp : p < n) : ∃ x : Nat, gat n col nd p = x ∧ x < n ∧ (gseq n col nd p).1.testBit x = false ∧ gseq n col nd (p + 1) = ((gseq n col nd p).1 ||| 2 ^ x, (x : Int)) ∧ canB nd n (gseq n col nd p).1 x = true ∧ pick n col nd (gseq n col nd p).1 (gseq n col nd p).2 = x ∧ minTo (pkG n col nd (gseq n col nd p).1 (gseq n col nd p).2) 1000 n = pkG n col nd (gseq n col nd p).1 (gseq n col nd p).2 x := by
  obtain ⟨h1, h2, -, -⟩ := gseq_ok (col := col) hn hnd p (by omega)
  have hne : (gseq n col nd p).1 ≠ 2 ^ n - 1 := fun e => by
    rw [e, bc_full n n (Nat.le_refl n)] at h2; omega
  obtain ⟨x, e1, e2, e4⟩ := pick_ok (col := col) (l := (gseq n col nd p).2) hn hnd h1 hne
  obtain ⟨q1, q2, -⟩ := canB_e.mp e2
  have e3 : gseq n col nd (p + 1) = ((gseq n col nd p).1 ||| 2 ^ x, (x : Int)) := by
    show ((gseq n col nd p).1 ||| 2 ^ (pick n col nd (gseq n col nd p).1 (gseq n col nd p).2).toNat, pick n col nd (gseq n col nd p).1 (gseq n col nd p).2) = _
    rw [e1]; rfl
  exact ⟨x, by unfold gat; rw [e3], q1, q2, e3, e2, e1, e4⟩
/-- S' is S but for rest, needs and the design's places in sequence -/
def sqS (S S' : Sto) (d : Int) : Prop := agr [12, 32, 9] S S' ∧ ∀ i : Int, 0 ≤ i → (i < 7 * d ∨ 7 * d + 7 ≤ i) → mg S' 9 i = mg S 9 i
theorem sqS.upd {S S' : Sto} {d : Int} (h : sqS S S' d) (d0 : 0 ≤ d) {p v : Int} (p0 : 0 ≤ p) (p1 : p < 7) : sqS S (updI S' (mt 9) (7 * d + p).toNat v) d :=
  ⟨h.1.upd (by simp), fun i i0 hi => by
    show (if mt 9 = mt 9 ∧ i.toNat = (7 * d + p).toNat then v else S'.2.1 (mt 9) i.toNat) = _
    rw [if_neg (by rintro ⟨-, e⟩; omega)]
    exact h.2 i i0 hi⟩
def s_laysSequence : Spec := fun as S post => match as with
  | [.inr (.inr (some 2)), .inl d] => MS S ∧ dshOK S d ∧ ∀ (S' : Sto) (nd : Nat → Nat), sqS S S' d → ndP S d nd (shN S d).toNat → (∀ p : Nat, p < (shN S d).toNat → mg S' 9 (7 * d + p) = gat (shN S d).toNat (colF S d) nd p) → post (.inl none) S'
  | _ => False
