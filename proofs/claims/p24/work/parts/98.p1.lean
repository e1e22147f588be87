/-! THE PROPERTY: the reference's calls always come to an end -/
theorem ex_wipe (R : Sto) : ∃ k v R', wipeR R k v R' := ⟨0, _, _, rfl, rfl, rfl⟩
theorem ex_stock (R : Sto) (c s x : Int) : ∃ k v R', stockR R c s x k v R' := by
  unfold stockR
  generalize (if ¬ (0 ≤ c ∧ c < 6 ∧ 0 ≤ s ∧ s < 3) then (1 : Int) else if ¬ (1 ≤ x ∧ x ≤ 100000) then 2 else if mg R 22 (3 * c + s) + x > 1000000 then 3 else 0) = k
  by_cases e : k = 0
  · exact ⟨k, _, _, rfl, fun h => absurd e h, fun _ => ⟨rfl, rfl⟩⟩
  · exact ⟨k, 0, _, rfl, fun _ => rfl, fun h => absurd h e⟩
theorem ex_shape (R : Sto) (i c x y w g : Int) : ∃ k v R', shapeR R i c x y w g k v R' := by
  unfold shapeR
  generalize (if ¬ (0 ≤ i ∧ i ≤ 1 ∧ 0 ≤ c ∧ c < 6) then (1 : Int) else if ¬ (0 ≤ x ∧ x ≤ 15 ∧ 0 ≤ y ∧ y ≤ 15 ∧ 1 ≤ w ∧ w ≤ 16 - x ∧ 1 ≤ g ∧ g ≤ 16 - y) then 2 else if shN R 6 = 7 then 3 else 0) = k
  by_cases e : k = 0
  · exact ⟨k, _, _, rfl, fun h => absurd e h, fun _ => ⟨rfl, rfl⟩⟩
  · exact ⟨k, 0, _, rfl, fun _ => rfl, fun h => absurd h e⟩
theorem ex_machine (R : Sto) (a w g : Int) : ∃ k v R', machineR R a w g k v R' := by
  unfold machineR
  generalize (if ¬ (1 ≤ a ∧ a ≤ 6 ∧ 1 ≤ w ∧ w ≤ 16 ∧ 1 ≤ g ∧ g ≤ 16) then (1 : Int) else if nM R = 4 then 2 else 0) = k
  by_cases e : k = 0
  · exact ⟨k, _, _, rfl, fun h => absurd e h, fun _ => ⟨rfl, rfl⟩⟩
  · exact ⟨k, 0, _, rfl, fun _ => rfl, fun h => absurd h e⟩
theorem ex_order (R : Sto) (d p : Int) : ∃ k v R', orderR R d p k v R' := by
  unfold orderR
  generalize (if ¬ (0 ≤ d ∧ d < nD R) then (1 : Int) else if ¬ (1 ≤ p ∧ p ≤ 50) then 2 else if nO R = 20 then 3 else 0) = k
  by_cases e : k = 0
  · exact ⟨k, _, _, rfl, fun h => absurd e h, fun _ => ⟨rfl, rfl⟩⟩
  · exact ⟨k, 0, _, rfl, fun _ => rfl, fun h => absurd h e⟩
theorem ex_start (R : Sto) (o m : Int) : ∃ k R', startR R o m k R' := by
  unfold startR
  by_cases b : 0 ≤ o ∧ o < nO R ∧ 0 ≤ m ∧ m < nM R
  · by_cases c : canSt R o m
    · exact ⟨0, _, Or.inr (Or.inl ⟨b, c, rfl⟩), fun h => absurd rfl h, fun _ => rfl⟩
    · exact ⟨2, _, Or.inr (Or.inr ⟨b, c, rfl⟩), fun _ => rfl, fun h => by omega⟩
  · exact ⟨1, _, Or.inl ⟨b, rfl⟩, fun _ => rfl, fun h => by omega⟩
theorem ex_match (R : Sto) (o c s : Int) : ∃ k v R', matchR R o c s k v R' := by
  unfold matchR
  by_cases b : 0 ≤ o ∧ o < nO R ∧ 0 ≤ c ∧ c < 6 ∧ 0 ≤ s ∧ s < 3
  · by_cases e : canMa R o c s
    · by_cases w : sewnP R o c (mg R 29 o)
      · exact ⟨0, _, _, Or.inr (Or.inl ⟨b, e, rfl⟩), fun h => absurd rfl h, fun _ => Or.inr ⟨w, rfl, rfl⟩⟩
      · exact ⟨0, _, _, Or.inr (Or.inl ⟨b, e, rfl⟩), fun h => absurd rfl h, fun _ => Or.inl ⟨w, rfl, rfl⟩⟩
    · exact ⟨2, 0, _, Or.inr (Or.inr ⟨b, e, rfl⟩), fun _ => rfl, fun h => by omega⟩
  · exact ⟨1, 0, _, Or.inl ⟨b, rfl⟩, fun _ => rfl, fun h => by omega⟩
theorem ex_cancel (R : Sto) (o : Int) : ∃ k v R', cancelR R o k v R' := by
  unfold cancelR
  generalize (if ¬ (0 ≤ o ∧ o < nO R) then (1 : Int) else if mg R 26 o = 2 ∨ mg R 26 o = 3 then 2 else 0) = k
  by_cases e : k = 0
  · exact ⟨k, _, _, rfl, fun h => absurd e h, fun _ => ⟨_, rfl, rfl, rfl⟩⟩
  · exact ⟨k, 0, _, rfl, fun _ => rfl, fun h => absurd h e⟩
theorem ex_snap {n : Int} {R : Sto} (hI : MI n R) (m : Int) : ∃ k v R', snapR R m k v R' := by
  by_cases b : 0 ≤ m ∧ m < nM R
  · by_cases e : mg R 17 m = -1 ∨ mg R 29 (mg R 17 m) = 0
    · exact ⟨2, 0, _, by rw [if_neg (fun z => z b), if_pos e], fun _ => rfl, fun h => by omega⟩
    · have hm := hI.2.2.2.2.1 m b.1 b.2
      have hj := hm.2.2.2.2.2.2.2
      have hor := hI.2.2.2.2.2.1 (mg R 17 m) (by omega) hj.2.1
      obtain ⟨o, ho⟩ : ∃ o, o = mg R 17 m := ⟨_, rfl⟩
      rw [← ho] at hor hj e
      have o0 : 0 ≤ o := by omega
      have hp := hor.2.2.2.2.1
      obtain ⟨p, hp9⟩ : ∃ p, p = mg R 29 o := ⟨_, rfl⟩
      rw [← hp9] at hp e
      have p0 : 0 < p := by omega
      obtain ⟨its, hits⟩ : ∃ its : Int → Int, its = fun j => stK R (mg R 24 o) j / 256 := ⟨_, rfl⟩
      obtain ⟨t, t1, t2, t3⟩ := fst_ex (fun t : Nat => t = 4 ∨ (t : Int) = p - 1 ∨ its (p - (t : Int) - 2) ≠ its (p - 1)) 5 ⟨4, by omega, Or.inl rfl⟩
      have tp : (t : Int) ≤ p - 1 := by
        rcases (show (t : Int) ≤ p - 1 ∨ p - 1 < t by omega) with z | z
        · exact z
        · exfalso
          exact t3 (p - 1).toNat (by omega) (Or.inr (Or.inl (by omega)))
      have hall : ∀ j, p - ((t : Int) + 1) ≤ j → j < p → its j = its (p - 1) := fun j j0 j1 => by
        by_cases z : j = p - 1
        · rw [z]
        · have := t3 (p - j - 2).toNat (by omega)
          refine Classical.byContradiction fun w => this (Or.inr (Or.inr ?_))
          rw [Int.toNat_of_nonneg (by omega), show p - (p - j - 2) - 2 = j by omega]
          exact w
      have g29 : ∀ q, 0 ≤ q → mg (updI (updI (thr R 0) (mt 29) o.toNat (p - ((t : Int) + 1))) (mt 30) o.toNat (mg R 30 o + ((t : Int) + 1))) 29 q = if q = o then p - ((t : Int) + 1) else mg R 29 q := fun q q0 => by
        rw [mgU, if_neg (by omega), mgU]
        by_cases z : q = o
        · rw [if_pos ⟨rfl, by omega⟩, if_pos z]
        · rw [if_neg (by omega), if_neg z]; exact th_mg'
      have g30 : ∀ q, 0 ≤ q → mg (updI (updI (thr R 0) (mt 29) o.toNat (p - ((t : Int) + 1))) (mt 30) o.toNat (mg R 30 o + ((t : Int) + 1))) 30 q = if q = o then mg R 30 o + ((t : Int) + 1) else mg R 30 q := fun q q0 => by
        rw [mgU]
        by_cases z : q = o
        · rw [if_pos ⟨rfl, by omega⟩, if_pos z]
        · rw [if_neg (by omega), if_neg z, mgU, if_neg (by omega)]; exact th_mg'
      refine ⟨0, (t : Int) + 1, updI (updI (thr R 0) (mt 29) o.toNat (p - ((t : Int) + 1))) (mt 30) o.toNat (mg R 30 o + ((t : Int) + 1)), ?_, fun h => absurd rfl h, fun _ => ⟨o, ho, by omega, by omega, by omega, ?_, ?_, ?_, ?_, ?_, ?_⟩⟩
      · rw [if_neg (fun z => z b), ← ho, ← hp9, if_neg e]
      · intro j j0 j1
        rw [← hp9] at j0 j1 ⊢
        have := hall j j0 j1
        rw [hits] at this
        exact this
      · rw [← hp9]
        rcases t2 with z | z | z
        · left; omega
        · right; left; omega
        · right; right
          rw [hits] at z
          rw [show p - ((t : Int) + 1) - 1 = p - (t : Int) - 2 by omega]
          exact z
      · exact (agr.rf.upd (by simp)).upd (by simp)
      · rw [g29 o o0, if_pos rfl, ← hp9]
      · rw [g30 o o0, if_pos rfl]
      · intro q q0 q1
        rw [g29 q q0, if_neg q1, g30 q q0, if_neg q1]
        exact ⟨rfl, rfl⟩
  · exact ⟨1, 0, _, by rw [if_pos b], fun _ => rfl, fun h => by omega⟩
theorem ex_run {n : Int} {R : Sto} (hI : MI n R) (hn : n + 1 ≤ 15000) (m s : Int) : ∃ k v R', runR R m s k v R' := by
  by_cases b : 0 ≤ m ∧ m < nM R
  · by_cases c : 1 ≤ s ∧ s ≤ 100000
    · by_cases e : mg R 17 m = -1
      · exact ⟨3, 0, _, by rw [if_neg (fun z => z b), if_neg (fun z => z c), if_pos e], fun _ => rfl, fun h => by omega⟩
      · have hmm := hI.2.2.2.2.1 m b.1 b.2
        have key : ∀ N : Nat, (N : Int) ≤ s → ∃ (ch : Nat → Sto) (L : Nat), ch 0 = thr R 0 ∧ L ≤ N ∧ (∀ i : Nat, i < L → stepP (ch i) m (ch (i + 1))) ∧ (L = N ∨ mg (ch L) 17 m = -1 ∨ (0 ≤ jbO (ch L) m ∧ mg (ch L) 22 (jbT (ch L) m) = 0)) := by
          intro N
          induction N with
          | zero => intro _; exact ⟨fun _ => thr R 0, 0, rfl, Nat.le_refl _, fun i hi => absurd hi (Nat.not_lt_zero i), Or.inl rfl⟩
          | succ N ih =>
            intro hN
            obtain ⟨ch, L, c0, hL, hst, hend⟩ := ih (by omega)
            rcases hend with hend | hend
            · have hI0 : MI (n + 1) (ch 0) := by rw [c0]; exact (hI.up hn).th0
              have e19 : mg (ch 0) 19 m = mg R 19 m := by rw [c0]; exact th_mg'
              have e18 : mg (ch 0) 18 m = mg R 18 m := by rw [c0]; exact th_mg'
              have eM : nM (ch 0) = nM R := by rw [c0]; rfl
              obtain ⟨w1, w2, -, -⟩ := run_MI hI0 b.1 (by rw [eM]; exact b.2) (by rw [e19, e18]; exact ⟨hmm.2.2.2.2.1.2, hmm.2.2.2.1.2⟩) L (by omega) hst
              have hml := w1.2.2.2.2.1 m b.1 (by omega)
              by_cases z : mg (ch L) 17 m = -1
              · exact ⟨ch, L, c0, by omega, hst, Or.inr (Or.inl z)⟩
              · have j0 : 0 ≤ jbO (ch L) m := by have := hml.2.2.2.2.2.2.2.1; show 0 ≤ mg (ch L) 17 m; omega
                obtain ⟨a1, a2, a3, a4, a5, a6, a7, a8, a9, a10⟩ := w1.job b.1 (by omega) j0
                have ht := w1.2.2.2.2.2.2.2 (jbT (ch L) m) (by show 0 ≤ 3 * jbC (ch L) m + mg (ch L) 31 (6 * jbO (ch L) m + jbC (ch L) m); omega) (by show 3 * jbC (ch L) m + mg (ch L) 31 (6 * jbO (ch L) m + jbC (ch L) m) < 18; omega)
                by_cases y : mg (ch L) 22 (jbT (ch L) m) = 0
                · exact ⟨ch, L, c0, by omega, hst, Or.inr (Or.inr ⟨j0, y⟩)⟩
                · obtain ⟨R'', hR''⟩ := step_ex w1 b.1 (by omega) j0 (by omega)
                  refine ⟨fun i => if i ≤ L then ch i else R'', L + 1, by show (if 0 ≤ L then ch 0 else R'') = _; rw [if_pos (Nat.zero_le _)]; exact c0, by omega, fun i hi => ?_, Or.inl (by omega)⟩
                  show stepP (if i ≤ L then ch i else R'') m (if i + 1 ≤ L then ch (i + 1) else R'')
                  rw [if_pos (by omega)]
                  by_cases x : i + 1 ≤ L
                  · rw [if_pos x]; exact hst i (by omega)
                  · rw [if_neg x, show i = L by omega]; exact hR''
            · exact ⟨ch, L, c0, by omega, hst, Or.inr hend⟩
        obtain ⟨ch, L, c0, hL, hst, hend⟩ := key s.toNat (by omega)
        refine ⟨0, L, ch L, by rw [if_neg (fun z => z b), if_neg (fun z => z c), if_neg e], fun h => absurd rfl h, fun _ => ⟨ch, c0, by omega, by omega, by rw [Int.toNat_natCast], fun i hi => hst i (by omega), ?_⟩⟩
        rcases hend with z | z
        · left; omega
        · right; exact z
    · exact ⟨2, 0, _, by rw [if_neg (fun z => z b), if_pos c], fun _ => rfl, fun h => by omega⟩
  · exact ⟨1, 0, _, by rw [if_pos b], fun _ => rfl, fun h => by omega⟩
theorem bits_ex (Q : Nat → Prop) : ∀ n : Nat, n ≤ 7 → ∃ w : Nat, bitR w (fun i => i < n ∧ Q i)
  | 0, _ => ⟨0, by omega, fun i => by simp⟩
  | n + 1, h => by
    obtain ⟨w, hw⟩ := bits_ex Q n (by omega)
    by_cases e : Q n
    · exact ⟨_, hw.add (by omega) e⟩
    · exact ⟨_, hw.skip e⟩
theorem nd_ex (S : Sto) (d : Int) {n : Nat} (hn : n ≤ 7) : ∃ nd, ndP S d nd n := by
  have h : ∀ q : Nat, ∃ w : Nat, q < n → (w < 128 ∧ ∀ j : Nat, w.testBit j = true ↔ j < q ∧ metP S (7 * d + j) (7 * d + q)) := fun q => by
    by_cases e : q < n
    · obtain ⟨w, hw⟩ := bits_ex (fun j => metP S (7 * d + j) (7 * d + q)) q (by omega)
      exact ⟨w, fun _ => hw⟩
    · exact ⟨0, fun z => absurd z e⟩
  obtain ⟨f, hf⟩ := Classical.axiomOfChoice h
  exact ⟨f, fun q hq => hf q hq⟩
/-- a design's sequence and stitches are laid -/
def desT (X : Sto) (d : Int) (g : Nat → Int) (L : List Int) : Sto := (X.1, fun t j => if t = mt 9 ∧ (7 * d).toNat ≤ j ∧ j < (7 * d).toNat + 7 then g (j - (7 * d).toNat) else if t = mt 10 ∧ j = d.toNat then L.length else if t = mt 11 ∧ (2240 * d).toNat ≤ j ∧ j < (2240 * d).toNat + 2240 then (L[j - (2240 * d).toNat]?).getD 0 else X.2.1 t j, X.2.2)
theorem desT_ag {X : Sto} {d : Int} {g : Nat → Int} {L : List Int} : agr [9, 10, 11] X (desT X d g L) := ⟨rfl, rfl, fun t h => by
  have h9 := h 9 (by simp)
  have h10 := h 10 (by simp)
  have h11 := h 11 (by simp)
  funext j
  show (if t = mt 9 ∧ _ then _ else if t = mt 10 ∧ _ then _ else if t = mt 11 ∧ _ then _ else X.2.1 t j) = _
  rw [if_neg (fun z => h9 z.1), if_neg (fun z => h10 z.1), if_neg (fun z => h11 z.1)]⟩
theorem desT_L {X : Sto} {d : Int} {g : Nat → Int} {L L' : List Int} : agr [10, 11] (desT X d g L) (desT X d g L') := ⟨rfl, rfl, fun t h => by
  have h10 := h 10 (by simp)
  have h11 := h 11 (by simp)
  funext j
  show (if t = mt 9 ∧ (7 * d).toNat ≤ j ∧ j < (7 * d).toNat + 7 then g (j - (7 * d).toNat) else if t = mt 10 ∧ j = d.toNat then (L'.length : Int) else if t = mt 11 ∧ (2240 * d).toNat ≤ j ∧ j < (2240 * d).toNat + 2240 then (L'[j - (2240 * d).toNat]?).getD 0 else X.2.1 t j) = (if t = mt 9 ∧ (7 * d).toNat ≤ j ∧ j < (7 * d).toNat + 7 then g (j - (7 * d).toNat) else if t = mt 10 ∧ j = d.toNat then (L.length : Int) else if t = mt 11 ∧ (2240 * d).toNat ≤ j ∧ j < (2240 * d).toNat + 2240 then (L[j - (2240 * d).toNat]?).getD 0 else X.2.1 t j)
  rw [if_neg (fun z : t = mt 10 ∧ j = d.toNat => h10 z.1), if_neg (fun z : t = mt 10 ∧ j = d.toNat => h10 z.1), if_neg (fun z : t = mt 11 ∧ (2240 * d).toNat ≤ j ∧ j < (2240 * d).toNat + 2240 => h11 z.1), if_neg (fun z : t = mt 11 ∧ (2240 * d).toNat ≤ j ∧ j < (2240 * d).toNat + 2240 => h11 z.1)]⟩
theorem desT_9 {X : Sto} {d : Int} {g : Nat → Int} {L : List Int} (d0 : 0 ≤ d) {i : Int} (i0 : 0 ≤ i) : mg (desT X d g L) 9 i = if 7 * d ≤ i ∧ i < 7 * d + 7 then g (i - 7 * d).toNat else mg X 9 i := by
  show (if mt 9 = mt 9 ∧ (7 * d).toNat ≤ i.toNat ∧ i.toNat < (7 * d).toNat + 7 then g (i.toNat - (7 * d).toNat) else if mt 9 = mt 10 ∧ _ then _ else if mt 9 = mt 11 ∧ _ then _ else X.2.1 (mt 9) i.toNat) = _
  by_cases e : 7 * d ≤ i ∧ i < 7 * d + 7
  · rw [if_pos ⟨rfl, by omega, by omega⟩, if_pos e, show i.toNat - (7 * d).toNat = (i - 7 * d).toNat by omega]
  · rw [if_neg (fun z => e (by omega)), if_neg e, if_neg (fun z => absurd (mt_inj z.1) (by omega)), if_neg (fun z => absurd (mt_inj z.1) (by omega))]
theorem desT_10 {X : Sto} {d : Int} {g : Nat → Int} {L : List Int} (d0 : 0 ≤ d) {i : Int} (i0 : 0 ≤ i) : mg (desT X d g L) 10 i = if i = d then (L.length : Int) else mg X 10 i := by
  show (if mt 10 = mt 9 ∧ (7 * d).toNat ≤ i.toNat ∧ i.toNat < (7 * d).toNat + 7 then g (i.toNat - (7 * d).toNat) else if mt 10 = mt 10 ∧ i.toNat = d.toNat then (L.length : Int) else if mt 10 = mt 11 ∧ (2240 * d).toNat ≤ i.toNat ∧ i.toNat < (2240 * d).toNat + 2240 then (L[i.toNat - (2240 * d).toNat]?).getD 0 else X.2.1 (mt 10) i.toNat) = _
  rw [if_neg (fun z => absurd (mt_inj z.1) (by omega))]
  by_cases e : i = d
  · rw [if_pos ⟨rfl, by rw [e]⟩, if_pos e]
  · rw [if_neg (fun z => e (by omega)), if_neg e, if_neg (fun z => absurd (mt_inj z.1) (by omega))]
theorem desT_11 {X : Sto} {d : Int} {g : Nat → Int} {L : List Int} (d0 : 0 ≤ d) {i : Int} (i0 : 0 ≤ i) : mg (desT X d g L) 11 i = if 2240 * d ≤ i ∧ i < 2240 * d + 2240 then (L[(i - 2240 * d).toNat]?).getD 0 else mg X 11 i := by
  show (if mt 11 = mt 9 ∧ (7 * d).toNat ≤ i.toNat ∧ i.toNat < (7 * d).toNat + 7 then g (i.toNat - (7 * d).toNat) else if mt 11 = mt 10 ∧ i.toNat = d.toNat then (L.length : Int) else if mt 11 = mt 11 ∧ (2240 * d).toNat ≤ i.toNat ∧ i.toNat < (2240 * d).toNat + 2240 then (L[i.toNat - (2240 * d).toNat]?).getD 0 else X.2.1 (mt 11) i.toNat) = _
  rw [if_neg (fun z => absurd (mt_inj z.1) (by omega)), if_neg (fun z => absurd (mt_inj z.1) (by omega))]
  by_cases e : 2240 * d ≤ i ∧ i < 2240 * d + 2240
  · rw [if_pos ⟨rfl, by omega, by omega⟩, if_pos e, show i.toNat - (2240 * d).toNat = (i - 2240 * d).toNat by omega]
  · rw [if_neg (fun z => e (by omega)), if_neg e]
theorem ex_design {n : Int} {R : Sto} (hI : MI n R) : ∃ k v R', designR R k v R' := by
  by_cases e : shN R 6 = 0 ∨ nD R = 6
  · exact ⟨1, 0, _, by rw [if_pos e], fun _ => rfl, fun h => by omega⟩
  · have hN := hI.2.1
    obtain ⟨s0, s7, hdr⟩ := hI.2.2.1
    obtain ⟨d, hd⟩ : ∃ d, d = nD R := ⟨_, rfl⟩
    obtain ⟨q, hq⟩ : ∃ q : Nat, (q : Int) = shN R 6 := ⟨(shN R 6).toNat, Int.toNat_of_nonneg s0⟩
    obtain ⟨x1, x2, x3, x4, x5, x6⟩ := desX_sh (S := R) (d := d) (n := q) (by omega) (by omega) (by omega) (by omega) (fun k k0 k1 => hdr k k0 (by omega))
    obtain ⟨X, hX⟩ : ∃ X, X = desX R d q := ⟨_, rfl⟩
    rw [← hX] at x1 x2 x3 x4 x5 x6
    have d0 : 0 ≤ d := by omega
    obtain ⟨nd, hnd⟩ := nd_ex X d (n := q) (by omega)
    obtain ⟨g, hg⟩ : ∃ g : Nat → Int, g = fun p => gat q (colF X d) nd p := ⟨_, rfl⟩
    obtain ⟨L, hL⟩ : ∃ L, L = dstL (desT X d g []) d q := ⟨_, rfl⟩
    obtain ⟨T, hT⟩ : ∃ T, T = desT X d g L := ⟨_, rfl⟩
    have hag : agr [9, 10, 11] X T := by rw [hT]; exact desT_ag
    have hk : ∀ k, 2 ≤ k → k ≤ 7 → k ∉ [9, 10, 11] := fun k k2 k7 => by simp; omega
    have hdL : dstL T d q = L := by
      rw [hT, hL]
      exact desT_L.eDst (fun k k2 k7 => by simp; omega) (by simp) q
    have hcol : colF T d = colF X d := hag.eCol (by simp)
    have hndT : ndP T d nd q := (hag.eNd hk).mpr hnd
    have hdsh : dshOK T d := (hag.eDsh hk (by simp)).mpr x2
    have hsh : shN T d = q := (hag.mg (k := 1) (by simp)).trans x3
    have hsq : ∀ p : Nat, p < q → seqK T d p = gat q (colF T d) nd p := fun p hp => by
      show mg T 9 (7 * d + p) = _
      have e : mg T 9 (7 * d + p) = g p := by rw [hT, desT_9 d0 (by omega), if_pos (by omega), show (7 * d + (p : Int) - 7 * d).toNat = p by omega]
      rw [e, hcol, hg]
    have hlen : L.length ≤ 2240 := by
      rw [← hdL]
      refine Nat.le_trans (dstL_len q fun p hp => ?_) (by omega)
      have hr := gat_r (col := colF T d) (n := q) (by omega) hndT.ok hp
      rw [hsq p hp]
      exact hdsh.2.2.2.2 _ hr.1 (by rw [hsh]; exact hr.2)
    have hdes : desI T d := by
      refine ⟨hdsh, ⟨nd, by rw [hsh, Int.toNat_natCast]; exact hndT, fun p hp => ?_⟩, ?_, fun j v hj => ?_⟩
      · rw [hsh, Int.toNat_natCast] at hp ⊢
        exact hsq p hp
      · rw [hsh, Int.toNat_natCast, hdL]
        show mg T 10 d = _
        rw [hT, desT_10 d0 d0, if_pos rfl]
      · rw [hsh, Int.toNat_natCast, hdL] at hj
        have hjl : j < L.length := by
          rcases Nat.lt_or_ge j L.length with z | z
          · exact z
          · rw [List.getElem?_eq_none z] at hj; cases hj
        show mg T 11 (2240 * d + j) = v
        rw [hT, desT_11 d0 (by omega), if_pos (by omega), show (2240 * d + (j : Int) - 2240 * d).toNat = j by omega, hj]
        rfl
    refine ⟨0, nD R, updI T 2 8 (nD R + 1), by rw [if_neg e], fun h => absurd rfl h, fun _ => ⟨rfl, T, (x1.sub (by simp)).trans (hag.sub (by simp)), rfl, fun a i a2 a7 i0 => ?_, ?_, ?_, fun i i0 i6 i1 => ?_, fun i i0 i1 => ?_, fun i i0 i1 => ?_, fun i i0 i1 => ?_, by rw [← hd]; exact hdes⟩⟩
    · rw [hag.mg (hk a a2 a7), x6 a i a2 a7 i0, hd, hq]
    · rw [← hd, hsh, hq]
    · exact (hag.mg (k := 1) (by simp)).trans x4
    · exact (hag.mg (k := 1) (by simp)).trans (x5 i i0 i6 (by omega))
    · rw [hT, desT_9 d0 i0, if_neg (by omega)]
      exact (x1.mg (by simp)).trans th_mg'
    · rw [hT, desT_10 d0 i0, if_neg (by omega)]
      exact (x1.mg (by simp)).trans th_mg'
    · rw [hT, desT_11 d0 i0, if_neg (by omega)]
      exact (x1.mg (by simp)).trans th_mg'

