def offP (a b : Int) : Prop := a - b > 1 ∨ b - a > 1
/-- from the stitch ahead of it to the stitch j there is a jump; one that is hidden, or not -/
def jmpP (S : Sto) (d hid j : Int) : Prop := clK S d j = clK S d (j - 1) ∧ (offP (stK S d j % 16) (stK S d (j - 1) % 16) ∨ offP (stK S d j / 16 % 16) (stK S d (j - 1) / 16 % 16)) ∧
  (covN S d (stK S d j / 256) ((stK S d j % 16 + stK S d (j - 1) % 16) / 2) ((stK S d j / 16 % 16 + stK S d (j - 1) / 16 % 16) / 2) (shN S d) ↔ hid = 1)
noncomputable def jmpI (S : Sto) (d hid j : Int) : Int := @ite _ (jmpP S d hid j) (Classical.propDecidable _) 1 0
noncomputable def jmpN (S : Sto) (d hid : Int) (n : Nat) : Int := sumTo (fun j => jmpI S d hid ((j : Int) + 1)) (n - 1)
theorem jmpI_0 {S : Sto} {d hid j : Int} : 0 ≤ jmpI S d hid j ∧ jmpI S d hid j ≤ 1 := by
  unfold jmpI
  split <;> omega
theorem jmpN_0 {S : Sto} {d hid : Int} (n : Nat) : 0 ≤ jmpN S d hid n ∧ jmpN S d hid n ≤ n :=
  ⟨sumTo_0n (fun j => jmpI_0.1) _, by
    have := sumTo_le (f := fun j : Nat => jmpI S d hid ((j : Int) + 1)) (fun j => jmpI_0.2) (n - 1)
    unfold jmpN
    omega⟩
def jumpsR (S : Sto) (d hid k v : Int) (S' : Sto) : Prop := k = (if 0 ≤ d ∧ d < nD S then 0 else 1) ∧ S' = thr S k ∧ (k = 0 → v = jmpN S d hid (mnK S d).toNat)
theorem isB_hid {r hid : Int} {P : Prop} (h : isB r P) (hh : hid = 0 ∨ hid = 1) : r = hid ↔ (P ↔ hid = 1) := by
  rcases h with ⟨a, b⟩ | ⟨a, b⟩
  · constructor
    · intro e; exact ⟨fun _ => by omega, fun _ => a⟩
    · intro e; have := e.mp a; omega
  · constructor
    · intro e; exact ⟨fun q => absurd q a, fun q => by omega⟩
    · intro e
      rcases hh with q | q
      · omega
      · exact absurd (e.mpr q) a
theorem covN_t {S : Sto} {d i x y n : Int} : covN (thr S 0) d i x y n ↔ covN S d i x y n := Iff.rfl
def s_jumps : Spec := fun as S post => match as with
  | [.inr (.inr (some 2)), .inl d, .inl hid] => (∃ n, MI n S) ∧ (InR d ∧ (hid = 0 ∨ hid = 1)) ∧ ∀ k v S', jumpsR S d hid k v S' → post (.inl (some (vI v))) S'
  | _ => False
def spX7_jumps : Nat → CD := spF mdX7_jumps fun i => match i with
  | 1 => (s_isNum_8, 0, 0, 2)
  | 2 => (s_holds, 0, 0, 1)
  | 3 => (s_colourAt, 0, 0, 1)
  | 4 => (s_isOff, 0, 0, 1)
  | 5 => (s_isCovered, 0, 0, 3)
  | _ => noR
set_option maxHeartbeats 4000000 in
set_option maxRecDepth 100000 in
theorem sat_X7_jumps : Sat mX7_jumps s_jumps 0 0 4 := by
  refine sat_of (E := eX7_jumps) (sp := spX7_jumps) (ini := false) (by decide +kernel) (fun h => by cases h) okX7_jumps (fun i => match i with
    | 1 => ⟨sat_X7_isDesign, Nat.le_of_ble_eq_true rfl⟩
    | 2 => ⟨sat_X7_holds, Nat.le_of_ble_eq_true rfl⟩
    | 3 => ⟨sat_X7_colourAt, Nat.le_of_ble_eq_true rfl⟩
    | 4 => ⟨sat_X7_isOff, Nat.le_of_ble_eq_true rfl⟩
    | 5 => ⟨sat_X7_isCovered, Nat.le_of_ble_eq_true rfl⟩
    | i + 6 => ⟨sat_no _, Nat.le_of_ble_eq_true rfl⟩
    | 0 => ⟨sat_no _, Nat.le_of_ble_eq_true rfl⟩) ?_
  intro as S post h
  match as, h with
  | [.inr (.inr (some 2)), .inl d, .inl hid], h =>
    obtain ⟨⟨n9, hI⟩, ⟨hin, hh⟩, h⟩ := h
    have hI2 := hI
    obtain ⟨hM, hN, hdr, -, -, -, -, hstk⟩ := hI2
    have hr := hM.2.1
    unfold jumpsR at h
    unfold nD nM nO at hN
    unfold nD at h
    have hde : 0 ≤ d → d < mf S 8 → desI S d := fun h0 h1 => hI.2.2.2.1 d h0 h1
    refine bodyL [(27, fun ms L st S' c => ∃ (j : Nat) (x5 x6 x7 x8 x9 : AV), L = [vT 2, vI d, vI hid, vI (jmpN S d hid (j + 1)), vI ((j : Int) + 1), x5, x6, x7, x8, x9] ∧ st = [] ∧ c = (0, 0) ∧ ms = 2240 - j ∧ 0 ≤ d ∧ d < mf S 8 ∧ (j : Int) + 1 ≤ mnK S d ∧ S' = thr S 0)] 3000 300 rfl
      (List.forall_mem_cons.mpr ⟨?_, fun q hq => by cases hq⟩) ?_
    · rintro ms L st S' c ⟨j, x5, x6, x7, x8, x9, rfl, rfl, rfl, rfl, d0, d1, hj, hS⟩
      have e9 : ∀ j i, S'.2.1 (mt j) i = S.2.1 (mt j) i := fun j i => by rw [hS]; exact u2
      have hM : MS S' := by rw [hS]; exact hM
      have hr := hM.2.1
      have hb := jmpN_0 (S := S) (d := d) (hid := hid) (j + 1)
      have hde := hde d0 d1
      have hmn := hde.mn
      have hsq : sqOK S' d := by
        rw [hS]
        exact ⟨hde.1.1, hde.1.2.1, hde.1.2.2.1, hde.1.2.2.2.1, fun p p0 p1 => ⟨(hde.seq p0 p1).1, by have := (hde.seq p0 p1).2; have := hde.1.2.2.2.1; show seqK S d p < 7; omega, hde.1.2.2.2.2 _ (hde.seq p0 p1).1 (hde.seq p0 p1).2⟩⟩
      have hs1 := hde.stR (j := (j : Int)) (by omega) (by omega)
      have hs2 : (j : Int) + 1 < mnK S d → _ := fun q => hde.stR (j := (j : Int) + 1) (by omega) q
      have hs4 : ∀ q, stOK S' d q ↔ stOK S d q := fun q => by rw [hS]; exact Iff.rfl
      have hc4 : ∀ q, clK S' d q = clK S d q := fun q => by rw [hS]; rfl
      have ho1 : stOK S' d j := (hs4 _).mpr hs1.1
      have ho2 : (j : Int) + 1 < mnK S d → stOK S' d ((j : Int) + 1) := fun q => (hs4 _).mpr (hs2 q).1
      have ei : 2240 * d + ((j : Int) + 1) - 1 = 2240 * d + j := by omega
      have ej : (j : Int) + 1 - 1 = j := by omega
      have es : jmpN S d hid (j + 1 + 1) = jmpN S d hid (j + 1) + jmpI S d hid ((j : Int) + 1) := rfl
      unfold stOK at hs1 hs2
      have hcv : ∀ i x y n, covN S' d i x y n ↔ covN S d i x y n := fun i x y n => by rw [hS]; exact Iff.rfl
      have n1 : shN S d ≤ 7 := hde.1.2.2.2.1
      have hJ : ∀ {u : Unit}, jmpP S d hid ((j : Int) + 1) ↔ clK S d ((j : Int) + 1) = clK S d j ∧ (offP (stK S d ((j : Int) + 1) % 16) (stK S d j % 16) ∨ offP (stK S d ((j : Int) + 1) / 16 % 16) (stK S d j / 16 % 16)) ∧ (covN S d (stK S d ((j : Int) + 1) / 256) ((stK S d ((j : Int) + 1) % 16 + stK S d j % 16) / 2) ((stK S d ((j : Int) + 1) / 16 % 16 + stK S d j / 16 % 16) / 2) (shN S d) ↔ hid = 1) := fun {u} => by unfold jmpP; rw [ej]
      have hJ := fun u : Unit => hJ (u := u)
      have fin : ∀ {y5 y6 y7 y8 y9 : AV} (v : Int), (j : Int) + 1 < S.2.1 (mt 10) d.toNat → v = jmpI S d hid ((j : Int) + 1) → ∃ m, m < 2240 - j ∧ ∃ (j2 : Nat) (z5 z6 z7 z8 z9 : AV), [vT 2, vI d, vI hid, vI (jmpN S d hid (j + 1) + v), vI ((j : Int) + 1 + 1), y5, y6, y7, y8, y9] = [vT 2, vI d, vI hid, vI (jmpN S d hid (j2 + 1)), vI ((j2 : Int) + 1), z5, z6, z7, z8, z9] ∧ ([] : List AV) = [] ∧ ((0, 0) : Nat × Nat) = (0, 0) ∧ m = 2240 - j2 ∧ 0 ≤ d ∧ d < mf S 8 ∧ (j2 : Int) + 1 ≤ mnK S d ∧ S' = thr S 0 := fun {y5 y6 y7 y8 y9} v hq hv => by
        have q : (j : Int) + 1 < mnK S d := hq
        exact ⟨2240 - (j + 1), by omega, j + 1, y5, y6, y7, y8, y9, by rw [es, hv, Int.natCast_add]; rfl, rfl, rfl, rfl, d0, d1, by omega, hS⟩
      dsimp only [mg, mf, colK, stK, clK, mnK, shN] at hj hmn hs1 hs2 ho2 n1
      repeat' (first
          | omega
          | with_reducible apply And.intro
          | (intro c9; (try simp only [mg, mf, colK, stK, clK, mnK, shN, e9, ei, ej, hc4] at c9))
          | exact hM
          | exact ms_o hM
          | exact hsq
          | exact ho2 (by omega)
          | (rw [ej]; exact ho1)
          | (refine ms_r hM rfl rfl ?_ ?_ <;> (try simp only [mLen, e9, ei, ej]) <;> omega)
          | (simp only [mg, mf, colK, stK, clK, mnK, shN, e9, ei, ej, hc4]; omega)
          | (simp only [mg, mf, colK, stK, clK, mnK, shN, e9, ei, ej, hc4]; omega)
          | refine Exists.intro _ (And.intro rfl ?_)
          | refine Exists.intro _ (And.intro ((congrFun hr _).trans rfl) ?_)
          | ((with_reducible show wp _ _ _ _ _ _ _ _ _ _ _ _ _ _); conv => whnf)
          | ((with_reducible show callK _ _ _ _ _ _ _ _ _); conv => whnf)
          | ((with_reducible show condK _ _ _ _ _); conv => whnf)
          | ((with_reducible show st1 _ _ _ _ _ _ _ _ _ _ _ _); conv => whnf)
          | ((with_reducible show (Prod.fst _ : Spec) _ _ _); conv => whnf)
          | ((with_reducible show shortK _ _); conv => whnf)
          | exact Nat.le_of_ble_eq_true rfl)
      · have e : (S.2.1 (mt 10) d.toNat).toNat = j + 1 := by omega
        refine h 0 _ _ ⟨by rw [if_pos ⟨d0, d1⟩], hS, fun _ => ?_⟩
        show _ = jmpN S d hid (S.2.1 (mt 10) d.toNat).toNat
        rw [e]
      · rename_i r1 h1 r2 h2 hne
        exact fin 0 ‹_› (if_neg fun q => hne (h1.trans (((hJ ()).mp q).1.trans h2.symm))).symm
      · rename_i r1 h1 r2 h2 ceq r3 h3 c3 c1' r5 h5
        exact fin 0 ‹_› (if_neg fun q => c9 ((isB_hid h5 hh).mpr ((hcv _ _ _ _).trans ((hJ ()).mp q).2.2))).symm
      · rename_i r1 h1 r2 h2 ceq r3 h3 c3 c1' r5 h5
        exact fin 1 ‹_› (if_pos ((hJ ()).mpr ⟨h1.symm.trans (ceq.trans h2), Or.inl (isB1 h3 c3), (hcv _ _ _ _).symm.trans ((isB_hid h5 hh).mp c9)⟩)).symm
      · rename_i r1 h1 r2 h2 ceq r3 h3 c3 r4 h4 c4
        exact fin 0 ‹_› (if_neg fun q => ((hJ ()).mp q).2.1.elim (isB0 h3 c3) (isB0 h4 c4)).symm
      · rename_i r1 h1 r2 h2 ceq r3 h3 c3 r4 h4 c4 c1' r5 h5
        exact fin 0 ‹_› (if_neg fun q => c9 ((isB_hid h5 hh).mpr ((hcv _ _ _ _).trans ((hJ ()).mp q).2.2))).symm
      · rename_i r1 h1 r2 h2 ceq r3 h3 c3 r4 h4 c4 c1' r5 h5
        exact fin 1 ‹_› (if_pos ((hJ ()).mpr ⟨h1.symm.trans (ceq.trans h2), Or.inr (isB1 h4 c4), (hcv _ _ _ _).symm.trans ((isB_hid h5 hh).mp c9)⟩)).symm
    · dsimp only [mg, mf, colK, stK, clK, mnK, shN] at h hN
      repeat' (first
          | omega
          | with_reducible apply And.intro
          | (intro c9; (try simp only [mg, mf, colK, stK, clK, mnK, shN, u2] at c9))
          | exact hM
          | exact ms_o hM
          | (refine ms_r hM rfl rfl ?_ ?_ <;> (try simp only [mLen]) <;> omega)
          | (refine ms_w hM rfl rfl ?_ ?_ <;> (try simp only [mLen]) <;> omega)
          | (refine ms_r hM rfl rfl ?_ ?_ <;> (try simp only [mLen, updI_2, mt_a, mt_b, mt_c, false_and, if_false]) <;> omega)
          | (refine ms_w hM rfl rfl ?_ ?_ <;> (try simp only [mLen, updI_2, mt_a, mt_b, mt_c, false_and, if_false]) <;> omega)
          | (simp only [mg, mf, colK, stK, clK, mnK, shN, u2]; omega)
          | refine Exists.intro _ (And.intro rfl ?_)
          | refine Exists.intro _ (And.intro ((congrFun hr _).trans rfl) ?_)
          | ((with_reducible show wp _ _ _ _ _ _ _ _ _ _ _ _ _ _); conv => whnf)
          | ((with_reducible show callK _ _ _ _ _ _ _ _ _); conv => whnf)
          | ((with_reducible show condK _ _ _ _ _); conv => whnf)
          | ((with_reducible show st1 _ _ _ _ _ _ _ _ _ _ _ _); conv => whnf)
          | ((with_reducible show (Prod.fst _ : Spec) _ _ _); conv => whnf)
          | ((with_reducible show shortK _ _); conv => whnf)
          | exact Nat.le_of_ble_eq_true rfl)
      all_goals first
        | exact h _ _ _ ⟨by omega, rfl, fun q => by omega⟩
        | exact ⟨2240, by omega, 0, _, _, _, _, _, rfl, rfl, rfl, rfl, by omega, by simp only [mg, mf, colK, stK, clK, mnK, shN]; omega, (hde (by omega) (by simp only [mg, mf, colK, stK, clK, mnK, shN]; omega)).mn.1, rfl⟩
        | (exfalso; exact (isB1' ‹isB _ True›) ‹_›)
      done
