theorem stF_MI {n : Int} {R R' : Sto} {m o d c th r : Int} (h : MI n R) (m0 : 0 ≤ m) (m1 : m < nM R) (ho : mg R 17 m = o) (hd : mg R 24 o = d) (o0 : 0 ≤ o) (o1 : o < nO R) (e26 : mg R 26 o = 1) (e27 : mg R 27 o = m) (c0 : 0 ≤ c ∧ c < 6) (th0 : 0 ≤ th ∧ th < 18)
    (t0 : 0 < mg R 22 th) (hr : 0 ≤ r ∧ r < mg R 14 m) (hcc : hdK R m r = c ∨ newP R m c r) (F : stF R R' m o d c th r) (hb : mg R 19 m + 1 ≤ 120000 * n ∧ mg R 18 m + 1 ≤ 120000 * n) : MI n R' := by
  obtain ⟨hag, f22, f19, f18, f20, f21, f29, f28, f26, f17, f27⟩ := F
  have e8 : nD R' = nD R := hag.mf
  have e13 : nM R' = nM R := hag.mf
  have e23 : nO R' = nO R := hag.mf
  have e1 : ∀ i, mg R' 1 i = mg R 1 i := fun i => hag.mg (by simp)
  have e10 : ∀ i, mg R' 10 i = mg R 10 i := fun i => hag.mg (by simp)
  have e14 : ∀ i, mg R' 14 i = mg R 14 i := fun i => hag.mg (by simp)
  have e15 : ∀ i, mg R' 15 i = mg R 15 i := fun i => hag.mg (by simp)
  have e16 : ∀ i, mg R' 16 i = mg R 16 i := fun i => hag.mg (by simp)
  have e24 : ∀ i, mg R' 24 i = mg R 24 i := fun i => hag.mg (by simp)
  have e25 : ∀ i, mg R' 25 i = mg R 25 i := fun i => hag.mg (by simp)
  have e30 : ∀ i, mg R' 30 i = mg R 30 i := fun i => hag.mg (by simp)
  have e31 : ∀ i, mg R' 31 i = mg R 31 i := fun i => hag.mg (by simp)
  have ecnt : ∀ d c n, cntC R' d c n = cntC R d c n := fun d c n => hag.cnt (by simp) (by simp)
  have hks : ∀ q, 2 ≤ q → q ≤ 7 → q ∉ [17, 18, 19, 20, 21, 22, 26, 27, 28, 29] := fun q q1 q2 => by simp; omega
  obtain ⟨hM, hN, hdr, hde, hma, hor, hfr, hst⟩ := h
  have hom := hor o o0 o1
  have hmm := hma m m0 m1
  have hm14 := hmm.1
  have hpp := hom.2.2.2.2.1
  rw [hd] at hpp
  have hpw := hpp.2.2.2.2.1 e26
  have hnc : ∀ k, 0 ≤ k → k < 6 → k ≠ r → mg R 20 (6 * m + k) ≠ c := fun k k0 k6 hkr => by
    have hh := hmm.2.2.2.2.2.1 k k0 k6
    have bd := hmm.2.2.2.2.2.2.1
    dsimp only [hdK, ltK] at hh hcc bd
    rcases hcc with q | q
    · rcases Int.lt_or_gt_of_ne hkr with a | a
      · have := (bd k r k0 a (by omega)).1
        omega
      · have := (bd r k hr.1 a (by omega)).1
        omega
    · by_cases a : k < mg R 14 m
      · exact q.1 k k0 a
      · have := hh.2.2.2.2.1 (by omega)
        omega
  refine ⟨hag.ms hM, by rw [e8, e13, e23]; exact hN, ?_, fun d' d0 d1 => (hag.eDes hks (by simp) (by simp) (by simp) (by simp)).mpr (hde d' d0 (by rw [← e8]; exact d1)), fun i i0 i1 => ?_, fun q q0 q1 => ?_, ⟨fun d' h1 h2 => ?_, fun i h1 h2 => ?_, fun q h1 h2 => ?_⟩, fun k k0 k1 => ?_⟩
  · unfold draftI
    rw [show shN R' 6 = shN R 6 from e1 6]
    exact ⟨hdr.1, hdr.2.1, fun k k0 k1 => (hag.sh hks).mpr (hdr.2.2 k k0 k1)⟩
  · rw [e13] at i1
    obtain ⟨b14, b15, b16, b18, b19, bh, bd, bj⟩ := hma i i0 i1
    have g19 := f19 i i0
    have g18 := f18 i i0
    have g17 := f17 i i0
    dsimp only [hdK, ltK] at bh bd
    by_cases hi : i = m
    · subst hi
      rw [if_pos rfl] at g19
      refine ⟨by rw [e14]; exact b14, by rw [e15]; exact b15, by rw [e16]; exact b16, by rw [g18]; split <;> omega, by rw [g19]; omega, fun k k0 k6 => ?_, fun k l k0 kl l6 => ?_, ?_⟩
      · have y := bh k k0 k6
        have x20 := f20 (6 * i + k) (by omega)
        have x21 := f21 (6 * i + k) (by omega)
        dsimp only [hdK, ltK]
        rw [x20, x21, g19, e14]
        by_cases e : k = r
        · rw [if_pos (by omega), if_pos (by omega)]
          exact ⟨by omega, by omega, by omega, by omega, fun q => by omega, fun _ => by omega⟩
        · rw [if_neg (by omega), if_neg (by omega)]
          exact ⟨y.1, y.2.1, y.2.2.1, by omega, y.2.2.2.2.1, y.2.2.2.2.2⟩
      · have y := bd k l k0 kl l6
        have yk := bh k k0 (by omega)
        have yl := bh l (by omega) l6
        have x20 := f20 (6 * i + k) (by omega)
        have x21 := f21 (6 * i + k) (by omega)
        have z20 := f20 (6 * i + l) (by omega)
        have z21 := f21 (6 * i + l) (by omega)
        dsimp only [hdK, ltK]
        by_cases e : k = r
        · have nl := hnc l (by omega) l6 (by omega)
          rw [if_pos (by omega)] at x20 x21
          rw [if_neg (by omega)] at z20 z21
          rw [x20, x21, z20, z21]
          exact ⟨fun _ q => nl q.symm, fun _ _ => by omega⟩
        · rw [if_neg (by omega)] at x20 x21
          by_cases e2 : l = r
          · have nl := hnc k k0 (by omega) e
            rw [if_pos (by omega)] at z20 z21
            rw [x20, x21, z20, z21]
            exact ⟨fun _ q => nl q, fun _ _ => by omega⟩
          · rw [if_neg (by omega)] at z20 z21
            rw [x20, x21, z20, z21]
            exact y
      · by_cases dn : mg R 29 o + 1 = mnK R d ∧ mg R 28 o + 1 = mg R 25 o
        · rw [if_pos ⟨rfl, dn⟩] at g17
          rw [g17]
          exact ⟨by omega, by omega, fun q => absurd q (by omega)⟩
        · rw [if_neg (fun q => dn q.2), ho] at g17
          rw [g17, f26 o o0, f27 o o0, if_neg (fun q => dn q.2), if_neg (fun q => dn q.2), e23]
          exact ⟨by omega, o1, fun _ => ⟨e26, e27⟩⟩
    · rw [if_neg hi] at g19
      rw [if_neg (fun q => hi q.1)] at g18 g17
      refine ⟨by rw [e14]; exact b14, by rw [e15]; exact b15, by rw [e16]; exact b16, by rw [g18]; exact b18, by rw [g19]; exact b19, fun k k0 k6 => ?_, fun k l k0 kl l6 => ?_, ?_⟩
      · have y := bh k k0 k6
        have x20 := f20 (6 * i + k) (by omega)
        have x21 := f21 (6 * i + k) (by omega)
        rw [if_neg (by omega)] at x20 x21
        dsimp only [hdK, ltK]
        rw [x20, x21, g19, e14]
        exact y
      · have y := bd k l k0 kl l6
        have x20 := f20 (6 * i + k) (by omega)
        have x21 := f21 (6 * i + k) (by omega)
        have z20 := f20 (6 * i + l) (by omega)
        have z21 := f21 (6 * i + l) (by omega)
        rw [if_neg (by omega)] at x20 x21 z20 z21
        dsimp only [hdK, ltK]
        rw [x20, x21, z20, z21]
        exact y
      · rw [g17, e23]
        refine ⟨bj.1, bj.2.1, fun q => ?_⟩
        have b2 := bj.2.2 q
        have hne : mg R 17 i ≠ o := fun e => hi (by rw [← e27, ← e]; exact b2.2.symm)
        rw [f26 _ q, f27 _ q, if_neg (fun z => hne z.1), if_neg (fun z => hne z.1)]
        exact b2
  · rw [e23] at q1
    obtain ⟨b24, b25, b26, ⟨c1, c2, c3, c4⟩, b28, b30, bs⟩ := hor q q0 q1
    have g26 := f26 q q0
    have g27 := f27 q q0
    have g28 := f28 q q0
    have g29 := f29 q q0
    by_cases hq : q = o
    · subst hq
      rw [hd] at b24 b28 bs
      by_cases fin : mg R 29 q + 1 = mnK R d
      · by_cases dn : mg R 28 q + 1 = mg R 25 q
        · rw [if_pos ⟨rfl, fin, dn⟩] at g26 g27
          rw [if_pos ⟨rfl, fin⟩] at g28
          rw [if_pos rfl, if_pos fin] at g29
          refine ⟨by rw [e24, e8, hd]; exact b24, by rw [e25]; exact b25, by rw [g26]; omega, by rw [g26, g27]; exact ⟨by omega, by omega, fun z => absurd z (by omega), by omega⟩, ?_, by rw [e30]; exact b30, fun c' h0 h1 => ?_⟩
          · rw [g26, g28, g29, e24, hd, e25, show mnK R' d = mnK R d from e10 d]
            exact ⟨by omega, by omega, by omega, by omega, fun z => by omega, fun _ => ⟨dn, rfl⟩, fun _ z => absurd rfl z⟩
          · have y := bs c' h0 h1
            dsimp only [sdK] at y ⊢
            rw [e31, g26]
            exact ⟨y.1, y.2.1, fun z => by omega⟩
        · rw [if_neg (fun z => dn z.2.2)] at g26 g27
          rw [if_pos ⟨rfl, fin⟩] at g28
          rw [if_pos rfl, if_pos fin] at g29
          refine ⟨by rw [e24, e8, hd]; exact b24, by rw [e25]; exact b25, by rw [g26]; exact b26, ?_, ?_, by rw [e30]; exact b30, fun c' h0 h1 => ?_⟩
          · rw [g26, g27, e27, e13, f17 m m0, if_neg (fun z => dn z.2.2), ho]
            exact ⟨by omega, m1, fun _ => rfl, by omega⟩
          · rw [g26, g28, g29, e24, hd, e25, show mnK R' d = mnK R d from e10 d]
            exact ⟨by omega, by omega, by omega, by omega, fun z => by omega, fun z => by omega, fun z => by omega⟩
          · have y := bs c' h0 h1
            dsimp only [sdK] at y ⊢
            rw [e31, g26, e24, hd, ecnt, show mnK R' d = mnK R d from e10 d]
            exact y
      · rw [if_neg (fun z => fin z.2.1)] at g26 g27
        rw [if_neg (fun z => fin z.2)] at g28
        rw [if_pos rfl, if_neg fin] at g29
        refine ⟨by rw [e24, e8, hd]; exact b24, by rw [e25]; exact b25, by rw [g26]; exact b26, ?_, ?_, by rw [e30]; exact b30, fun c' h0 h1 => ?_⟩
        · rw [g26, g27, e27, e13, f17 m m0, if_neg (fun z => fin z.2.1), ho]
          exact ⟨by omega, m1, fun _ => rfl, by omega⟩
        · rw [g26, g28, g29, e24, hd, e25, show mnK R' d = mnK R d from e10 d]
          exact ⟨by omega, by omega, by omega, by omega, fun z => by omega, fun z => by omega, fun z => by omega⟩
        · have y := bs c' h0 h1
          dsimp only [sdK] at y ⊢
          rw [e31, g26, e24, hd, ecnt, show mnK R' d = mnK R d from e10 d]
          exact y
    · rw [if_neg (fun z => hq z.1)] at g26 g27 g28
      rw [if_neg hq] at g29
      refine ⟨by rw [e24, e8]; exact b24, by rw [e25]; exact b25, by rw [g26]; exact b26, ?_, ?_, by rw [e30]; exact b30, fun c' h0 h1 => ?_⟩
      · rw [g26, g27, e13]
        refine ⟨c1, c2, fun z => ?_, c4⟩
        have c5 := c3 z
        rw [f17 _ z, if_neg (fun w => hq (by rw [← c5, w.1, ho]))]
        exact c5
      · rw [g26, g28, g29, e24, e25, show mnK R' (mg R 24 q) = mnK R (mg R 24 q) from e10 _]
        exact b28
      · have y := bs c' h0 h1
        dsimp only [sdK] at y ⊢
        rw [e31, g26, e24, ecnt, show mnK R' (mg R 24 q) = mnK R (mg R 24 q) from e10 _]
        exact y
  · rw [e8] at h1
    exact (e10 d').trans (hfr.1 d' h1 h2)
  · rw [e13] at h1
    obtain ⟨z1, z2, z3⟩ := hfr.2.1 i h1 h2
    have g18 := f18 i (by omega)
    have g19 := f19 i (by omega)
    rw [if_neg (fun z => by omega)] at g18 g19
    refine ⟨g18.trans z1, g19.trans z2, fun k k0 k6 => ?_⟩
    have z4 := z3 k k0 k6
    have g21 := f21 (6 * i + k) (by omega)
    rw [if_neg (by omega)] at g21
    exact g21.trans z4
  · rw [e23] at h1
    obtain ⟨z1, z2, z3, z4, z5⟩ := hfr.2.2 q h1 h2
    have hq : q ≠ o := by omega
    have g26 := f26 q (by omega)
    have g28 := f28 q (by omega)
    have g29 := f29 q (by omega)
    rw [if_neg (fun z => hq z.1)] at g26 g28
    rw [if_neg hq] at g29
    exact ⟨g26.trans z1, g28.trans z2, g29.trans z3, (e30 q).trans z4, fun c' h0 h1 => (e31 _).trans (z5 c' h0 h1)⟩
  · have y := hst k k0 k1
    rw [f22 k k0]
    by_cases e : k = th
    · subst e
      rw [if_pos rfl]; omega
    · rw [if_neg e]; exact y
theorem stepP_MI {n : Int} {R R' : Sto} {m : Int} (h : MI n R) (m0 : 0 ≤ m) (m1 : m < nM R) (hs : stepP R m R') (hb : mg R 19 m + 1 ≤ 120000 * n ∧ mg R 18 m + 1 ≤ 120000 * n) : MI n R' ∧ nM R' = nM R ∧ mg R' 19 m = mg R 19 m + 1 ∧ mg R' 18 m ≤ mg R 18 m + 1 := by
  obtain ⟨r, hr, hcc, t0, j0, F⟩ := stepP_F h m0 m1 hs
  obtain ⟨a1, a2, a3, a4, a5, a6, a7, a8, a9, a10⟩ := h.job m0 m1 j0
  refine ⟨stF_MI h m0 m1 rfl rfl j0 a1 a4 a5 a7 ⟨?_, ?_⟩ t0 hr hcc F hb, F.1.mf, ?_, ?_⟩
  · show 0 ≤ 3 * jbC R m + mg R 31 (6 * jbO R m + jbC R m); omega
  · show 3 * jbC R m + mg R 31 (6 * jbO R m + jbC R m) < 18; omega
  · rw [F.2.2.1 m m0, if_pos rfl]
  · rw [F.2.2.2.1 m m0]; split <;> omega

