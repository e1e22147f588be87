theorem start_MI {n : Int} {S S' : Sto} {o m k : Int} (h : MI n S) (hn : n + 1 ≤ 15000) (hR : startR S o m k S') : MI (n + 1) S' := by
  obtain ⟨h1, h2, h3⟩ := hR
  by_cases hk : k = 0
  · have hS := h3 hk
    have H := (h.up hn).th0 (k := 0)
    have hb : (0 ≤ o ∧ o < nO S ∧ 0 ≤ m ∧ m < nM S) ∧ canSt S o m := by
      rcases h1 with a | a | a
      · omega
      · exact ⟨a.1, a.2.1⟩
      · omega
    obtain ⟨⟨o0, o1, m0, m1⟩, c1, c2, -, c4⟩ := hb
    have hcn : ∀ c, 0 ≤ c → c < 6 → -1 ≤ giv S o c ∧ giv S o c < 3 ∧ (0 < cntD S o c → 0 ≤ giv S o c) := fun c c0 c6 => by
      have a := c4 c c0 c6
      have b : -1 ≤ shF S c (needK S o c) ∧ shF S c (needK S o c) < 3 := by unfold shF; split <;> (try split) <;> (try split) <;> omega
      unfold giv
      by_cases e : cntD S o c = 0
      · rw [if_pos e]; exact ⟨by omega, by omega, fun z => by omega⟩
      · rw [if_neg e]
        have := a.resolve_left e
        exact ⟨b.1, b.2, fun _ => by omega⟩
    have hcq : ∀ c, cntD S o c = cntC (thr S 0) (mg (thr S 0) 24 o) c (mnK (thr S 0) (mg (thr S 0) 24 o)).toNat := fun c => rfl
    have eO : nO S = nO (thr S 0) := rfl
    have eM : nM S = nM (thr S 0) := rfl
    have e26 : mg S 26 o = mg (thr S 0) 26 o := rfl
    have e17 : mg S 17 m = mg (thr S 0) 17 m := rfl
    rw [eO] at o1
    rw [eM] at m1
    rw [e26] at c1
    rw [e17] at c2
    simp only [hcq] at hcn
    generalize hT : thr S 0 = T at *
    obtain ⟨hM, hN, hdr, hde, hma, hor, hfr, hst⟩ := H
    have hv : ∀ (k : Nat) (j : Int), 0 ≤ j → mg S' k j = if k = 17 ∧ j = m then o else if k = 27 ∧ j = o then m else if k = 26 ∧ j = o then 1 else if k = 31 ∧ 6 * o ≤ j ∧ j < 6 * o + 6 then giv S o (j - 6 * o) else mg T k j := fun k j j0 => by
      rw [hS]
      simp only [mgU, tnE j0 m0, tnE j0 o0, fillS_v o0 6 k j j0]
      rfl
    have hag : agr [17, 26, 27, 31] T S' := by
      rw [hS]
      exact ((((fillS_ag 6).sub (by simp)).upd (by simp)).upd (by simp)).upd (by simp)
    have e8 : nD S' = nD T := hag.mf
    have e13 : nM S' = nM T := hag.mf
    have e23 : nO S' = nO T := hag.mf
    have em : ∀ (k : Nat) (j : Int), 0 ≤ j → (k ≠ 17 ∧ k ≠ 26 ∧ k ≠ 27 ∧ k ≠ 31 ∨ k = 17 ∧ j ≠ m ∨ (k = 26 ∨ k = 27) ∧ j ≠ o ∨ k = 31 ∧ (j < 6 * o ∨ 6 * o + 6 ≤ j)) → mg S' k j = mg T k j := fun k j j0 ha => by
      rw [hv k j j0, if_neg (by omega), if_neg (by omega), if_neg (by omega), if_neg (by omega)]
    have hk9 : ∀ q, q = 1 ∨ q = 2 ∨ q = 3 ∨ q = 4 ∨ q = 5 ∨ q = 6 ∨ q = 7 ∨ q = 9 ∨ q = 10 ∨ q = 11 → q ∉ [17, 26, 27, 31] := fun q hq => by simp; omega
    have hoo := hor o o0 o1
    have x26 : mg S' 26 o = 1 := by rw [hv 26 o o0, if_neg (by omega), if_neg (by omega), if_pos ⟨rfl, rfl⟩]
    have x27 : mg S' 27 o = m := by rw [hv 27 o o0, if_neg (by omega), if_pos ⟨rfl, rfl⟩]
    have x17 : mg S' 17 m = o := by rw [hv 17 m m0, if_pos ⟨rfl, rfl⟩]
    refine ⟨hag.ms hM, by rw [e8, e13, e23]; exact hN, draft_ag hag hk9 hdr, fun d d0 d1 => desEq.des (hde d d0 (by omega)) (desEq_ag hag hk9 d), fun i i0 i1 => ?_, fun q q0 q1 => ?_, ⟨fun d a b => (em 10 d (by omega) (by omega)).trans (hfr.1 d (by omega) b), fun i' a b => ?_, fun o' a b => ?_⟩, fun k k0 k1 => by rw [em 22 _ k0 (by omega)]; exact hst k k0 k1⟩
    · have y := hma i i0 (by omega)
      by_cases e : i = m
      · subst e
        obtain ⟨b14, b15, b16, b18, b19, bh, bd, bj⟩ := y
        refine ⟨by rw [em 14 i i0 (by omega)]; exact b14, by rw [em 15 i i0 (by omega)]; exact b15, by rw [em 16 i i0 (by omega)]; exact b16, by rw [em 18 i i0 (by omega)]; exact b18, by rw [em 19 i i0 (by omega)]; exact b19, fun k k0 k6 => ?_, fun k l k0 kl l6 => ?_, ?_⟩
        · have y := bh k k0 k6
          dsimp only [hdK, ltK] at y ⊢
          rw [em 20 _ (by omega) (by omega), em 21 _ (by omega) (by omega), em 19 i i0 (by omega), em 14 i i0 (by omega)]
          exact y
        · have y := bd k l k0 kl l6
          dsimp only [hdK, ltK] at y ⊢
          rw [em 20 _ (by omega) (by omega), em 21 _ (by omega) (by omega), em 20 (6 * i + l) (by omega) (by omega), em 21 (6 * i + l) (by omega) (by omega)]
          exact y
        · rw [x17, x26, x27]
          exact ⟨by omega, by omega, fun _ => ⟨rfl, rfl⟩⟩
      · refine mac_loc y (fun a a1 a2 => em a i i0 (by omega)) (fun k k0 k6 => ⟨em 20 _ (by omega) (by omega), em 21 _ (by omega) (by omega)⟩) (by omega) (fun z => ?_)
        have y2 := y.2.2.2.2.2.2.2.2.2 z
        have hne : mg T 17 i ≠ o := fun w => by rw [w] at y2; omega
        rw [em 26 _ z (by omega), em 27 _ z (by omega)]; exact y2
    · rw [e23] at q1
      have y := hor q q0 q1
      by_cases e : q = o
      · subst e
        obtain ⟨b24, b25, b26, b27, b28, b30, bs⟩ := y
        have x24 := em 24 q q0 (by omega)
        have x25 := em 25 q q0 (by omega)
        have x28 := em 28 q q0 (by omega)
        have x29 := em 29 q q0 (by omega)
        have x30 := em 30 q q0 (by omega)
        have x10 := em 10 (mg T 24 q) b24.1 (by omega)
        have z := b28.2.2.2.2.2.2 (by omega) (by omega)
        refine ⟨by rw [x24, e8]; exact b24, by rw [x25]; exact b25, by omega, by rw [x26, x27, x17, e13]; exact ⟨by omega, m1, fun _ => rfl, by omega⟩, ?_, by rw [x30]; exact b30, fun c c0 c6 => ?_⟩
        · rw [x24, x25, x26, x28, x29, show mnK S' (mg T 24 q) = mnK T (mg T 24 q) from x10]
          exact ⟨b28.1, b28.2.1, b28.2.2.1, b28.2.2.2.1, fun _ => by omega, fun w => by omega, fun w => absurd rfl w⟩
        · have y := hcn c c0 c6
          dsimp only [sdK]
          rw [hv 31 _ (by omega), if_neg (by omega), if_neg (by omega), if_neg (by omega), if_pos (by omega), show 6 * q + c - 6 * q = c by omega, x24, x26]
          refine ⟨y.1, y.2.1, fun _ w => y.2.2 ?_⟩
          rw [desEq.cnt (hde _ b24.1 b24.2) (desEq_ag hag hk9 _)] at w
          exact w
      · refine ord_loc y (fun a a1 a2 => em a q q0 (by omega)) (fun c c0 c6 => em 31 _ (by omega) (by omega)) (by omega) (by omega) (fun z => ?_) (hde _ y.1.1 y.1.2) (desEq_ag hag hk9 _)
        have y2 := y.2.2.2.1.2.2.1 z
        have hne : mg T 27 q ≠ m := fun w => by rw [w] at y2; omega
        rw [em 17 _ z (by omega)]; exact y2
    · obtain ⟨z1, z2, z3⟩ := hfr.2.1 i' (by omega) b
      exact ⟨(em 18 _ (by omega) (by omega)).trans z1, (em 19 _ (by omega) (by omega)).trans z2, fun k k0 k6 => (em 21 _ (by omega) (by omega)).trans (z3 k k0 k6)⟩
    · obtain ⟨z1, z2, z3, z4, z5⟩ := hfr.2.2 o' (by omega) b
      exact ⟨(em 26 _ (by omega) (by omega)).trans z1, (em 28 _ (by omega) (by omega)).trans z2, (em 29 _ (by omega) (by omega)).trans z3, (em 30 _ (by omega) (by omega)).trans z4, fun c c0 c6 => (em 31 _ (by omega) (by omega)).trans (z5 c c0 c6)⟩
  · rw [h2 hk]; exact (h.up hn).th0
theorem run_MI2 {n : Int} {S S' : Sto} {m s k v : Int} (h : MI n S) (hn : n + 1 ≤ 15000) (hR : runR S m s k v S') : MI (n + 1) S' := by
  obtain ⟨h1, h2, h3⟩ := hR
  by_cases hk : k = 0
  · obtain ⟨ch, hc0, v0, v1, hv, hch, -⟩ := h3 hk
    have hb : (0 ≤ m ∧ m < nM S) ∧ (1 ≤ s ∧ s ≤ 100000) := by
      rw [hk] at h1
      by_cases a : 0 ≤ m ∧ m < nM S
      · rw [if_neg (fun z => z a)] at h1
        by_cases b : 1 ≤ s ∧ s ≤ 100000
        · exact ⟨a, b⟩
        · rw [if_pos b] at h1; omega
      · rw [if_pos a] at h1; omega
    have y := h.2.2.2.2.1 m hb.1.1 hb.1.2
    have q := run_MI (n := n) (ch := ch) (m := m) (by rw [hc0]; exact (h.up hn).th0) hb.1.1 (by rw [hc0]; exact hb.1.2) ⟨by rw [hc0]; show mg S 19 m ≤ 120000 * n; exact y.2.2.2.2.1.2, by rw [hc0]; show mg S 18 m ≤ 120000 * n; exact y.2.2.2.1.2⟩ v.toNat (by omega) (fun i hi => hch i (by omega))
    rw [hv] at q
    exact q.1
  · rw [h2 hk]; exact (h.up hn).th0
/-- an order's numbers of what is sewn are set -/
theorem ord_MI {n : Int} {T S' : Sto} {o w p x : Int} (h : MI n T) (hn : n + 1 ≤ 15000) (o0 : 0 ≤ o) (o1 : o < nO T) (hag : agr [28, 29, 30, 31] T S') (x28 : mg S' 28 o = w) (x29 : mg S' 29 o = p) (x30 : mg S' 30 o = x) (hx : 0 ≤ x ∧ x ≤ 120000 * (n + 1))
    (ho : ∀ q, 0 ≤ q → q ≠ o → mg S' 28 q = mg T 28 q ∧ mg S' 29 q = mg T 29 q ∧ mg S' 30 q = mg T 30 q ∧ ∀ c, 0 ≤ c → c < 6 → mg S' 31 (6 * q + c) = mg T 31 (6 * q + c))
    (hw : 0 ≤ w ∧ w ≤ mg T 28 o ∧ 0 ≤ p ∧ p ≤ mg T 29 o) (e26 : mg T 26 o = 1) (hs : ∀ c, 0 ≤ c → c < 6 → -1 ≤ mg S' 31 (6 * o + c) ∧ mg S' 31 (6 * o + c) < 3 ∧ (0 ≤ mg T 31 (6 * o + c) → 0 ≤ mg S' 31 (6 * o + c))) : MI (n + 1) S' := by
  have H := h.up hn
  have e8 : nD S' = nD T := hag.mf
  have e13 : nM S' = nM T := hag.mf
  have e23 : nO S' = nO T := hag.mf
  have em : ∀ (k : Nat) (j : Int), (k < 28 ∨ 31 < k) → mg S' k j = mg T k j := fun k j ha => hag.mg (by simp; omega)
  have hk9 : ∀ q, q = 1 ∨ q = 2 ∨ q = 3 ∨ q = 4 ∨ q = 5 ∨ q = 6 ∨ q = 7 ∨ q = 9 ∨ q = 10 ∨ q = 11 → q ∉ [28, 29, 30, 31] := fun q hq => by simp; omega
  obtain ⟨hM, hN, hdr, hde, hma, hor, hfr, hst⟩ := H
  refine ⟨hag.ms hM, by rw [e8, e13, e23]; exact hN, draft_ag hag hk9 hdr, fun d d0 d1 => desEq.des (hde d d0 (by omega)) (desEq_ag hag hk9 d), fun i i0 i1 => mac_loc (hma i i0 (by omega)) (fun a a1 a2 => em a i (by omega)) (fun k k0 k6 => ⟨em 20 _ (by omega), em 21 _ (by omega)⟩) (by omega) (fun z => by rw [em 26 _ (by omega), em 27 _ (by omega)]; exact (hma i i0 (by omega)).2.2.2.2.2.2.2.2.2 z),
    fun q q0 q1 => ?_, ⟨fun d a b => (em 10 d (by omega)).trans (hfr.1 d (by omega) b), fun i' a b => ?_, fun o' a b => ?_⟩, fun k k0 k1 => by rw [em 22 _ (by omega)]; exact hst k k0 k1⟩
  · have y := hor q q0 (by omega)
    by_cases e : q = o
    · subst e
      obtain ⟨b24, b25, b26, b27, b28, b30, bs⟩ := y
      have x24 := em 24 q (by omega)
      have x25 := em 25 q (by omega)
      have x26 := em 26 q (by omega)
      have x27 := em 27 q (by omega)
      have x10 := em 10 (mg T 24 q) (by omega)
      have z := b28.2.2.2.2.1 e26
      refine ⟨by rw [x24, e8]; exact b24, by rw [x25]; exact b25, by rw [x26]; exact b26, by rw [x26, x27, e13, em 17 _ (by omega)]; exact b27, ?_, by rw [x30]; exact hx, fun c c0 c6 => ?_⟩
      · rw [x24, x25, x26, x28, x29, show mnK S' (mg T 24 q) = mnK T (mg T 24 q) from x10]
        exact ⟨by omega, by omega, by omega, by omega, fun _ => by omega, fun w => by omega, fun w => absurd e26 w⟩
      · have y := bs c c0 c6
        have y2 := hs c c0 c6
        dsimp only [sdK] at y ⊢
        rw [x24, x26]
        refine ⟨y2.1, y2.2.1, fun z1 z2 => y2.2.2 (y.2.2 z1 ?_)⟩
        rw [desEq.cnt (hde _ b24.1 b24.2) (desEq_ag hag hk9 _)] at z2
        exact z2
    · obtain ⟨y1, y2, y3, y4⟩ := ho q q0 e
      exact ord_loc y (fun a a1 a2 => by
        rcases (show a < 28 ∨ a = 28 ∨ a = 29 ∨ a = 30 by omega) with z | rfl | rfl | rfl
        · exact em a q (by omega)
        · exact y1
        · exact y2
        · exact y3) y4 (by omega) (by omega) (fun z => by rw [em 17 _ (by omega)]; exact y.2.2.2.1.2.2.1 z) (hde _ y.1.1 y.1.2) (desEq_ag hag hk9 _)
  · obtain ⟨z1, z2, z3⟩ := hfr.2.1 i' (by omega) b
    exact ⟨(em 18 _ (by omega)).trans z1, (em 19 _ (by omega)).trans z2, fun k k0 k6 => (em 21 _ (by omega)).trans (z3 k k0 k6)⟩
  · obtain ⟨z1, z2, z3, z4, z5⟩ := hfr.2.2 o' (by omega) b
    obtain ⟨y1, y2, y3, y4⟩ := ho o' (by omega) (by omega)
    exact ⟨(em 26 _ (by omega)).trans z1, y1.trans z2, y2.trans z3, y3.trans z4, fun c c0 c6 => (y4 c c0 c6).trans (z5 c c0 c6)⟩
theorem snap_MI {n : Int} {S S' : Sto} {m k v : Int} (h : MI n S) (hn : n + 1 ≤ 15000) (hR : snapR S m k v S') : MI (n + 1) S' := by
  obtain ⟨h1, h2, h3⟩ := hR
  by_cases hk : k = 0
  · obtain ⟨o, ho, v1, v5, vp, -, -, hag, q29, q30, hoth⟩ := h3 hk
    have hb : (0 ≤ m ∧ m < nM S) ∧ mg S 17 m ≠ -1 := by
      rw [hk] at h1
      by_cases a : 0 ≤ m ∧ m < nM S
      · rw [if_neg (fun z => z a)] at h1
        by_cases b : mg S 17 m = -1 ∨ mg S 29 (mg S 17 m) = 0
        · rw [if_pos b] at h1; omega
        · exact ⟨a, fun e => b (Or.inl e)⟩
      · rw [if_pos a] at h1; omega
    have y := h.2.2.2.2.1 m hb.1.1 hb.1.2
    have yj := y.2.2.2.2.2.2.2
    rw [← ho] at yj hb
    have o0 : 0 ≤ o := by omega
    have yo := h.2.2.2.2.2.1 o o0 yj.2.1
    have em : ∀ (k : Nat) (j : Int), k ≠ 29 → k ≠ 30 → mg S' k j = mg S k j := fun k j a b => (hag.mg (by simp; omega)).trans u2
    have yb := yo.2.2.2.2.1
    have yw := yo.2.2.2.2.2.1
    refine ord_MI (T := thr S 0) (w := mg S 28 o) (p := mg S 29 o - v) (x := mg S 30 o + v) h.th0 hn o0 yj.2.1 (hag.sub (by simp)) (em 28 o (by omega) (by omega)) q29 q30 (by omega) (fun q q0 qo => ⟨em 28 q (by omega) (by omega), (hoth q q0 qo).1, (hoth q q0 qo).2, fun c _ _ => em 31 _ (by omega) (by omega)⟩) ?_ ?_ (fun c c0 c6 => ?_)
    · show 0 ≤ mg S 28 o ∧ mg S 28 o ≤ mg S 28 o ∧ 0 ≤ mg S 29 o - v ∧ mg S 29 o - v ≤ mg S 29 o
      omega
    · exact (yj.2.2 o0).1
    · have z := yo.2.2.2.2.2.2 c c0 c6
      dsimp only [sdK] at z
      rw [em 31 _ (by omega) (by omega)]
      exact ⟨z.1, z.2.1, fun w => w⟩
  · rw [h2 hk]; exact (h.up hn).th0
theorem wsN_r {n : Int} {S : Sto} (h : MI n S) {o : Int} (o0 : 0 ≤ o) (o1 : o < nO S) : 0 ≤ wsN S o ∧ wsN S o ≤ 120000 := by
  have y := h.2.2.2.2.2.1 o o0 o1
  have hm := (h.2.2.2.1 _ y.1.1 y.1.2).mn
  have hp := y.2.2.2.2.1
  have h25 := y.2.1
  unfold wsN
  have a1 : 0 ≤ mg S 28 o * mg S 10 (mg S 24 o) := Int.mul_nonneg hp.1 (by have : 1 ≤ mg S 10 (mg S 24 o) := hm.1; omega)
  have a2 : mg S 28 o * mg S 10 (mg S 24 o) ≤ 50 * 2240 := Int.mul_le_mul (by omega) hm.2 (by have : 1 ≤ mg S 10 (mg S 24 o) := hm.1; omega) (by omega)
  have a3 : mg S 29 o < mg S 10 (mg S 24 o) := hp.2.2.2.1
  have a4 : mg S 10 (mg S 24 o) ≤ 2240 := hm.2
  omega
theorem match_MI {n : Int} {S S' : Sto} {o c s k v : Int} (h : MI n S) (hn : n + 1 ≤ 15000) (hR : matchR S o c s k v S') : MI (n + 1) S' := by
  obtain ⟨h1, h2, h3⟩ := hR
  by_cases hk : k = 0
  · have hb : (0 ≤ o ∧ o < nO S ∧ 0 ≤ c ∧ c < 6 ∧ 0 ≤ s ∧ s < 3) ∧ canMa S o c s := by
      rcases h1 with a | a | a
      · omega
      · exact ⟨a.1, a.2.1⟩
      · omega
    obtain ⟨⟨o0, o1, c0, c1, s0, s1⟩, e26, -⟩ := hb
    have yo := h.2.2.2.2.2.1 o o0 o1
    have yb := yo.2.2.2.2.1
    have yw := yo.2.2.2.2.2.1
    have ys := yo.2.2.2.2.2.2
    have hws := wsN_r h o0 o1
    have hoc : (0 : Int) ≤ 6 * o + c := by omega
    have v31 : ∀ j, 0 ≤ j → mg (updI (thr S 0) (mt 31) (6 * o + c).toNat s) 31 j = if j = 6 * o + c then s else mg S 31 j := fun j j0 => by
      simp only [mgU, tnE j0 hoc, true_and]; rfl
    have vo : ∀ (k : Nat) (j : Int), k ≠ 31 → mg (updI (thr S 0) (mt 31) (6 * o + c).toNat s) k j = mg S k j := fun k j hk => by
      rw [mgU, if_neg (fun z => hk z.1)]; exact u2
    have hs : ∀ S' : Sto, (∀ j, 0 ≤ j → mg S' 31 j = if j = 6 * o + c then s else mg S 31 j) → ∀ c', 0 ≤ c' → c' < 6 → -1 ≤ mg S' 31 (6 * o + c') ∧ mg S' 31 (6 * o + c') < 3 ∧ (0 ≤ mg (thr S 0) 31 (6 * o + c') → 0 ≤ mg S' 31 (6 * o + c')) := fun S' hS' c' h0 h6 => by
      have z := ys c' h0 h6
      dsimp only [sdK] at z
      rw [hS' _ (by omega)]
      by_cases e : 6 * o + c' = 6 * o + c
      · rw [if_pos e]; exact ⟨by omega, s1, fun _ => s0⟩
      · rw [if_neg e]; exact ⟨z.1, z.2.1, fun w => w⟩
    rcases h3 hk with ⟨-, -, rfl⟩ | ⟨-, -, hS⟩
    · refine ord_MI (T := thr S 0) (w := mg S 28 o) (p := mg S 29 o) (x := mg S 30 o) h.th0 hn o0 o1 (agr.rf.upd (by simp)) (vo 28 o (by omega)) (vo 29 o (by omega)) (vo 30 o (by omega)) (by omega) (fun q q0 qo => ⟨vo 28 q (by omega), vo 29 q (by omega), vo 30 q (by omega), fun c' h0 h6 => by rw [v31 _ (by omega), if_neg (by omega)]; rfl⟩) ?_ e26 (hs _ v31)
      show 0 ≤ mg S 28 o ∧ mg S 28 o ≤ mg S 28 o ∧ 0 ≤ mg S 29 o ∧ mg S 29 o ≤ mg S 29 o
      omega
    · generalize hX : updI (thr S 0) (mt 31) (6 * o + c).toNat s = X at *
      have hagX : agr [28, 29, 30, 31] (thr S 0) X := by rw [← hX]; exact agr.rf.upd (by simp)
      have ewX : wsN X o = wsN S o := by
        unfold wsN
        rw [vo 28 o (by omega), vo 24 o (by omega), vo 29 o (by omega), vo 10 _ (by omega)]
      unfold wsU at hS
      rw [ewX] at hS
      have hv : ∀ (k : Nat) (j : Int), 0 ≤ j → mg S' k j = if k = 29 ∧ j = o then 0 else if k = 28 ∧ j = o then 0 else if k = 30 ∧ j = o then mg S 30 o + wsN S o else mg X k j := fun k j j0 => by
        rw [hS]
        simp only [mgU, tnE j0 o0, vo 30 o (show 30 ≠ 31 by omega)]
      refine ord_MI (T := thr S 0) (w := 0) (p := 0) (x := mg S 30 o + wsN S o) h.th0 hn o0 o1 (by rw [hS]; exact ((hagX.upd (by simp)).upd (by simp)).upd (by simp)) (by rw [hv 28 o o0]; simp) (by rw [hv 29 o o0]; simp) (by rw [hv 30 o o0]; simp) (by omega) (fun q q0 qo => ⟨?_, ?_, ?_, fun c' h0 h6 => ?_⟩) ?_ e26 (hs _ (fun j j0 => by rw [hv 31 j j0, if_neg (by omega), if_neg (by omega), if_neg (by omega)]; exact v31 j j0))
      · rw [hv 28 q q0, if_neg (by omega), if_neg (by omega), if_neg (by omega)]; exact vo 28 q (by omega)
      · rw [hv 29 q q0, if_neg (by omega), if_neg (by omega), if_neg (by omega)]; exact vo 29 q (by omega)
      · rw [hv 30 q q0, if_neg (by omega), if_neg (by omega), if_neg (by omega)]; exact vo 30 q (by omega)
      · rw [hv 31 _ (by omega), if_neg (by omega), if_neg (by omega), if_neg (by omega), v31 _ (by omega), if_neg (by omega)]; rfl
      · show 0 ≤ (0 : Int) ∧ 0 ≤ mg S 28 o ∧ 0 ≤ (0 : Int) ∧ 0 ≤ mg S 29 o
        omega
  · rw [h2 hk]; exact (h.up hn).th0
theorem cancel_MI {n : Int} {S S' : Sto} {o k v : Int} (h : MI n S) (hn : n + 1 ≤ 15000) (hR : cancelR S o k v S') : MI (n + 1) S' := by
  obtain ⟨h1, h2, h3⟩ := hR
  by_cases hk : k = 0
  · obtain ⟨X, hX, -, hS⟩ := h3 hk
    have hb : (0 ≤ o ∧ o < nO S) ∧ mg S 26 o ≠ 2 ∧ mg S 26 o ≠ 3 := by
      rw [hk] at h1
      by_cases a : 0 ≤ o ∧ o < nO S
      · rw [if_neg (fun z => z a)] at h1
        by_cases b : mg S 26 o = 2 ∨ mg S 26 o = 3
        · rw [if_pos b] at h1; omega
        · omega
      · rw [if_pos a] at h1; omega
    obtain ⟨⟨o0, o1⟩, n2, n3⟩ := hb
    have hws := wsN_r h o0 o1
    have H := (h.up hn).th0 (k := 0)
    have e0 : ∀ (a : Nat) (i : Int), mg S a i = mg (thr S 0) a i := fun a i => u2.symm
    have eO : nO S = nO (thr S 0) := rfl
    rw [eO] at o1
    simp only [e0] at hX hS n2 n3
    have yo9 := h.2.2.2.2.2.1 o o0 o1
    have yw9 := yo9.2.2.2.2.2.1
    simp only [e0] at yw9
    generalize hT : thr S 0 = T at *
    generalize hW : wsN S o = W at *
    obtain ⟨hM, hN, hdr, hde, hma, hor, hfr, hst⟩ := H
    have yo := hor o o0 o1
    have y27 := yo.2.2.2.1
    have hXv : ∀ (k : Nat) (j : Int), 0 ≤ j → mg X k j = if k = 27 ∧ j = o ∧ mg T 26 o = 1 then -1 else if k = 17 ∧ j = mg T 27 o ∧ mg T 26 o = 1 then -1 else mg T k j := fun k j j0 => by
      rw [hX]
      by_cases e : mg T 26 o = 1
      · rw [if_pos e]
        simp only [mgU, tnE j0 o0, tnE j0 (y27.2.2.2.mp e), e, and_true]
      · rw [if_neg e, if_neg (fun z => e z.2.2), if_neg (fun z => e z.2.2)]
    have hv : ∀ (k : Nat) (j : Int), 0 ≤ j → mg S' k j = if k = 29 ∧ j = o then 0 else if k = 28 ∧ j = o then 0 else if k = 30 ∧ j = o then mg T 30 o + W else if k = 26 ∧ j = o then 3 else mg X k j := fun k j j0 => by
      rw [hS]
      simp only [mgU, tnE j0 o0]
    have hagX : agr [17, 26, 27, 28, 29, 30] T X := by
      rw [hX]
      split
      · exact (agr.rf.upd (by simp)).upd (by simp)
      · exact agr.rf
    have hag : agr [17, 26, 27, 28, 29, 30] T S' := by
      rw [hS]
      exact (((hagX.upd (by simp)).upd (by simp)).upd (by simp)).upd (by simp)
    have e8 : nD S' = nD T := hag.mf
    have e13 : nM S' = nM T := hag.mf
    have e23 : nO S' = nO T := hag.mf
    have em : ∀ (k : Nat) (j : Int), (k ≠ 17 ∧ k < 26 ∨ 30 < k) → mg S' k j = mg T k j := fun k j ha => hag.mg (by simp; omega)
    have hk9 : ∀ q, q = 1 ∨ q = 2 ∨ q = 3 ∨ q = 4 ∨ q = 5 ∨ q = 6 ∨ q = 7 ∨ q = 9 ∨ q = 10 ∨ q = 11 → q ∉ [17, 26, 27, 28, 29, 30] := fun q hq => by simp; omega
    have eo : ∀ (k : Nat) (q : Int), 26 ≤ k → k ≤ 30 → 0 ≤ q → q ≠ o → mg S' k q = mg T k q := fun k q k0 k1 q0 qo => by
      rw [hv k q q0, if_neg (by omega), if_neg (by omega), if_neg (by omega), if_neg (by omega), hXv k q q0, if_neg (by omega), if_neg (by omega)]
    have e17 : ∀ i, 0 ≤ i → mg S' 17 i = if i = mg T 27 o ∧ mg T 26 o = 1 then -1 else mg T 17 i := fun i i0 => by
      rw [hv 17 i i0, if_neg (by omega), if_neg (by omega), if_neg (by omega), if_neg (by omega), hXv 17 i i0, if_neg (by omega)]
      simp
    have x26 : mg S' 26 o = 3 := by rw [hv 26 o o0]; simp
    have x27 : mg S' 27 o = -1 := by
      rw [hv 27 o o0, if_neg (by omega), if_neg (by omega), if_neg (by omega), if_neg (by omega), hXv 27 o o0]
      by_cases e : mg T 26 o = 1
      · rw [if_pos ⟨rfl, rfl, e⟩]
      · rw [if_neg (fun z => e z.2.2), if_neg (by omega)]
        omega
    have x28 : mg S' 28 o = 0 := by rw [hv 28 o o0]; simp
    have x29 : mg S' 29 o = 0 := by rw [hv 29 o o0]; simp
    have x30 : mg S' 30 o = mg T 30 o + W := by rw [hv 30 o o0]; simp
    refine ⟨hag.ms hM, by rw [e8, e13, e23]; exact hN, draft_ag hag hk9 hdr, fun d d0 d1 => desEq.des (hde d d0 (by omega)) (desEq_ag hag hk9 d), fun i i0 i1 => ?_,
      fun q q0 q1 => ?_, ⟨fun d a b => (em 10 d (by omega)).trans (hfr.1 d (by omega) b), fun i' a b => ?_, fun o' a b => ?_⟩, fun k k0 k1 => by rw [em 22 _ (by omega)]; exact hst k k0 k1⟩
    · have y := hma i i0 (by omega)
      have yj := y.2.2.2.2.2.2.2
      by_cases e : i = mg T 27 o ∧ mg T 26 o = 1
      · have z17 := e17 i i0
        rw [if_pos e] at z17
        obtain ⟨b14, b15, b16, b18, b19, bh, bd, bj⟩ := y
        refine ⟨by rw [em 14 i (by omega)]; exact b14, by rw [em 15 i (by omega)]; exact b15, by rw [em 16 i (by omega)]; exact b16, by rw [em 18 i (by omega)]; exact b18, by rw [em 19 i (by omega)]; exact b19, fun k k0 k6 => ?_, fun k l k0 kl l6 => ?_, ?_⟩
        · have y := bh k k0 k6
          dsimp only [hdK, ltK] at y ⊢
          rw [em 20 _ (by omega), em 21 _ (by omega), em 19 i (by omega), em 14 i (by omega)]
          exact y
        · have y := bd k l k0 kl l6
          dsimp only [hdK, ltK] at y ⊢
          rw [em 20 _ (by omega), em 21 _ (by omega), em 20 (6 * i + l) (by omega), em 21 (6 * i + l) (by omega)]
          exact y
        · rw [z17]
          exact ⟨by omega, by omega, fun z => absurd z (by omega)⟩
      · have z17 := e17 i i0
        rw [if_neg e] at z17
        refine mac_loc y (fun a a1 a2 => ?_) (fun k k0 k6 => ⟨em 20 _ (by omega), em 21 _ (by omega)⟩) (by omega) (fun z => ?_)
        · by_cases h17 : a = 17
          · rw [h17]; exact z17
          · exact em a i (by omega)
        · have y2 := yj.2.2 z
          have hne : mg T 17 i ≠ o := fun w => by
            rw [w] at y2
            exact e ⟨y2.2.symm, y2.1⟩
          rw [eo 26 _ (by omega) (by omega) z hne, eo 27 _ (by omega) (by omega) z hne]; exact y2
    · have y := hor q q0 (by omega)
      by_cases e : q = o
      · subst e
        obtain ⟨b24, b25, b26, b27, b28, b30, bs⟩ := y
        have x24 := em 24 q (by omega)
        have x25 := em 25 q (by omega)
        have x10 := em 10 (mg T 24 q) (by omega)
        refine ⟨by rw [x24, e8]; exact b24, by rw [x25]; exact b25, by omega, ⟨by omega, by omega, fun z => by omega, by omega⟩, ?_, by omega, fun c c0 c6 => ?_⟩
        · rw [x24, x25, x26, x28, x29, show mnK S' (mg T 24 q) = mnK T (mg T 24 q) from x10]
          exact ⟨by omega, by omega, by omega, by omega, fun z => by omega, fun z => by omega, fun _ _ => ⟨rfl, rfl⟩⟩
        · have y := bs c c0 c6
          dsimp only [sdK] at y ⊢
          rw [em 31 _ (by omega), x26]
          exact ⟨y.1, y.2.1, fun z => by omega⟩
      · refine ord_loc y (fun a a1 a2 => ?_) (fun c c0 c6 => em 31 _ (by omega)) (by omega) (by omega) (fun z => ?_) (hde _ y.1.1 y.1.2) (desEq_ag hag hk9 _)
        · by_cases h26 : a < 26
          · exact em a q (by omega)
          · exact eo a q (by omega) a2 q0 e
        · have y2 := y.2.2.2.1.2.2.1 z
          rw [e17 _ z, if_neg (fun w => e ?_)]
          · exact y2
          · rw [w.1] at y2
            rw [← y2]
            exact y27.2.2.1 (y27.2.2.2.mp w.2)
    · obtain ⟨z1, z2, z3⟩ := hfr.2.1 i' (by omega) b
      exact ⟨(em 18 _ (by omega)).trans z1, (em 19 _ (by omega)).trans z2, fun k k0 k6 => (em 21 _ (by omega)).trans (z3 k k0 k6)⟩
    · obtain ⟨z1, z2, z3, z4, z5⟩ := hfr.2.2 o' (by omega) b
      have q0 : 0 ≤ o' := by omega
      have qo : o' ≠ o := by omega
      exact ⟨(eo 26 _ (by omega) (by omega) q0 qo).trans z1, (eo 28 _ (by omega) (by omega) q0 qo).trans z2, (eo 29 _ (by omega) (by omega) q0 qo).trans z3, (eo 30 _ (by omega) (by omega) q0 qo).trans z4, fun c c0 c6 => (em 31 _ (by omega)).trans (z5 c c0 c6)⟩
  · rw [h2 hk]; exact (h.up hn).th0

