/-- an order that waits has no shades -/
def SI0 (R : Sto) : Prop := ∀ o : Nat, (o : Int) < nO R → mg R 26 o = 0 → ∀ c : Nat, c < 6 → sdK R o c = -1
theorem fillG_v {S : Sto} {u : Nat} {nd sf : Int → Int} : ∀ (n j : Nat), (fillG S u nd sf n).2.1 (u + 1) j = if j < n ∧ 0 < nd j then sf j else S.2.1 (u + 1) j
  | 0, j => by rw [if_neg (by omega)]; rfl
  | n + 1, j => by
    have ih := fillG_v (S := S) (u := u) (nd := nd) (sf := sf) n j
    unfold fillG
    by_cases e : 0 < nd n
    · rw [if_pos e, updI_2]
      by_cases z : j = n
      · subst z
        rw [if_pos ⟨rfl, (Int.toNat_natCast j).symm⟩, if_pos ⟨by omega, e⟩]
      · rw [if_neg (by rw [Int.toNat_natCast]; omega), ih]
        by_cases y : j < n ∧ 0 < nd j
        · rw [if_pos y, if_pos ⟨by omega, y.2⟩]
        · rw [if_neg y, if_neg (fun q => y ⟨by omega, q.2⟩)]
    · rw [if_neg e, ih]
      by_cases y : j < n ∧ 0 < nd j
      · rw [if_pos y, if_pos ⟨by omega, y.2⟩]
      · rw [if_neg y, if_neg (fun q => y ⟨by
          rcases (show j < n ∨ j = n by omega) with w | w
          · exact w
          · subst w; exact absurd q.2 e, q.2⟩)]
theorem spK_e {B : Nat → Nat} {N : Nat} {S R : Sto} (h : CI B N S R) {c s : Int} (hc : 0 ≤ c ∧ c < 6) (hs : 0 ≤ s ∧ s < 3) : spK S 8 c s = mg R 22 (3 * c + s) := by
  have := h.2.2.2.2.2.2.1 (3 * c + s).toNat (by omega)
  rw [Int.toNat_of_nonneg (by omega)] at this
  exact this
theorem nd_0 {p c : Int} (hp : 1 ≤ p) (hc : 0 ≤ c) : (p * c ≤ 0 ↔ c = 0) ∧ (0 < p * c ↔ c ≠ 0) := by
  by_cases e : c = 0
  · subst e; rw [Int.mul_zero]; omega
  · have := Int.mul_pos (show (0 : Int) < p by omega) (show (0 : Int) < c by omega); omega
theorem ag_start {n : Int} {B : Nat → Nat} {N : Nat} {S R : Sto} {o m : Int} (h : CI B N S R) (hI : MI n R) (h0 : SI0 R) (hio : InR o) (him : InR m) {post : Res → Sto → Prop} (hp : ∀ r S1, okv [0, 2] r = true → tyF S S1 → agC em2 (fun k _ R' => startR R o m k R') r S1 → post r S1) : s_startC [vT 1, vI o, vI m] S post := by
  have e5 := h.2.1.2.2.1
  have e7 := h.2.1.2.2.2
  have hN1 := hI.2.1
  refine ⟨wOf B R, h.cw hI, ⟨hio, him⟩, fun hn => hp _ _ rfl (fun _ _ => rfl) fun k v R' ho => ?_, fun hv => ?_⟩
  · obtain ⟨o1, o2, -⟩ := ho
    rw [e5, e7] at hn
    have k1 : k = 1 := by
      rcases o1 with w | w | w
      · exact w.2
      · exact absurd w.1 hn
      · exact absurd w.1 hn
    rw [o2 (by omega)]
    exact ⟨k1, B, N, h.th hI _⟩
  · rw [e5, e7] at hv
    have hoo : ((o.toNat : Nat) : Int) = o := Int.toNat_of_nonneg hv.1
    have hmm : ((m.toNat : Nat) : Int) = m := Int.toNat_of_nonneg hv.2.2.1
    have hoI := h.2.2.2.2.2.1 o.toNat (by omega)
    have hmI := h.2.2.2.2.1 m.toNat (by omega)
    obtain ⟨c24, c25, -⟩ := hI.2.2.2.2.2.1 o hv.1 hv.2.1
    obtain ⟨-, a2'⟩ := h.2.2.2.1 (mg R 24 o).toNat (by omega)
    have hD := hI.2.2.2.1 _ c24.1 c24.2
    have hdd : (((mg R 24 o).toNat : Nat) : Int) = mg R 24 o := Int.toNat_of_nonneg c24.1
    have hnd : ∀ c : Int, 0 ≤ c → ndO (wOf B R) S o.toNat c = needK R o c := fun c c0 => by
      have := need_e (o := o.toNat) (c := c) h hI (by omega) c0
      rw [hoo] at this
      exact this
    have hsf : ∀ c : Int, 0 ≤ c → c < 6 → sfO (wOf B R) S o.toNat c = shF R c (needK R o c) := fun c c0 c6 => by
      unfold sfO shF
      rw [hnd c c0, spK_e h ⟨c0, c6⟩ (s := 0) (by omega), spK_e h ⟨c0, c6⟩ (s := 1) (by omega), spK_e h ⟨c0, c6⟩ (s := 2) (by omega), Int.add_zero]
    have hcn : ∀ c : Int, (needK R o c ≤ 0 ↔ cntD R o c = 0) ∧ (0 < needK R o c ↔ cntD R o c ≠ 0) := fun c => nd_0 c25.1 (cntC_0 _).1
    have b4 : S.2.1 (2048 + 16 * o.toNat) 4 = mg R 26 o := by
      have := hoI.2.1.2.2.1
      rw [hoo] at this; exact this
    have a3 : S.2.2 (1024 + 16 * m.toNat) 4 = if mg R 17 m = -1 then none else some (2048 + 16 * (mg R 17 m).toNat) := by
      have := hmI.2.2.1
      rw [hmm] at this; exact this
    have hfit : (S.2.1 (4096 + 16 * (wOf B R).g o.toNat) 7 ≤ S.2.1 (1024 + 16 * m.toNat) 2 ∧ S.2.1 (4096 + 16 * (wOf B R).g o.toNat) 8 ≤ S.2.1 (1024 + 16 * m.toNat) 3) ↔ fitA R o m (mnK R (mg R 24 o)) := by
      obtain ⟨-, -, -, a5, -, -, a7⟩ := a2'
      rw [hdd] at a5 a7
      have m2 := hmI.2.1.2.2.1
      have m3 := hmI.2.1.2.2.2.1
      rw [hmm] at m2 m3
      rw [m2, m3]
      have hg : (wOf B R).g o.toNat = (mg R 24 o).toNat := by show (mg R 24 ((o.toNat : Nat) : Int)).toNat = _; rw [hoo]
      rw [hg]
      exact hoop_e hD a5 a7 _ _
    have hcan : canC (wOf B R) S o.toNat m.toNat ↔ canSt R o m := by
      unfold canC canSt fitP fitB
      rw [b4, a3]
      have q1 : (if mg R 17 m = -1 then none else some (2048 + 16 * (mg R 17 m).toNat)) = none ↔ mg R 17 m = -1 := by
        by_cases e : mg R 17 m = -1
        · rw [if_pos e]; exact ⟨fun _ => e, fun _ => rfl⟩
        · rw [if_neg e]; exact ⟨(fun z => by cases z), (fun z => absurd z e)⟩
      have q2 : (∀ c : Nat, c < 6 → ndO (wOf B R) S o.toNat c ≤ 0 ∨ sfO (wOf B R) S o.toNat c ≠ -1) ↔ ∀ c, 0 ≤ c → c < 6 → cntD R o c = 0 ∨ shF R c (needK R o c) ≠ -1 := by
        constructor
        · intro w c c0 c6
          have := w c.toNat (by omega)
          rw [Int.toNat_of_nonneg c0, hnd c c0, hsf c c0 c6, (hcn c).1] at this
          exact this
        · intro w c c6
          have := w c (by omega) (by omega)
          rw [hnd c (by omega), hsf c (by omega) (by omega), (hcn c).1]
          exact this
      rw [q1, q2, ← hfit]
      constructor
      · rintro ⟨z1, z2, z3, z4, z5⟩; exact ⟨z1, z2, ⟨z3, z4⟩, z5⟩
      · rintro ⟨z1, z2, ⟨z3, z4⟩, z5⟩; exact ⟨z1, z2, z3, z4, z5⟩
    refine ⟨fun hn => hp _ _ rfl (fun _ _ => rfl) fun k v R' ho => ?_, fun hy => hp _ _ rfl (fun t _ => congrFun (fillG_ag 6 (by omega)).1 t) fun k v R' ho => ?_⟩
    · obtain ⟨o1, o2, -⟩ := ho
      have k2 : k = 2 := by
        rcases o1 with w | w | w
        · exact absurd hv w.1
        · exact absurd (hcan.mpr w.2.1) hn
        · exact w.2.2
      rw [o2 (by omega)]
      exact ⟨k2, B, N, h.th hI _⟩
    · have hy' := hcan.mp hy
      obtain ⟨o1, -, o3⟩ := ho
      have k0 : k = 0 := by
        rcases o1 with w | w | w
        · exact absurd hv w.1
        · exact w.2.2
        · exact absurd hy' w.2.1
      have hR := o3 k0
      refine ⟨k0, B, N, ?_⟩
      have hsd := h0 o.toNat (by omega) (by rw [hoo]; exact hy'.1)
      rw [hoo] at hsd
      have g31 : ∀ j : Int, 0 ≤ j → mg R' 31 j = if 6 * o ≤ j ∧ j < 6 * o + 6 then giv R o (j - 6 * o) else mg R 31 j := fun j j0 => by
        rw [hR, mgU, if_neg (by omega), mgU, if_neg (by omega), mgU, if_neg (by omega), fillS_v hv.1 6 31 j j0]
        by_cases y : 6 * o ≤ j ∧ j < 6 * o + 6
        · rw [if_pos ⟨rfl, y⟩, if_pos y]
        · rw [if_neg (fun z => y z.2), if_neg y]; exact th_mg'
      have hgg : ∀ (a : Nat) (i : Int), a ≠ 31 → ¬ (a = 26 ∧ i.toNat = o.toNat) → ¬ (a = 27 ∧ i.toNat = o.toNat) → ¬ (a = 17 ∧ i.toNat = m.toNat) → mg R' a i = mg R a i := fun a i x y z w => by
        rw [hR, mgU, if_neg w, mgU, if_neg z, mgU, if_neg y]
        exact ((fillS_ag 6).mg (by simp; omega)).trans th_mg'
      have g26 : mg R' 26 o = 1 := by rw [hR, mgU, if_neg (by omega), mgU, if_neg (by omega), mgU, if_pos ⟨rfl, rfl⟩]
      have g27 : mg R' 27 o = m := by rw [hR, mgU, if_neg (by omega), mgU, if_pos ⟨rfl, rfl⟩]
      have g17 : mg R' 17 m = o := by rw [hR, mgU, if_pos ⟨rfl, rfl⟩]
      have hN : nD R' = nD R ∧ nM R' = nM R ∧ nO R' = nO R := by
        rw [hR]
        have ha := fillS_ag (S := R) (T := thr R 0) (o := o) 6
        exact ⟨ha.mf (k := 8), ha.mf (k := 13), ha.mf (k := 23)⟩
      obtain ⟨u, hu⟩ : ∃ u, u = 2048 + 16 * o.toNat := ⟨_, rfl⟩
      obtain ⟨w, hw⟩ : ∃ w, w = 1024 + 16 * m.toNat := ⟨_, rfl⟩
      rw [← hu, ← hw]
      obtain ⟨F, hF⟩ : ∃ F, F = fillG S u (ndO (wOf B R) S o.toNat) (sfO (wOf B R) S o.toNat) 6 := ⟨_, rfl⟩
      rw [← hF]
      have ag := fillG_ag (S := S) (u := u) (nd := ndO (wOf B R) S o.toNat) (sf := sfO (wOf B R) S o.toNat) 6 (by omega)
      have fv : ∀ j : Nat, j < 6 → F.2.1 (u + 1) j = giv R o j := fun j hj => by
        rw [hF, fillG_v 6 j, hnd j (by omega), hsf j (by omega) (by omega)]
        unfold giv
        by_cases e : cntD R o j = 0
        · rw [if_pos e, if_neg (fun q => (hcn j).2.mp q.2 e), hu]
          have d9 := hoI.2.2.2 j hj
          rw [hoo] at d9
          rw [d9]; exact hsd j hj
        · rw [if_neg e, if_pos ⟨hj, (hcn j).2.mpr e⟩]
      rw [← hF] at ag
      obtain ⟨ag1, ag2, ag3, -⟩ := ag
      obtain ⟨S2, hS2⟩ : ∃ S2, S2 = updR (updR (updI F u 4 1) u 8 (some w)) w 4 (some u) := ⟨_, rfl⟩
      rw [← hS2]
      have t1 : S2.1 = S.1 := by rw [hS2]; exact ag1
      have t2 : ∀ t k, S2.2.1 t k = if t = u ∧ k = 4 then 1 else F.2.1 t k := fun t k => by rw [hS2]; rfl
      have t3 : ∀ t k, S2.2.2 t k = if t = w ∧ k = 4 then some u else if t = u ∧ k = 8 then some w else S.2.2 t k := fun t k => by
        rw [hS2, updR_3, updR_3, updI_3, ag2]
      have hsm : ∀ t, t ≠ u → t ≠ u + 1 → t ≠ w → sm S S2 t := fun t x y z => ⟨congrFun t1 t, by funext k; rw [t2, if_neg (fun q => x q.1), ag3 t y], by funext k; rw [t3, if_neg (fun q => z q.1), if_neg (fun q => x q.1)]⟩
      obtain ⟨u1, u2⟩ := h.upper (R' := R') (S' := S2) hI (fun t ht => hsm t (by omega) (by omega) (by omega)) (hsm 4 (by omega) (by omega) (by omega)).2.2 (hsm 5 (by omega) (by omega) (by omega)).2.2 (fun a i ha => hgg a i (by omega) (by omega) (by omega) (by omega)) hN.1
      have hmac := hI.2.2.2.2.1
      obtain ⟨h1, ⟨e1, e3, e5', e7'⟩, -, -, hm, hoo', hst', hf⟩ := h
      have f1 := hsm 1 (by omega) (by omega) (by omega)
      have fu : ∀ k, k ≠ 4 → S2.2.1 u k = S.2.1 u k := fun k hk => by rw [t2, if_neg (fun q => hk q.2), ag3 u (by omega)]
      refine ⟨h1.fr t1 ⟨f1.2.2, (hsm 8 (by omega) (by omega) (by omega)).2.2⟩ (h1.nl.fr (by rw [f1.2.1]) (by rw [f1.2.1]) (by rw [f1.2.1]) (hsm 5 (by omega) (by omega) (by omega)).2.2 (hsm 6 (by omega) (by omega) (by omega)).2.2 (hsm 7 (by omega) (by omega) (by omega)).2.2), ⟨?_, ?_, ?_, ?_⟩, u1, u2, fun i hi => ?_, fun q hq => ?_, fun k hk => ?_, hf.fr t1 hN⟩
      · rw [f1.2.1, e1]; exact (hgg 1 6 (by omega) (by omega) (by omega) (by omega)).symm
      · rw [f1.2.1, e3, hN.1]
      · rw [f1.2.1, e5', hN.2.1]
      · rw [f1.2.1, e7', hN.2.2]
      · rw [hN.2.1] at hi
        have r6 := (hsm 6 (by omega) (by omega) (by omega)).2.2
        by_cases x : i = m.toNat
        · subst x
          obtain ⟨⟨a1, a2, a3, a4⟩, b, c, d, e⟩ := hm m.toNat hi
          rw [← hw] at a1 a2 a3 a4 b c d e
          rw [hmm] at b c d e
          refine ⟨⟨by rw [r6, ← hw]; exact a1, by rw [t1, ← hw]; exact a2, by rw [t3, ← hw, if_neg (by omega), if_neg (by omega)]; exact a3, by rw [t1, ← hw]; exact a4⟩, ?_, ?_, ?_, ?_⟩
          · rw [← hw, hmm]
            have y : S2.2.1 w = S.2.1 w := by funext k; rw [t2, if_neg (by omega), ag3 w (by omega)]
            rw [y, hgg 14 _ (by omega) (by omega) (by omega) (by omega), hgg 15 _ (by omega) (by omega) (by omega) (by omega), hgg 16 _ (by omega) (by omega) (by omega) (by omega), hgg 18 _ (by omega) (by omega) (by omega) (by omega), hgg 19 _ (by omega) (by omega) (by omega) (by omega), hset_e (fun k => hgg 20 k (by omega) (by omega) (by omega) (by omega))]
            exact b
          · rw [← hw, hmm, t3, if_pos ⟨rfl, rfl⟩, g17, if_neg (by omega), hu]
          · intro c' hc'
            have y : S2.2.1 (w + 1) = S.2.1 (w + 1) := by funext k; rw [t2, if_neg (by omega), ag3 (w + 1) (by omega)]
            rw [← hw, hmm, y, hgg 19 _ (by omega) (by omega) (by omega) (by omega)]
            exact d c' hc'
          · intro k k0 k1 k2
            have y : S2.2.1 (w + 1) = S.2.1 (w + 1) := by funext k; rw [t2, if_neg (by omega), ag3 (w + 1) (by omega)]
            rw [hmm] at k1 k2 ⊢
            rw [hgg 14 _ (by omega) (by omega) (by omega) (by omega)] at k1
            rw [show hdK R' m k = hdK R m k from hgg 20 _ (by omega) (by omega) (by omega) (by omega)] at k2 ⊢
            rw [← hw, y, show ltK R' m k = ltK R m k from hgg 21 _ (by omega) (by omega) (by omega) (by omega)]
            exact e k k0 k1 k2
        · have hmi := hmac i (by omega) (by omega)
          exact (hm i hi).fl hmi.1.2 (by rw [r6]) (hsm _ (by omega) (by omega) (by omega)) (hsm _ (by omega) (by omega) (by omega)) (fun a a1 a2 => hgg a _ (by omega) (by omega) (by omega) (by omega)) (fun k k0 k6 => ⟨hgg 20 _ (by omega) (by omega) (by omega) (by omega), hgg 21 _ (by omega) (by omega) (by omega) (by omega)⟩)
      · rw [hN.2.2] at hq
        have r7 := (hsm 7 (by omega) (by omega) (by omega)).2.2
        by_cases x : q = o.toNat
        · subst x
          obtain ⟨⟨a1, a2, a3, a4, a5⟩, ⟨c0, c2, c4, c5, c6, c7⟩, c8, c9⟩ := hoo' o.toNat hq
          rw [← hu] at a1 a2 a3 a4 a5 c0 c2 c4 c5 c6 c7 c8 c9
          rw [hoo] at a5 c0 c2 c4 c5 c6 c7 c8 c9
          refine ⟨⟨by rw [r7, ← hu]; exact a1, by rw [t1, ← hu]; exact a2, by rw [t3, ← hu, if_neg (by omega), if_neg (by omega)]; exact a3, by rw [t1, ← hu]; exact a4, ?_⟩, ⟨?_, ?_, ?_, ?_, ?_, ?_⟩, ?_, fun c hc => ?_⟩
          · rw [t3, ← hu, if_neg (by omega), if_neg (by omega), hoo, hgg 24 _ (by omega) (by omega) (by omega) (by omega)]; exact a5
          · rw [← hu, fu 0 (by omega), hoo]; exact c0
          · rw [← hu, fu 2 (by omega), hoo, hgg 25 _ (by omega) (by omega) (by omega) (by omega)]; exact c2
          · rw [← hu, t2, if_pos ⟨rfl, rfl⟩, hoo]; exact g26.symm
          · rw [← hu, fu 5 (by omega), hoo, hgg 28 _ (by omega) (by omega) (by omega) (by omega)]; exact c5
          · rw [← hu, fu 6 (by omega), hoo, hgg 29 _ (by omega) (by omega) (by omega) (by omega)]; exact c6
          · rw [← hu, fu 7 (by omega), hoo, hgg 30 _ (by omega) (by omega) (by omega) (by omega)]; exact c7
          · rw [← hu, hoo, t3, if_neg (by omega), if_pos ⟨rfl, rfl⟩, g27, if_neg (by omega), hw]
          · rw [← hu, hoo, t2, if_neg (by omega), fv c hc, show sdK R' o c = _ from g31 _ (by omega), if_pos (by omega), show 6 * o + (c : Int) - 6 * o = c by omega]
        · refine (hoo' q hq).fl (by rw [r7]) (hsm _ (by omega) (by omega) (by omega)) (hsm _ (by omega) (by omega) (by omega)) (fun a a1 a2 => hgg a _ (by omega) (by omega) (by omega) (by omega)) (fun c hc => ?_)
          rw [show sdK R' q c = _ from g31 _ (by omega), if_neg (by omega)]
      · rw [(hsm 9 (by omega) (by omega) (by omega)).2.1, hgg 22 _ (by omega) (by omega) (by omega) (by omega)]; exact hst' k hk

