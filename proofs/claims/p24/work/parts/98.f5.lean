/-! what stays of one machine, one order, one draft where a call changes others -/
theorem hset_fl {R R' : Sto} {i : Int} (h : ∀ k, 0 ≤ k → k < 6 → hdK R' i k = hdK R i k) : ∀ k : Nat, k ≤ 6 → hset R' i k = hset R i k
  | 0, _ => rfl
  | k + 1, hk => by
    unfold hset
    rw [h k (by omega) (by omega), hset_fl h k (by omega)]
theorem mcI.fl {S S' R R' : Sto} {i : Nat} (h : mcI S R i) (h14 : mg R 14 i ≤ 6) (h6 : S'.2.2 6 i = S.2.2 6 i) (s1 : sm S S' (1024 + 16 * i)) (s2 : sm S S' (1024 + 16 * i + 1)) (hR : ∀ a : Nat, 14 ≤ a → a ≤ 19 → mg R' a i = mg R a i) (h20 : ∀ k, 0 ≤ k → k < 6 → hdK R' i k = hdK R i k ∧ ltK R' i k = ltK R i k) : mcI S' R' i := by
  obtain ⟨⟨a1, a2, a3, a4⟩, b, c, d, e⟩ := h
  unfold mcI
  rw [h6, s1.2.1, s2.2.1, s1.2.2, hR 14 (by omega) (by omega), hR 15 (by omega) (by omega), hR 16 (by omega) (by omega), hR 17 (by omega) (by omega), hR 18 (by omega) (by omega), hR 19 (by omega) (by omega), hset_fl (fun k k0 k6 => (h20 k k0 k6).1) _ (by omega)]
  refine ⟨⟨a1, ?_⟩, b, c, d, fun k k0 k1 k2 => ?_⟩
  · exact ⟨by rw [s1.1]; exact a2, by rw [s1.2.2]; exact a3, by rw [s2.1]; exact a4⟩
  · obtain ⟨x1, x2⟩ := h20 k k0 (by omega)
    rw [x1] at k2 ⊢
    rw [x2]
    exact e k k0 k1 k2
theorem odI.fl {S S' R R' : Sto} {o : Nat} (h : odI S R o) (h7 : S'.2.2 7 o = S.2.2 7 o) (s1 : sm S S' (2048 + 16 * o)) (s2 : sm S S' (2048 + 16 * o + 1)) (hR : ∀ a : Nat, 24 ≤ a → a ≤ 30 → mg R' a o = mg R a o) (h31 : ∀ c : Nat, c < 6 → sdK R' o c = sdK R o c) : odI S' R' o := by
  obtain ⟨⟨a1, a2, a3, a4, a5⟩, b, c, d⟩ := h
  unfold odI
  rw [h7, s1.2.1, s2.2.1, s1.2.2, hR 24 (by omega) (by omega), hR 25 (by omega) (by omega), hR 26 (by omega) (by omega), hR 27 (by omega) (by omega), hR 28 (by omega) (by omega), hR 29 (by omega) (by omega), hR 30 (by omega) (by omega)]
  refine ⟨⟨a1, ?_⟩, b, c, fun k hk => ?_⟩
  · exact ⟨by rw [s1.1]; exact a2, by rw [s1.2.2]; exact a3, by rw [s2.1]; exact a4, by rw [s1.2.2]; exact a5⟩
  · rw [h31 k hk]
    exact d k hk
theorem cfC.fl {S S' : Sto} (h : cfC S) (h1 : ∀ t, t ≤ 9 → S'.1 t = S.1 t) (h2 : S'.2.2 1 = S.2.2 1 ∧ S'.2.2 8 = S.2.2 8) (h3 : nlA S') : cfC S' := by
  obtain ⟨a1, a2, a3, a4, a5, a6, a7, a8, a9, a10, ⟨b1, b2, b3⟩, c⟩ := h
  refine ⟨?_, ?_, ?_, ?_, ?_, ?_, ?_, ?_, ?_, ?_, ⟨?_, ?_, ?_⟩, h3⟩ <;> (first | rw [h1 _ (by omega)] | rw [h2.1] | rw [h2.2]) <;> assumption
theorem orF_1 {S : Sto} {u T : Nat} {i p : Int} {t : Nat} : (orFin S u T i p).1 t = if t = u + 1 then some (100, 6) else if t = u then some (2, 9) else S.1 t := rfl
theorem orF_2 {S : Sto} {u T : Nat} {i p : Int} {t k : Nat} : (orFin S u T i p).2.1 t k = if t = u + 1 then (if k < 6 then -1 else 0) else if t = u then (if k = 2 then p else if k = 0 then i else 0) else S.2.1 t k := by
  show (fillO (orN (newS S u (2, clN 2)) u T i p) u 6).2.1 t k = _
  by_cases e : t = u + 1
  · subst e
    rw [fillO_v, if_pos rfl]
    by_cases x : k < 6
    · rw [if_pos x, if_pos x]
    · rw [if_neg x, if_neg x]
      unfold orN
      rw [updI_2, if_neg (by omega), updR_2, updI_2, if_neg (by omega), updI_2, if_neg (by omega), updR_2, newS_2, if_pos rfl]
  · rcases fillO_ag (T := orN (newS S u (2, clN 2)) u T i p) (u := u) 6 with h | h
    · obtain ⟨-, -, h3, -⟩ := h
      rw [h3 t e, if_neg e]
      unfold orN
      rw [updI_2]
      by_cases y : t = u
      · rw [if_pos y]
        by_cases z : k = 2
        · rw [if_pos ⟨y, z⟩, if_pos z]
        · rw [if_neg (fun q => z q.2), if_neg z, updR_2, updI_2]
          by_cases w : k = 0
          · rw [if_pos ⟨y, w⟩, if_pos w]
          · rw [if_neg (fun q => w q.2), if_neg w, updI_2]
            by_cases v : k = 4
            · rw [if_pos ⟨y, v⟩]
            · rw [if_neg (fun q => v q.2), updR_2, newS_2, if_neg e, newS_2, if_pos y]
      · rw [if_neg (fun q => y q.1), updR_2, updI_2, if_neg (fun q => y q.1), updI_2, if_neg (fun q => y q.1), updR_2, newS_2, if_neg e, newS_2, if_neg y, if_neg y]
    · omega
theorem orF_3 {S : Sto} {u T : Nat} {i p : Int} {t k : Nat} (hu : u ≠ 7) : (orFin S u T i p).2.2 t k = if t = 7 ∧ k = i.toNat then some u else if t = u + 1 then none else if t = u then (if k = 1 then some T else if k = 3 then some (u + 1) else none) else S.2.2 t k := by
  show (if t = 7 ∧ k = i.toNat then some u else (if t = u ∧ k = 1 then some T else if t = u ∧ k = 3 then some (u + 1) else if t = u + 1 then none else if t = u then none else S.2.2 t k)) = _
  by_cases a : t = 7 ∧ k = i.toNat
  · rw [if_pos a, if_pos a]
  · rw [if_neg a, if_neg a]
    by_cases b : t = u
    · by_cases c : k = 1
      · rw [if_pos ⟨b, c⟩, if_neg (by omega), if_pos b, if_pos c]
      · by_cases d : k = 3
        · rw [if_neg (fun q => c q.2), if_pos ⟨b, d⟩, if_neg (show ¬ t = u + 1 by omega), if_pos b, if_neg c, if_pos d]
        · rw [if_neg (fun q => c q.2), if_neg (fun q => d q.2), if_neg (show ¬ t = u + 1 by omega), if_pos b, if_neg (show ¬ t = u + 1 by omega), if_pos b, if_neg c, if_neg d]
    · rw [if_neg (fun q => b q.1), if_neg (fun q => b q.1), if_neg b, if_neg b]
theorem ag_order {n : Int} {B : Nat → Nat} {N : Nat} {S R : Sto} {d p : Int} (h : CI B N S R) (hI : MI n R) (hd : InR d) (hpp : InR p) {post : Res → Sto → Prop} (hp : ∀ r S1, okr [0, 1, 2] r = true → tyF S S1 → agC em1 (orderR R d p) r S1 → post r S1) : s_orderC [vT 1, vI d, vI p] S post := by
  have e3 := h.2.1.2.1
  have e7 := h.2.1.2.2.2
  have hN1 := hI.2.1
  refine ⟨wOf B R, h.cw hI, ⟨hd, hpp⟩, fun hn => hp _ _ rfl (fun _ _ => rfl) fun k v R' ho => ?_, fun hv hn => hp _ _ rfl (fun _ _ => rfl) fun k v R' ho => ?_, fun hv hw hn => hp _ _ rfl (fun _ _ => rfl) fun k v R' ho => ?_, fun hv hw hx => ?_⟩
  · obtain ⟨o1, o2, -⟩ := ho
    rw [e3] at hn
    rw [if_pos hn] at o1
    rw [o2 (by omega)]
    exact ⟨o1, B, N, h.th hI _⟩
  · obtain ⟨o1, o2, -⟩ := ho
    rw [e3] at hv
    rw [if_neg (fun y => y hv), if_pos hn] at o1
    rw [o2 (by omega)]
    exact ⟨o1, B, N, h.th hI _⟩
  · obtain ⟨o1, o2, -⟩ := ho
    rw [e3] at hv
    rw [e7] at hn
    rw [if_neg (fun y => y hv), if_neg (fun y => y hw), if_pos hn] at o1
    rw [o2 (by omega)]
    exact ⟨o1, B, N, h.th hI _⟩
  · rw [e3] at hv
    rw [e7] at hx
    obtain ⟨-, -, -, ff⟩ := h.2.2.2.2.2.2.2
    refine ⟨_, rfl, ?_, ?_, hp _ _ rfl (fun t ht => by rw [updI_1, orF_1, if_neg (by omega), if_neg (by omega)]) fun k v R' ho => ?_⟩
    · have := ff (nO R).toNat 0 (by omega) (by omega) (by omega)
      rw [e7]; exact this
    · have := ff (nO R).toNat 1 (by omega) (by omega) (by omega)
      rw [e7]; exact this
    · obtain ⟨o1, -, o3⟩ := ho
      rw [if_neg (fun y => y hv), if_neg (fun y => y hw), if_neg (by omega)] at o1
      obtain ⟨o4, o5⟩ := o3 o1
      refine ⟨⟨o1, by rw [o4, e7]⟩, B, N, ?_⟩
      rw [e7]
      obtain ⟨q, hq⟩ : ∃ q : Nat, q = (nO R).toNat := ⟨_, rfl⟩
      have hqi : nO R = (q : Int) := by omega
      rw [← hq]
      rw [← hq] at o5
      have hgg : ∀ (a : Nat) (i : Int), ¬ ((a = 24 ∨ a = 25 ∨ a = 27) ∧ i.toNat = q) → mg R' a i = mg R a i := fun a i x => by
        rw [o5, mgF, mgU, if_neg (by omega), mgU, if_neg (by omega), mgU, if_neg (by omega)]; exact th_mg'
      have g24 : mg R' 24 q = d := by rw [o5]; simp [mgF, mgU]
      have g25 : mg R' 25 q = p := by rw [o5]; simp [mgF, mgU]
      have g27 : mg R' 27 q = -1 := by rw [o5]; simp [mgF, mgU]
      have n8 : nD R' = nD R := by rw [o5]; rfl
      have n13 : nM R' = nM R := by rw [o5]; rfl
      have n23 : nO R' = (q : Int) + 1 := by rw [o5, hqi]; rfl
      obtain ⟨z26, z28, z29, z30, z31⟩ := hI.2.2.2.2.2.2.1.2.2 q (by omega) (by omega)
      obtain ⟨S2, hS2⟩ : ∃ S2, S2 = updI (orFin S (2048 + 16 * q) (4096 + 16 * d.toNat) (nO R) p) 1 7 (nO R + 1) := ⟨_, rfl⟩
      rw [← hS2]
      have t1 : ∀ t, S2.1 t = if t = 2048 + 16 * q + 1 then some (100, 6) else if t = 2048 + 16 * q then some (2, 9) else S.1 t := fun t => by rw [hS2, updI_1]; exact orF_1
      have t2 : ∀ t k, S2.2.1 t k = if t = 1 ∧ k = 7 then nO R + 1 else if t = 2048 + 16 * q + 1 then (if k < 6 then -1 else 0) else if t = 2048 + 16 * q then (if k = 2 then p else if k = 0 then nO R else 0) else S.2.1 t k := fun t k => by rw [hS2, updI_2, orF_2]
      have t3 : ∀ t k, S2.2.2 t k = if t = 7 ∧ k = q then some (2048 + 16 * q) else if t = 2048 + 16 * q + 1 then none else if t = 2048 + 16 * q then (if k = 1 then some (4096 + 16 * d.toNat) else if k = 3 then some (2048 + 16 * q + 1) else none) else S.2.2 t k := fun t k => by rw [hS2, updI_3, orF_3 (by omega), hq]
      have hsm : ∀ t, t ≠ 1 → t ≠ 7 → t ≠ 2048 + 16 * q → t ≠ 2048 + 16 * q + 1 → sm S S2 t := fun t a b c e => ⟨by rw [t1, if_neg e, if_neg c], by funext k; rw [t2, if_neg (by omega), if_neg e, if_neg c], by funext k; rw [t3, if_neg (by omega), if_neg e, if_neg c]⟩
      obtain ⟨u1, u2⟩ := h.upper (R' := R') (S' := S2) hI (fun t ht => hsm t (by omega) (by omega) (by omega) (by omega)) (hsm 4 (by omega) (by omega) (by omega) (by omega)).2.2 (hsm 5 (by omega) (by omega) (by omega) (by omega)).2.2 (fun a i ha => hgg a i (by omega)) n8
      obtain ⟨h1, ⟨e1, e3, e5, e7⟩, -, -, hm, hoo, hst', hf⟩ := h
      have r1 : S2.2.2 1 = S.2.2 1 := by funext k; rw [t3, if_neg (by omega), if_neg (by omega), if_neg (by omega)]
      have f1 : ∀ k, k ≠ 7 → S2.2.1 1 k = S.2.1 1 k := fun k hk => by rw [t2, if_neg (by omega), if_neg (by omega), if_neg (by omega)]
      have hnl : nlA S2 := ⟨h1.nl.1.fr (f1 3 (by omega)) (hsm 5 (by omega) (by omega) (by omega) (by omega)).2.2, h1.nl.2.1.fr (f1 5 (by omega)) (hsm 6 (by omega) (by omega) (by omega) (by omega)).2.2, h1.nl.2.2.add (u := 2048 + 16 * q) (by omega) (by rw [t2, if_pos ⟨rfl, rfl⟩, e7]) fun k => by
        rw [t3, show (S.2.1 1 7).toNat = q by omega]
        by_cases y : k = q
        · rw [if_pos ⟨rfl, y⟩, if_pos y]
        · rw [if_neg (fun z => y z.2), if_neg (by omega), if_neg (by omega), if_neg y]⟩
      refine ⟨h1.fl (fun t ht => by rw [t1, if_neg (by omega), if_neg (by omega)]) ⟨r1, (hsm 8 (by omega) (by omega) (by omega) (by omega)).2.2⟩ hnl, ⟨?_, ?_, ?_, ?_⟩, u1, u2, fun i hi => ?_, fun o2 ho2 => ?_, fun k hk => ?_, ?_⟩
      · rw [f1 1 (by omega), e1]; exact (hgg 1 6 (by omega)).symm
      · rw [f1 3 (by omega), e3, n8]
      · rw [f1 5 (by omega), e5, n13]
      · rw [t2, if_pos ⟨rfl, rfl⟩, n23, hqi]
      · rw [n13] at hi
        exact (hm i hi).fr (hsm 6 (by omega) (by omega) (by omega) (by omega)).2.2 (hsm _ (by omega) (by omega) (by omega) (by omega)) (hsm _ (by omega) (by omega) (by omega) (by omega)) (fun a j ha => hgg a j (by omega))
      · rw [n23] at ho2
        by_cases x : o2 = q
        · subst x
          refine ⟨⟨by rw [t3, if_pos ⟨rfl, rfl⟩], by rw [t1, if_neg (by omega), if_pos rfl], by rw [t3, if_neg (by omega), if_neg (by omega), if_pos rfl, if_neg (by omega), if_pos rfl], by rw [t1, if_pos rfl], by rw [t3, if_neg (by omega), if_neg (by omega), if_pos rfl, if_pos rfl, g24]⟩, ⟨?_, ?_, ?_, ?_, ?_, ?_⟩, ?_, fun c hc => ?_⟩
          · rw [t2, if_neg (by omega), if_neg (by omega), if_pos rfl, if_neg (by omega), if_pos rfl, hqi]
          · rw [t2, if_neg (by omega), if_neg (by omega), if_pos rfl, if_pos rfl, g25]
          · rw [t2, if_neg (by omega), if_neg (by omega), if_pos rfl, if_neg (by omega), if_neg (by omega), hgg 26 _ (by omega), z26]
          · rw [t2, if_neg (by omega), if_neg (by omega), if_pos rfl, if_neg (by omega), if_neg (by omega), hgg 28 _ (by omega), z28]
          · rw [t2, if_neg (by omega), if_neg (by omega), if_pos rfl, if_neg (by omega), if_neg (by omega), hgg 29 _ (by omega), z29]
          · rw [t2, if_neg (by omega), if_neg (by omega), if_pos rfl, if_neg (by omega), if_neg (by omega), hgg 30 _ (by omega), z30]
          · rw [t3, if_neg (by omega), if_neg (by omega), if_pos rfl, if_neg (by omega), if_neg (by omega), g27, if_pos rfl]
          · rw [t2, if_neg (by omega), if_pos rfl, if_pos hc, show sdK R' o2 c = sdK R o2 c from hgg 31 _ (by omega), z31 c (by omega) (by omega)]
        · exact (hoo o2 (by omega)).fl (by rw [t3, if_neg (by omega), if_neg (by omega), if_neg (by omega)]) (hsm _ (by omega) (by omega) (by omega) (by omega)) (hsm _ (by omega) (by omega) (by omega) (by omega)) (fun a a1 a2 => hgg a _ (by omega)) (fun c hc => hgg 31 _ (by omega))
      · rw [(hsm 9 (by omega) (by omega) (by omega) (by omega)).2.1, hgg 22 _ (by omega)]; exact hst' k hk
      · obtain ⟨y1, y2, y3, y4⟩ := hf
        refine ⟨fun t ht => ?_, fun d j a b c => ?_, fun i j a b c => ?_, fun o j a b c => ?_⟩
        · rw [t1, if_neg (by omega), if_neg (by omega)]; exact y1 t ht
        · rw [n8] at a
          rw [t1, if_neg (by omega), if_neg (by omega)]; exact y2 d j a b c
        · rw [n13] at a
          rw [t1, if_neg (by omega), if_neg (by omega)]; exact y3 i j a b c
        · rw [n23] at a
          rw [t1, if_neg (by omega), if_neg (by omega)]; exact y4 o j (by omega) b c

