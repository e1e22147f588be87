theorem hset_0 {R : Sto} {i : Int} (h : ∀ k, 0 ≤ k → k < 6 → hdK R i k = -1) : ∀ k : Nat, k ≤ 6 → hset R i k = 0
  | 0, _ => rfl
  | k + 1, hk => by
    unfold hset
    rw [h k (by omega) (by omega), if_pos rfl, hset_0 h k (by omega)]
theorem mcF_1 {S : Sto} {u : Nat} {i a w g : Int} {t : Nat} : (mcFin S u i a w g).1 t = if t = u + 1 then some (100, 6) else if t = u then some (1, 9) else S.1 t := rfl
theorem mcF_2 {S : Sto} {u : Nat} {i a w g : Int} {t k : Nat} : (mcFin S u i a w g).2.1 t k = if t = u ∧ k = 3 then g else if t = u ∧ k = 2 then w else if t = u ∧ k = 1 then a else if t = u ∧ k = 0 then i else if t = u + 1 then 0 else if t = u then 0 else S.2.1 t k := rfl
theorem mcF_3 {S : Sto} {u : Nat} {i a w g : Int} {t k : Nat} : (mcFin S u i a w g).2.2 t k = if t = 6 ∧ k = i.toNat then some u else if t = u ∧ k = 8 then some (u + 1) else if t = u + 1 then none else if t = u then none else S.2.2 t k := rfl
def em0 : Nat → Int := fun e => e
theorem ag_machine {n : Int} {B : Nat → Nat} {N : Nat} {S R : Sto} {a w g : Int} (h : CI B N S R) (hI : MI n R) (ha : InR a) (hw : InR w) (hg : InR g) {post : Res → Sto → Prop} (hp : ∀ r S1, okr [1, 2] r = true → tyF S S1 → agC em0 (machineR R a w g) r S1 → post r S1) : s_machineC [vT 1, vI a, vI w, vI g] S post := by
  have e5 := h.2.1.2.2.1
  have hN1 := hI.2.1
  refine ⟨wOf B R, h.cw hI, ⟨ha, hw, hg⟩, fun hn => hp _ _ rfl (fun _ _ => rfl) fun k v R' ho => ?_, fun hv hn => hp _ _ rfl (fun _ _ => rfl) fun k v R' ho => ?_, fun hv hx => ?_⟩
  · obtain ⟨o1, o2, -⟩ := ho
    rw [if_pos hn] at o1
    rw [o2 (by omega)]
    exact ⟨o1, B, N, h.th hI _⟩
  · obtain ⟨o1, o2, -⟩ := ho
    rw [e5] at hn
    rw [if_neg (fun y => y hv), if_pos hn] at o1
    rw [o2 (by omega)]
    exact ⟨o1, B, N, h.th hI _⟩
  · rw [e5] at hx
    obtain ⟨-, -, ff, -⟩ := h.2.2.2.2.2.2.2
    refine ⟨_, rfl, ?_, ?_, hp _ _ rfl (fun t ht => by rw [updI_1, mcF_1, if_neg (by omega), if_neg (by omega)]) fun k v R' ho => ?_⟩
    · have := ff (nM R).toNat 0 (by omega) (by omega) (by omega)
      rw [e5]; exact this
    · have := ff (nM R).toNat 1 (by omega) (by omega) (by omega)
      rw [e5]; exact this
    · obtain ⟨o1, -, o3⟩ := ho
      rw [if_neg (fun y => y hv), if_neg (by omega)] at o1
      obtain ⟨o4, o5⟩ := o3 o1
      refine ⟨⟨o1, by rw [o4, e5]⟩, B, N, ?_⟩
      rw [e5]
      obtain ⟨q, hq⟩ : ∃ q : Nat, q = (nM R).toNat := ⟨_, rfl⟩
      have hqi : nM R = (q : Int) := by omega
      rw [← hq]
      rw [← hq, hqi] at o5
      obtain ⟨X, hX⟩ : ∃ X, X = updI (updI (updI (updI (thr R 0) (mt 14) q a) (mt 15) q w) (mt 16) q g) (mt 17) q (-1) := ⟨_, rfl⟩
      rw [← hX] at o5
      have gX : ∀ (b : Nat) (i : Int), b ≠ 20 → mg R' b i = mg X b i := fun b i x => by
        rw [o5, mgF]; exact (fillH_ag 6).mg (by simp; omega)
      have hgg : ∀ (b : Nat) (i : Int), b ≠ 20 → ¬ ((14 ≤ b ∧ b ≤ 17) ∧ i.toNat = q) → mg R' b i = mg R b i := fun b i y x => by
        rw [gX b i y, hX, mgU, if_neg (by omega), mgU, if_neg (by omega), mgU, if_neg (by omega), mgU, if_neg (by omega)]; exact th_mg'
      have g20 : ∀ j : Int, 0 ≤ j → mg R' 20 j = if 6 * (q : Int) ≤ j ∧ j < 6 * q + 6 then -1 else mg R 20 j := fun j j0 => by
        rw [o5, mgF, fillH_v (by omega) 6 20 j j0]
        by_cases y : 6 * (q : Int) ≤ j ∧ j < 6 * q + 6
        · rw [if_pos ⟨rfl, y⟩, if_pos y]
        · rw [if_neg (fun z => y z.2), if_neg y, hX, mgU, if_neg (by omega), mgU, if_neg (by omega), mgU, if_neg (by omega), mgU, if_neg (by omega)]; exact th_mg'
      have g14 : mg R' 14 q = a := by rw [gX 14 _ (by omega), hX]; simp [mgU]
      have g15 : mg R' 15 q = w := by rw [gX 15 _ (by omega), hX]; simp [mgU]
      have g16 : mg R' 16 q = g := by rw [gX 16 _ (by omega), hX]; simp [mgU]
      have g17 : mg R' 17 q = -1 := by rw [gX 17 _ (by omega), hX]; simp [mgU]
      have n8 : nD R' = nD R := by rw [o5]; exact ((mfF.trans (if_neg (by omega))).trans (fillH_ag 6).mf).trans (by rw [hX]; rfl)
      have n23 : nO R' = nO R := by rw [o5]; exact ((mfF.trans (if_neg (by omega))).trans (fillH_ag 6).mf).trans (by rw [hX]; rfl)
      have n13 : nM R' = (q : Int) + 1 := by rw [o5]; exact mfF.trans (if_pos rfl)
      obtain ⟨z18, z19, z21⟩ := hI.2.2.2.2.2.2.1.2.1 q (by omega) (by omega)
      have hmac := hI.2.2.2.2.1
      obtain ⟨S2, hS2⟩ : ∃ S2, S2 = updI (mcFin S (1024 + 16 * q) (nM R) a w g) 1 5 (nM R + 1) := ⟨_, rfl⟩
      rw [← hS2]
      have t1 : ∀ t, S2.1 t = if t = 1024 + 16 * q + 1 then some (100, 6) else if t = 1024 + 16 * q then some (1, 9) else S.1 t := fun t => by rw [hS2, updI_1]; exact mcF_1
      have t2 : ∀ t k, S2.2.1 t k = if t = 1 ∧ k = 5 then nM R + 1 else if t = 1024 + 16 * q ∧ k = 3 then g else if t = 1024 + 16 * q ∧ k = 2 then w else if t = 1024 + 16 * q ∧ k = 1 then a else if t = 1024 + 16 * q ∧ k = 0 then nM R else if t = 1024 + 16 * q + 1 then 0 else if t = 1024 + 16 * q then 0 else S.2.1 t k := fun t k => by rw [hS2, updI_2, mcF_2]
      have t3 : ∀ t k, S2.2.2 t k = if t = 6 ∧ k = q then some (1024 + 16 * q) else if t = 1024 + 16 * q ∧ k = 8 then some (1024 + 16 * q + 1) else if t = 1024 + 16 * q + 1 then none else if t = 1024 + 16 * q then none else S.2.2 t k := fun t k => by rw [hS2, updI_3, mcF_3, hq]
      have hsm : ∀ t, t ≠ 1 → t ≠ 6 → t ≠ 1024 + 16 * q → t ≠ 1024 + 16 * q + 1 → sm S S2 t := fun t x b c e => ⟨by rw [t1, if_neg e, if_neg c], by funext k; rw [t2, if_neg (by omega), if_neg (by omega), if_neg (by omega), if_neg (by omega), if_neg (by omega), if_neg e, if_neg c], by funext k; rw [t3, if_neg (by omega), if_neg (by omega), if_neg e, if_neg c]⟩
      obtain ⟨u1, u2⟩ := h.upper (R' := R') (S' := S2) hI (fun t ht => hsm t (by omega) (by omega) (by omega) (by omega)) (hsm 4 (by omega) (by omega) (by omega) (by omega)).2.2 (hsm 5 (by omega) (by omega) (by omega) (by omega)).2.2 (fun a i ha => hgg a i (by omega) (by omega)) n8
      obtain ⟨h1, ⟨e1, e3, e5, e7⟩, -, -, hm, hoo, hst', hf⟩ := h
      have r1 : S2.2.2 1 = S.2.2 1 := by funext k; rw [t3, if_neg (by omega), if_neg (by omega), if_neg (by omega), if_neg (by omega)]
      have f1 : ∀ k, k ≠ 5 → S2.2.1 1 k = S.2.1 1 k := fun k hk => by rw [t2, if_neg (by omega), if_neg (by omega), if_neg (by omega), if_neg (by omega), if_neg (by omega), if_neg (by omega), if_neg (by omega)]
      have fu : ∀ k, k ≠ 0 → k ≠ 1 → k ≠ 2 → k ≠ 3 → S2.2.1 (1024 + 16 * q) k = 0 := fun k k0 k1 k2 k3 => by rw [t2, if_neg (by omega), if_neg (fun y => k3 y.2), if_neg (fun y => k2 y.2), if_neg (fun y => k1 y.2), if_neg (fun y => k0 y.2), if_neg (by omega), if_pos rfl]
      have hnl : nlA S2 := ⟨h1.nl.1.fr (f1 3 (by omega)) (hsm 5 (by omega) (by omega) (by omega) (by omega)).2.2, h1.nl.2.1.add (u := 1024 + 16 * q) (by omega) (by rw [t2, if_pos ⟨rfl, rfl⟩, e5]) fun k => by
        rw [t3, show (S.2.1 1 5).toNat = q by omega]
        by_cases y : k = q
        · rw [if_pos ⟨rfl, y⟩, if_pos y]
        · rw [if_neg (fun z => y z.2), if_neg (by omega), if_neg (by omega), if_neg (by omega), if_neg y], h1.nl.2.2.fr (f1 7 (by omega)) (hsm 7 (by omega) (by omega) (by omega) (by omega)).2.2⟩
      refine ⟨h1.fl (fun t ht => by rw [t1, if_neg (by omega), if_neg (by omega)]) ⟨r1, (hsm 8 (by omega) (by omega) (by omega) (by omega)).2.2⟩ hnl, ⟨?_, ?_, ?_, ?_⟩, u1, u2, fun i hi => ?_, fun o2 ho2 => ?_, fun k hk => ?_, ?_⟩
      · rw [f1 1 (by omega), e1]; exact (hgg 1 6 (by omega) (by omega)).symm
      · rw [f1 3 (by omega), e3, n8]
      · rw [t2, if_pos ⟨rfl, rfl⟩, n13, hqi]
      · rw [f1 7 (by omega), e7, n23]
      · rw [n13] at hi
        by_cases x : i = q
        · subst x
          have hh : ∀ k, 0 ≤ k → k < 6 → hdK R' i k = -1 := fun k k0 k6 => by
            rw [show hdK R' i k = _ from g20 _ (by omega), if_pos (by omega)]
          refine ⟨⟨by rw [t3, if_pos ⟨rfl, rfl⟩], by rw [t1, if_neg (by omega), if_pos rfl], by rw [t3, if_neg (by omega), if_pos ⟨rfl, rfl⟩], by rw [t1, if_pos rfl]⟩, ⟨?_, ?_, ?_, ?_, ?_, ?_, ?_⟩, ?_, fun c hc => ?_, fun k k0 k1 k2 => ?_⟩
          · rw [t2, if_neg (by omega), if_neg (by omega), if_neg (by omega), if_neg (by omega), if_pos ⟨rfl, rfl⟩, hqi]
          · rw [t2, if_neg (by omega), if_neg (by omega), if_neg (by omega), if_pos ⟨rfl, rfl⟩, g14]
          · rw [t2, if_neg (by omega), if_neg (by omega), if_pos ⟨rfl, rfl⟩, g15]
          · rw [t2, if_neg (by omega), if_pos ⟨rfl, rfl⟩, g16]
          · rw [fu 5 (by omega) (by omega) (by omega) (by omega), hgg 18 _ (by omega) (by omega), z18]
          · rw [fu 6 (by omega) (by omega) (by omega) (by omega), g14, hset_0 hh _ (by omega)]; rfl
          · rw [fu 7 (by omega) (by omega) (by omega) (by omega), hgg 19 _ (by omega) (by omega), z19]
          · rw [t3, if_neg (by omega), if_neg (by omega), if_neg (by omega), if_pos rfl, g17, if_pos rfl]
          · rw [t2, if_neg (by omega), if_neg (by omega), if_neg (by omega), if_neg (by omega), if_neg (by omega), if_pos rfl, hgg 19 _ (by omega) (by omega), z19]; omega
          · exact absurd (hh k k0 (by omega)) k2
        · have hmi := hmac i (by omega) (by omega)
          refine (hm i (by omega)).fl hmi.1.2 (by rw [t3, if_neg (by omega), if_neg (by omega), if_neg (by omega), if_neg (by omega)]) (hsm _ (by omega) (by omega) (by omega) (by omega)) (hsm _ (by omega) (by omega) (by omega) (by omega)) (fun a a1 a2 => hgg a _ (by omega) (by omega)) (fun k k0 k6 => ⟨?_, hgg 21 _ (by omega) (by omega)⟩)
          rw [show hdK R' i k = _ from g20 _ (by omega), if_neg (by omega)]
      · rw [n23] at ho2
        exact (hoo o2 ho2).fr (hsm 7 (by omega) (by omega) (by omega) (by omega)).2.2 (hsm _ (by omega) (by omega) (by omega) (by omega)) (hsm _ (by omega) (by omega) (by omega) (by omega)) (fun a j ha => hgg a j (by omega) (by omega))
      · rw [(hsm 9 (by omega) (by omega) (by omega) (by omega)).2.1, hgg 22 _ (by omega) (by omega)]; exact hst' k hk
      · obtain ⟨y1, y2, y3, y4⟩ := hf
        refine ⟨fun t ht => ?_, fun d j a b c => ?_, fun i j a b c => ?_, fun o j a b c => ?_⟩
        · rw [t1, if_neg (by omega), if_neg (by omega)]; exact y1 t ht
        · rw [n8] at a
          rw [t1, if_neg (by omega), if_neg (by omega)]; exact y2 d j a b c
        · rw [n13] at a
          rw [t1, if_neg (by omega), if_neg (by omega)]; exact y3 i j (by omega) b c
        · rw [n23] at a
          rw [t1, if_neg (by omega), if_neg (by omega)]; exact y4 o j a b c

