theorem hset_e {R R' : Sto} {i : Int} (h : ∀ k, mg R' 20 k = mg R 20 k) : ∀ k, hset R' i k = hset R i k
  | 0 => rfl
  | k + 1 => by
    unfold hset
    rw [show hdK R' i k = hdK R i k from h _, hset_e h k]
theorem mcI.fr {S S' R R' : Sto} {i : Nat} (h : mcI S R i) (h6 : S'.2.2 6 = S.2.2 6) (s1 : sm S S' (1024 + 16 * i)) (s2 : sm S S' (1024 + 16 * i + 1)) (hR : ∀ (a : Nat) (j : Int), 14 ≤ a ∧ a ≤ 21 → mg R' a j = mg R a j) : mcI S' R' i := by
  obtain ⟨⟨a1, a2, a3, a4⟩, b, c, d, e⟩ := h
  unfold mcI
  rw [h6, s1.2.1, s2.2.1, s1.2.2, hR 14 _ (by omega), hR 15 _ (by omega), hR 16 _ (by omega), hR 17 _ (by omega), hR 18 _ (by omega), hR 19 _ (by omega), hset_e (fun k => hR 20 k (by omega))]
  refine ⟨⟨a1, ?_⟩, b, c, d, fun k k0 k1 k2 => ?_⟩
  · exact ⟨by rw [s1.1]; exact a2, by rw [s1.2.2]; exact a3, by rw [s2.1]; exact a4⟩
  · rw [show hdK R' i k = hdK R i k from hR 20 _ (by omega)] at k2 ⊢
    rw [show ltK R' i k = ltK R i k from hR 21 _ (by omega)]
    exact e k k0 k1 k2
theorem odI.fr {S S' R R' : Sto} {o : Nat} (h : odI S R o) (h7 : S'.2.2 7 = S.2.2 7) (s1 : sm S S' (2048 + 16 * o)) (s2 : sm S S' (2048 + 16 * o + 1)) (hR : ∀ (a : Nat) (j : Int), 24 ≤ a ∧ a ≤ 31 → mg R' a j = mg R a j) : odI S' R' o := by
  obtain ⟨⟨a1, a2, a3, a4, a5⟩, b, c, d⟩ := h
  unfold odI
  rw [h7, s1.2.1, s2.2.1, s1.2.2, hR 24 _ (by omega), hR 25 _ (by omega), hR 26 _ (by omega), hR 27 _ (by omega), hR 28 _ (by omega), hR 29 _ (by omega), hR 30 _ (by omega)]
  refine ⟨⟨a1, ?_⟩, b, c, fun k hk => ?_⟩
  · exact ⟨by rw [s1.1]; exact a2, by rw [s1.2.2]; exact a3, by rw [s2.1]; exact a4, by rw [s1.2.2]; exact a5⟩
  · rw [show sdK R' o k = sdK R o k from hR 31 _ (by omega)]
    exact d k hk
theorem frI.fr {N : Nat} {S S' R R' : Sto} (h : frI N S R) (hS : S'.1 = S.1) (e : nD R' = nD R ∧ nM R' = nM R ∧ nO R' = nO R) : frI N S' R' := by
  unfold frI at h ⊢
  rw [hS, e.1, e.2.1, e.2.2]; exact h
theorem cfC.nl {S : Sto} (h : cfC S) : nlA S := h.2.2.2.2.2.2.2.2.2.2.2
theorem cfC.fr {S S' : Sto} (h : cfC S) (h1 : S'.1 = S.1) (h2 : S'.2.2 1 = S.2.2 1 ∧ S'.2.2 8 = S.2.2 8) (h3 : nlA S') : cfC S' := by
  obtain ⟨a1, a2, a3, a4, a5, a6, a7, a8, a9, a10, ⟨b1, b2, b3⟩, c⟩ := h
  refine ⟨?_, ?_, ?_, ?_, ?_, ?_, ?_, ?_, ?_, ?_, ⟨?_, ?_, ?_⟩, h3⟩ <;> (first | rw [h1] | rw [h2.1] | rw [h2.2]) <;> assumption
theorem sm_upd {S : Sto} {t k : Nat} {v : Int} {t' : Nat} (h : t' ≠ t) : sm S (updI S t k v) t' := ⟨rfl, by
  funext j
  rw [updI_2, if_neg (fun q => h q.1)], rfl⟩
theorem ag_stock {n : Int} {B : Nat → Nat} {N : Nat} {S R : Sto} {c s x : Int} (h : CI B N S R) (hI : MI n R) (hc : InR c) (hs : InR s) (hx : InR x) {post : Res → Sto → Prop} (hp : ∀ r S1, okr [0, 1, 2] r = true → tyF S S1 → agC em1 (stockR R c s x) r S1 → post r S1) : s_stockC [vT 1, vI c, vI s, vI x] S post := by
  have hsp : 0 ≤ c ∧ c < 6 ∧ 0 ≤ s ∧ s < 3 → spK S 8 c s = mg R 22 (3 * c + s) := fun z => by
    have := h.2.2.2.2.2.2.1 (3 * c + s).toNat (by omega)
    rw [Int.toNat_of_nonneg (by omega)] at this
    exact this
  refine ⟨wOf B R, h.cw hI, ⟨hc, hs, hx⟩, fun hn => hp _ _ rfl (fun _ _ => rfl) fun k v R' ho => ?_, fun hv hn => hp _ _ rfl (fun _ _ => rfl) fun k v R' ho => ?_, fun hv hw hn => hp _ _ rfl (fun _ _ => rfl) fun k v R' ho => ?_, fun hv hw hn => hp _ _ rfl (fun _ _ => rfl) fun k v R' ho => ?_⟩
  · obtain ⟨o1, o2, -⟩ := ho
    rw [if_pos hn] at o1
    rw [o2 (by omega)]
    exact ⟨o1, B, N, h.th hI _⟩
  · obtain ⟨o1, o2, -⟩ := ho
    rw [if_neg (fun y => y hv), if_pos hn] at o1
    rw [o2 (by omega)]
    exact ⟨o1, B, N, h.th hI _⟩
  · obtain ⟨o1, o2, -⟩ := ho
    rw [hsp hv] at hn
    rw [if_neg (fun y => y hv), if_neg (fun y => y hw), if_pos hn] at o1
    rw [o2 (by omega)]
    exact ⟨o1, B, N, h.th hI _⟩
  · obtain ⟨o1, -, o3⟩ := ho
    rw [hsp hv] at hn ⊢
    rw [if_neg (fun y => y hv), if_neg (fun y => y hw), if_neg (by omega)] at o1
    obtain ⟨o4, o5⟩ := o3 o1
    have hg : ∀ (a : Nat) (i : Int), a ≠ 22 → mg R' a i = mg R a i := fun a i ha => by
      rw [o5, mgU, if_neg (fun y => ha y.1)]; exact th_mg'
    have hN : nD R' = nD R ∧ nM R' = nM R ∧ nO R' = nO R := by rw [o5]; exact ⟨rfl, rfl, rfl⟩
    refine ⟨⟨o1, o4⟩, B, N, ?_⟩
    obtain ⟨u1, u2⟩ := h.upper (R' := R') (S' := updI S 9 (3 * c + s).toNat (mg R 22 (3 * c + s) + x)) hI (fun t ht => sm_upd (by omega)) rfl rfl (fun a i ha => hg a i (by omega)) hN.1
    obtain ⟨h1, ⟨e1, e3, e5, e7⟩, -, -, hm, ho', hst, hf⟩ := h
    refine ⟨h1.to rfl rfl (by funext k; rw [updI_2, if_neg (by omega)]), ⟨?_, ?_, ?_, ?_⟩, u1, u2, fun i hi => ?_, fun o ho'' => ?_, fun k hk => ?_, hf.fr rfl hN⟩
    · rw [updI_2, if_neg (by omega), e1]; exact (hg 1 6 (by omega)).symm
    · rw [updI_2, if_neg (by omega), e3, hN.1]
    · rw [updI_2, if_neg (by omega), e5, hN.2.1]
    · rw [updI_2, if_neg (by omega), e7, hN.2.2]
    · rw [hN.2.1] at hi
      exact (hm i hi).fr rfl (sm_upd (by omega)) (sm_upd (by omega)) (fun a j ha => hg a j (by omega))
    · rw [hN.2.2] at ho''
      exact (ho' o ho'').fr rfl (sm_upd (by omega)) (sm_upd (by omega)) (fun a j ha => hg a j (by omega))
    · rw [o5, mgU, updI_2]
      by_cases e : k = (3 * c + s).toNat
      · rw [if_pos ⟨rfl, e⟩, if_pos ⟨rfl, by omega⟩]
      · rw [if_neg (fun y => e y.2), if_neg (by omega), hst k hk]; exact th_mg'.symm

