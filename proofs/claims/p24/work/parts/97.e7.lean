/-! CLASS AGAINST REFERENCE: calls that change -/
def sm (S S' : Sto) (t : Nat) : Prop := S'.1 t = S.1 t ∧ S'.2.1 t = S.2.1 t ∧ S'.2.2 t = S.2.2 t
theorem uT_r {B : Nat → Nat} {d k M n : Nat} (hB : B d + n ≤ M) (hk : k < n) : 8192 ≤ uT B d k ∧ uT B d k + 16 ≤ 8192 + 16 * M := by
  unfold uT
  omega
theorem dsI.eqS {B : Nat → Nat} {S S' R : Sto} {d M : Nat} (hD : desI R d) (h : dsI B S R d) (hB : B d + (shN R d).toNat ≤ M) (e5 : S'.2.2 5 d = S.2.2 5 d) (e : ∀ t, 4096 + 16 * d ≤ t → t < 4096 + 16 * d + 16 → sm S S' t) (e2 : ∀ t, 8192 ≤ t → t < 8192 + 16 * M → sm S S' t) : dsI B S' R d := by
  have h3 := hD.1.2.2.1
  have hu : ∀ k, k < (shN R d).toNat → sm S S' (uT B d k) := fun k hk => e2 _ (uT_r hB hk).1 (by have := (uT_r hB hk).2; omega)
  have hq : ∀ p : Nat, (p : Int) < shN R d → sm S S' (qT R B d p) := fun p hp => by
    have s := hD.seq (p := p) (by omega) hp
    exact hu _ (by omega)
  obtain ⟨⟨a1, a1'⟩, ⟨nd, a2, a3⟩, a4, a5, a6, ⟨a7, a8, a9, a10⟩, a11⟩ := h
  have t0 := e (4096 + 16 * d) (by omega) (by omega)
  have t1 := e (4096 + 16 * d + 1) (by omega) (by omega)
  have t2 := e (4096 + 16 * d + 2) (by omega) (by omega)
  have t4 := e (4096 + 16 * d + 4) (by omega) (by omega)
  have t5 := e (4096 + 16 * d + 5) (by omega) (by omega)
  have t6 := e (4096 + 16 * d + 7) (by omega) (by omega)
  have t7 := e (4096 + 16 * d + 1 + 5) (by omega) (by omega)
  refine ⟨⟨by rw [e5]; exact a1, by rw [t0.2.2]; exact a1'⟩, ⟨nd, a2, ?_⟩, ?_, ⟨fun k hk => by rw [t5.2.1]; exact a5.1 k hk, fun p hp => by rw [(hq p hp).2.1]; exact a5.2 p hp⟩, fun p hp => by rw [(hq p hp).2.1]; exact a6 p hp, ?_, ?_⟩
  · obtain ⟨b1, b2, b3, b4, b5, b6, b7, b8, b9⟩ := a3
    refine ⟨b1.eq t1.1 t1.2.2 t7.1 t7.2.1, by rw [t1.2.2]; exact b2, by rw [t1.2.2]; exact b3, by rw [t6.1]; exact b4, by rw [show 4096 + 16 * d + 1 + 1 = 4096 + 16 * d + 2 by omega, t2.1]; exact b5, b6, fun k hk => ?_, fun k hk => ?_, b9⟩
    · obtain ⟨c1, c2, c3⟩ := b7 k hk
      rw [t6.2.2, (hu k hk).1, (hu k hk).2.1]
      exact ⟨c1, c2, c3⟩
    · rw [show 4096 + 16 * d + 1 + 1 = 4096 + 16 * d + 2 by omega, t2.2.1]
      exact b8 k hk
  · obtain ⟨b1, b2, b3, b4, b5, b6, b7, b8⟩ := a4
    refine ⟨by rw [t0.1]; exact b1, by rw [t0.2.2]; exact b2, by rw [t4.1]; exact b3, by rw [t0.2.2]; exact b4, by rw [t5.1]; exact b5, b6, b7, fun p hp => ?_⟩
    have hqp := hq p (by omega)
    rw [t4.2.2, hqp.1, hqp.2.1]
    exact b8 p hp
  · rw [t0.2.1]; exact ⟨a7, a8, a9, a10⟩
  · rw [t0.2.1]
    unfold hoopP at a11 ⊢
    rw [t5.2.1]; exact a11
theorem dfI.eq {N : Nat} {S S' R R' : Sto} {k : Nat} (h : dfI N S R k) (h6 : shN R' 6 = shN R 6) (hR : shEq R R' (42 + k)) (h4 : S'.2.2 4 = S.2.2 4) (e : ∀ t, 8192 ≤ t → sm S S' t) : dfI N S' R' k := by
  obtain ⟨a1, a2, a3, a4⟩ := h
  unfold dfI
  rw [h6]
  have e1 := e (8192 + 16 * (N - (shN R 6).toNat + k)) (by omega)
  have e2 := e (8192 + 16 * (N - (shN R 6).toNat + k) + 1) (by omega)
  have hh : hasK R' (42 + k) = hasK R (42 + k) := by funext x y; exact hR.hs
  rw [hh, h4, e1.2.1, hR 3 (by omega) (by omega)]
  exact ⟨a1, a2.eq e1.1 e2.1 e1.2.2 e2.2.1, a3, a4⟩
/-- draft and designs, where a call leaves them -/
theorem CI.upper {n : Int} {B : Nat → Nat} {N : Nat} {S R S' R' : Sto} (h : CI B N S R) (hI : MI n R) (hS : ∀ t, 4096 ≤ t → sm S S' t) (h4 : S'.2.2 4 = S.2.2 4) (h5 : S'.2.2 5 = S.2.2 5) (hR : ∀ (a : Nat) (i : Int), (1 ≤ a ∧ a ≤ 7 ∨ 9 ≤ a ∧ a ≤ 11) → mg R' a i = mg R a i) (hn : nD R' = nD R) : ((shN R' 6).toNat ≤ N ∧ ∀ k : Nat, (k : Int) < shN R' 6 → dfI N S' R' k) ∧ ∀ d : Nat, (d : Int) < nD R' → B d + (shN R' d).toNat ≤ N - (shN R' 6).toNat ∧ dsI B S' R' d := by
  obtain ⟨-, -, ⟨d1, d2⟩, hd, -⟩ := h
  have s6 : shN R' 6 = shN R 6 := hR 1 6 (by omega)
  refine ⟨⟨by rw [s6]; exact d1, fun k hk => ?_⟩, fun d hd' => ?_⟩
  · rw [s6] at hk
    exact (d2 k hk).eq s6 (fun a a2 a7 => hR a _ (by omega)) h4 (fun t ht => hS t (by omega))
  · rw [hn] at hd'
    obtain ⟨a1, a2⟩ := hd d hd'
    have hD := hI.2.2.2.1 d (by omega) hd'
    have eq : desEq R R' d := ⟨hR 1 _ (by omega), fun k _ _ a a2 a7 => hR a _ (by omega), fun p _ _ => hR 9 _ (by omega), hR 10 _ (by omega), fun j _ _ => hR 11 _ (by omega)⟩
    rw [s6, show shN R' d = shN R d from hR 1 _ (by omega)]
    exact ⟨a1, (a2.eqS hD a1 (by rw [h5]) (fun t t1 t2 => hS t (by omega)) (fun t t1 t2 => hS t (by omega))).eqR hD eq⟩

