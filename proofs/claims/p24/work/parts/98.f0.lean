theorem ag_wipe {n : Int} {B : Nat → Nat} {N : Nat} {S R : Sto} (h : CI B N S R) (hI : MI n R) {post : Res → Sto → Prop} (hp : ∀ r S1, okr [] r = true → tyF S S1 → agC em1 (wipeR R) r S1 → post r S1) : s_wipeC [vT 1] S post := by
  refine ⟨h.1, hp _ _ rfl (fun _ _ => rfl) fun k v R' ho => ?_⟩
  obtain ⟨o1, o2, o3⟩ := ho
  obtain ⟨h1, ⟨e1, e3, e5, e7⟩, ⟨d1, d2⟩, hd, hm, ho', hst, hf⟩ := h
  have hg : ∀ (a : Nat) (i : Int), ¬ (a = 1 ∧ i.toNat = 6) → mg R' a i = mg R a i := fun a i ha => by
    rw [o3, mgU, if_neg ha]; exact th_mg'
  have hN : nD R' = nD R ∧ nM R' = nM R ∧ nO R' = nO R := by rw [o3]; exact ⟨rfl, rfl, rfl⟩
  have s6 : shN R' 6 = 0 := by
    show mg R' 1 6 = 0
    rw [o3, mgU, if_pos ⟨rfl, rfl⟩]
  refine ⟨⟨o1, by rw [o2]; exact e1.symm⟩, B, N, h1.fr rfl ⟨rfl, rfl⟩ (h1.nl.fr (by rw [updI_2, if_neg (by omega)]) (by rw [updI_2, if_neg (by omega)]) (by rw [updI_2, if_neg (by omega)]) rfl rfl rfl), ⟨?_, ?_, ?_, ?_⟩, ⟨by rw [s6]; exact Nat.zero_le _, fun k hk => by rw [s6] at hk; omega⟩, fun d hd' => ?_, fun i hi => ?_, fun o ho'' => ?_, fun k hk => ?_, hf.fr rfl hN⟩
  · rw [updI_2, if_pos ⟨rfl, rfl⟩, s6]
  · rw [updI_2, if_neg (by omega), e3, hN.1]
  · rw [updI_2, if_neg (by omega), e5, hN.2.1]
  · rw [updI_2, if_neg (by omega), e7, hN.2.2]
  · rw [hN.1] at hd'
    have hd6 : d < 6 := by have := hI.2.1; omega
    obtain ⟨a1, a2⟩ := hd d hd'
    have hD := hI.2.2.2.1 d (by omega) hd'
    have sd : shN R' d = shN R d := hg 1 d (by omega)
    have eq : desEq R R' d := ⟨sd, fun k _ _ a a2 a7 => hg a _ (by omega), fun p _ _ => hg 9 _ (by omega), hg 10 _ (by omega), fun j _ _ => hg 11 _ (by omega)⟩
    rw [s6, sd]
    exact ⟨by show B d + (shN R d).toNat ≤ N - 0; omega, (a2.eqS (S' := updI S 1 1 0) hD a1 rfl (fun t t1 t2 => sm_upd (by omega)) (fun t t1 t2 => sm_upd (by omega))).eqR hD eq⟩
  · rw [hN.2.1] at hi
    exact (hm i hi).fr rfl (sm_upd (by omega)) (sm_upd (by omega)) (fun a j ha => hg a j (by omega))
  · rw [hN.2.2] at ho''
    exact (ho' o ho'').fr rfl (sm_upd (by omega)) (sm_upd (by omega)) (fun a j ha => hg a j (by omega))
  · rw [hg 22 _ (by omega), updI_2, if_neg (by omega)]; exact hst k hk
/-- an order changes in its own fields -/
theorem odI.own {S S' R R' : Sto} {o : Nat} (h : odI S R o) (h7 : S'.2.2 7 = S.2.2 7) (h1 : S'.1 = S.1) (s2 : S'.2.1 (2048 + 16 * o + 1) = S.2.1 (2048 + 16 * o + 1)) (sR : ∀ k, k ≠ 8 → S'.2.2 (2048 + 16 * o) k = S.2.2 (2048 + 16 * o) k) (hk : ∀ k, k ≠ 4 → k ≠ 5 → k ≠ 6 → k ≠ 7 → S'.2.1 (2048 + 16 * o) k = S.2.1 (2048 + 16 * o) k)
    (h24 : mg R' 24 o = mg R 24 o) (h25 : mg R' 25 o = mg R 25 o) (h31 : ∀ c : Nat, c < 6 → sdK R' o c = sdK R o c) (k4 : S'.2.1 (2048 + 16 * o) 4 = mg R' 26 o) (k5 : S'.2.1 (2048 + 16 * o) 5 = mg R' 28 o) (k6 : S'.2.1 (2048 + 16 * o) 6 = mg R' 29 o) (k7 : S'.2.1 (2048 + 16 * o) 7 = mg R' 30 o)
    (k8 : S'.2.2 (2048 + 16 * o) 8 = (if mg R' 27 o = -1 then none else some (1024 + 16 * (mg R' 27 o).toNat))) : odI S' R' o := by
  obtain ⟨⟨a1, a2, a3, a4, a5⟩, ⟨b0, b2, -⟩, -, d⟩ := h
  refine ⟨⟨by rw [h7]; exact a1, by rw [h1]; exact a2, by rw [sR 3 (by omega)]; exact a3, by rw [h1]; exact a4, by rw [sR 1 (by omega), h24]; exact a5⟩, ⟨by rw [hk 0 (by omega) (by omega) (by omega) (by omega)]; exact b0, by rw [hk 2 (by omega) (by omega) (by omega) (by omega), h25]; exact b2, k4, k5, k6, k7⟩, k8, fun c hc => by rw [s2, h31 c hc]; exact d c hc⟩

