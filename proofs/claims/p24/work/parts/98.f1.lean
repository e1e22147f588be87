def em2 : Nat → Int := fun e => if e = 0 then 1 else 2
theorem sm.tr {S S1 S2 : Sto} {t : Nat} (h : sm S S1 t) (h2 : sm S1 S2 t) : sm S S2 t := ⟨h2.1.trans h.1, h2.2.1.trans h.2.1, h2.2.2.trans h.2.2⟩
theorem ag_snap {n : Int} {B : Nat → Nat} {N : Nat} {S R : Sto} {m : Int} (h : CI B N S R) (hI : MI n R) (hm' : InR m) {post : Res → Sto → Prop} (hp : ∀ r S1, okr [0, 2] r = true → tyF S S1 → agC em2 (snapR R m) r S1 → post r S1) : s_snapC [vT 1, vI m] S post := by
  have e5 := h.2.1.2.2.1
  have e7 := h.2.1.2.2.2
  refine ⟨wOf B R, h.cw hI, hm', fun hn => hp _ _ rfl (fun _ _ => rfl) fun k v R' ho => ?_, fun hv => ?_⟩
  · obtain ⟨o1, o2, -⟩ := ho
    rw [e5] at hn
    rw [if_pos hn] at o1
    rw [o2 (by omega)]
    exact ⟨o1, B, N, h.th hI _⟩
  · rw [e5] at hv
    have hmI := h.2.2.2.2.1 m.toNat (by omega)
    obtain ⟨-, -, a3, -⟩ := hmI
    rw [Int.toNat_of_nonneg hv.1] at a3
    have hj := (hI.2.2.2.2.1 m hv.1 hv.2).2.2.2.2.2.2.2
    refine ⟨fun hn => hp _ _ rfl (fun _ _ => rfl) fun k v R' ho => ?_, fun o u g hu hg ho' hr => ?_⟩
    · obtain ⟨o1, o2, -⟩ := ho
      have e : mg R 17 m = -1 := by
        by_cases e : mg R 17 m = -1
        · exact e
        · rw [a3, if_neg e] at hn; cases hn
      rw [if_neg (fun y => y hv), if_pos (Or.inl e)] at o1
      rw [o2 (by omega)]
      exact ⟨o1, B, N, h.th hI _⟩
    · have hne : mg R 17 m ≠ -1 := fun e => by rw [a3, if_pos e] at hr; cases hr
      rw [a3, if_neg hne, hu] at hr
      have eo : mg R 17 m = o := by have := Option.some.inj hr; omega
      rw [e7] at ho'
      have hoI := h.2.2.2.2.2.1 o ho'
      have hoI2 := hoI
      obtain ⟨-, ⟨-, -, b4, b5, b6, b7⟩, k8, -⟩ := hoI2
      rw [← hu] at b4 b5 b6 b7 k8
      obtain ⟨c24, -, -, -, c28, -, -⟩ := hI.2.2.2.2.2.1 o (by omega) ho'
      have hD := hI.2.2.2.1 _ c24.1 c24.2
      have hg2 : g = (mg R 24 o).toNat := hg
      have hdd : ((g : Nat) : Int) = mg R 24 o := by rw [hg2]; exact Int.toNat_of_nonneg c24.1
      rw [← hdd] at hD c28
      have hend := hD.end
      refine ⟨fun hn => hp _ _ rfl (fun _ _ => rfl) fun k v R' ho => ?_, fun p kk hin hkk => hp _ _ rfl (fun _ _ => rfl) fun k v R' ho => ?_⟩
      · obtain ⟨o1, o2, -⟩ := ho
        have e : mg R 29 (mg R 17 m) = 0 := by
          rw [eo]
          by_cases e : mg R 29 o = 0
          · exact e
          · exfalso
            obtain ⟨p, p1, p2, p3, -⟩ := hD.pl (j := (mg R 29 o - 1).toNat) (by omega)
            refine hn p ?_
            show p < (shN R (g : Int)).toNat ∧ (bgN (dQ R (g : Int)) p : Int) ≤ S.2.1 u 6 - 1 ∧ S.2.1 u 6 - 1 < (bgN (dQ R (g : Int)) (p + 1) : Int)
            rw [b6]; omega
        rw [if_neg (fun y => y hv), if_pos (Or.inr e)] at o1
        rw [o2 (by omega)]
        exact ⟨o1, B, N, h.th hI _⟩
      · obtain ⟨o1, -, o3⟩ := ho
        have hin2 : p < (shN R (g : Int)).toNat ∧ (bgN (dQ R (g : Int)) p : Int) ≤ S.2.1 u 6 - 1 ∧ S.2.1 u 6 - 1 < (bgN (dQ R (g : Int)) (p + 1) : Int) := hin
        rw [b6] at hin2
        rw [if_neg (fun y => y hv), if_neg (by rw [eo]; omega)] at o1
        obtain ⟨o9, q0, q1, q2, q3, q4, q5, q6, q7, q8, q9⟩ := o3 o1
        rw [eo] at q0
        subst q0
        rw [← hdd] at q4 q5
        have hst : ∀ j : Int, (bgN (dQ R (g : Int)) p : Int) ≤ j → j < mg R 29 o → stK R g j / 256 = seqK R g p := fun j j0 j1 => by
          obtain ⟨p', p1', p2', p3', p4', -⟩ := hD.pl (j := j.toNat) (by omega)
          have e := bgN_uq (P := dQ R (g : Int)) (a := p) (b := p') (k := j.toNat) (by omega) (by omega) p2' p3'
          rw [Int.toNat_of_nonneg (by omega), ← e] at p4'
          exact p4'
        have hlo : ∀ j : Int, 0 ≤ j → j < (bgN (dQ R (g : Int)) p : Int) → stK R g j / 256 ≠ seqK R g p := fun j j0 j1 e => by
          obtain ⟨p', p1', p2', p3', p4', -⟩ := hD.pl (j := j.toNat) (by omega)
          rw [Int.toNat_of_nonneg (by omega), e] at p4'
          have hpp : p' < p := by
            rcases Nat.lt_or_ge p' p with w | w
            · exact w
            · have := bgN_mono (P := dQ R (g : Int)) (a := p) p' w; omega
          exact hD.inj (a := p') (b := p) (by omega) (by omega) (by omega) p4'.symm
        have hb1 := hst (mg R 29 o - 1) (by omega) (by omega)
        rw [hb1] at q4 q5
        have hkk2 : kk = (if 5 ≤ S.2.1 u 6 - (bgN (dQ R (g : Int)) p : Int) then 5 else S.2.1 u 6 - (bgN (dQ R (g : Int)) p : Int)) := hkk
        rw [b6] at hkk2
        have hle : v ≤ mg R 29 o - (bgN (dQ R (g : Int)) p : Int) := by
          rcases (show v ≤ mg R 29 o - (bgN (dQ R (g : Int)) p : Int) ∨ mg R 29 o - (bgN (dQ R (g : Int)) p : Int) < v by omega) with w | w
          · exact w
          · exact absurd (q4 (mg R 29 o - v) (by omega) (by omega)) (hlo _ (by omega) (by omega))
        have hvk : v = kk := by
          rw [hkk2]
          rcases q5 with w | w | w
          · rw [if_pos (by omega)]; exact w
          · have hb0 : (bgN (dQ R (g : Int)) p : Int) = 0 := by omega
            split <;> omega
          · by_cases e5' : v = 5
            · rw [if_pos (by omega)]; exact e5'
            · by_cases e6 : v = mg R 29 o - (bgN (dQ R (g : Int)) p : Int)
              · rw [if_neg (by omega)]; exact e6
              · exact absurd (hst _ (by omega) (by omega)) w
        rw [← hvk]
        refine ⟨⟨o1, rfl⟩, B, N, ?_⟩
        have hgg : ∀ (a : Nat) (i : Int), a ≠ 29 → a ≠ 30 → mg R' a i = mg R a i := fun a i x y => (q6.mg (by simp; omega)).trans th_mg'
        have h2 : R'.2.1 2 = (thr R 0).2.1 2 := q6.2.2 2 (fun k hk e => by unfold mt at e; omega)
        have hN : nD R' = nD R ∧ nM R' = nM R ∧ nO R' = nO R := ⟨congrFun h2 8, congrFun h2 13, congrFun h2 23⟩
        obtain ⟨S2, hS2⟩ : ∃ S2, S2 = updI (updI S u 6 (S.2.1 u 6 - v)) u 7 (S.2.1 u 7 + v) := ⟨_, rfl⟩
        rw [← hS2]
        have hsm : ∀ t, t ≠ u → sm S S2 t := fun t ht => by rw [hS2]; exact (sm_upd ht).tr (sm_upd ht)
        have r1 : S2.1 = S.1 := by rw [hS2]; rfl
        have r3 : S2.2.2 = S.2.2 := by rw [hS2]; rfl
        have ru : ∀ k, S2.2.1 u k = if k = 7 then S.2.1 u 7 + v else if k = 6 then S.2.1 u 6 - v else S.2.1 u k := fun k => by
          rw [hS2, updI_2, updI_2]
          by_cases x : k = 7
          · rw [if_pos ⟨rfl, x⟩, if_pos x]
          · rw [if_neg (fun y => x y.2), if_neg x]
            by_cases y : k = 6
            · rw [if_pos ⟨rfl, y⟩, if_pos y]
            · rw [if_neg (fun w => y w.2), if_neg y]
        have hN1 := hI.2.1
        obtain ⟨u1, u2⟩ := h.upper (R' := R') (S' := S2) hI (fun t ht => hsm t (by omega)) (by rw [r3]) (by rw [r3]) (fun a i ha => hgg a i (by omega) (by omega)) hN.1
        obtain ⟨h1, ⟨e1, e3, e5', e7'⟩, -, -, hm, hoo, hst', hf⟩ := h
        have f1 := hsm 1 (by omega)
        refine ⟨h1.fr r1 ⟨by rw [r3], by rw [r3]⟩ (h1.nl.fr (by rw [f1.2.1]) (by rw [f1.2.1]) (by rw [f1.2.1]) (by rw [r3]) (by rw [r3]) (by rw [r3])), ⟨?_, ?_, ?_, ?_⟩, u1, u2, fun i hi => ?_, fun o2 ho2 => ?_, fun k hk => ?_, hf.fr r1 hN⟩
        · rw [f1.2.1, e1]; exact (hgg 1 6 (by omega) (by omega)).symm
        · rw [f1.2.1, e3, hN.1]
        · rw [f1.2.1, e5', hN.2.1]
        · rw [f1.2.1, e7', hN.2.2]
        · rw [hN.2.1] at hi
          exact (hm i hi).fr (by rw [r3]) (hsm _ (by omega)) (hsm _ (by omega)) (fun a j ha => hgg a j (by omega) (by omega))
        · rw [hN.2.2] at ho2
          have hI2 := hoo o2 ho2
          have hI3 := hI2
          obtain ⟨-, ⟨-, -, c4, c5, c6, c7⟩, c8, -⟩ := hI3
          by_cases x : o2 = o
          · subst x
            refine hI2.own (by rw [r3]) r1 (by rw [(hsm _ (by omega)).2.1]) (fun k _ => by rw [r3]) (fun k x4 x5 x6 x7 => ?_) (hgg 24 _ (by omega) (by omega)) (hgg 25 _ (by omega) (by omega)) (fun c hc => hgg 31 _ (by omega) (by omega)) ?_ ?_ ?_ ?_ ?_
            · rw [← hu, ru, if_neg x7, if_neg x6]
            · rw [← hu, ru, if_neg (by omega), if_neg (by omega), hgg 26 _ (by omega) (by omega), hu]; exact c4
            · rw [← hu, ru, if_neg (by omega), if_neg (by omega), hgg 28 _ (by omega) (by omega), hu]; exact c5
            · rw [← hu, ru, if_neg (by omega), if_pos rfl, q7, b6]
            · rw [← hu, ru, if_pos rfl, q8, b7]
            · rw [r3, hgg 27 _ (by omega) (by omega)]; exact c8
          · have y1 := hsm (2048 + 16 * o2) (by omega)
            obtain ⟨z1, z2⟩ := q9 o2 (by omega) (by omega)
            refine hI2.own (by rw [r3]) r1 (by rw [(hsm _ (by omega)).2.1]) (fun k _ => by rw [r3]) (fun k _ _ _ _ => by rw [y1.2.1]) (hgg 24 _ (by omega) (by omega)) (hgg 25 _ (by omega) (by omega)) (fun c hc => hgg 31 _ (by omega) (by omega)) ?_ ?_ ?_ ?_ ?_
            · rw [y1.2.1, hgg 26 _ (by omega) (by omega)]; exact c4
            · rw [y1.2.1, hgg 28 _ (by omega) (by omega)]; exact c5
            · rw [y1.2.1, z1]; exact c6
            · rw [y1.2.1, z2]; exact c7
            · rw [r3, hgg 27 _ (by omega) (by omega)]; exact c8
        · rw [(hsm 9 (by omega)).2.1, hgg 22 _ (by omega) (by omega)]; exact hst' k hk

