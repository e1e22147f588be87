/-! THE LAW: a step, case by case (by wip/p24/mkstep.py) -/
theorem PD.upd {R R' S S1 : Sto} {j : Nat} {v : Int} (h : PD R S) (h3 : S1.2.1 3 = S.2.1 3) (hj : j < 4) (hc : ∀ i : Nat, i < 4 → (if i = j then v else S.2.1 3 i) = (match i with | 0 => shN R' 6 | 1 => nD R' | 2 => nM R' | _ => nO R')) (hq : ∀ b, QI R b → QI R' b) : PD R' (updI S1 3 j v) ∧ (updI S1 3 j v).2.1 3 4 = S.2.1 3 4 := by
  have e : ∀ i : Nat, (updI S1 3 j v).2.1 3 i = if i = j then v else S.2.1 3 i := fun i => by
    rw [updI_2, h3]
    by_cases z : i = j
    · rw [if_pos ⟨rfl, z⟩, if_pos z]
    · rw [if_neg (fun y => z y.2), if_neg z]
  have e4 : (updI S1 3 j v).2.1 3 4 = S.2.1 3 4 := by rw [e, if_neg (by omega)]
  refine ⟨⟨⟨?_, ?_, ?_, ?_⟩, ?_⟩, e4⟩
  · rw [e]; exact hc 0 (by omega)
  · rw [e]; exact hc 1 (by omega)
  · rw [e]; exact hc 2 (by omega)
  · rw [e]; exact hc 3 (by omega)
  · rw [e4]; exact hq _ h.2
theorem fin_design {xs : Nat → Int} {Ln : Nat} {n : Int} {R R1 R2 S S1 S2 : Sto} {post : Res → Sto → Prop} (hPD : PD R S) (h3 : S1.2.1 3 = S.2.1 3) (hP2 : PI xs Ln (n + 1 + 1) R2 S2) (h32 : S2.2.1 3 = (updI (updI S1 3 (Int.toNat 0) 0) 3 (Int.toNat 1) (nD R + 1)).2.1 3) (hc : cntR R1 0 (nD R + 1) (nM R) (nO R)) (hc2 : cntR R2 0 (nD R1) (nM R1) (nO R1)) (hq : ∀ b, QI R b → QI R1 b) (hq2 : ∀ b, QI R1 b → QI R2 b)
    (fin : ∀ S' R' n', PI xs Ln n' R' S' → PD R' S' → n' ≤ n + 3 → S'.2.1 3 4 ≤ 5000 * n' → post (.inl (some (vI 1))) S') (hb4 : S.2.1 3 4 ≤ 5000 * n) : post (.inl (some (vI 1))) S2 := by
  have e : ∀ i : Nat, S2.2.1 3 i = if i = 1 then nD R + 1 else if i = 0 then 0 else S.2.1 3 i := fun i => by
    rw [h32, updI_2, updI_2, h3]
    by_cases z : i = 1
    · rw [if_pos ⟨rfl, z⟩, if_pos z]
    · rw [if_neg (fun y => z y.2), if_neg z]
      by_cases z0 : i = 0
      · rw [if_pos ⟨rfl, z0⟩, if_pos z0]
      · rw [if_neg (fun y => z0 y.2), if_neg z0]
  obtain ⟨⟨a0, a1, a2, a3⟩, q⟩ := hPD
  obtain ⟨c0, c1, c2, c3⟩ := hc
  obtain ⟨b0, b1, b2, b3⟩ := hc2
  have e4 : S2.2.1 3 4 = S.2.1 3 4 := by rw [e, if_neg (by omega), if_neg (by omega)]
  refine fin S2 R2 _ hP2 ⟨⟨?_, ?_, ?_, ?_⟩, ?_⟩ (by omega) (by rw [e4]; omega)
  · rw [e, if_neg (by omega), if_pos rfl, b0]
  · rw [e, if_pos rfl, b1, c1]
  · rw [e, if_neg (by omega), if_neg (by omega), b2, c2]; exact a2
  · rw [e, if_neg (by omega), if_neg (by omega), b3, c3]; exact a3
  · rw [e4]; exact hq2 _ (hq _ q)
theorem fin_stock {xs : Nat → Int} {Ln : Nat} {n x : Int} {R R1 S S1 : Sto} {post : Res → Sto → Prop} (hPD : PD R S) (hP : PI xs Ln (n + 1) R1 S1) (h3 : S1.2.1 3 = (updI S 3 (Int.toNat 4) (S.2.1 3 (Int.toNat 4) + x)).2.1 3) (hc : cntR R1 (shN R 6) (nD R) (nM R) (nO R)) (hq : ∀ b, QI R b → QI R1 (b + x)) (hx : x ≤ 5000)
    (fin : ∀ S' R' n', PI xs Ln n' R' S' → PD R' S' → n' ≤ n + 3 → S'.2.1 3 4 ≤ 5000 * n' → post (.inl (some (vI 1))) S') (hb4 : S.2.1 3 4 ≤ 5000 * n) : post (.inl (some (vI 1))) S1 := by
  have e : ∀ i : Nat, S1.2.1 3 i = if i = 4 then S.2.1 3 4 + x else S.2.1 3 i := fun i => by
    rw [h3, updI_2]
    by_cases z : i = 4
    · rw [if_pos ⟨rfl, z⟩, if_pos z]; rfl
    · rw [if_neg (fun y => z y.2), if_neg z]
  obtain ⟨⟨a0, a1, a2, a3⟩, q⟩ := hPD
  obtain ⟨c0, c1, c2, c3⟩ := hc
  have e4 : S1.2.1 3 4 = S.2.1 3 4 + x := by rw [e, if_pos rfl]
  refine fin S1 R1 _ hP ⟨⟨?_, ?_, ?_, ?_⟩, ?_⟩ (by omega) (by rw [e4]; omega)
  · rw [e, if_neg (by omega), c0]; exact a0
  · rw [e, if_neg (by omega), c1]; exact a1
  · rw [e, if_neg (by omega), c2]; exact a2
  · rw [e, if_neg (by omega), c3]; exact a3
  · rw [e4]; exact hq _ q
theorem PD.up0 {R R' S S1 : Sto} {v : Int} (hPD : PD R S) (h3 : S1.2.1 3 = S.2.1 3) (hc : cntR R' v (nD R) (nM R) (nO R)) (hq : ∀ b, QI R b → QI R' b) : PD R' (updI S1 3 (Int.toNat 0) v) ∧ (updI S1 3 (Int.toNat 0) v).2.1 3 4 = S.2.1 3 4 := by
  refine PD.upd hPD h3 (show Int.toNat 0 < 4 by decide) (fun i hi => ?_) hq
  rcases (show i = 0 ∨ i = 1 ∨ i = 2 ∨ i = 3 by omega) with rfl | rfl | rfl | rfl
  · show (if 0 = Int.toNat 0 then v else S.2.1 3 0) = shN R' 6
    rw [if_pos (by decide)]
    exact hc.1.symm
  · show (if 1 = Int.toNat 0 then v else S.2.1 3 1) = nD R'
    rw [if_neg (by decide)]
    exact hPD.1.2.1.trans hc.2.1.symm
  · show (if 2 = Int.toNat 0 then v else S.2.1 3 2) = nM R'
    rw [if_neg (by decide)]
    exact hPD.1.2.2.1.trans hc.2.2.1.symm
  · show (if 3 = Int.toNat 0 then v else S.2.1 3 3) = nO R'
    rw [if_neg (by decide)]
    exact hPD.1.2.2.2.trans hc.2.2.2.symm
theorem PD.up2 {R R' S S1 : Sto} {v : Int} (hPD : PD R S) (h3 : S1.2.1 3 = S.2.1 3) (hc : cntR R' (shN R 6) (nD R) v (nO R)) (hq : ∀ b, QI R b → QI R' b) : PD R' (updI S1 3 (Int.toNat 2) v) ∧ (updI S1 3 (Int.toNat 2) v).2.1 3 4 = S.2.1 3 4 := by
  refine PD.upd hPD h3 (show Int.toNat 2 < 4 by decide) (fun i hi => ?_) hq
  rcases (show i = 0 ∨ i = 1 ∨ i = 2 ∨ i = 3 by omega) with rfl | rfl | rfl | rfl
  · show (if 0 = Int.toNat 2 then v else S.2.1 3 0) = shN R' 6
    rw [if_neg (by decide)]
    exact hPD.1.1.trans hc.1.symm
  · show (if 1 = Int.toNat 2 then v else S.2.1 3 1) = nD R'
    rw [if_neg (by decide)]
    exact hPD.1.2.1.trans hc.2.1.symm
  · show (if 2 = Int.toNat 2 then v else S.2.1 3 2) = nM R'
    rw [if_pos (by decide)]
    exact hc.2.2.1.symm
  · show (if 3 = Int.toNat 2 then v else S.2.1 3 3) = nO R'
    rw [if_neg (by decide)]
    exact hPD.1.2.2.2.trans hc.2.2.2.symm
theorem PD.up3 {R R' S S1 : Sto} {v : Int} (hPD : PD R S) (h3 : S1.2.1 3 = S.2.1 3) (hc : cntR R' (shN R 6) (nD R) (nM R) v) (hq : ∀ b, QI R b → QI R' b) : PD R' (updI S1 3 (Int.toNat 3) v) ∧ (updI S1 3 (Int.toNat 3) v).2.1 3 4 = S.2.1 3 4 := by
  refine PD.upd hPD h3 (show Int.toNat 3 < 4 by decide) (fun i hi => ?_) hq
  rcases (show i = 0 ∨ i = 1 ∨ i = 2 ∨ i = 3 by omega) with rfl | rfl | rfl | rfl
  · show (if 0 = Int.toNat 3 then v else S.2.1 3 0) = shN R' 6
    rw [if_neg (by decide)]
    exact hPD.1.1.trans hc.1.symm
  · show (if 1 = Int.toNat 3 then v else S.2.1 3 1) = nD R'
    rw [if_neg (by decide)]
    exact hPD.1.2.1.trans hc.2.1.symm
  · show (if 2 = Int.toNat 3 then v else S.2.1 3 2) = nM R'
    rw [if_neg (by decide)]
    exact hPD.1.2.2.1.trans hc.2.2.1.symm
  · show (if 3 = Int.toNat 3 then v else S.2.1 3 3) = nO R'
    rw [if_pos (by decide)]
    exact hc.2.2.2.symm
set_option maxHeartbeats 16000000 in
set_option maxRecDepth 100000 in
theorem cs_shape {xs : Nat → Int} {Ln : Nat} {n : Int} {R S : Sto} {w a b : Int} {post : Res → Sto → Prop} (H : stH xs Ln n R S w a b post) : ∀ N L st S' c, hdS fT S w a b N L st S' c → stW eL_step spL_step wrS (16, 6400) (krP post 16 6400) (wpL eL_step spL_step wrS (16, 6400) (krP post 16 6400) (cutL (cutS R S w a b)) N 300) 148 L st S' c := by
  obtain ⟨hP, hPD, ⟨hw, ha, hb⟩, hn, hb4, fin⟩ := H
  rintro N L st S' c ⟨o, m, k, rfl, rfl, rfl, rfl, hF⟩
  have hI := hP.mi
  have hN := hI.2.1
  have hD7 : 0 ≤ shN R 6 ∧ shN R 6 ≤ 7 := ⟨hI.2.2.1.1, hI.2.2.1.2.1⟩
  have hn1 : n + 1 ≤ 15000 := by omega
  have d0 : S'.2.1 3 (Int.toNat 0) = shN R 6 := hPD.1.1
  have d1 : S'.2.1 3 (Int.toNat 1) = nD R := hPD.1.2.1
  have d2 : S'.2.1 3 (Int.toNat 2) = nM R := hPD.1.2.2.1
  have d3 : S'.2.1 3 (Int.toNat 3) = nO R := hPD.1.2.2.2
  have m1 := Int.emod_nonneg b (show (16 - a % 16) ≠ 0 by omega)
  have m2 := Int.emod_lt_of_pos b (show 0 < 16 - a % 16 by omega)
  have m3 := Int.emod_nonneg (b / 6) (show (16 - a / 16 % 16) ≠ 0 by omega)
  have m4 := Int.emod_lt_of_pos (b / 6) (show 0 < 16 - a / 16 % 16 by omega)
  have cth : cntR (thr R 3) (shN R 6) (nD R) (nM R) (nO R) := cnt_thr
  conv => whnf
  repeat' (first
      | omega
      | with_reducible apply And.intro
      | intro c9
      | exact ⟨100, 5, hP.x.1, Or.inl rfl, by omega, by omega⟩
      | exact ⟨5, hP.x.1, by omega, by omega⟩
      | exact ⟨9, hP.t1⟩
      | rw [un (by decide)]
      | rw [uq]
      | rw [g0]
      | rw [g1]
      | rw [g2]
      | rw [g3]
      | (refine pw_shapes hP hn1 ⟨⟨by omega, by omega, by omega, by omega⟩, by omega, by omega, by omega, by omega, by omega, by omega, by omega, by omega⟩ (fun f1 S1 hP h3 => ?_) (fun S1 R1 hP h3 f1 hc hq => ?_) <;> (have g0 : S1.2.1 3 (Int.toNat 0) = shN R 6 := (congrFun h3 _).trans d0; have g1 : S1.2.1 3 (Int.toNat 1) = nD R := (congrFun h3 _).trans d1; have g2 : S1.2.1 3 (Int.toNat 2) = nM R := (congrFun h3 _).trans d2; have g3 : S1.2.1 3 (Int.toNat 3) = nO R := (congrFun h3 _).trans d3))
      | (have e := hPD.up0 (v := shN R 6 + 0) h3 (show cntR (thr R 3) (shN R 6 + 0) (nD R) (nM R) (nO R) by rw [Int.add_zero]; exact cnt_thr) (fun _ q => q.th_); exact kr_i ( fin _ _ _ hP.put e.1 (by omega) (by rw [e.2]; omega) ) (Nat.le_of_ble_eq_true rfl) (Nat.le_of_ble_eq_true rfl))
      | (have e := hPD.up0 (v := shN R 6 + 1) h3 hc hq; exact kr_i ( fin _ _ _ hP.put e.1 (by omega) (by rw [e.2]; omega) ) (Nat.le_of_ble_eq_true rfl) (Nat.le_of_ble_eq_true rfl))
      | ((with_reducible show wpL _ _ _ _ _ _ _ _ _ _ _ _ _); conv => whnf)
      | ((with_reducible show callK _ _ _ _ _ _ _ _ _); conv => whnf)
      | ((with_reducible show condK _ _ _ _ _); conv => whnf)
      | refine Exists.intro _ (And.intro rfl ?_)
      | ((with_reducible show st1 _ _ _ _ _ _ _ _ _ _ _ _); conv => whnf)
      | ((with_reducible show shortK _ _); conv => whnf)
      | exact Nat.le_of_ble_eq_true rfl)
set_option maxHeartbeats 16000000 in
set_option maxRecDepth 100000 in
theorem cs_design {xs : Nat → Int} {Ln : Nat} {n : Int} {R S : Sto} {w a b : Int} {post : Res → Sto → Prop} (H : stH xs Ln n R S w a b post) : ∀ N L st S' c, hdS fT S w a b N L st S' c → stW eL_step spL_step wrS (16, 6400) (krP post 16 6400) (wpL eL_step spL_step wrS (16, 6400) (krP post 16 6400) (cutL (cutS R S w a b)) N 300) 304 L st S' c := by
  obtain ⟨hP, hPD, ⟨hw, ha, hb⟩, hn, hb4, fin⟩ := H
  rintro N L st S' c ⟨o, m, k, rfl, rfl, rfl, rfl, hF⟩
  have hI := hP.mi
  have hN := hI.2.1
  have hD7 : 0 ≤ shN R 6 ∧ shN R 6 ≤ 7 := ⟨hI.2.2.1.1, hI.2.2.1.2.1⟩
  have hn1 : n + 1 ≤ 15000 := by omega
  have d0 : S'.2.1 3 (Int.toNat 0) = shN R 6 := hPD.1.1
  have d1 : S'.2.1 3 (Int.toNat 1) = nD R := hPD.1.2.1
  have d2 : S'.2.1 3 (Int.toNat 2) = nM R := hPD.1.2.2.1
  have d3 : S'.2.1 3 (Int.toNat 3) = nO R := hPD.1.2.2.2
  have hd6 : 0 ≤ nD R ∧ nD R ≤ 6 := by omega
  conv => whnf
  repeat' (first
      | omega
      | with_reducible apply And.intro
      | intro c9
      | exact ⟨100, 5, hP.x.1, Or.inl rfl, by omega, by omega⟩
      | exact ⟨5, hP.x.1, by omega, by omega⟩
      | exact ⟨9, hP.t1⟩
      | rw [un (by decide)]
      | rw [uq]
      | rw [d0]
      | rw [d1]
      | rw [d2]
      | rw [d3]
      | rw [g0]
      | rw [g1]
      | rw [g2]
      | rw [g3]
      | (refine pw_designs hP hn1 (fun f1 S1 hP h3 => ?_) (fun S1 R1 hP h3 f1 hc hsh hq => ?_) <;> (have g0 : S1.2.1 3 (Int.toNat 0) = shN R 6 := (congrFun h3 _).trans d0; have g1 : S1.2.1 3 (Int.toNat 1) = nD R := (congrFun h3 _).trans d1; have g2 : S1.2.1 3 (Int.toNat 2) = nM R := (congrFun h3 _).trans d2; have g3 : S1.2.1 3 (Int.toNat 3) = nO R := (congrFun h3 _).trans d3))
      | exact kr_i ( fin _ _ _ hP (hPD.th h3) (by omega) (by rw [h3]; omega) ) (Nat.le_of_ble_eq_true rfl) (Nat.le_of_ble_eq_true rfl)
      | refine ⟨xs, Ln, n + 1, R1, hP.put.put, ⟨by omega, by rw [hc.2.1]; omega⟩, hsh.symm, ?_⟩
      | (refine pw_wipe hP.put.put (by omega) (fun S2 R2 hP2 h32 hc2 hq2 => ?_); rw [hc.1])
      | exact kr_i ( fin_design hPD h3 hP2 h32 hc hc2 hq hq2 fin hb4 ) (Nat.le_of_ble_eq_true rfl) (Nat.le_of_ble_eq_true rfl)
      | ((with_reducible show wpL _ _ _ _ _ _ _ _ _ _ _ _ _); conv => whnf)
      | ((with_reducible show callK _ _ _ _ _ _ _ _ _); conv => whnf)
      | ((with_reducible show condK _ _ _ _ _); conv => whnf)
      | refine Exists.intro _ (And.intro rfl ?_)
      | ((with_reducible show st1 _ _ _ _ _ _ _ _ _ _ _ _); conv => whnf)
      | ((with_reducible show shortK _ _); conv => whnf)
      | exact Nat.le_of_ble_eq_true rfl)
set_option maxHeartbeats 16000000 in
set_option maxRecDepth 100000 in
theorem cs_machine {xs : Nat → Int} {Ln : Nat} {n : Int} {R S : Sto} {w a b : Int} {post : Res → Sto → Prop} (H : stH xs Ln n R S w a b post) : ∀ N L st S' c, hdS fT S w a b N L st S' c → stW eL_step spL_step wrS (16, 6400) (krP post 16 6400) (wpL eL_step spL_step wrS (16, 6400) (krP post 16 6400) (cutL (cutS R S w a b)) N 300) 386 L st S' c := by
  obtain ⟨hP, hPD, ⟨hw, ha, hb⟩, hn, hb4, fin⟩ := H
  rintro N L st S' c ⟨o, m, k, rfl, rfl, rfl, rfl, hF⟩
  have hI := hP.mi
  have hN := hI.2.1
  have hD7 : 0 ≤ shN R 6 ∧ shN R 6 ≤ 7 := ⟨hI.2.2.1.1, hI.2.2.1.2.1⟩
  have hn1 : n + 1 ≤ 15000 := by omega
  have d0 : S'.2.1 3 (Int.toNat 0) = shN R 6 := hPD.1.1
  have d1 : S'.2.1 3 (Int.toNat 1) = nD R := hPD.1.2.1
  have d2 : S'.2.1 3 (Int.toNat 2) = nM R := hPD.1.2.2.1
  have d3 : S'.2.1 3 (Int.toNat 3) = nO R := hPD.1.2.2.2

  conv => whnf
  repeat' (first
      | omega
      | with_reducible apply And.intro
      | intro c9
      | exact ⟨100, 5, hP.x.1, Or.inl rfl, by omega, by omega⟩
      | exact ⟨5, hP.x.1, by omega, by omega⟩
      | exact ⟨9, hP.t1⟩
      | rw [un (by decide)]
      | rw [uq]
      | rw [g0]
      | rw [g1]
      | rw [g2]
      | rw [g3]
      | (refine pw_machines hP hn1 ⟨by omega, by omega, by omega, by omega, by omega, by omega⟩ (fun f1 S1 hP h3 => ?_) (fun S1 R1 hP h3 f1 hc f2 f3 hq => ?_) <;> (have g0 : S1.2.1 3 (Int.toNat 0) = shN R 6 := (congrFun h3 _).trans d0; have g1 : S1.2.1 3 (Int.toNat 1) = nD R := (congrFun h3 _).trans d1; have g2 : S1.2.1 3 (Int.toNat 2) = nM R := (congrFun h3 _).trans d2; have g3 : S1.2.1 3 (Int.toNat 3) = nO R := (congrFun h3 _).trans d3))
      | (refine gg_mac0 hP.put ⟨⟨by omega, by rw [hc.2.2.1]; omega⟩, rfl⟩ ?_; rw [f2])
      | (refine gg_mac2 hP.put ⟨⟨by omega, by rw [hc.2.2.1]; omega⟩, rfl⟩ ?_; rw [f3])
      | (have e := hPD.up2 (v := nM R + 0) h3 (show cntR (thr R 2) (shN R 6) (nD R) (nM R + 0) (nO R) by rw [Int.add_zero]; exact cnt_thr) (fun _ q => q.th_); exact kr_i ( fin _ _ _ hP.put e.1 (by omega) (by rw [e.2]; omega) ) (Nat.le_of_ble_eq_true rfl) (Nat.le_of_ble_eq_true rfl))
      | (have e := hPD.up2 (v := nM R + 1) h3 hc hq; exact kr_i ( fin _ _ _ hP.put e.1 (by omega) (by rw [e.2]; omega) ) (Nat.le_of_ble_eq_true rfl) (Nat.le_of_ble_eq_true rfl))
      | ((with_reducible show wpL _ _ _ _ _ _ _ _ _ _ _ _ _); conv => whnf)
      | ((with_reducible show callK _ _ _ _ _ _ _ _ _); conv => whnf)
      | ((with_reducible show condK _ _ _ _ _); conv => whnf)
      | refine Exists.intro _ (And.intro rfl ?_)
      | ((with_reducible show st1 _ _ _ _ _ _ _ _ _ _ _ _); conv => whnf)
      | ((with_reducible show shortK _ _); conv => whnf)
      | exact Nat.le_of_ble_eq_true rfl)
set_option maxHeartbeats 16000000 in
set_option maxRecDepth 100000 in
theorem cs_stock {xs : Nat → Int} {Ln : Nat} {n : Int} {R S : Sto} {w a b : Int} {post : Res → Sto → Prop} (H : stH xs Ln n R S w a b post) : ∀ N L st S' c, hdS fT S w a b N L st S' c → stW eL_step spL_step wrS (16, 6400) (krP post 16 6400) (wpL eL_step spL_step wrS (16, 6400) (krP post 16 6400) (cutL (cutS R S w a b)) N 300) 492 L st S' c := by
  obtain ⟨hP, hPD, ⟨hw, ha, hb⟩, hn, hb4, fin⟩ := H
  rintro N L st S' c ⟨o, m, k, rfl, rfl, rfl, rfl, hF⟩
  have hI := hP.mi
  have hN := hI.2.1
  have hD7 : 0 ≤ shN R 6 ∧ shN R 6 ≤ 7 := ⟨hI.2.2.1.1, hI.2.2.1.2.1⟩
  have hn1 : n + 1 ≤ 15000 := by omega
  have d0 : S'.2.1 3 (Int.toNat 0) = shN R 6 := hPD.1.1
  have d1 : S'.2.1 3 (Int.toNat 1) = nD R := hPD.1.2.1
  have d2 : S'.2.1 3 (Int.toNat 2) = nM R := hPD.1.2.2.1
  have d3 : S'.2.1 3 (Int.toNat 3) = nO R := hPD.1.2.2.2
  have hr := hPD.2.r hI
  have hl23 := hI.2.2.2.2.2.2.2 (3 * (a % 6) + b % 3) (by omega) (by omega)
  have hl22 : mg R 22 (3 * (a % 6) + b % 3) ≤ lfS R := by
    have := sum_ge (f := fun j => mg R 22 (j : Int)) (a := (3 * (a % 6) + b % 3).toNat) 18 (by omega) (fun j hj => (hI.2.2.2.2.2.2.2 j (by omega) (by omega)).1)
    rw [Int.toNat_of_nonneg (by omega)] at this
    exact this
  conv => whnf
  repeat' (first
      | omega
      | with_reducible apply And.intro
      | intro c9
      | exact ⟨100, 5, hP.x.1, Or.inl rfl, by omega, by omega⟩
      | exact ⟨5, hP.x.1, by omega, by omega⟩
      | exact ⟨9, hP.t1⟩
      | rw [un (by decide)]
      | rw [uq]
      | (refine gg_left hP.put ⟨by omega, by omega, by omega, by omega⟩ ?_)
      | (refine pw_stock hP.put hn1 ⟨by omega, by omega, by omega, by omega⟩ ⟨by omega, by omega⟩ (by omega) (fun S1 R1 hP h3 hc hq => ?_))
      | exact kr_i ( fin_stock hPD hP h3 hc hq (by omega) fin hb4 ) (Nat.le_of_ble_eq_true rfl) (Nat.le_of_ble_eq_true rfl)
      | ((with_reducible show wpL _ _ _ _ _ _ _ _ _ _ _ _ _); conv => whnf)
      | ((with_reducible show callK _ _ _ _ _ _ _ _ _); conv => whnf)
      | ((with_reducible show condK _ _ _ _ _); conv => whnf)
      | refine Exists.intro _ (And.intro rfl ?_)
      | ((with_reducible show st1 _ _ _ _ _ _ _ _ _ _ _ _); conv => whnf)
      | ((with_reducible show shortK _ _); conv => whnf)
      | exact Nat.le_of_ble_eq_true rfl)
set_option maxHeartbeats 16000000 in
set_option maxRecDepth 100000 in
theorem cs_order {xs : Nat → Int} {Ln : Nat} {n : Int} {R S : Sto} {w a b : Int} {post : Res → Sto → Prop} (H : stH xs Ln n R S w a b post) : ∀ N L st S' c, hdS (fD R) S w a b N L st S' c → stW eL_step spL_step wrS (16, 6400) (krP post 16 6400) (wpL eL_step spL_step wrS (16, 6400) (krP post 16 6400) (cutL (cutS R S w a b)) N 300) 555 L st S' c := by
  obtain ⟨hP, hPD, ⟨hw, ha, hb⟩, hn, hb4, fin⟩ := H
  rintro N L st S' c ⟨o, m, k, rfl, rfl, rfl, rfl, hF⟩
  have hI := hP.mi
  have hN := hI.2.1
  have hD7 : 0 ≤ shN R 6 ∧ shN R 6 ≤ 7 := ⟨hI.2.2.1.1, hI.2.2.1.2.1⟩
  have hn1 : n + 1 ≤ 15000 := by omega
  have d0 : S'.2.1 3 (Int.toNat 0) = shN R 6 := hPD.1.1
  have d1 : S'.2.1 3 (Int.toNat 1) = nD R := hPD.1.2.1
  have d2 : S'.2.1 3 (Int.toNat 2) = nM R := hPD.1.2.2.1
  have d3 : S'.2.1 3 (Int.toNat 3) = nO R := hPD.1.2.2.2
  have hF : 0 < nD R := hF
  have m1 := Int.emod_nonneg a (show nD R ≠ 0 by omega)
  have m2 := Int.emod_lt_of_pos a hF
  conv => whnf
  repeat' (first
      | omega
      | with_reducible apply And.intro
      | intro c9
      | exact ⟨100, 5, hP.x.1, Or.inl rfl, by omega, by omega⟩
      | exact ⟨5, hP.x.1, by omega, by omega⟩
      | exact ⟨9, hP.t1⟩
      | rw [un (by decide)]
      | rw [uq]
      | rw [d0]
      | rw [d1]
      | rw [d2]
      | rw [d3]
      | rw [g0]
      | rw [g1]
      | rw [g2]
      | rw [g3]
      | (refine pw_orders hP hn1 ⟨⟨by omega, by omega⟩, by omega, by omega⟩ (fun f1 S1 hP h3 => ?_) (fun S1 R1 hP h3 f1 hc f2 f3 f4 hq => ?_) <;> (have g0 : S1.2.1 3 (Int.toNat 0) = shN R 6 := (congrFun h3 _).trans d0; have g1 : S1.2.1 3 (Int.toNat 1) = nD R := (congrFun h3 _).trans d1; have g2 : S1.2.1 3 (Int.toNat 2) = nM R := (congrFun h3 _).trans d2; have g3 : S1.2.1 3 (Int.toNat 3) = nO R := (congrFun h3 _).trans d3))
      | (refine gg_ord0 hP.put ⟨⟨by omega, by rw [hc.2.2.2]; omega⟩, rfl⟩ ?_; rw [f2])
      | (refine gg_ord6 hP.put ⟨⟨by omega, by rw [hc.2.2.2]; omega⟩, rfl⟩ ?_; rw [f3])
      | (refine gg_shadeOf hP.put ⟨⟨by omega, by rw [hc.2.2.2]; omega⟩, by omega, by omega⟩ ?_; rw [f4 _ (by omega) (by omega)])
      | (have e := hPD.up3 (v := nO R + 0) h3 (show cntR (thr R 3) (shN R 6) (nD R) (nM R) (nO R + 0) by rw [Int.add_zero]; exact cnt_thr) (fun _ q => q.th_); exact kr_i ( fin _ _ _ hP.put e.1 (by omega) (by rw [e.2]; omega) ) (Nat.le_of_ble_eq_true rfl) (Nat.le_of_ble_eq_true rfl))
      | (have e := hPD.up3 (v := nO R + 1) h3 hc hq; exact kr_i ( fin _ _ _ hP.put e.1 (by omega) (by rw [e.2]; omega) ) (Nat.le_of_ble_eq_true rfl) (Nat.le_of_ble_eq_true rfl))
      | ((with_reducible show wpL _ _ _ _ _ _ _ _ _ _ _ _ _); conv => whnf)
      | ((with_reducible show callK _ _ _ _ _ _ _ _ _); conv => whnf)
      | ((with_reducible show condK _ _ _ _ _); conv => whnf)
      | refine Exists.intro _ (And.intro rfl ?_)
      | ((with_reducible show st1 _ _ _ _ _ _ _ _ _ _ _ _); conv => whnf)
      | ((with_reducible show shortK _ _); conv => whnf)
      | exact Nat.le_of_ble_eq_true rfl)
set_option maxHeartbeats 16000000 in
set_option maxRecDepth 100000 in
theorem cs_start {xs : Nat → Int} {Ln : Nat} {n : Int} {R S : Sto} {w a b : Int} {post : Res → Sto → Prop} (H : stH xs Ln n R S w a b post) : ∀ N L st S' c, hdS (fO R) S w a b N L st S' c → stW eL_step spL_step wrS (16, 6400) (krP post 16 6400) (wpL eL_step spL_step wrS (16, 6400) (krP post 16 6400) (cutL (cutS R S w a b)) N 300) 665 L st S' c := by
  obtain ⟨hP, hPD, ⟨hw, ha, hb⟩, hn, hb4, fin⟩ := H
  rintro N L st S' c ⟨o, m, k, rfl, rfl, rfl, rfl, hF⟩
  have hI := hP.mi
  have hN := hI.2.1
  have hD7 : 0 ≤ shN R 6 ∧ shN R 6 ≤ 7 := ⟨hI.2.2.1.1, hI.2.2.1.2.1⟩
  have hn1 : n + 1 ≤ 15000 := by omega
  have d0 : S'.2.1 3 (Int.toNat 0) = shN R 6 := hPD.1.1
  have d1 : S'.2.1 3 (Int.toNat 1) = nD R := hPD.1.2.1
  have d2 : S'.2.1 3 (Int.toNat 2) = nM R := hPD.1.2.2.1
  have d3 : S'.2.1 3 (Int.toNat 3) = nO R := hPD.1.2.2.2
  obtain ⟨ho, hm⟩ : (0 ≤ o ∧ o < nO R) ∧ 0 ≤ m ∧ m < nM R := hF
  have hor := hI.2.2.2.2.2.1 o ho.1 ho.2
  have hma := hI.2.2.2.2.1 m hm.1 hm.2
  have h26 := hor.2.2.1
  have hj1 := hma.2.2.2.2.2.2.2.1
  have hj2 := hma.2.2.2.2.2.2.2.2.1
  conv => whnf
  repeat' (first
      | omega
      | with_reducible apply And.intro
      | intro c9
      | exact ⟨100, 5, hP.x.1, Or.inl rfl, by omega, by omega⟩
      | exact ⟨5, hP.x.1, by omega, by omega⟩
      | exact ⟨9, hP.t1⟩
      | rw [un (by decide)]
      | rw [uq]
      | refine gg_ord0 hP ⟨ho, rfl⟩ ?_
      | refine gg_mac0 hP ⟨hm, rfl⟩ ?_
      | (refine pw_starts hP hn1 ⟨ho.1, ho.2, hm.1, hm.2⟩ (fun S1 hP h3 => ?_) (fun S1 R1 hP h3 f1 f2 hc f3 f4 f5 f6 hq => ?_))
      | rw [th_mg']
      | (refine gg_ord0 hP ⟨⟨ho.1, by rw [hc.2.2.2]; exact ho.2⟩, rfl⟩ ?_; rw [f3])
      | (refine gg_ord6 hP ⟨⟨ho.1, by rw [hc.2.2.2]; exact ho.2⟩, rfl⟩ ?_; rw [f4])
      | (refine gg_mac0 hP ⟨⟨hm.1, by rw [hc.2.2.1]; exact hm.2⟩, rfl⟩ ?_; rw [f5])
      | refine ⟨xs, Ln, n + 1, R1, hP, ⟨ho.1, by rw [hc.2.2.2]; exact ho.2⟩, f6, ?_⟩
      | exact kr_i ( fin _ _ _ hP (hPD.th h3) (by omega) (by rw [h3]; omega) ) (Nat.le_of_ble_eq_true rfl) (Nat.le_of_ble_eq_true rfl)
      | exact kr_i ( fin _ _ _ hP (hPD.mk' h3 hc hq) (by omega) (by rw [h3]; omega) ) (Nat.le_of_ble_eq_true rfl) (Nat.le_of_ble_eq_true rfl)
      | ((with_reducible show wpL _ _ _ _ _ _ _ _ _ _ _ _ _); conv => whnf)
      | ((with_reducible show callK _ _ _ _ _ _ _ _ _); conv => whnf)
      | ((with_reducible show condK _ _ _ _ _); conv => whnf)
      | refine Exists.intro _ (And.intro rfl ?_)
      | ((with_reducible show st1 _ _ _ _ _ _ _ _ _ _ _ _); conv => whnf)
      | ((with_reducible show shortK _ _); conv => whnf)
      | exact Nat.le_of_ble_eq_true rfl)
set_option maxHeartbeats 16000000 in
set_option maxRecDepth 100000 in
theorem cs_snap {xs : Nat → Int} {Ln : Nat} {n : Int} {R S : Sto} {w a b : Int} {post : Res → Sto → Prop} (H : stH xs Ln n R S w a b post) : ∀ N L st S' c, hdS (fO R) S w a b N L st S' c → stW eL_step spL_step wrS (16, 6400) (krP post 16 6400) (wpL eL_step spL_step wrS (16, 6400) (krP post 16 6400) (cutL (cutS R S w a b)) N 300) 794 L st S' c := by
  obtain ⟨hP, hPD, ⟨hw, ha, hb⟩, hn, hb4, fin⟩ := H
  rintro N L st S' c ⟨o, m, k, rfl, rfl, rfl, rfl, hF⟩
  have hI := hP.mi
  have hN := hI.2.1
  have hD7 : 0 ≤ shN R 6 ∧ shN R 6 ≤ 7 := ⟨hI.2.2.1.1, hI.2.2.1.2.1⟩
  have hn1 : n + 1 ≤ 15000 := by omega
  have d0 : S'.2.1 3 (Int.toNat 0) = shN R 6 := hPD.1.1
  have d1 : S'.2.1 3 (Int.toNat 1) = nD R := hPD.1.2.1
  have d2 : S'.2.1 3 (Int.toNat 2) = nM R := hPD.1.2.2.1
  have d3 : S'.2.1 3 (Int.toNat 3) = nO R := hPD.1.2.2.2
  obtain ⟨ho, hm⟩ : (0 ≤ o ∧ o < nO R) ∧ 0 ≤ m ∧ m < nM R := hF
  have hor := hI.2.2.2.2.2.1 o ho.1 ho.2
  have hma := hI.2.2.2.2.1 m hm.1 hm.2
  have h26 := hor.2.2.1
  have hj1 := hma.2.2.2.2.2.2.2.1
  have hj2 := hma.2.2.2.2.2.2.2.2.1
  have hb29 : mg R 17 m ≠ -1 → 0 ≤ mg R 29 (mg R 17 m) ∧ mg R 29 (mg R 17 m) ≤ 2240 ∧ 0 ≤ mg R 28 (mg R 17 m) ∧ mg R 28 (mg R 17 m) ≤ 50 := fun z => by
    have q := hI.2.2.2.2.2.1 (mg R 17 m) (by omega) hj2
    have q1 := (hI.2.2.2.1 _ q.1.1 q.1.2).mn
    have q2 := q.2.1
    have q3 := q.2.2.2.2.1
    omega
  conv => whnf
  repeat' (first
      | omega
      | with_reducible apply And.intro
      | intro c9
      | exact ⟨100, 5, hP.x.1, Or.inl rfl, by omega, by omega⟩
      | exact ⟨5, hP.x.1, by omega, by omega⟩
      | exact ⟨9, hP.t1⟩
      | rw [un (by decide)]
      | rw [uq]
      | refine gg_mac0 hP ⟨hm, rfl⟩ ?_
      | refine gg_ord4 hP ⟨⟨by omega, by omega⟩, rfl⟩ ?_
      | refine gg_ord3 hP ⟨⟨by omega, by omega⟩, rfl⟩ ?_
      | refine ⟨fun z => absurd z (by decide), fun _ => ?_, fun z => absurd z (by decide), fun z => absurd z (by decide), by omega, by omega⟩
      | (refine pw_snap hP hn1 hm (fun f1 S1 hP h3 => ?_) (fun v S1 R1 hP h3 f1 f2 hc f3 f4 hq => ?_))
      | (have z9 := hb29 ‹mg R 17 m ≠ -1›; omega)
      | (rcases f1 with y | y <;> first | omega | (exact absurd y ‹_›))
      | (refine gg_ord4 hP ⟨⟨by omega, by rw [hc.2.2.2]; omega⟩, rfl⟩ ?_; rw [f3])
      | (refine gg_ord3 hP ⟨⟨by omega, by rw [hc.2.2.2]; omega⟩, rfl⟩ ?_; rw [f4])
      | exact kr_i ( fin _ _ _ hP (hPD.th h3) (by omega) (by rw [h3]; omega) ) (Nat.le_of_ble_eq_true rfl) (Nat.le_of_ble_eq_true rfl)
      | exact kr_i ( fin _ _ _ hP (hPD.mk' h3 hc hq) (by omega) (by rw [h3]; omega) ) (Nat.le_of_ble_eq_true rfl) (Nat.le_of_ble_eq_true rfl)
      | ((with_reducible show wpL _ _ _ _ _ _ _ _ _ _ _ _ _); conv => whnf)
      | ((with_reducible show callK _ _ _ _ _ _ _ _ _); conv => whnf)
      | ((with_reducible show condK _ _ _ _ _); conv => whnf)
      | refine Exists.intro _ (And.intro rfl ?_)
      | ((with_reducible show st1 _ _ _ _ _ _ _ _ _ _ _ _); conv => whnf)
      | ((with_reducible show shortK _ _); conv => whnf)
      | exact Nat.le_of_ble_eq_true rfl)
set_option maxHeartbeats 16000000 in
set_option maxRecDepth 100000 in
theorem cs_match {xs : Nat → Int} {Ln : Nat} {n : Int} {R S : Sto} {w a b : Int} {post : Res → Sto → Prop} (H : stH xs Ln n R S w a b post) : ∀ N L st S' c, hdS (fO R) S w a b N L st S' c → stW eL_step spL_step wrS (16, 6400) (krP post 16 6400) (wpL eL_step spL_step wrS (16, 6400) (krP post 16 6400) (cutL (cutS R S w a b)) N 300) 917 L st S' c := by
  obtain ⟨hP, hPD, ⟨hw, ha, hb⟩, hn, hb4, fin⟩ := H
  rintro N L st S' c ⟨o, m, k, rfl, rfl, rfl, rfl, hF⟩
  have hI := hP.mi
  have hN := hI.2.1
  have hD7 : 0 ≤ shN R 6 ∧ shN R 6 ≤ 7 := ⟨hI.2.2.1.1, hI.2.2.1.2.1⟩
  have hn1 : n + 1 ≤ 15000 := by omega
  have d0 : S'.2.1 3 (Int.toNat 0) = shN R 6 := hPD.1.1
  have d1 : S'.2.1 3 (Int.toNat 1) = nD R := hPD.1.2.1
  have d2 : S'.2.1 3 (Int.toNat 2) = nM R := hPD.1.2.2.1
  have d3 : S'.2.1 3 (Int.toNat 3) = nO R := hPD.1.2.2.2
  obtain ⟨ho, hm⟩ : (0 ≤ o ∧ o < nO R) ∧ 0 ≤ m ∧ m < nM R := hF
  have hor := hI.2.2.2.2.2.1 o ho.1 ho.2
  have hma := hI.2.2.2.2.1 m hm.1 hm.2
  have h26 := hor.2.2.1
  have h25 := hor.2.1
  have h30 := hor.2.2.2.2.2.1
  have hc6 : 0 ≤ b / 3 % 6 ∧ b / 3 % 6 < 6 := by omega
  have hsd := hor.2.2.2.2.2.2 (b / 3 % 6) hc6.1 hc6.2
  have hs1 := hsd.1
  have hs2 := hsd.2.1
  clear hsd
  have hmn := (hI.2.2.2.1 _ hor.1.1 hor.1.2).mn
  have h5a := hor.2.2.2.2.1.1
  have h5b := hor.2.2.2.2.1.2.1
  have h5c := hor.2.2.2.2.1.2.2.1
  have h5d := hor.2.2.2.2.1.2.2.2.1
  clear hor hma
  conv => whnf
  repeat' (first
      | omega
      | with_reducible apply And.intro
      | intro c9
      | exact ⟨100, 5, hP.x.1, Or.inl rfl, by omega, by omega⟩
      | exact ⟨5, hP.x.1, by omega, by omega⟩
      | exact ⟨9, hP.t1⟩
      | rw [un (by decide)]
      | rw [uq]
      | refine gg_ord5 hP ⟨ho, rfl⟩ ?_
      | refine gg_ord3 hP ⟨ho, rfl⟩ ?_
      | refine gg_ord4 hP ⟨ho, rfl⟩ ?_
      | refine gg_shadeOf hP ⟨ho, hc6.1, hc6.2⟩ ?_
      | refine ⟨fun z => absurd z (by decide), fun z => absurd z (by decide), fun _ => ?_, fun z => absurd z (by decide), by omega, by omega⟩
      | rw [show sdK (thr R 2) o (b / 3 % 6) = sdK R o (b / 3 % 6) from th_mg']
      | (refine pw_match hP hn1 ⟨ho.1, ho.2, hc6.1, hc6.2, by omega, by omega⟩ (fun S1 hP h3 => ?_) (fun v S1 R1 hP h3 hc f1 f2 f3 f4 hq => ?_))
      | (refine gg_shadeOf hP ⟨⟨ho.1, by rw [hc.2.2.2]; exact ho.2⟩, hc6.1, hc6.2⟩ ?_; rw [f1])
      | (rcases f4 with ⟨f5, f6⟩ | ⟨f5, f6, f7, f8, f9⟩ ; rotate_left; split at f6)
      | (refine gg_ord5 hP ⟨⟨ho.1, by rw [hc.2.2.2]; exact ho.2⟩, rfl⟩ ?_)
      | (refine gg_ord3 hP ⟨⟨ho.1, by rw [hc.2.2.2]; exact ho.2⟩, rfl⟩ ?_)
      | (refine gg_ord4 hP ⟨⟨ho.1, by rw [hc.2.2.2]; exact ho.2⟩, rfl⟩ ?_)
      | rw [th_mg']
      | (have z9 := (hP.mi.2.2.2.2.2.1 o ho.1 (by rw [hc.2.2.2]; exact ho.2)).2.2.2.2.2.1; omega)
      | exact kr_i ( fin _ _ _ hP (hPD.th h3) (by omega) (by rw [h3]; omega) ) (Nat.le_of_ble_eq_true rfl) (Nat.le_of_ble_eq_true rfl)
      | exact kr_i ( fin _ _ _ hP (hPD.mk' h3 hc hq) (by omega) (by rw [h3]; omega) ) (Nat.le_of_ble_eq_true rfl) (Nat.le_of_ble_eq_true rfl)
      | ((with_reducible show wpL _ _ _ _ _ _ _ _ _ _ _ _ _); conv => whnf)
      | ((with_reducible show callK _ _ _ _ _ _ _ _ _); conv => whnf)
      | ((with_reducible show condK _ _ _ _ _); conv => whnf)
      | refine Exists.intro _ (And.intro rfl ?_)
      | ((with_reducible show st1 _ _ _ _ _ _ _ _ _ _ _ _); conv => whnf)
      | ((with_reducible show shortK _ _); conv => whnf)
      | exact Nat.le_of_ble_eq_true rfl)
set_option maxHeartbeats 16000000 in
set_option maxRecDepth 100000 in
theorem cs_cancel {xs : Nat → Int} {Ln : Nat} {n : Int} {R S : Sto} {w a b : Int} {post : Res → Sto → Prop} (H : stH xs Ln n R S w a b post) : ∀ N L st S' c, hdS (fO R) S w a b N L st S' c → stW eL_step spL_step wrS (16, 6400) (krP post 16 6400) (wpL eL_step spL_step wrS (16, 6400) (krP post 16 6400) (cutL (cutS R S w a b)) N 300) 1108 L st S' c := by
  obtain ⟨hP, hPD, ⟨hw, ha, hb⟩, hn, hb4, fin⟩ := H
  rintro N L st S' c ⟨o, m, k, rfl, rfl, rfl, rfl, hF⟩
  have hI := hP.mi
  have hN := hI.2.1
  have hD7 : 0 ≤ shN R 6 ∧ shN R 6 ≤ 7 := ⟨hI.2.2.1.1, hI.2.2.1.2.1⟩
  have hn1 : n + 1 ≤ 15000 := by omega
  have d0 : S'.2.1 3 (Int.toNat 0) = shN R 6 := hPD.1.1
  have d1 : S'.2.1 3 (Int.toNat 1) = nD R := hPD.1.2.1
  have d2 : S'.2.1 3 (Int.toNat 2) = nM R := hPD.1.2.2.1
  have d3 : S'.2.1 3 (Int.toNat 3) = nO R := hPD.1.2.2.2
  obtain ⟨ho, hm⟩ : (0 ≤ o ∧ o < nO R) ∧ 0 ≤ m ∧ m < nM R := hF
  have hor := hI.2.2.2.2.2.1 o ho.1 ho.2
  have hma := hI.2.2.2.2.1 m hm.1 hm.2
  have h26 := hor.2.2.1
  have h30 := hor.2.2.2.2.2.1
  conv => whnf
  repeat' (first
      | omega
      | with_reducible apply And.intro
      | intro c9
      | exact ⟨100, 5, hP.x.1, Or.inl rfl, by omega, by omega⟩
      | exact ⟨5, hP.x.1, by omega, by omega⟩
      | exact ⟨9, hP.t1⟩
      | rw [un (by decide)]
      | rw [uq]
      | refine gg_ord0 hP ⟨ho, rfl⟩ ?_
      | refine gg_ord5 hP ⟨ho, rfl⟩ ?_
      | refine ⟨fun z => absurd z (by decide), fun z => absurd z (by decide), fun z => absurd z (by decide), fun _ => ?_, by omega, by omega⟩
      | (refine pw_cancel hP (by omega) ho (fun f1 S1 hP h3 => ?_) (fun v S1 R1 hP h3 f1 f2 hc f3 f4 f5 f6 hq => ?_))
      | (refine gg_ord0 hP ⟨⟨ho.1, by rw [hc.2.2.2]; exact ho.2⟩, rfl⟩ ?_; rw [f3])
      | (refine gg_ord5 hP ⟨⟨ho.1, by rw [hc.2.2.2]; exact ho.2⟩, rfl⟩ ?_; rw [f4])
      | (refine gg_ord3 hP ⟨⟨ho.1, by rw [hc.2.2.2]; exact ho.2⟩, rfl⟩ ?_; rw [f5])
      | (refine gg_ord6 hP ⟨⟨ho.1, by rw [hc.2.2.2]; exact ho.2⟩, rfl⟩ ?_; rw [f6])
      | (refine pw_cancel hP (by omega) ⟨ho.1, by rw [hc.2.2.2]; exact ho.2⟩ (fun g1 S2 hP2 h32 => ?_) (fun v2 S2 R2 hP2 h32 g1 => (by omega)))
      | (have z9 := (hP.mi.2.2.2.2.2.1 o ho.1 (by rw [hc.2.2.2]; exact ho.2)).2.2.2.2.2.1; omega)
      | exact kr_i ( fin _ _ _ hP2 ((hPD.mk' h3 hc hq).th h32) (by omega) (by rw [h32, h3]; omega) ) (Nat.le_of_ble_eq_true rfl) (Nat.le_of_ble_eq_true rfl)
      | exact kr_i ( fin _ _ _ hP (hPD.th h3) (by omega) (by rw [h3]; omega) ) (Nat.le_of_ble_eq_true rfl) (Nat.le_of_ble_eq_true rfl)
      | ((with_reducible show wpL _ _ _ _ _ _ _ _ _ _ _ _ _); conv => whnf)
      | ((with_reducible show callK _ _ _ _ _ _ _ _ _); conv => whnf)
      | ((with_reducible show condK _ _ _ _ _); conv => whnf)
      | refine Exists.intro _ (And.intro rfl ?_)
      | ((with_reducible show st1 _ _ _ _ _ _ _ _ _ _ _ _); conv => whnf)
      | ((with_reducible show shortK _ _); conv => whnf)
      | exact Nat.le_of_ble_eq_true rfl)
set_option maxHeartbeats 16000000 in
set_option maxRecDepth 100000 in
theorem cs_run {xs : Nat → Int} {Ln : Nat} {n : Int} {R S : Sto} {w a b : Int} {post : Res → Sto → Prop} (H : stH xs Ln n R S w a b post) : ∀ N L st S' c, hdS (fO R) S w a b N L st S' c → stW eL_step spL_step wrS (16, 6400) (krP post 16 6400) (wpL eL_step spL_step wrS (16, 6400) (krP post 16 6400) (cutL (cutS R S w a b)) N 300) 1231 L st S' c := by
  obtain ⟨hP, hPD, ⟨hw, ha, hb⟩, hn, hb4, fin⟩ := H
  rintro N L st S' c ⟨o, m, k, rfl, rfl, rfl, rfl, hF⟩
  have hI := hP.mi
  have hN := hI.2.1
  have hD7 : 0 ≤ shN R 6 ∧ shN R 6 ≤ 7 := ⟨hI.2.2.1.1, hI.2.2.1.2.1⟩
  have hn1 : n + 1 ≤ 15000 := by omega
  have d0 : S'.2.1 3 (Int.toNat 0) = shN R 6 := hPD.1.1
  have d1 : S'.2.1 3 (Int.toNat 1) = nD R := hPD.1.2.1
  have d2 : S'.2.1 3 (Int.toNat 2) = nM R := hPD.1.2.2.1
  have d3 : S'.2.1 3 (Int.toNat 3) = nO R := hPD.1.2.2.2
  obtain ⟨ho, hm⟩ : (0 ≤ o ∧ o < nO R) ∧ 0 ≤ m ∧ m < nM R := hF
  have hor := hI.2.2.2.2.2.1 o ho.1 ho.2
  have hma := hI.2.2.2.2.1 m hm.1 hm.2
  have h26 := hor.2.2.1
  have hj1 := hma.2.2.2.2.2.2.2.1
  have hj2 := hma.2.2.2.2.2.2.2.2.1
  have h19 := hma.2.2.2.2.1
  conv => whnf
  repeat' (first
      | omega
      | with_reducible apply And.intro
      | intro c9
      | exact ⟨100, 5, hP.x.1, Or.inl rfl, by omega, by omega⟩
      | exact ⟨5, hP.x.1, by omega, by omega⟩
      | exact ⟨9, hP.t1⟩
      | rw [un (by decide)]
      | rw [uq]
      | refine gg_mac0 hP ⟨hm, rfl⟩ ?_
      | refine gg_mac3 hP ⟨hm, rfl⟩ ?_
      | refine ⟨fun _ => ?_, fun z => absurd z (by decide), fun z => absurd z (by decide), fun z => absurd z (by decide), by omega, by omega⟩
      | (refine pw_run hP hn1 ⟨hm, by omega, by omega⟩ (fun f1 S1 hP h3 => ?_) (fun v S1 R1 hP h3 f1 f2 hc f3 f4 hq => ?_))
      | (refine gg_mac3 hP ⟨⟨hm.1, by rw [hc.2.2.1]; exact hm.2⟩, rfl⟩ ?_; rw [f3])
      | (refine gg_mac0 hP ⟨⟨hm.1, by rw [hc.2.2.1]; exact hm.2⟩, rfl⟩ ?_; rcases f4 with f4 | ⟨f4, f5, f6⟩)
      | (refine gg_ord0 hP ⟨⟨by omega, by rw [hc.2.2.2]; omega⟩, rfl⟩ ?_; rw [f5])
      | (refine gg_ord3 hP ⟨⟨by omega, by rw [hc.2.2.2]; omega⟩, rfl⟩ ?_; rw [f6])
      | (refine gg_ord2 hP ⟨⟨by omega, by rw [hc.2.2.2]; omega⟩, rfl⟩ ?_)
      | (have z9 := (hP.mi.2.2.2.2.2.1 (mg R 17 m) (by omega) (by rw [hc.2.2.2]; omega)).2.1; omega)
      | (have z9 := (hP.mi.2.2.2.2.1 m hm.1 (by rw [hc.2.2.1]; exact hm.2)).2.2.2.2.1; omega)
      | (have z9 := (hP.mi.2.2.2.2.1 m hm.1 (by rw [hc.2.2.1]; exact hm.2)).2.2.2.2.2.2.2.1; omega)
      | exact kr_i ( fin _ _ _ hP (hPD.th h3) (by omega) (by rw [h3]; omega) ) (Nat.le_of_ble_eq_true rfl) (Nat.le_of_ble_eq_true rfl)
      | exact kr_i ( fin _ _ _ hP (hPD.mk' h3 hc hq) (by omega) (by rw [h3]; omega) ) (Nat.le_of_ble_eq_true rfl) (Nat.le_of_ble_eq_true rfl)
      | ((with_reducible show wpL _ _ _ _ _ _ _ _ _ _ _ _ _); conv => whnf)
      | ((with_reducible show callK _ _ _ _ _ _ _ _ _); conv => whnf)
      | ((with_reducible show condK _ _ _ _ _); conv => whnf)
      | refine Exists.intro _ (And.intro rfl ?_)
      | ((with_reducible show st1 _ _ _ _ _ _ _ _ _ _ _ _); conv => whnf)
      | ((with_reducible show shortK _ _); conv => whnf)
      | exact Nat.le_of_ble_eq_true rfl)

