/-! THE LAW: a step -/
set_option maxRecDepth 100000 in
theorem step_vc {xs : Nat → Int} {Ln : Nat} {n : Int} {R S : Sto} {w a b : Int} {post : Res → Sto → Prop} (H : stH xs Ln n R S w a b post) : ∀ q ∈ cutS R S w a b, ∀ N L st S' c, q.2 N L st S' c → stW eL_step spL_step wrS (16, 6400) (krP post 16 6400) (wpL eL_step spL_step wrS (16, 6400) (krP post 16 6400) (cutL (cutS R S w a b)) N 300) q.1 L st S' c :=
  List.forall_mem_cons.mpr ⟨cs_shape H, List.forall_mem_cons.mpr ⟨cs_design H, List.forall_mem_cons.mpr ⟨cs_machine H, List.forall_mem_cons.mpr ⟨cs_stock H, List.forall_mem_cons.mpr ⟨cs_order H, List.forall_mem_cons.mpr ⟨cs_start H, List.forall_mem_cons.mpr ⟨cs_snap H, List.forall_mem_cons.mpr ⟨cs_match H, List.forall_mem_cons.mpr ⟨cs_cancel H, List.forall_mem_cons.mpr ⟨cs_run H, fun q h => absurd h List.not_mem_nil⟩⟩⟩⟩⟩⟩⟩⟩⟩⟩
set_option maxHeartbeats 16000000 in
set_option maxRecDepth 100000 in
theorem step_begin {xs : Nat → Int} {Ln : Nat} {n : Int} {R S : Sto} {w a b : Int} {post : Res → Sto → Prop} (H : stH xs Ln n R S w a b post) : wpL eL_step spL_step wrS (16, 6400) (krP post 16 6400) (cutL (cutS R S w a b)) 1 300 0 (entL 37 [vT 1, vT 3, vI w, vI a, vI b]) [] S (0, 0) := by
  obtain ⟨hP, hPD, ⟨hw, ha, hb⟩, hn, hb4, fin⟩ := H
  have hI := hP.mi
  have hN := hI.2.1
  have hD7 : 0 ≤ shN R 6 ∧ shN R 6 ≤ 7 := ⟨hI.2.2.1.1, hI.2.2.1.2.1⟩
  have d0 : S.2.1 3 (Int.toNat 0) = shN R 6 := hPD.1.1
  have d1 : S.2.1 3 (Int.toNat 1) = nD R := hPD.1.2.1
  have d2 : S.2.1 3 (Int.toNat 2) = nM R := hPD.1.2.2.1
  have d3 : S.2.1 3 (Int.toNat 3) = nO R := hPD.1.2.2.2
  have mo : 0 < nO R → 0 ≤ a % nO R ∧ a % nO R < nO R := fun z => ⟨Int.emod_nonneg _ (by omega), Int.emod_lt_of_pos _ z⟩
  have mm : 0 < nM R → 0 ≤ b % nM R ∧ b % nM R < nM R := fun z => ⟨Int.emod_nonneg _ (by omega), Int.emod_lt_of_pos _ z⟩
  repeat' (first
      | omega
      | with_reducible apply And.intro
      | intro c9
      | exact ⟨100, 5, hP.x.1, Or.inl rfl, by omega, by omega⟩
      | exact ⟨5, hP.x.1, by omega, by omega⟩
      | exact ⟨9, hP.t1⟩
      | rw [un (by decide)]
      | rw [uq]
      | rw [d0]
      | rw [d1]
      | rw [d2]
      | rw [d3]
      | ((with_reducible show swK _ _ _ _ _); conv => whnf)
      | exact trivial
      | exact ⟨0, by omega, _, _, _, rfl, rfl, rfl, rfl, trivial⟩
      | exact ⟨0, by omega, _, _, _, rfl, rfl, rfl, rfl, (by omega : 0 < nD R)⟩
      | exact ⟨0, by omega, _, _, _, rfl, rfl, rfl, rfl, mo (by omega), mm (by omega)⟩
      | ((with_reducible show wpL _ _ _ _ _ _ _ _ _ _ _ _ _); conv => whnf)
      | ((with_reducible show callK _ _ _ _ _ _ _ _ _); conv => whnf)
      | ((with_reducible show condK _ _ _ _ _); conv => whnf)
      | refine Exists.intro _ (And.intro rfl ?_)
      | ((with_reducible show st1 _ _ _ _ _ _ _ _ _ _ _ _); conv => whnf)
      | ((with_reducible show shortK _ _); conv => whnf)
      | exact Nat.le_of_ble_eq_true rfl)
theorem satN_step : SatN mL_step s_step 16 6400 14 := by
  refine satN_of (E := eL_step) (sp := spL_step) (wrr := wrS) (by decide +kernel) okL_step spS_ok (fun pc w hw => wrT_ok _ (lkW_e hw)) ?_
  intro as S post h
  match as, h with
  | [.inr (.inr (some 1)), .inr (.inr (some 3)), .inl w, .inl a, .inl b], h =>
    obtain ⟨xs, Ln, n, R, H⟩ := h
    exact ⟨rfl, cutL (cutS R S w a b), fun pc I hI N L st S' c hi => ⟨300, step_vc H (pc, I) (cutL_e hI) N L st S' c hi⟩, 1, 300, step_begin H⟩

