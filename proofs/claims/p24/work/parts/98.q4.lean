/-! THE LAW: a design is looked at -/
def s_isDesign : Spec := fun as S post => match as with
  | [.inr (.inr (some 1)), .inl d, .inl n] => ∃ xs Ln n9 R, PI xs Ln n9 R S ∧ (0 ≤ d ∧ d < nD R) ∧ n = shN R d ∧ post (.inl (some (vI 1))) S
  | _ => False
def spL_isDesign : Nat → CD := spF mdL_isDesign fun i => match i with
  | 1 => ((frS s_stitchesI), 0, 0, 12)
  | 2 => ((frS s_stitchI), 0, 0, 12)
  | 3 => ((frS s_sequenceI), 0, 0, 12)
  | 4 => ((frS s_changesI), 0, 0, 12)
  | 5 => ((frS s_changesAnewI), 0, 0, 12)
  | 6 => (s_off, 0, 0, 1)
  | 7 => ((frS s_jumpsI), 0, 0, 12)
  | _ => noR
set_option maxHeartbeats 40000000 in
set_option maxRecDepth 100000 in
theorem sat_L_isDesign : Sat mL_isDesign s_isDesign 0 0 13 := by
  refine sat_of (E := eL_isDesign) (sp := spL_isDesign) (ini := false) (by decide +kernel) (fun h => by cases h) okL_isDesign (fun i => match i with
    | 1 => ⟨frS_sat sat_X6_stitches_i, Nat.le_of_ble_eq_true rfl⟩
    | 2 => ⟨frS_sat sat_X6_stitch_i, Nat.le_of_ble_eq_true rfl⟩
    | 3 => ⟨frS_sat sat_X6_sequence_i, Nat.le_of_ble_eq_true rfl⟩
    | 4 => ⟨frS_sat sat_X6_changes_i, Nat.le_of_ble_eq_true rfl⟩
    | 5 => ⟨frS_sat sat_X6_changesAnew_i, Nat.le_of_ble_eq_true rfl⟩
    | 6 => ⟨sat_L_off, Nat.le_of_ble_eq_true rfl⟩
    | 7 => ⟨frS_sat sat_X6_jumps_i, Nat.le_of_ble_eq_true rfl⟩
    | i + 8 => ⟨sat_no _, Nat.le_of_ble_eq_true rfl⟩
    | 0 => ⟨sat_no _, Nat.le_of_ble_eq_true rfl⟩) ?_
  intro as S post h
  match as, h with
  | [.inr (.inr (some 1)), .inl d, .inl n], h =>
    obtain ⟨xs, Ln, n9, R, hP, hd, hn, h⟩ := h
    have hI := hP.mi
    have hN := hI.2.1
    have hD := hI.2.2.2.1 d hd.1 hd.2
    have hmn := hD.mn
    have t1 : ∃ n, S.1 1 = some (6, n) := ⟨9, hP.t1⟩
    have h17 : 1 ≤ shN R d ∧ shN R d ≤ 7 := ⟨hD.1.2.2.1, hD.1.2.2.2.1⟩
    obtain ⟨W, w0, wn, ws⟩ := des_set hD
    obtain ⟨q, hq⟩ : ∃ q : Nat, (q : Int) = shN R d := ⟨(shN R d).toNat, Int.toNat_of_nonneg (by omega)⟩
    have hqn : (shN R d).toNat = q := by omega
    rw [hqn] at wn
    obtain ⟨M, hM⟩ : ∃ M : Nat, (M : Int) = mnK R d := ⟨(mnK R d).toNat, Int.toNat_of_nonneg (by omega)⟩
    have hMn : (mnK R d).toNat = M := by omega
    have hend : bgD R d q = M := by
      have := hD.end
      rw [hqn] at this
      show bgN (dQ R d) q = M
      omega
    have hmono : ∀ p, p ≤ q → bgD R d p ≤ M := fun p hp => by rw [← hend]; exact bgN_mono q hp
    have h2n := des_all hD q (by omega)
    rw [hend] at h2n
    have hsum : sumTo (fun c => cntC R d (c : Int) (mnK R d).toNat) 6 = mnK R d := by
      rw [cnt_6 hD _ (by omega)]
      omega
    have hchg := chg_lt hD
    have hjf := jmp_far (R := R) (d := d) M
    have hj1 := jmp_r (R := R) (d := d) (hid := 1) M
    have hj0 := jmp_r (R := R) (d := d) (hid := 0) M
    subst hn
    refine bodyL [(13, fun ms L st S' c => ∃ (k : Nat) (x6 x7 x8 x9 x10 x11 x12 : AV), L = [vT 1, vI d, vI (shN R d), vI (mnK R d), vI (sumTo (fun c => cntC R d (c : Int) (mnK R d).toNat) k), vI k, x6, x7, x8, x9, x10, x11, x12] ∧ st = [] ∧ S' = S ∧ c = (0, 0) ∧ ms = 100000 + (6 - k) ∧ k ≤ 6),
      (113, fun ms L st S' c => ∃ (p : Nat) (x10 x11 x12 : AV), L = [vT 1, vI d, vI (shN R d), vI (mnK R d), vI (mnK R d), vI 1, vI (W p : Nat), vI (bgD R d p : Nat), vI (farN R d (bgD R d p)), vI p, x10, x11, x12] ∧ st = [] ∧ S' = S ∧ c = (0, 0) ∧ ms = (7 - p) * 10000 + 9999 ∧ p ≤ q),
      (176, fun ms L st S' c => ∃ (p at_ : Nat) (x12 : AV), L = [vT 1, vI d, vI (shN R d), vI (mnK R d), vI (mnK R d), vI 1, vI (W (p + 1) : Nat), vI at_, vI (farN R d at_), vI p, vI (seqK R d p), vI (bgD R d p : Nat), x12] ∧ st = [] ∧ S' = S ∧ c = (0, 0) ∧ ms = (7 - p) * 10000 + (M - at_) ∧ p < q ∧ bgD R d p ≤ at_ ∧ at_ ≤ bgD R d (p + 1))] 200000 250 rfl
      (List.forall_mem_cons.mpr ⟨?_, List.forall_mem_cons.mpr ⟨?_, List.forall_mem_cons.mpr ⟨?_, fun q hq => by cases hq⟩⟩⟩) ?_
    · rintro ms L st S' c ⟨k, x6, x7, x8, x9, x10, x11, x12, rfl, rfl, rfl, rfl, rfl, hk⟩
      by_cases hk6 : k < 6
      · repeat' (first
            | omega
            | with_reducible apply And.intro
            | intro c9
            | exact t1
            | refine gg_stitches hP ⟨hd, by omega, by omega⟩ ?_
            | exact ⟨100000 + (6 - (k + 1)), by omega, k + 1, _, _, _, _, _, _, _, by rw [Int.natCast_add]; rfl, rfl, rfl, rfl, rfl, by omega⟩
            | refine Exists.intro _ (And.intro rfl ?_)
            | ((with_reducible show wp _ _ _ _ _ _ _ _ _ _ _ _ _ _); conv => whnf)
            | ((with_reducible show callK _ _ _ _ _ _ _ _ _); conv => whnf)
            | ((with_reducible show condK _ _ _ _ _); conv => whnf)
            | ((with_reducible show st1 _ _ _ _ _ _ _ _ _ _ _ _); conv => whnf)
            | ((with_reducible show (Prod.fst _ : Spec) _ _ _); conv => whnf)
            | ((with_reducible show shortK _ _); conv => whnf)
            | exact Nat.le_of_ble_eq_true rfl)
      · have e6 : k = 6 := by omega
        subst e6
        repeat' (first
            | omega
            | with_reducible apply And.intro
            | intro c9
            | exact t1
            | rw [hsum]
            | refine gg_stitchN hP ⟨hd, rfl, rfl⟩ ?_
            | refine gg_seqN hP ⟨hd, by omega, by omega, by omega⟩ ?_
            | refine gg_changes hP hd ?_
            | refine gg_changesAnew hP hd ?_
            | exact ⟨79999, by omega, 0, _, _, _, by rw [w0]; rfl, rfl, rfl, rfl, rfl, by omega⟩
            | refine Exists.intro _ (And.intro rfl ?_)
            | ((with_reducible show wp _ _ _ _ _ _ _ _ _ _ _ _ _ _); conv => whnf)
            | ((with_reducible show callK _ _ _ _ _ _ _ _ _); conv => whnf)
            | ((with_reducible show condK _ _ _ _ _); conv => whnf)
            | ((with_reducible show st1 _ _ _ _ _ _ _ _ _ _ _ _); conv => whnf)
            | ((with_reducible show (Prod.fst _ : Spec) _ _ _); conv => whnf)
            | ((with_reducible show shortK _ _); conv => whnf)
            | exact Nat.le_of_ble_eq_true rfl)
    · rintro ms L st S' c ⟨p, x10, x11, x12, rfl, rfl, rfl, rfl, rfl, hp⟩
      by_cases hpq : p < q
      · obtain ⟨s1, s2, s3⟩ := ws p (by omega)
        have sq := hD.seq (p := (p : Int)) (by omega) (by omega)
        have hl := des_len hD (p := p) (by omega)
        have hm1 := hmono (p + 1) (by omega)
        have hi := des_its hD (p := p) (by omega) (Nat.le_refl _) (by omega)
        have eb : bAnd (bShr ((W p : Nat) : Int) (seqK R d p)) 1 = 0 := by
          have := bz_has (W p) (seqK R d p).toNat s1 (by omega)
          rw [Int.toNat_of_nonneg sq.1, s2, if_neg (by simp)] at this
          exact this
        have eo : bOr ((W p : Nat) : Int) (bShl 1 (seqK R d p)) = ((W (p + 1) : Nat) : Int) := by
          have := bz_or (W p) (seqK R d p).toNat s1 (by omega)
          rw [Int.toNat_of_nonneg sq.1, ← s3] at this
          exact this
        repeat' (first
            | omega
            | with_reducible apply And.intro
            | intro c9
            | exact t1
            | refine gg_seq hP ⟨hd, by omega, by omega⟩ ?_
            | refine gg_stitch2 hP ⟨hd, ⟨by omega, by omega⟩, rfl⟩ ?_
            | rw [eb]
            | rw [eo]
            | rw [hi]
            | exact ⟨(7 - p) * 10000 + (M - bgD R d p), by omega, p, bgD R d p, _, rfl, rfl, rfl, rfl, rfl, hpq, Nat.le_refl _, by omega⟩
            | refine Exists.intro _ (And.intro rfl ?_)
            | ((with_reducible show wp _ _ _ _ _ _ _ _ _ _ _ _ _ _); conv => whnf)
            | ((with_reducible show callK _ _ _ _ _ _ _ _ _); conv => whnf)
            | ((with_reducible show condK _ _ _ _ _); conv => whnf)
            | ((with_reducible show st1 _ _ _ _ _ _ _ _ _ _ _ _); conv => whnf)
            | ((with_reducible show (Prod.fst _ : Spec) _ _ _); conv => whnf)
            | ((with_reducible show shortK _ _); conv => whnf)
            | exact Nat.le_of_ble_eq_true rfl)
      · have ep : p = q := by omega
        subst ep
        have es : bShl 1 (shN R d) = ((2 ^ p : Nat) : Int) := by
          have := bz_shl p (by omega)
          rw [hq] at this
          exact this
        have hp2 := Nat.two_pow_pos p
        have hp7 : 2 ^ p ≤ 128 := Nat.le_trans (show 2 ^ p ≤ 2 ^ 7 from Nat.pow_le_pow_right (by omega) (by omega)) (by decide)
        have hfr := farN_r (R := R) (d := d) M
        rw [hend]
        repeat' (first
            | omega
            | with_reducible apply And.intro
            | intro c9
            | exact t1
            | rw [es]
            | rw [wn]
            | rw [hMn]
            | refine gg_jumps hP ⟨hd, Or.inl rfl⟩ ?_
            | refine gg_jumps hP ⟨hd, Or.inr rfl⟩ ?_
            | exact kr_i ( h ) (Nat.le_of_ble_eq_true rfl) (Nat.le_of_ble_eq_true rfl)
            | refine Exists.intro _ (And.intro rfl ?_)
            | ((with_reducible show wp _ _ _ _ _ _ _ _ _ _ _ _ _ _); conv => whnf)
            | ((with_reducible show callK _ _ _ _ _ _ _ _ _); conv => whnf)
            | ((with_reducible show condK _ _ _ _ _); conv => whnf)
            | ((with_reducible show st1 _ _ _ _ _ _ _ _ _ _ _ _); conv => whnf)
            | ((with_reducible show (Prod.fst _ : Spec) _ _ _); conv => whnf)
            | ((with_reducible show shortK _ _); conv => whnf)
            | exact Nat.le_of_ble_eq_true rfl)
    · rintro ms L st S' c ⟨p, at_, x12, rfl, rfl, rfl, rfl, rfl, hp, ha0, ha1⟩
      have sq := hD.seq (p := (p : Int)) (by omega) (by omega)
      have hl := des_len hD (p := p) (by omega)
      have hm1 := hmono (p + 1) (by omega)
      have hfr := farN_r (R := R) (d := d) at_
      by_cases hat : at_ < bgD R d (p + 1)
      · have hi := des_its hD (p := p) (by omega) ha0 hat
        by_cases h0 : at_ = 0
        · have hF : farN R d (at_ + 1) = farN R d at_ := by rw [h0]; rfl
          repeat' (first
              | omega
              | with_reducible apply And.intro
              | intro c9
              | exact t1
              | refine gg_stitch2 hP ⟨hd, ⟨by omega, by omega⟩, rfl⟩ ?_
              | rw [hi]
              | exact ⟨(7 - p) * 10000 + (M - (at_ + 1)), by omega, p, at_ + 1, _, by rw [hF, Int.natCast_add, Int.add_zero]; rfl, rfl, rfl, rfl, rfl, hp, by omega, by omega⟩
              | refine Exists.intro _ (And.intro rfl ?_)
              | ((with_reducible show wp _ _ _ _ _ _ _ _ _ _ _ _ _ _); conv => whnf)
              | ((with_reducible show callK _ _ _ _ _ _ _ _ _); conv => whnf)
              | ((with_reducible show condK _ _ _ _ _); conv => whnf)
              | ((with_reducible show st1 _ _ _ _ _ _ _ _ _ _ _ _); conv => whnf)
              | ((with_reducible show (Prod.fst _ : Spec) _ _ _); conv => whnf)
              | ((with_reducible show shortK _ _); conv => whnf)
              | exact Nat.le_of_ble_eq_true rfl)
        · have hFs := farN_s R d (k := at_) (by omega)
          have ho : farP2 R d at_ ↔ (stK R d at_ % 16 - stK R d ((at_ : Int) - 1) % 16 > 1 ∨ stK R d at_ % 16 - stK R d ((at_ : Int) - 1) % 16 < -1) ∨ (stK R d at_ / 16 % 16 - stK R d ((at_ : Int) - 1) / 16 % 16 > 1 ∨ stK R d at_ / 16 % 16 - stK R d ((at_ : Int) - 1) / 16 % 16 < -1) := by
            unfold farP2 offP
            omega
          by_cases hf : farP2 R d at_
          · have ho1 := ho.mp hf
            have hF : farN R d (at_ + 1) = farN R d at_ + 1 := by
              rw [hFs]
              unfold farI
              rw [if_pos hf]
            clear ho hFs
            repeat' (first
                | omega
                | with_reducible apply And.intro
                | intro c9
                | exact t1
                | refine gg_stitch2 hP ⟨hd, ⟨by omega, by omega⟩, rfl⟩ ?_
                | refine gg_stitch0 hP ⟨hd, ⟨by omega, by omega⟩, rfl⟩ ?_
                | refine gg_stitch1 hP ⟨hd, ⟨by omega, by omega⟩, rfl⟩ ?_
                | rw [hi]
                | exact ⟨(7 - p) * 10000 + (M - (at_ + 1)), by omega, p, at_ + 1, _, by rw [hF, Int.natCast_add]; rfl, rfl, rfl, rfl, rfl, hp, by omega, by omega⟩
                | refine Exists.intro _ (And.intro rfl ?_)
                | ((with_reducible show wp _ _ _ _ _ _ _ _ _ _ _ _ _ _); conv => whnf)
                | ((with_reducible show callK _ _ _ _ _ _ _ _ _); conv => whnf)
                | ((with_reducible show condK _ _ _ _ _); conv => whnf)
                | ((with_reducible show st1 _ _ _ _ _ _ _ _ _ _ _ _); conv => whnf)
                | ((with_reducible show (Prod.fst _ : Spec) _ _ _); conv => whnf)
                | ((with_reducible show shortK _ _); conv => whnf)
                | exact Nat.le_of_ble_eq_true rfl)
          · have ho1 : ¬ ((stK R d at_ % 16 - stK R d ((at_ : Int) - 1) % 16 > 1 ∨ stK R d at_ % 16 - stK R d ((at_ : Int) - 1) % 16 < -1) ∨ (stK R d at_ / 16 % 16 - stK R d ((at_ : Int) - 1) / 16 % 16 > 1 ∨ stK R d at_ / 16 % 16 - stK R d ((at_ : Int) - 1) / 16 % 16 < -1)) := fun z => hf (ho.mpr z)
            have hF : farN R d (at_ + 1) = farN R d at_ := by
              rw [hFs]
              unfold farI
              rw [if_neg hf]
              omega
            clear ho hFs
            repeat' (first
                | omega
                | with_reducible apply And.intro
                | intro c9
                | exact t1
                | refine gg_stitch2 hP ⟨hd, ⟨by omega, by omega⟩, rfl⟩ ?_
                | refine gg_stitch0 hP ⟨hd, ⟨by omega, by omega⟩, rfl⟩ ?_
                | refine gg_stitch1 hP ⟨hd, ⟨by omega, by omega⟩, rfl⟩ ?_
                | rw [hi]
                | exact ⟨(7 - p) * 10000 + (M - (at_ + 1)), by omega, p, at_ + 1, _, by rw [hF, Int.natCast_add, Int.add_zero]; rfl, rfl, rfl, rfl, rfl, hp, by omega, by omega⟩
                | refine Exists.intro _ (And.intro rfl ?_)
                | ((with_reducible show wp _ _ _ _ _ _ _ _ _ _ _ _ _ _); conv => whnf)
                | ((with_reducible show callK _ _ _ _ _ _ _ _ _); conv => whnf)
                | ((with_reducible show condK _ _ _ _ _); conv => whnf)
                | ((with_reducible show st1 _ _ _ _ _ _ _ _ _ _ _ _); conv => whnf)
                | ((with_reducible show (Prod.fst _ : Spec) _ _ _); conv => whnf)
                | ((with_reducible show shortK _ _); conv => whnf)
                | exact Nat.le_of_ble_eq_true rfl)
      · have ea : at_ = bgD R d (p + 1) := by omega
        by_cases hpn : p + 1 < q
        · have hl2 := des_len hD (p := p + 1) (by omega)
          have hm2 := hmono (p + 1 + 1) (by omega)
          have hi := des_its hD (p := p + 1) (by omega) (Nat.le_refl _) (by omega)
          rw [← ea] at hi hl2
          have hne := des_ne hD (p := p) (by omega)
          have sq2 := hD.seq (p := ((p + 1 : Nat) : Int)) (by omega) (by omega)
          repeat' (first
              | omega
              | with_reducible apply And.intro
              | intro c9
              | exact t1
              | refine gg_stitch2 hP ⟨hd, ⟨by omega, by omega⟩, rfl⟩ ?_
              | rw [hi]
              | exact ⟨(7 - (p + 1)) * 10000 + 9999, by omega, p + 1, _, _, _, by rw [← ea, Int.natCast_add]; rfl, rfl, rfl, rfl, rfl, by omega⟩
              | refine Exists.intro _ (And.intro rfl ?_)
              | ((with_reducible show wp _ _ _ _ _ _ _ _ _ _ _ _ _ _); conv => whnf)
              | ((with_reducible show callK _ _ _ _ _ _ _ _ _); conv => whnf)
              | ((with_reducible show condK _ _ _ _ _); conv => whnf)
              | ((with_reducible show st1 _ _ _ _ _ _ _ _ _ _ _ _); conv => whnf)
              | ((with_reducible show (Prod.fst _ : Spec) _ _ _); conv => whnf)
              | ((with_reducible show shortK _ _); conv => whnf)
              | exact Nat.le_of_ble_eq_true rfl)
        · have ep : p + 1 = q := by omega
          have eM : at_ = M := by rw [ea, ep]; exact hend
          repeat' (first
              | omega
              | with_reducible apply And.intro
              | intro c9
              | exact t1
              | exact ⟨(7 - (p + 1)) * 10000 + 9999, by omega, p + 1, _, _, _, by rw [← ea, Int.natCast_add]; rfl, rfl, rfl, rfl, rfl, by omega⟩
              | refine Exists.intro _ (And.intro rfl ?_)
              | ((with_reducible show wp _ _ _ _ _ _ _ _ _ _ _ _ _ _); conv => whnf)
              | ((with_reducible show callK _ _ _ _ _ _ _ _ _); conv => whnf)
              | ((with_reducible show condK _ _ _ _ _); conv => whnf)
              | ((with_reducible show st1 _ _ _ _ _ _ _ _ _ _ _ _); conv => whnf)
              | ((with_reducible show (Prod.fst _ : Spec) _ _ _); conv => whnf)
              | ((with_reducible show shortK _ _); conv => whnf)
              | exact Nat.le_of_ble_eq_true rfl)
    · repeat' (first
          | omega
          | with_reducible apply And.intro
          | intro c9
          | exact t1
          | refine gg_stAll hP ⟨hd, rfl⟩ ?_
          | exact ⟨100006, by omega, 0, _, _, _, _, _, _, _, rfl, rfl, rfl, rfl, rfl, by omega⟩
          | refine Exists.intro _ (And.intro rfl ?_)
          | ((with_reducible show wp _ _ _ _ _ _ _ _ _ _ _ _ _ _); conv => whnf)
          | ((with_reducible show callK _ _ _ _ _ _ _ _ _); conv => whnf)
          | ((with_reducible show condK _ _ _ _ _); conv => whnf)
          | ((with_reducible show st1 _ _ _ _ _ _ _ _ _ _ _ _); conv => whnf)
          | ((with_reducible show (Prod.fst _ : Spec) _ _ _); conv => whnf)
          | ((with_reducible show shortK _ _); conv => whnf)
          | exact Nat.le_of_ble_eq_true rfl)

