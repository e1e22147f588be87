/-! THE LAW: a step, its heads and its calls (by wip/p24/mkstep.py) -/
def PD (R S : Sto) : Prop := (S.2.1 3 0 = shN R 6 ∧ S.2.1 3 1 = nD R ∧ S.2.1 3 2 = nM R ∧ S.2.1 3 3 = nO R) ∧ QI R (S.2.1 3 4)
theorem PD.mk' {R R' S S1 : Sto} (h : PD R S) (h3 : S1.2.1 3 = S.2.1 3) (hc : cntR R' (shN R 6) (nD R) (nM R) (nO R)) (hq : ∀ b, QI R b → QI R' b) : PD R' S1 := by
  obtain ⟨⟨a0, a1, a2, a3⟩, q⟩ := h
  obtain ⟨c0, c1, c2, c3⟩ := hc
  unfold PD
  rw [h3, c0, c1, c2, c3]
  exact ⟨⟨a0, a1, a2, a3⟩, hq _ q⟩
theorem PD.th {R S S1 : Sto} {k : Int} (h : PD R S) (h3 : S1.2.1 3 = S.2.1 3) : PD (thr R k) S1 := h.mk' h3 cnt_thr fun _ q => q.th_
theorem uq {S : Sto} {j : Nat} {v : Int} : (updI S 3 j v).2.1 3 j = v := by rw [updI_2, if_pos ⟨rfl, rfl⟩]
theorem un {S : Sto} {j k : Nat} {v : Int} (h : k ≠ j) : (updI S 3 j v).2.1 3 k = S.2.1 3 k := by rw [updI_2, if_neg (fun z => h z.2)]
/-- what holds as a step begins -/
def stH (xs : Nat → Int) (Ln : Nat) (n : Int) (R S : Sto) (w a b : Int) (post : Res → Sto → Prop) : Prop := PI xs Ln n R S ∧ PD R S ∧ ((0 ≤ w ∧ w ≤ 2147483647) ∧ (0 ≤ a ∧ a ≤ 2147483647) ∧ 0 ≤ b ∧ b ≤ 2147483647) ∧ (0 ≤ n ∧ n ≤ 180) ∧ S.2.1 3 4 ≤ 5000 * n ∧ ∀ S' R' n', PI xs Ln n' R' S' → PD R' S' → n' ≤ n + 3 → S'.2.1 3 4 ≤ 5000 * n' → post (.inl (some (vI 1))) S'
def s_step : Spec := fun as S post => match as with
  | [.inr (.inr (some 1)), .inr (.inr (some 3)), .inl w, .inl a, .inl b] => ∃ xs Ln n R, stH xs Ln n R S w a b post
  | _ => False
def hdS (F : Int → Int → Prop) (S : Sto) (w a b : Int) : InvF := fun ms L st S' c => ∃ o m k, L = [vT 1, vT 3, vI w, vI a, vI b, vI o, vI m, vI k, uu, uu, uu, uu, uu, uu, uu, uu, uu, uu, uu, uu, uu, uu, uu, uu, uu, uu, uu, uu, uu, uu, uu, uu, uu, uu, uu, uu, uu] ∧ st = [] ∧ S' = S ∧ c = (0, 0) ∧ F o m
def fT : Int → Int → Prop := fun _ _ => True
def fD (R : Sto) : Int → Int → Prop := fun _ _ => 0 < nD R
def fO (R : Sto) : Int → Int → Prop := fun o m => (0 ≤ o ∧ o < nO R) ∧ 0 ≤ m ∧ m < nM R
def cutS (R S : Sto) (w a b : Int) : List (Nat × InvF) := [(148, hdS fT S w a b), (304, hdS fT S w a b), (386, hdS fT S w a b), (492, hdS fT S w a b), (555, hdS (fD R) S w a b), (665, hdS (fO R) S w a b), (794, hdS (fO R) S w a b), (917, hdS (fO R) S w a b), (1108, hdS (fO R) S w a b), (1231, hdS (fO R) S w a b)]
def lkW : List (Nat × Spec × Nat × Nat × Nat) → WrF
  | [] => fun _ => none
  | q :: r => fun pc => cond (Nat.beq pc q.1) (some q.2) (lkW r pc)
theorem lkW_e : ∀ {l : List (Nat × Spec × Nat × Nat × Nat)} {pc : Nat} {w : Spec × Nat × Nat × Nat}, lkW l pc = some w → (pc, w) ∈ l
  | [], pc, w, h => by cases h
  | q :: r, pc, w, h => by
    unfold lkW at h
    cases hb : Nat.beq pc q.1 with
    | true =>
      rw [hb] at h
      have e1 := Nat.eq_of_beq_eq_true hb
      have e2 : q.2 = w := by simpa using h
      rw [e1, ← e2]; exact List.mem_cons_self
    | false =>
      rw [hb] at h
      exact List.mem_cons_of_mem _ (lkW_e h)
def wrT : List (Nat × Spec × Nat × Nat × Nat) := [(244, s_wshapes, 7, 2, 22), (310, s_wdesigns, 1, 8, 3178), (410, s_wmachines, 4, 2, 24), (567, s_worders, 3, 3, 30), (688, s_wstarts, 3, 3, 18), (847, s_wacts, 5, 2, 12), (980, s_wacts, 5, 2, 12), (1132, s_wacts, 5, 2, 12), (1217, s_wacts, 5, 2, 12), (1264, s_wacts, 5, 2, 12)]
def wrS : WrF := lkW wrT
set_option maxHeartbeats 4000000 in
set_option maxRecDepth 100000 in
theorem wrT_ok : ∀ w ∈ wrT, ∃ q hh dw, SatH q hh w.2.1 w.2.2.2.1 w.2.2.2.2 dw ∧ dw < 14 ∧ wrOKc cL_step RL w.1 q hh w.2.2.1 :=
  List.forall_mem_cons.mpr ⟨⟨mL_shapes, hhL_shapes, 13, satH_shapes, Nat.le_of_ble_eq_true rfl, 47, by decide +kernel, (List.mem_of_getElem? (i := 223) (by decide +kernel)), (List.mem_of_getElem? (i := 224) (by decide +kernel)), (List.mem_of_getElem? (i := 225) (by decide +kernel)), (List.mem_of_getElem? (i := 14) (by decide +kernel)), ⟨by decide +kernel, by decide +kernel⟩, by decide +kernel, by decide⟩,
  List.forall_mem_cons.mpr ⟨⟨mL_designs, hhL_designs, 13, satH_designs, Nat.le_of_ble_eq_true rfl, 53, by decide +kernel, (List.mem_of_getElem? (i := 270) (by decide +kernel)), (List.mem_of_getElem? (i := 271) (by decide +kernel)), (List.mem_of_getElem? (i := 272) (by decide +kernel)), (List.mem_of_getElem? (i := 14) (by decide +kernel)), ⟨by decide +kernel, by decide +kernel⟩, by decide +kernel, by decide⟩,
  List.forall_mem_cons.mpr ⟨⟨mL_machines, hhL_machines, 13, satH_machines, Nat.le_of_ble_eq_true rfl, 64, by decide +kernel, (List.mem_of_getElem? (i := 483) (by decide +kernel)), (List.mem_of_getElem? (i := 484) (by decide +kernel)), (List.mem_of_getElem? (i := 485) (by decide +kernel)), (List.mem_of_getElem? (i := 14) (by decide +kernel)), ⟨by decide +kernel, by decide +kernel⟩, by decide +kernel, by decide⟩,
  List.forall_mem_cons.mpr ⟨⟨mL_orders, hhL_orders, 13, satH_orders, Nat.le_of_ble_eq_true rfl, 77, by decide +kernel, (List.mem_of_getElem? (i := 544) (by decide +kernel)), (List.mem_of_getElem? (i := 545) (by decide +kernel)), (List.mem_of_getElem? (i := 546) (by decide +kernel)), (List.mem_of_getElem? (i := 14) (by decide +kernel)), ⟨by decide +kernel, by decide +kernel⟩, by decide +kernel, by decide⟩,
  List.forall_mem_cons.mpr ⟨⟨mL_starts, hhL_starts, 13, satH_starts, Nat.le_of_ble_eq_true rfl, 87, by decide +kernel, (List.mem_of_getElem? (i := 610) (by decide +kernel)), (List.mem_of_getElem? (i := 611) (by decide +kernel)), (List.mem_of_getElem? (i := 612) (by decide +kernel)), (List.mem_of_getElem? (i := 14) (by decide +kernel)), ⟨by decide +kernel, by decide +kernel⟩, by decide +kernel, by decide⟩,
  List.forall_mem_cons.mpr ⟨⟨mL_acts, hhL_acts, 13, satH_acts, Nat.le_of_ble_eq_true rfl, 94, by decide +kernel, (List.mem_of_getElem? (i := 636) (by decide +kernel)), (List.mem_of_getElem? (i := 637) (by decide +kernel)), (List.mem_of_getElem? (i := 638) (by decide +kernel)), (List.mem_of_getElem? (i := 14) (by decide +kernel)), ⟨by decide +kernel, by decide +kernel⟩, by decide +kernel, by decide⟩,
  List.forall_mem_cons.mpr ⟨⟨mL_acts, hhL_acts, 13, satH_acts, Nat.le_of_ble_eq_true rfl, 94, by decide +kernel, (List.mem_of_getElem? (i := 636) (by decide +kernel)), (List.mem_of_getElem? (i := 637) (by decide +kernel)), (List.mem_of_getElem? (i := 638) (by decide +kernel)), (List.mem_of_getElem? (i := 14) (by decide +kernel)), ⟨by decide +kernel, by decide +kernel⟩, by decide +kernel, by decide⟩,
  List.forall_mem_cons.mpr ⟨⟨mL_acts, hhL_acts, 13, satH_acts, Nat.le_of_ble_eq_true rfl, 94, by decide +kernel, (List.mem_of_getElem? (i := 636) (by decide +kernel)), (List.mem_of_getElem? (i := 637) (by decide +kernel)), (List.mem_of_getElem? (i := 638) (by decide +kernel)), (List.mem_of_getElem? (i := 14) (by decide +kernel)), ⟨by decide +kernel, by decide +kernel⟩, by decide +kernel, by decide⟩,
  List.forall_mem_cons.mpr ⟨⟨mL_acts, hhL_acts, 13, satH_acts, Nat.le_of_ble_eq_true rfl, 94, by decide +kernel, (List.mem_of_getElem? (i := 636) (by decide +kernel)), (List.mem_of_getElem? (i := 637) (by decide +kernel)), (List.mem_of_getElem? (i := 638) (by decide +kernel)), (List.mem_of_getElem? (i := 14) (by decide +kernel)), ⟨by decide +kernel, by decide +kernel⟩, by decide +kernel, by decide⟩,
  List.forall_mem_cons.mpr ⟨⟨mL_acts, hhL_acts, 13, satH_acts, Nat.le_of_ble_eq_true rfl, 94, by decide +kernel, (List.mem_of_getElem? (i := 636) (by decide +kernel)), (List.mem_of_getElem? (i := 637) (by decide +kernel)), (List.mem_of_getElem? (i := 638) (by decide +kernel)), (List.mem_of_getElem? (i := 14) (by decide +kernel)), ⟨by decide +kernel, by decide +kernel⟩, by decide +kernel, by decide⟩,
  fun w h => absurd h List.not_mem_nil⟩⟩⟩⟩⟩⟩⟩⟩⟩⟩
def spL_step : Nat → CD := spF mdL_step fun i => match i with
  | 1 => (s_isDesign, 0, 0, 13)
  | 2 => (frS s_wipeC, 0, 0, 12)
  | 3 => (frS s_ofMachineI, 0, 0, 12)
  | 4 => (frS s_leftI, 0, 0, 12)
  | 5 => (frS s_stockC, 1, 6, 12)
  | 6 => (frS s_ofOrderI, 0, 0, 12)
  | 7 => (frS s_shadeOfI, 0, 0, 12)
  | 8 => (s_areShades, 0, 0, 13)
  | _ => noR
theorem spS_ok : ∀ i, Sat (spL_step i).1 (spL_step i).2.1 (spL_step i).2.2.1 (spL_step i).2.2.2.1 (spL_step i).2.2.2.2 ∧ (spL_step i).2.2.2.2 < 14 := fun i => match i with
  | 1 => ⟨sat_L_isDesign, Nat.le_of_ble_eq_true rfl⟩
  | 2 => ⟨frS_sat sat_X6_wipe, Nat.le_of_ble_eq_true rfl⟩
  | 3 => ⟨frS_sat sat_X6_ofMachine_i, Nat.le_of_ble_eq_true rfl⟩
  | 4 => ⟨frS_sat sat_X6_left_i, Nat.le_of_ble_eq_true rfl⟩
  | 5 => ⟨frS_sat sat_X6_stock, Nat.le_of_ble_eq_true rfl⟩
  | 6 => ⟨frS_sat sat_X6_ofOrder_i, Nat.le_of_ble_eq_true rfl⟩
  | 7 => ⟨frS_sat sat_X6_shadeOf_i, Nat.le_of_ble_eq_true rfl⟩
  | 8 => ⟨sat_L_areShades, Nat.le_of_ble_eq_true rfl⟩
  | i + 9 => ⟨sat_no _, Nat.le_of_ble_eq_true rfl⟩
  | 0 => ⟨sat_no _, Nat.le_of_ble_eq_true rfl⟩

