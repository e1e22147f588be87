/-! THE LAW'S CALLS (by wip/whole/mklaw.py) -/
def spL_law : Nat → CD := spF mdL_law fun i => match i with
  | 1 => (frS s_initC, 6, 56, 2)
  | 2 => (frS s_minit, 29, 15170, 1)
  | 3 => (frS s_shape, 0, 0, 3)
  | 4 => (s_thrown, 0, 0, 1)
  | 5 => (frS s_wipeC, 0, 0, 12)
  | 6 => (frS s_wipe, 0, 0, 3)
  | 7 => (frS s_design, 0, 0, 7)
  | 8 => (frS s_machine, 0, 0, 3)
  | 9 => (frS s_stock, 0, 0, 3)
  | 10 => (frS s_order, 0, 0, 3)
  | 11 => (frS s_start, 0, 0, 5)
  | 12 => (frS s_run, 0, 0, 3)
  | 13 => (frS s_snap, 0, 0, 3)
  | 14 => (frS s_match, 0, 0, 4)
  | 15 => (frS s_cancel, 0, 0, 3)
  | 16 => (frS s_stitches, 0, 0, 3)
  | 17 => (frS s_stitch, 0, 0, 3)
  | 18 => (frS s_sequence, 0, 0, 3)
  | 19 => (frS s_changes, 0, 0, 3)
  | 20 => (frS s_changesAnew, 0, 0, 4)
  | 21 => (frS s_jumps, 0, 0, 4)
  | 22 => (frS s_ofOrder, 0, 0, 3)
  | 23 => (frS s_shadeOf, 0, 0, 3)
  | 24 => (frS s_ofMachine, 0, 0, 3)
  | 25 => (frS s_left, 0, 0, 3)
  | _ => noR
theorem rm1 {d : Nat} (h : d ≤ 20) : roomOK room_1 d := ⟨by show 10 + d + 1 ≤ 2048; omega, by show 8 + (40 + 11) + (300 + 60 * d) ≤ 84000; omega⟩
theorem satL_law : ∀ i, Sat (spL_law i).1 (spL_law i).2.1 (spL_law i).2.2.1 (spL_law i).2.2.2.1 (spL_law i).2.2.2.2 ∧ roomOK room_1 (spL_law i).2.2.2.2 := fun i => match i with
  | 1 => ⟨frS_sat sat_X6_init, rm1 (Nat.le_of_ble_eq_true rfl)⟩
  | 2 => ⟨frS_sat sat_X7_init, rm1 (Nat.le_of_ble_eq_true rfl)⟩
  | 3 => ⟨frS_sat sat_X7_shape, rm1 (Nat.le_of_ble_eq_true rfl)⟩
  | 4 => ⟨sat_X7_thrown, rm1 (Nat.le_of_ble_eq_true rfl)⟩
  | 5 => ⟨frS_sat sat_X6_wipe, rm1 (Nat.le_of_ble_eq_true rfl)⟩
  | 6 => ⟨frS_sat sat_X7_wipe, rm1 (Nat.le_of_ble_eq_true rfl)⟩
  | 7 => ⟨frS_sat sat_X7_design, rm1 (Nat.le_of_ble_eq_true rfl)⟩
  | 8 => ⟨frS_sat sat_X7_machine, rm1 (Nat.le_of_ble_eq_true rfl)⟩
  | 9 => ⟨frS_sat sat_X7_stock, rm1 (Nat.le_of_ble_eq_true rfl)⟩
  | 10 => ⟨frS_sat sat_X7_order, rm1 (Nat.le_of_ble_eq_true rfl)⟩
  | 11 => ⟨frS_sat sat_X7_start, rm1 (Nat.le_of_ble_eq_true rfl)⟩
  | 12 => ⟨frS_sat sat_X7_run, rm1 (Nat.le_of_ble_eq_true rfl)⟩
  | 13 => ⟨frS_sat sat_X7_snap, rm1 (Nat.le_of_ble_eq_true rfl)⟩
  | 14 => ⟨frS_sat sat_X7_match, rm1 (Nat.le_of_ble_eq_true rfl)⟩
  | 15 => ⟨frS_sat sat_X7_cancel, rm1 (Nat.le_of_ble_eq_true rfl)⟩
  | 16 => ⟨frS_sat sat_X7_stitches, rm1 (Nat.le_of_ble_eq_true rfl)⟩
  | 17 => ⟨frS_sat sat_X7_stitch, rm1 (Nat.le_of_ble_eq_true rfl)⟩
  | 18 => ⟨frS_sat sat_X7_sequence, rm1 (Nat.le_of_ble_eq_true rfl)⟩
  | 19 => ⟨frS_sat sat_X7_changes, rm1 (Nat.le_of_ble_eq_true rfl)⟩
  | 20 => ⟨frS_sat sat_X7_changesAnew, rm1 (Nat.le_of_ble_eq_true rfl)⟩
  | 21 => ⟨frS_sat sat_X7_jumps, rm1 (Nat.le_of_ble_eq_true rfl)⟩
  | 22 => ⟨frS_sat sat_X7_ofOrder, rm1 (Nat.le_of_ble_eq_true rfl)⟩
  | 23 => ⟨frS_sat sat_X7_shadeOf, rm1 (Nat.le_of_ble_eq_true rfl)⟩
  | 24 => ⟨frS_sat sat_X7_ofMachine, rm1 (Nat.le_of_ble_eq_true rfl)⟩
  | 25 => ⟨frS_sat sat_X7_left, rm1 (Nat.le_of_ble_eq_true rfl)⟩
  | i + 26 => ⟨sat_no _, rm1 (Nat.le_of_ble_eq_true rfl)⟩
  | 0 => ⟨sat_no _, rm1 (Nat.le_of_ble_eq_true rfl)⟩
def lkW : List (Nat × Spec × Nat × Nat × Nat) → WrF
  | [] => fun _ => none
  | q :: r => fun pc => cond (Nat.beq pc q.1) (some q.2) (lkW r pc)
theorem lkW_e : ∀ {l : List (Nat × Spec × Nat × Nat × Nat)} {pc : Nat} {w : Spec × Nat × Nat × Nat}, lkW l pc = some w → (pc, w) ∈ l
  | [], pc, w, h => by cases h
  | q :: r, pc, w, h => by
    unfold lkW at h
    cases hb : Nat.beq pc q.1 with
    | true =>
      rw [hb] at h
      have e1 := Nat.eq_of_beq_eq_true hb
      have e2 : q.2 = w := by simpa using h
      rw [e1, ← e2]; exact List.mem_cons_self
    | false =>
      rw [hb] at h
      exact List.mem_cons_of_mem _ (lkW_e h)
def wrT : List (Nat × Spec × Nat × Nat × Nat) := [(179, s_wshape, 8, 2, 22), (273, s_wdesign, 2, 8, 3178), (335, s_wmachine, 5, 2, 24), (415, s_wstock, 5, 1, 6), (489, s_worder, 4, 3, 30), (556, s_wstart, 3, 3, 18), (605, s_wrun, 4, 2, 12), (667, s_wsnap, 3, 2, 12), (735, s_wmatch, 5, 2, 12), (803, s_wcancel, 3, 2, 12), (865, s_wstitches, 4, 2, 12), (939, s_wstitch, 5, 2, 12), (1013, s_wsequence, 4, 2, 12), (1075, s_wchanges, 3, 1, 6), (1131, s_wchangesAnew, 3, 1, 6), (1201, s_wjumps, 4, 1, 6), (1277, s_wofOrder, 4, 2, 12), (1345, s_wshadeOf, 4, 2, 12), (1413, s_wofMachine, 4, 2, 12), (1481, s_wleft, 4, 2, 12)]
def wrL : WrF := lkW wrT
set_option maxHeartbeats 4000000 in
set_option maxRecDepth 100000 in
theorem wrT_ok : ∀ w ∈ wrT, ∃ q hh, SatH q hh w.2.1 w.2.2.2.1 w.2.2.2.2 13 ∧ wrOK w.1 q hh w.2.2.1 :=
  List.forall_mem_cons.mpr ⟨⟨mL_shape, hhL_shape, satH_shape, 86, by decide +kernel, (List.mem_of_getElem? (i := 112) (by decide +kernel)), (List.mem_of_getElem? (i := 113) (by decide +kernel)), (List.mem_of_getElem? (i := 114) (by decide +kernel)), (List.mem_of_getElem? (i := 36) (by decide +kernel)), ⟨by decide +kernel, by decide +kernel⟩, by decide +kernel, by decide⟩,
  List.forall_mem_cons.mpr ⟨⟨mL_design, hhL_design, satH_design, 99, by decide +kernel, (List.mem_of_getElem? (i := 264) (by decide +kernel)), (List.mem_of_getElem? (i := 265) (by decide +kernel)), (List.mem_of_getElem? (i := 266) (by decide +kernel)), (List.mem_of_getElem? (i := 36) (by decide +kernel)), ⟨by decide +kernel, by decide +kernel⟩, by decide +kernel, by decide⟩,
  List.forall_mem_cons.mpr ⟨⟨mL_machine, hhL_machine, satH_machine, 103, by decide +kernel, (List.mem_of_getElem? (i := 420) (by decide +kernel)), (List.mem_of_getElem? (i := 421) (by decide +kernel)), (List.mem_of_getElem? (i := 422) (by decide +kernel)), (List.mem_of_getElem? (i := 36) (by decide +kernel)), ⟨by decide +kernel, by decide +kernel⟩, by decide +kernel, by decide⟩,
  List.forall_mem_cons.mpr ⟨⟨mL_stock, hhL_stock, satH_stock, 107, by decide +kernel, (List.mem_of_getElem? (i := 468) (by decide +kernel)), (List.mem_of_getElem? (i := 469) (by decide +kernel)), (List.mem_of_getElem? (i := 470) (by decide +kernel)), (List.mem_of_getElem? (i := 36) (by decide +kernel)), ⟨by decide +kernel, by decide +kernel⟩, by decide +kernel, by decide⟩,
  List.forall_mem_cons.mpr ⟨⟨mL_order, hhL_order, satH_order, 110, by decide +kernel, (List.mem_of_getElem? (i := 493) (by decide +kernel)), (List.mem_of_getElem? (i := 494) (by decide +kernel)), (List.mem_of_getElem? (i := 495) (by decide +kernel)), (List.mem_of_getElem? (i := 36) (by decide +kernel)), ⟨by decide +kernel, by decide +kernel⟩, by decide +kernel, by decide⟩,
  List.forall_mem_cons.mpr ⟨⟨mL_start, hhL_start, satH_start, 114, by decide +kernel, (List.mem_of_getElem? (i := 547) (by decide +kernel)), (List.mem_of_getElem? (i := 548) (by decide +kernel)), (List.mem_of_getElem? (i := 549) (by decide +kernel)), (List.mem_of_getElem? (i := 36) (by decide +kernel)), ⟨by decide +kernel, by decide +kernel⟩, by decide +kernel, by decide⟩,
  List.forall_mem_cons.mpr ⟨⟨mL_run, hhL_run, satH_run, 118, by decide +kernel, (List.mem_of_getElem? (i := 583) (by decide +kernel)), (List.mem_of_getElem? (i := 584) (by decide +kernel)), (List.mem_of_getElem? (i := 585) (by decide +kernel)), (List.mem_of_getElem? (i := 36) (by decide +kernel)), ⟨by decide +kernel, by decide +kernel⟩, by decide +kernel, by decide⟩,
  List.forall_mem_cons.mpr ⟨⟨mL_snap, hhL_snap, satH_snap, 121, by decide +kernel, (List.mem_of_getElem? (i := 629) (by decide +kernel)), (List.mem_of_getElem? (i := 630) (by decide +kernel)), (List.mem_of_getElem? (i := 631) (by decide +kernel)), (List.mem_of_getElem? (i := 36) (by decide +kernel)), ⟨by decide +kernel, by decide +kernel⟩, by decide +kernel, by decide⟩,
  List.forall_mem_cons.mpr ⟨⟨mL_match, hhL_match, satH_match, 125, by decide +kernel, (List.mem_of_getElem? (i := 637) (by decide +kernel)), (List.mem_of_getElem? (i := 638) (by decide +kernel)), (List.mem_of_getElem? (i := 639) (by decide +kernel)), (List.mem_of_getElem? (i := 36) (by decide +kernel)), ⟨by decide +kernel, by decide +kernel⟩, by decide +kernel, by decide⟩,
  List.forall_mem_cons.mpr ⟨⟨mL_cancel, hhL_cancel, satH_cancel, 128, by decide +kernel, (List.mem_of_getElem? (i := 654) (by decide +kernel)), (List.mem_of_getElem? (i := 655) (by decide +kernel)), (List.mem_of_getElem? (i := 656) (by decide +kernel)), (List.mem_of_getElem? (i := 36) (by decide +kernel)), ⟨by decide +kernel, by decide +kernel⟩, by decide +kernel, by decide⟩,
  List.forall_mem_cons.mpr ⟨⟨mL_stitches, hhL_stitches, satH_stitches, 131, by decide +kernel, (List.mem_of_getElem? (i := 662) (by decide +kernel)), (List.mem_of_getElem? (i := 663) (by decide +kernel)), (List.mem_of_getElem? (i := 664) (by decide +kernel)), (List.mem_of_getElem? (i := 36) (by decide +kernel)), ⟨by decide +kernel, by decide +kernel⟩, by decide +kernel, by decide⟩,
  List.forall_mem_cons.mpr ⟨⟨mL_stitch, hhL_stitch, satH_stitch, 134, by decide +kernel, (List.mem_of_getElem? (i := 671) (by decide +kernel)), (List.mem_of_getElem? (i := 672) (by decide +kernel)), (List.mem_of_getElem? (i := 673) (by decide +kernel)), (List.mem_of_getElem? (i := 36) (by decide +kernel)), ⟨by decide +kernel, by decide +kernel⟩, by decide +kernel, by decide⟩,
  List.forall_mem_cons.mpr ⟨⟨mL_sequence, hhL_sequence, satH_sequence, 137, by decide +kernel, (List.mem_of_getElem? (i := 682) (by decide +kernel)), (List.mem_of_getElem? (i := 683) (by decide +kernel)), (List.mem_of_getElem? (i := 684) (by decide +kernel)), (List.mem_of_getElem? (i := 36) (by decide +kernel)), ⟨by decide +kernel, by decide +kernel⟩, by decide +kernel, by decide⟩,
  List.forall_mem_cons.mpr ⟨⟨mL_changes, hhL_changes, satH_changes, 140, by decide +kernel, (List.mem_of_getElem? (i := 690) (by decide +kernel)), (List.mem_of_getElem? (i := 691) (by decide +kernel)), (List.mem_of_getElem? (i := 692) (by decide +kernel)), (List.mem_of_getElem? (i := 36) (by decide +kernel)), ⟨by decide +kernel, by decide +kernel⟩, by decide +kernel, by decide⟩,
  List.forall_mem_cons.mpr ⟨⟨mL_changesAnew, hhL_changesAnew, satH_changesAnew, 143, by decide +kernel, (List.mem_of_getElem? (i := 697) (by decide +kernel)), (List.mem_of_getElem? (i := 698) (by decide +kernel)), (List.mem_of_getElem? (i := 699) (by decide +kernel)), (List.mem_of_getElem? (i := 36) (by decide +kernel)), ⟨by decide +kernel, by decide +kernel⟩, by decide +kernel, by decide⟩,
  List.forall_mem_cons.mpr ⟨⟨mL_jumps, hhL_jumps, satH_jumps, 146, by decide +kernel, (List.mem_of_getElem? (i := 712) (by decide +kernel)), (List.mem_of_getElem? (i := 713) (by decide +kernel)), (List.mem_of_getElem? (i := 714) (by decide +kernel)), (List.mem_of_getElem? (i := 36) (by decide +kernel)), ⟨by decide +kernel, by decide +kernel⟩, by decide +kernel, by decide⟩,
  List.forall_mem_cons.mpr ⟨⟨mL_ofOrder, hhL_ofOrder, satH_ofOrder, 150, by decide +kernel, (List.mem_of_getElem? (i := 719) (by decide +kernel)), (List.mem_of_getElem? (i := 720) (by decide +kernel)), (List.mem_of_getElem? (i := 721) (by decide +kernel)), (List.mem_of_getElem? (i := 36) (by decide +kernel)), ⟨by decide +kernel, by decide +kernel⟩, by decide +kernel, by decide⟩,
  List.forall_mem_cons.mpr ⟨⟨mL_shadeOf, hhL_shadeOf, satH_shadeOf, 153, by decide +kernel, (List.mem_of_getElem? (i := 726) (by decide +kernel)), (List.mem_of_getElem? (i := 727) (by decide +kernel)), (List.mem_of_getElem? (i := 728) (by decide +kernel)), (List.mem_of_getElem? (i := 36) (by decide +kernel)), ⟨by decide +kernel, by decide +kernel⟩, by decide +kernel, by decide⟩,
  List.forall_mem_cons.mpr ⟨⟨mL_ofMachine, hhL_ofMachine, satH_ofMachine, 156, by decide +kernel, (List.mem_of_getElem? (i := 733) (by decide +kernel)), (List.mem_of_getElem? (i := 734) (by decide +kernel)), (List.mem_of_getElem? (i := 735) (by decide +kernel)), (List.mem_of_getElem? (i := 36) (by decide +kernel)), ⟨by decide +kernel, by decide +kernel⟩, by decide +kernel, by decide⟩,
  List.forall_mem_cons.mpr ⟨⟨mL_left, hhL_left, satH_left, 159, by decide +kernel, (List.mem_of_getElem? (i := 740) (by decide +kernel)), (List.mem_of_getElem? (i := 741) (by decide +kernel)), (List.mem_of_getElem? (i := 742) (by decide +kernel)), (List.mem_of_getElem? (i := 36) (by decide +kernel)), ⟨by decide +kernel, by decide +kernel⟩, by decide +kernel, by decide⟩,
  fun w hw => by cases hw⟩⟩⟩⟩⟩⟩⟩⟩⟩⟩⟩⟩⟩⟩⟩⟩⟩⟩⟩⟩
theorem lw_wshape {xs : Nat → Int} {Ln : Nat} {n : Int} {S : Sto} {a1 a2 a3 a4 a5 a6 : Int} (h : LI xs Ln n S) (hn : n + 1 ≤ 15000) (i1 : InR a1) (i2 : InR a2) (i3 : InR a3) (i4 : InR a4) (i5 : InR a5) (i6 : InR a6) {post : Res → Sto → Prop} (hp : ∀ z S1, 0 ≤ z ∧ z ≤ 3 → MID xs Ln n (fun R => shapeR R a1 a2 a3 a4 a5 a6) (fun k v => k = z ∧ (z = 0 → S1.2.1 3 0 = wr v)) S1 → post (.inl (some (vI z))) S1) : s_wshape [vT 1, vI a1, vI a2, vI a3, vI a4, vI a5, vI a6, vT 3] S post :=
  lw_w (op := fun R => shapeR R a1 a2 a3 a4 a5 a6) (fun hC hI h0 _ hp => ag_shape hC hI i1 i2 i3 i4 i5 i6 hp) (fun C h => CL.cons (fun t e => by cases e; rw [h]; exact fun z => by cases z) (CL.cons VOK.i (CL.cons VOK.i (CL.cons VOK.i (CL.cons VOK.i (CL.cons VOK.i (CL.cons VOK.i (fun a ha => by cases ha)))))))) (fun e he => by
    simp only [List.contains_cons, List.contains_nil, Bool.or_false, Bool.or_eq_true, beq_iff_eq] at he
    rcases he with rfl | rfl | rfl <;> decide) h hp
theorem lw_mshape {xs : Nat → Int} {Ln : Nat} {n : Int} {S : Sto} {A : Int → Int → Prop} {a1 a2 a3 a4 a5 a6 : Int} (h : MID xs Ln n (fun R => shapeR R a1 a2 a3 a4 a5 a6) A S) (hn : n + 1 ≤ 15000) (i1 : InR a1) (i2 : InR a2) (i3 : InR a3) (i4 : InR a4) (i5 : InR a5) (i6 : InR a6) {post : Res → Sto → Prop} (hp : ∀ k v S2, A k v → FIN xs Ln n k S S2 → post (.inl (some (vI (wr v)))) S2) : frS s_shape [vT 2, vI a1, vI a2, vI a3, vI a4, vI a5, vI a6] S post :=
  lw_mod (op := fun R => shapeR R a1 a2 a3 a4 a5 a6) (res := fun v => .inl (some (vI v))) (fun hI hn _ hp => ⟨⟨n, hI⟩, ⟨i1, i2, i3, i4, i5, i6⟩, hp⟩) (good_shape) (fun C h => CL.cons (fun t e => by cases e; rw [h]; exact fun z => by cases z) (CL.cons VOK.i (CL.cons VOK.i (CL.cons VOK.i (CL.cons VOK.i (CL.cons VOK.i (CL.cons VOK.i (fun a ha => by cases ha)))))))) hn h hp
theorem lw_wdesign {xs : Nat → Int} {Ln : Nat} {n : Int} {S : Sto} (h : LI xs Ln n S) (hn : n + 1 ≤ 15000) {post : Res → Sto → Prop} (hp : ∀ z S1, 0 ≤ z ∧ z ≤ 3 → MID xs Ln n (fun R => designR R) (fun k v => k = z ∧ (z = 0 → S1.2.1 3 0 = wr v)) S1 → post (.inl (some (vI z))) S1) : s_wdesign [vT 1, vT 3] S post :=
  lw_w (op := fun R => designR R) (fun hC hI h0 _ hp => ag_design hC hI hp) (fun C h => CL.cons (fun t e => by cases e; rw [h]; exact fun z => by cases z) (fun a ha => by cases ha)) (fun e he => by
    simp only [List.contains_cons, List.contains_nil, Bool.or_false, Bool.or_eq_true, beq_iff_eq] at he
    subst he; decide) h hp
theorem lw_mdesign {xs : Nat → Int} {Ln : Nat} {n : Int} {S : Sto} {A : Int → Int → Prop} (h : MID xs Ln n (fun R => designR R) A S) (hn : n + 1 ≤ 15000) {post : Res → Sto → Prop} (hp : ∀ k v S2, A k v → FIN xs Ln n k S S2 → post (.inl (some (vI (wr v)))) S2) : frS s_design [vT 2] S post :=
  lw_mod (op := fun R => designR R) (res := fun v => .inl (some (vI v))) (fun hI hn _ hp => ⟨⟨n, hI⟩, trivial, hp⟩) (good_design) (fun C h => CL.cons (fun t e => by cases e; rw [h]; exact fun z => by cases z) (fun a ha => by cases ha)) hn h hp
theorem lw_wmachine {xs : Nat → Int} {Ln : Nat} {n : Int} {S : Sto} {a1 a2 a3 : Int} (h : LI xs Ln n S) (hn : n + 1 ≤ 15000) (i1 : InR a1) (i2 : InR a2) (i3 : InR a3) {post : Res → Sto → Prop} (hp : ∀ z S1, 0 ≤ z ∧ z ≤ 3 → MID xs Ln n (fun R => machineR R a1 a2 a3) (fun k v => k = z ∧ (z = 0 → S1.2.1 3 0 = wr v)) S1 → post (.inl (some (vI z))) S1) : s_wmachine [vT 1, vI a1, vI a2, vI a3, vT 3] S post :=
  lw_w (op := fun R => machineR R a1 a2 a3) (fun hC hI h0 _ hp => ag_machine hC hI i1 i2 i3 hp) (fun C h => CL.cons (fun t e => by cases e; rw [h]; exact fun z => by cases z) (CL.cons VOK.i (CL.cons VOK.i (CL.cons VOK.i (fun a ha => by cases ha))))) (fun e he => by
    simp only [List.contains_cons, List.contains_nil, Bool.or_false, Bool.or_eq_true, beq_iff_eq] at he
    rcases he with rfl | rfl <;> decide) h hp
theorem lw_mmachine {xs : Nat → Int} {Ln : Nat} {n : Int} {S : Sto} {A : Int → Int → Prop} {a1 a2 a3 : Int} (h : MID xs Ln n (fun R => machineR R a1 a2 a3) A S) (hn : n + 1 ≤ 15000) (i1 : InR a1) (i2 : InR a2) (i3 : InR a3) {post : Res → Sto → Prop} (hp : ∀ k v S2, A k v → FIN xs Ln n k S S2 → post (.inl (some (vI (wr v)))) S2) : frS s_machine [vT 2, vI a1, vI a2, vI a3] S post :=
  lw_mod (op := fun R => machineR R a1 a2 a3) (res := fun v => .inl (some (vI v))) (fun hI hn _ hp => ⟨⟨n, hI⟩, ⟨i1, i2, i3⟩, hp⟩) (good_machine) (fun C h => CL.cons (fun t e => by cases e; rw [h]; exact fun z => by cases z) (CL.cons VOK.i (CL.cons VOK.i (CL.cons VOK.i (fun a ha => by cases ha))))) hn h hp
theorem lw_wstock {xs : Nat → Int} {Ln : Nat} {n : Int} {S : Sto} {a1 a2 a3 : Int} (h : LI xs Ln n S) (hn : n + 1 ≤ 15000) (i1 : InR a1) (i2 : InR a2) (i3 : InR a3) {post : Res → Sto → Prop} (hp : ∀ z S1, 0 ≤ z ∧ z ≤ 3 → MID xs Ln n (fun R => stockR R a1 a2 a3) (fun k v => k = z ∧ (z = 0 → S1.2.1 3 0 = wr v)) S1 → post (.inl (some (vI z))) S1) : s_wstock [vT 1, vI a1, vI a2, vI a3, vT 3] S post :=
  lw_w (op := fun R => stockR R a1 a2 a3) (fun hC hI h0 _ hp => ag_stock hC hI i1 i2 i3 hp) (fun C h => CL.cons (fun t e => by cases e; rw [h]; exact fun z => by cases z) (CL.cons VOK.i (CL.cons VOK.i (CL.cons VOK.i (fun a ha => by cases ha))))) (fun e he => by
    simp only [List.contains_cons, List.contains_nil, Bool.or_false, Bool.or_eq_true, beq_iff_eq] at he
    rcases he with rfl | rfl | rfl <;> decide) h hp
theorem lw_mstock {xs : Nat → Int} {Ln : Nat} {n : Int} {S : Sto} {A : Int → Int → Prop} {a1 a2 a3 : Int} (h : MID xs Ln n (fun R => stockR R a1 a2 a3) A S) (hn : n + 1 ≤ 15000) (i1 : InR a1) (i2 : InR a2) (i3 : InR a3) {post : Res → Sto → Prop} (hp : ∀ k v S2, A k v → FIN xs Ln n k S S2 → post (.inl (some (vI (wr v)))) S2) : frS s_stock [vT 2, vI a1, vI a2, vI a3] S post :=
  lw_mod (op := fun R => stockR R a1 a2 a3) (res := fun v => .inl (some (vI v))) (fun hI hn _ hp => ⟨hI.1, ⟨i1, i2, i3, hI.2.2.2.2.2.2.2⟩, hp⟩) (good_stock) (fun C h => CL.cons (fun t e => by cases e; rw [h]; exact fun z => by cases z) (CL.cons VOK.i (CL.cons VOK.i (CL.cons VOK.i (fun a ha => by cases ha))))) hn h hp
theorem lw_worder {xs : Nat → Int} {Ln : Nat} {n : Int} {S : Sto} {a1 a2 : Int} (h : LI xs Ln n S) (hn : n + 1 ≤ 15000) (i1 : InR a1) (i2 : InR a2) {post : Res → Sto → Prop} (hp : ∀ z S1, 0 ≤ z ∧ z ≤ 3 → MID xs Ln n (fun R => orderR R a1 a2) (fun k v => k = z ∧ (z = 0 → S1.2.1 3 0 = wr v)) S1 → post (.inl (some (vI z))) S1) : s_worder [vT 1, vI a1, vI a2, vT 3] S post :=
  lw_w (op := fun R => orderR R a1 a2) (fun hC hI h0 _ hp => ag_order hC hI i1 i2 hp) (fun C h => CL.cons (fun t e => by cases e; rw [h]; exact fun z => by cases z) (CL.cons VOK.i (CL.cons VOK.i (fun a ha => by cases ha)))) (fun e he => by
    simp only [List.contains_cons, List.contains_nil, Bool.or_false, Bool.or_eq_true, beq_iff_eq] at he
    rcases he with rfl | rfl | rfl <;> decide) h hp
theorem lw_morder {xs : Nat → Int} {Ln : Nat} {n : Int} {S : Sto} {A : Int → Int → Prop} {a1 a2 : Int} (h : MID xs Ln n (fun R => orderR R a1 a2) A S) (hn : n + 1 ≤ 15000) (i1 : InR a1) (i2 : InR a2) {post : Res → Sto → Prop} (hp : ∀ k v S2, A k v → FIN xs Ln n k S S2 → post (.inl (some (vI (wr v)))) S2) : frS s_order [vT 2, vI a1, vI a2] S post :=
  lw_mod (op := fun R => orderR R a1 a2) (res := fun v => .inl (some (vI v))) (fun hI hn _ hp => ⟨⟨n, hI⟩, ⟨i1, i2⟩, hp⟩) (good_order) (fun C h => CL.cons (fun t e => by cases e; rw [h]; exact fun z => by cases z) (CL.cons VOK.i (CL.cons VOK.i (fun a ha => by cases ha)))) hn h hp
theorem lw_wstart {xs : Nat → Int} {Ln : Nat} {n : Int} {S : Sto} {a1 a2 : Int} (h : LI xs Ln n S) (hn : n + 1 ≤ 15000) (i1 : InR a1) (i2 : InR a2) {post : Res → Sto → Prop} (hp : ∀ z S1, 0 ≤ z ∧ z ≤ 3 → MID xs Ln n (fun R k _ R' => startR R a1 a2 k R') (fun k _ => k = z) S1 → post (.inl (some (vI z))) S1) : s_wstart [vT 1, vI a1, vI a2] S post :=
  lw_w0 (op := fun R k _ R' => startR R a1 a2 k R') (fun hC hI h0 _ hp => ag_start hC hI h0 i1 i2 hp) (fun C h => CL.cons (fun t e => by cases e; rw [h]; exact fun z => by cases z) (CL.cons VOK.i (CL.cons VOK.i (fun a ha => by cases ha)))) (fun e he => by
    simp only [List.contains_cons, List.contains_nil, Bool.or_false, Bool.or_eq_true, beq_iff_eq] at he
    rcases he with rfl | rfl <;> decide) h hp
theorem lw_mstart {xs : Nat → Int} {Ln : Nat} {n : Int} {S : Sto} {A : Int → Int → Prop} {a1 a2 : Int} (h : MID xs Ln n (fun R k _ R' => startR R a1 a2 k R') A S) (hn : n + 1 ≤ 15000) (i1 : InR a1) (i2 : InR a2) {post : Res → Sto → Prop} (hp : ∀ k v S2, A k v → FIN xs Ln n k S S2 → post (.inl none) S2) : frS s_start [vT 2, vI a1, vI a2] S post :=
  lw_mod (op := fun R k _ R' => startR R a1 a2 k R') (res := fun _ => .inl none) (fun hI hn _ hp => ⟨⟨n, hI⟩, ⟨i1, i2⟩, fun k S' ho => hp k 0 S' ho⟩) (good_start) (fun C h => CL.cons (fun t e => by cases e; rw [h]; exact fun z => by cases z) (CL.cons VOK.i (CL.cons VOK.i (fun a ha => by cases ha)))) hn h hp
theorem lw_wrun {xs : Nat → Int} {Ln : Nat} {n : Int} {S : Sto} {a1 a2 : Int} (h : LI xs Ln n S) (hn : n + 1 ≤ 15000) (i1 : InR a1) (i2 : InR a2) {post : Res → Sto → Prop} (hp : ∀ z S1, 0 ≤ z ∧ z ≤ 3 → MID xs Ln n (fun R => runR R a1 a2) (fun k v => k = z ∧ (z = 0 → S1.2.1 3 0 = wr v)) S1 → post (.inl (some (vI z))) S1) : s_wrun [vT 1, vI a1, vI a2, vT 3] S post :=
  lw_w (op := fun R => runR R a1 a2) (fun hC hI h0 _ hp => ag_run hC hI hn i1 i2 hp) (fun C h => CL.cons (fun t e => by cases e; rw [h]; exact fun z => by cases z) (CL.cons VOK.i (CL.cons VOK.i (fun a ha => by cases ha)))) (fun e he => by
    simp only [List.contains_cons, List.contains_nil, Bool.or_false, Bool.or_eq_true, beq_iff_eq] at he
    rcases he with rfl | rfl | rfl <;> decide) h hp
theorem lw_mrun {xs : Nat → Int} {Ln : Nat} {n : Int} {S : Sto} {A : Int → Int → Prop} {a1 a2 : Int} (h : MID xs Ln n (fun R => runR R a1 a2) A S) (hn : n + 1 ≤ 15000) (i1 : InR a1) (i2 : InR a2) {post : Res → Sto → Prop} (hp : ∀ k v S2, A k v → FIN xs Ln n k S S2 → post (.inl (some (vI (wr v)))) S2) : frS s_run [vT 2, vI a1, vI a2] S post :=
  lw_mod (op := fun R => runR R a1 a2) (res := fun v => .inl (some (vI v))) (fun hI hn _ hp => ⟨⟨n, hI, hn⟩, ⟨i1, i2⟩, hp⟩) (good_run) (fun C h => CL.cons (fun t e => by cases e; rw [h]; exact fun z => by cases z) (CL.cons VOK.i (CL.cons VOK.i (fun a ha => by cases ha)))) hn h hp
theorem lw_wsnap {xs : Nat → Int} {Ln : Nat} {n : Int} {S : Sto} {a1 : Int} (h : LI xs Ln n S) (hn : n + 1 ≤ 15000) (i1 : InR a1) {post : Res → Sto → Prop} (hp : ∀ z S1, 0 ≤ z ∧ z ≤ 3 → MID xs Ln n (fun R => snapR R a1) (fun k v => k = z ∧ (z = 0 → S1.2.1 3 0 = wr v)) S1 → post (.inl (some (vI z))) S1) : s_wsnap [vT 1, vI a1, vT 3] S post :=
  lw_w (op := fun R => snapR R a1) (fun hC hI h0 _ hp => ag_snap hC hI i1 hp) (fun C h => CL.cons (fun t e => by cases e; rw [h]; exact fun z => by cases z) (CL.cons VOK.i (fun a ha => by cases ha))) (fun e he => by
    simp only [List.contains_cons, List.contains_nil, Bool.or_false, Bool.or_eq_true, beq_iff_eq] at he
    rcases he with rfl | rfl <;> decide) h hp
theorem lw_msnap {xs : Nat → Int} {Ln : Nat} {n : Int} {S : Sto} {A : Int → Int → Prop} {a1 : Int} (h : MID xs Ln n (fun R => snapR R a1) A S) (hn : n + 1 ≤ 15000) (i1 : InR a1) {post : Res → Sto → Prop} (hp : ∀ k v S2, A k v → FIN xs Ln n k S S2 → post (.inl (some (vI (wr v)))) S2) : frS s_snap [vT 2, vI a1] S post :=
  lw_mod (op := fun R => snapR R a1) (res := fun v => .inl (some (vI v))) (fun hI hn _ hp => ⟨⟨n, hI⟩, i1, hp⟩) (good_snap) (fun C h => CL.cons (fun t e => by cases e; rw [h]; exact fun z => by cases z) (CL.cons VOK.i (fun a ha => by cases ha))) hn h hp
theorem lw_wmatch {xs : Nat → Int} {Ln : Nat} {n : Int} {S : Sto} {a1 a2 a3 : Int} (h : LI xs Ln n S) (hn : n + 1 ≤ 15000) (i1 : InR a1) (i2 : InR a2) (i3 : InR a3) {post : Res → Sto → Prop} (hp : ∀ z S1, 0 ≤ z ∧ z ≤ 3 → MID xs Ln n (fun R => matchR R a1 a2 a3) (fun k v => k = z ∧ (z = 0 → S1.2.1 3 0 = wr v)) S1 → post (.inl (some (vI z))) S1) : s_wmatch [vT 1, vI a1, vI a2, vI a3, vT 3] S post :=
  lw_w (op := fun R => matchR R a1 a2 a3) (fun hC hI h0 _ hp => ag_match hC hI i1 i2 i3 hp) (fun C h => CL.cons (fun t e => by cases e; rw [h]; exact fun z => by cases z) (CL.cons VOK.i (CL.cons VOK.i (CL.cons VOK.i (fun a ha => by cases ha))))) (fun e he => by
    simp only [List.contains_cons, List.contains_nil, Bool.or_false, Bool.or_eq_true, beq_iff_eq] at he
    rcases he with rfl | rfl <;> decide) h hp
theorem lw_mmatch {xs : Nat → Int} {Ln : Nat} {n : Int} {S : Sto} {A : Int → Int → Prop} {a1 a2 a3 : Int} (h : MID xs Ln n (fun R => matchR R a1 a2 a3) A S) (hn : n + 1 ≤ 15000) (i1 : InR a1) (i2 : InR a2) (i3 : InR a3) {post : Res → Sto → Prop} (hp : ∀ k v S2, A k v → FIN xs Ln n k S S2 → post (.inl (some (vI (wr v)))) S2) : frS s_match [vT 2, vI a1, vI a2, vI a3] S post :=
  lw_mod (op := fun R => matchR R a1 a2 a3) (res := fun v => .inl (some (vI v))) (fun hI hn _ hp => ⟨⟨n, hI⟩, ⟨i1, i2, i3⟩, hp⟩) (good_match) (fun C h => CL.cons (fun t e => by cases e; rw [h]; exact fun z => by cases z) (CL.cons VOK.i (CL.cons VOK.i (CL.cons VOK.i (fun a ha => by cases ha))))) hn h hp
theorem lw_wcancel {xs : Nat → Int} {Ln : Nat} {n : Int} {S : Sto} {a1 : Int} (h : LI xs Ln n S) (hn : n + 1 ≤ 15000) (i1 : InR a1) {post : Res → Sto → Prop} (hp : ∀ z S1, 0 ≤ z ∧ z ≤ 3 → MID xs Ln n (fun R => cancelR R a1) (fun k v => k = z ∧ (z = 0 → S1.2.1 3 0 = wr v)) S1 → post (.inl (some (vI z))) S1) : s_wcancel [vT 1, vI a1, vT 3] S post :=
  lw_w (op := fun R => cancelR R a1) (fun hC hI h0 _ hp => ag_cancel hC hI i1 hp) (fun C h => CL.cons (fun t e => by cases e; rw [h]; exact fun z => by cases z) (CL.cons VOK.i (fun a ha => by cases ha))) (fun e he => by
    simp only [List.contains_cons, List.contains_nil, Bool.or_false, Bool.or_eq_true, beq_iff_eq] at he
    rcases he with rfl | rfl <;> decide) h hp
theorem lw_mcancel {xs : Nat → Int} {Ln : Nat} {n : Int} {S : Sto} {A : Int → Int → Prop} {a1 : Int} (h : MID xs Ln n (fun R => cancelR R a1) A S) (hn : n + 1 ≤ 15000) (i1 : InR a1) {post : Res → Sto → Prop} (hp : ∀ k v S2, A k v → FIN xs Ln n k S S2 → post (.inl (some (vI (wr v)))) S2) : frS s_cancel [vT 2, vI a1] S post :=
  lw_mod (op := fun R => cancelR R a1) (res := fun v => .inl (some (vI v))) (fun hI hn _ hp => ⟨⟨n, hI⟩, i1, hp⟩) (good_cancel) (fun C h => CL.cons (fun t e => by cases e; rw [h]; exact fun z => by cases z) (CL.cons VOK.i (fun a ha => by cases ha))) hn h hp
theorem lw_wstitches {xs : Nat → Int} {Ln : Nat} {n : Int} {S : Sto} {a1 a2 : Int} (h : LI xs Ln n S) (hn : n + 1 ≤ 15000) (i1 : InR a1) (i2 : InR a2) {post : Res → Sto → Prop} (hp : ∀ z S1, 0 ≤ z ∧ z ≤ 3 → MID xs Ln n (fun R => stitchesR R a1 a2) (fun k v => k = z ∧ (z = 0 → S1.2.1 3 0 = wr v)) S1 → post (.inl (some (vI z))) S1) : s_wstitches [vT 1, vI a1, vI a2, vT 3] S post :=
  lw_w (op := fun R => stitchesR R a1 a2) (fun hC hI h0 _ hp => ag_stitches hC hI i1 i2 hp) (fun C h => CL.cons (fun t e => by cases e; rw [h]; exact fun z => by cases z) (CL.cons VOK.i (CL.cons VOK.i (fun a ha => by cases ha)))) (fun e he => by
    simp only [List.contains_cons, List.contains_nil, Bool.or_false, Bool.or_eq_true, beq_iff_eq] at he
    subst he; decide) h hp
theorem lw_mstitches {xs : Nat → Int} {Ln : Nat} {n : Int} {S : Sto} {A : Int → Int → Prop} {a1 a2 : Int} (h : MID xs Ln n (fun R => stitchesR R a1 a2) A S) (hn : n + 1 ≤ 15000) (i1 : InR a1) (i2 : InR a2) {post : Res → Sto → Prop} (hp : ∀ k v S2, A k v → FIN xs Ln n k S S2 → post (.inl (some (vI (wr v)))) S2) : frS s_stitches [vT 2, vI a1, vI a2] S post :=
  lw_mod (op := fun R => stitchesR R a1 a2) (res := fun v => .inl (some (vI v))) (fun hI hn _ hp => ⟨⟨n, hI⟩, ⟨i1, i2⟩, hp⟩) (good_get (fun R k v R' ho => ho.2.1)) (fun C h => CL.cons (fun t e => by cases e; rw [h]; exact fun z => by cases z) (CL.cons VOK.i (CL.cons VOK.i (fun a ha => by cases ha)))) hn h hp
theorem lw_wstitch {xs : Nat → Int} {Ln : Nat} {n : Int} {S : Sto} {a1 a2 a3 : Int} (h : LI xs Ln n S) (hn : n + 1 ≤ 15000) (i1 : InR a1) (i2 : InR a2) (i3 : InR a3) {post : Res → Sto → Prop} (hp : ∀ z S1, 0 ≤ z ∧ z ≤ 3 → MID xs Ln n (fun R => stitchR R a1 a2 a3) (fun k v => k = z ∧ (z = 0 → S1.2.1 3 0 = wr v)) S1 → post (.inl (some (vI z))) S1) : s_wstitch [vT 1, vI a1, vI a2, vI a3, vT 3] S post :=
  lw_w (op := fun R => stitchR R a1 a2 a3) (fun hC hI h0 _ hp => ag_stitch hC hI i1 i2 i3 hp) (fun C h => CL.cons (fun t e => by cases e; rw [h]; exact fun z => by cases z) (CL.cons VOK.i (CL.cons VOK.i (CL.cons VOK.i (fun a ha => by cases ha))))) (fun e he => by
    simp only [List.contains_cons, List.contains_nil, Bool.or_false, Bool.or_eq_true, beq_iff_eq] at he
    rcases he with rfl | rfl <;> decide) h hp
theorem lw_mstitch {xs : Nat → Int} {Ln : Nat} {n : Int} {S : Sto} {A : Int → Int → Prop} {a1 a2 a3 : Int} (h : MID xs Ln n (fun R => stitchR R a1 a2 a3) A S) (hn : n + 1 ≤ 15000) (i1 : InR a1) (i2 : InR a2) (i3 : InR a3) {post : Res → Sto → Prop} (hp : ∀ k v S2, A k v → FIN xs Ln n k S S2 → post (.inl (some (vI (wr v)))) S2) : frS s_stitch [vT 2, vI a1, vI a2, vI a3] S post :=
  lw_mod (op := fun R => stitchR R a1 a2 a3) (res := fun v => .inl (some (vI v))) (fun hI hn _ hp => ⟨⟨n, hI⟩, ⟨i1, i2, i3⟩, hp⟩) (good_get (fun R k v R' ho => ho.2.1)) (fun C h => CL.cons (fun t e => by cases e; rw [h]; exact fun z => by cases z) (CL.cons VOK.i (CL.cons VOK.i (CL.cons VOK.i (fun a ha => by cases ha))))) hn h hp
theorem lw_wsequence {xs : Nat → Int} {Ln : Nat} {n : Int} {S : Sto} {a1 a2 : Int} (h : LI xs Ln n S) (hn : n + 1 ≤ 15000) (i1 : InR a1) (i2 : InR a2) {post : Res → Sto → Prop} (hp : ∀ z S1, 0 ≤ z ∧ z ≤ 3 → MID xs Ln n (fun R => sequenceR R a1 a2) (fun k v => k = z ∧ (z = 0 → S1.2.1 3 0 = wr v)) S1 → post (.inl (some (vI z))) S1) : s_wsequence [vT 1, vI a1, vI a2, vT 3] S post :=
  lw_w (op := fun R => sequenceR R a1 a2) (fun hC hI h0 _ hp => ag_sequence hC hI i1 i2 hp) (fun C h => CL.cons (fun t e => by cases e; rw [h]; exact fun z => by cases z) (CL.cons VOK.i (CL.cons VOK.i (fun a ha => by cases ha)))) (fun e he => by
    simp only [List.contains_cons, List.contains_nil, Bool.or_false, Bool.or_eq_true, beq_iff_eq] at he
    subst he; decide) h hp
theorem lw_msequence {xs : Nat → Int} {Ln : Nat} {n : Int} {S : Sto} {A : Int → Int → Prop} {a1 a2 : Int} (h : MID xs Ln n (fun R => sequenceR R a1 a2) A S) (hn : n + 1 ≤ 15000) (i1 : InR a1) (i2 : InR a2) {post : Res → Sto → Prop} (hp : ∀ k v S2, A k v → FIN xs Ln n k S S2 → post (.inl (some (vI (wr v)))) S2) : frS s_sequence [vT 2, vI a1, vI a2] S post :=
  lw_mod (op := fun R => sequenceR R a1 a2) (res := fun v => .inl (some (vI v))) (fun hI hn _ hp => ⟨⟨n, hI⟩, ⟨i1, i2⟩, hp⟩) (good_get (fun R k v R' ho => ho.2.1)) (fun C h => CL.cons (fun t e => by cases e; rw [h]; exact fun z => by cases z) (CL.cons VOK.i (CL.cons VOK.i (fun a ha => by cases ha)))) hn h hp
theorem lw_wchanges {xs : Nat → Int} {Ln : Nat} {n : Int} {S : Sto} {a1 : Int} (h : LI xs Ln n S) (hn : n + 1 ≤ 15000) (i1 : InR a1) {post : Res → Sto → Prop} (hp : ∀ z S1, 0 ≤ z ∧ z ≤ 3 → MID xs Ln n (fun R => changesR R a1) (fun k v => k = z ∧ (z = 0 → S1.2.1 3 0 = wr v)) S1 → post (.inl (some (vI z))) S1) : s_wchanges [vT 1, vI a1, vT 3] S post :=
  lw_w (op := fun R => changesR R a1) (fun hC hI h0 _ hp => ag_changes hC hI i1 hp) (fun C h => CL.cons (fun t e => by cases e; rw [h]; exact fun z => by cases z) (CL.cons VOK.i (fun a ha => by cases ha))) (fun e he => by
    simp only [List.contains_cons, List.contains_nil, Bool.or_false, Bool.or_eq_true, beq_iff_eq] at he
    subst he; decide) h hp
theorem lw_mchanges {xs : Nat → Int} {Ln : Nat} {n : Int} {S : Sto} {A : Int → Int → Prop} {a1 : Int} (h : MID xs Ln n (fun R => changesR R a1) A S) (hn : n + 1 ≤ 15000) (i1 : InR a1) {post : Res → Sto → Prop} (hp : ∀ k v S2, A k v → FIN xs Ln n k S S2 → post (.inl (some (vI (wr v)))) S2) : frS s_changes [vT 2, vI a1] S post :=
  lw_mod (op := fun R => changesR R a1) (res := fun v => .inl (some (vI v))) (fun hI hn _ hp => ⟨⟨n, hI⟩, i1, hp⟩) (good_get (fun R k v R' ho => ho.2.1)) (fun C h => CL.cons (fun t e => by cases e; rw [h]; exact fun z => by cases z) (CL.cons VOK.i (fun a ha => by cases ha))) hn h hp
theorem lw_wchangesAnew {xs : Nat → Int} {Ln : Nat} {n : Int} {S : Sto} {a1 : Int} (h : LI xs Ln n S) (hn : n + 1 ≤ 15000) (i1 : InR a1) {post : Res → Sto → Prop} (hp : ∀ z S1, 0 ≤ z ∧ z ≤ 3 → MID xs Ln n (fun R => changesR R a1) (fun k v => k = z ∧ (z = 0 → S1.2.1 3 0 = wr v)) S1 → post (.inl (some (vI z))) S1) : s_wchangesAnew [vT 1, vI a1, vT 3] S post :=
  lw_w (op := fun R => changesR R a1) (fun hC hI h0 _ hp => ag_changesAnew hC hI i1 hp) (fun C h => CL.cons (fun t e => by cases e; rw [h]; exact fun z => by cases z) (CL.cons VOK.i (fun a ha => by cases ha))) (fun e he => by
    simp only [List.contains_cons, List.contains_nil, Bool.or_false, Bool.or_eq_true, beq_iff_eq] at he
    subst he; decide) h hp
theorem lw_mchangesAnew {xs : Nat → Int} {Ln : Nat} {n : Int} {S : Sto} {A : Int → Int → Prop} {a1 : Int} (h : MID xs Ln n (fun R => changesR R a1) A S) (hn : n + 1 ≤ 15000) (i1 : InR a1) {post : Res → Sto → Prop} (hp : ∀ k v S2, A k v → FIN xs Ln n k S S2 → post (.inl (some (vI (wr v)))) S2) : frS s_changesAnew [vT 2, vI a1] S post :=
  lw_mod (op := fun R => changesR R a1) (res := fun v => .inl (some (vI v))) (fun hI hn _ hp => ⟨⟨n, hI⟩, i1, hp⟩) (good_get (fun R k v R' ho => ho.2.1)) (fun C h => CL.cons (fun t e => by cases e; rw [h]; exact fun z => by cases z) (CL.cons VOK.i (fun a ha => by cases ha))) hn h hp
theorem lw_wjumps {xs : Nat → Int} {Ln : Nat} {n : Int} {S : Sto} {a1 a2 : Int} (h : LI xs Ln n S) (hn : n + 1 ≤ 15000) (i1 : InR a1) (i2 : a2 = 0 ∨ a2 = 1) {post : Res → Sto → Prop} (hp : ∀ z S1, 0 ≤ z ∧ z ≤ 3 → MID xs Ln n (fun R => jumpsR R a1 a2) (fun k v => k = z ∧ (z = 0 → S1.2.1 3 0 = wr v)) S1 → post (.inl (some (vI z))) S1) : s_wjumps [vT 1, vI a1, vI a2, vT 3] S post :=
  lw_w (op := fun R => jumpsR R a1 a2) (fun hC hI h0 _ hp => ag_jumps hC hI i1 i2 hp) (fun C h => CL.cons (fun t e => by cases e; rw [h]; exact fun z => by cases z) (CL.cons VOK.i (CL.cons VOK.i (fun a ha => by cases ha)))) (fun e he => by
    simp only [List.contains_cons, List.contains_nil, Bool.or_false, Bool.or_eq_true, beq_iff_eq] at he
    subst he; decide) h hp
theorem lw_mjumps {xs : Nat → Int} {Ln : Nat} {n : Int} {S : Sto} {A : Int → Int → Prop} {a1 a2 : Int} (h : MID xs Ln n (fun R => jumpsR R a1 a2) A S) (hn : n + 1 ≤ 15000) (i1 : InR a1) (i2 : a2 = 0 ∨ a2 = 1) {post : Res → Sto → Prop} (hp : ∀ k v S2, A k v → FIN xs Ln n k S S2 → post (.inl (some (vI (wr v)))) S2) : frS s_jumps [vT 2, vI a1, vI a2] S post :=
  lw_mod (op := fun R => jumpsR R a1 a2) (res := fun v => .inl (some (vI v))) (fun hI hn _ hp => ⟨⟨n, hI⟩, ⟨i1, i2⟩, hp⟩) (good_get (fun R k v R' ho => ho.2.1)) (fun C h => CL.cons (fun t e => by cases e; rw [h]; exact fun z => by cases z) (CL.cons VOK.i (CL.cons VOK.i (fun a ha => by cases ha)))) hn h hp
theorem lw_wofOrder {xs : Nat → Int} {Ln : Nat} {n : Int} {S : Sto} {a1 a2 : Int} (h : LI xs Ln n S) (hn : n + 1 ≤ 15000) (i1 : InR a1) (i2 : InR a2) {post : Res → Sto → Prop} (hp : ∀ z S1, 0 ≤ z ∧ z ≤ 3 → MID xs Ln n (fun R => ofOrderR R a1 a2) (fun k v => k = z ∧ (z = 0 → S1.2.1 3 0 = wr v)) S1 → post (.inl (some (vI z))) S1) : s_wofOrder [vT 1, vI a1, vI a2, vT 3] S post :=
  lw_w (op := fun R => ofOrderR R a1 a2) (fun hC hI h0 _ hp => ag_ofOrder hC hI i1 i2 hp) (fun C h => CL.cons (fun t e => by cases e; rw [h]; exact fun z => by cases z) (CL.cons VOK.i (CL.cons VOK.i (fun a ha => by cases ha)))) (fun e he => by
    simp only [List.contains_cons, List.contains_nil, Bool.or_false, Bool.or_eq_true, beq_iff_eq] at he
    rcases he with rfl | rfl <;> decide) h hp
theorem lw_mofOrder {xs : Nat → Int} {Ln : Nat} {n : Int} {S : Sto} {A : Int → Int → Prop} {a1 a2 : Int} (h : MID xs Ln n (fun R => ofOrderR R a1 a2) A S) (hn : n + 1 ≤ 15000) (i1 : InR a1) (i2 : InR a2) {post : Res → Sto → Prop} (hp : ∀ k v S2, A k v → FIN xs Ln n k S S2 → post (.inl (some (vI (wr v)))) S2) : frS s_ofOrder [vT 2, vI a1, vI a2] S post :=
  lw_mod (op := fun R => ofOrderR R a1 a2) (res := fun v => .inl (some (vI v))) (fun hI hn _ hp => ⟨⟨n, hI⟩, ⟨i1, i2⟩, hp⟩) (good_get (fun R k v R' ho => ho.2.1)) (fun C h => CL.cons (fun t e => by cases e; rw [h]; exact fun z => by cases z) (CL.cons VOK.i (CL.cons VOK.i (fun a ha => by cases ha)))) hn h hp
theorem lw_wshadeOf {xs : Nat → Int} {Ln : Nat} {n : Int} {S : Sto} {a1 a2 : Int} (h : LI xs Ln n S) (hn : n + 1 ≤ 15000) (i1 : InR a1) (i2 : InR a2) {post : Res → Sto → Prop} (hp : ∀ z S1, 0 ≤ z ∧ z ≤ 3 → MID xs Ln n (fun R => shadeOfR R a1 a2) (fun k v => k = z ∧ (z = 0 → S1.2.1 3 0 = wr v)) S1 → post (.inl (some (vI z))) S1) : s_wshadeOf [vT 1, vI a1, vI a2, vT 3] S post :=
  lw_w (op := fun R => shadeOfR R a1 a2) (fun hC hI h0 _ hp => ag_shadeOf hC hI i1 i2 hp) (fun C h => CL.cons (fun t e => by cases e; rw [h]; exact fun z => by cases z) (CL.cons VOK.i (CL.cons VOK.i (fun a ha => by cases ha)))) (fun e he => by
    simp only [List.contains_cons, List.contains_nil, Bool.or_false, Bool.or_eq_true, beq_iff_eq] at he
    subst he; decide) h hp
theorem lw_mshadeOf {xs : Nat → Int} {Ln : Nat} {n : Int} {S : Sto} {A : Int → Int → Prop} {a1 a2 : Int} (h : MID xs Ln n (fun R => shadeOfR R a1 a2) A S) (hn : n + 1 ≤ 15000) (i1 : InR a1) (i2 : InR a2) {post : Res → Sto → Prop} (hp : ∀ k v S2, A k v → FIN xs Ln n k S S2 → post (.inl (some (vI (wr v)))) S2) : frS s_shadeOf [vT 2, vI a1, vI a2] S post :=
  lw_mod (op := fun R => shadeOfR R a1 a2) (res := fun v => .inl (some (vI v))) (fun hI hn _ hp => ⟨⟨n, hI⟩, ⟨i1, i2⟩, hp⟩) (good_get (fun R k v R' ho => ho.2.1)) (fun C h => CL.cons (fun t e => by cases e; rw [h]; exact fun z => by cases z) (CL.cons VOK.i (CL.cons VOK.i (fun a ha => by cases ha)))) hn h hp
theorem lw_wofMachine {xs : Nat → Int} {Ln : Nat} {n : Int} {S : Sto} {a1 a2 : Int} (h : LI xs Ln n S) (hn : n + 1 ≤ 15000) (i1 : InR a1) (i2 : InR a2) {post : Res → Sto → Prop} (hp : ∀ z S1, 0 ≤ z ∧ z ≤ 3 → MID xs Ln n (fun R => ofMachineR R a1 a2) (fun k v => k = z ∧ (z = 0 → S1.2.1 3 0 = wr v)) S1 → post (.inl (some (vI z))) S1) : s_wofMachine [vT 1, vI a1, vI a2, vT 3] S post :=
  lw_w (op := fun R => ofMachineR R a1 a2) (fun hC hI h0 _ hp => ag_ofMachine hC hI i1 i2 hp) (fun C h => CL.cons (fun t e => by cases e; rw [h]; exact fun z => by cases z) (CL.cons VOK.i (CL.cons VOK.i (fun a ha => by cases ha)))) (fun e he => by
    simp only [List.contains_cons, List.contains_nil, Bool.or_false, Bool.or_eq_true, beq_iff_eq] at he
    rcases he with rfl | rfl <;> decide) h hp
theorem lw_mofMachine {xs : Nat → Int} {Ln : Nat} {n : Int} {S : Sto} {A : Int → Int → Prop} {a1 a2 : Int} (h : MID xs Ln n (fun R => ofMachineR R a1 a2) A S) (hn : n + 1 ≤ 15000) (i1 : InR a1) (i2 : InR a2) {post : Res → Sto → Prop} (hp : ∀ k v S2, A k v → FIN xs Ln n k S S2 → post (.inl (some (vI (wr v)))) S2) : frS s_ofMachine [vT 2, vI a1, vI a2] S post :=
  lw_mod (op := fun R => ofMachineR R a1 a2) (res := fun v => .inl (some (vI v))) (fun hI hn _ hp => ⟨⟨n, hI⟩, ⟨i1, i2⟩, hp⟩) (good_get (fun R k v R' ho => ho.2.1)) (fun C h => CL.cons (fun t e => by cases e; rw [h]; exact fun z => by cases z) (CL.cons VOK.i (CL.cons VOK.i (fun a ha => by cases ha)))) hn h hp
theorem lw_wleft {xs : Nat → Int} {Ln : Nat} {n : Int} {S : Sto} {a1 a2 : Int} (h : LI xs Ln n S) (hn : n + 1 ≤ 15000) (i1 : InR a1) (i2 : InR a2) {post : Res → Sto → Prop} (hp : ∀ z S1, 0 ≤ z ∧ z ≤ 3 → MID xs Ln n (fun R => leftR R a1 a2) (fun k v => k = z ∧ (z = 0 → S1.2.1 3 0 = wr v)) S1 → post (.inl (some (vI z))) S1) : s_wleft [vT 1, vI a1, vI a2, vT 3] S post :=
  lw_w (op := fun R => leftR R a1 a2) (fun hC hI h0 _ hp => ag_left hC hI i1 i2 hp) (fun C h => CL.cons (fun t e => by cases e; rw [h]; exact fun z => by cases z) (CL.cons VOK.i (CL.cons VOK.i (fun a ha => by cases ha)))) (fun e he => by
    simp only [List.contains_cons, List.contains_nil, Bool.or_false, Bool.or_eq_true, beq_iff_eq] at he
    subst he; decide) h hp
theorem lw_mleft {xs : Nat → Int} {Ln : Nat} {n : Int} {S : Sto} {A : Int → Int → Prop} {a1 a2 : Int} (h : MID xs Ln n (fun R => leftR R a1 a2) A S) (hn : n + 1 ≤ 15000) (i1 : InR a1) (i2 : InR a2) {post : Res → Sto → Prop} (hp : ∀ k v S2, A k v → FIN xs Ln n k S S2 → post (.inl (some (vI (wr v)))) S2) : frS s_left [vT 2, vI a1, vI a2] S post :=
  lw_mod (op := fun R => leftR R a1 a2) (res := fun v => .inl (some (vI v))) (fun hI hn _ hp => ⟨⟨n, hI⟩, ⟨i1, i2⟩, hp⟩) (good_get (fun R k v R' ho => ho.2.1)) (fun C h => CL.cons (fun t e => by cases e; rw [h]; exact fun z => by cases z) (CL.cons VOK.i (CL.cons VOK.i (fun a ha => by cases ha)))) hn h hp
theorem lw_cwipe {xs : Nat → Int} {Ln : Nat} {n : Int} {S : Sto} (h : LI xs Ln n S) {post : Res → Sto → Prop} (hp : ∀ w S1, InR w → MID xs Ln n wipeR (fun k v => k = 0 ∧ wr v = w) S1 → post (.inl (some (vI w))) S1) : frS s_wipeC [vT 1] S post :=
  lw_cls (op := wipeR) (em := em1) (ok := okr []) (fun hC hI h0 _ hp => ag_wipe hC hI hp) (fun C h => CL.cons (fun t e => by cases e; rw [h]; exact fun z => by cases z) (fun a ha => by cases ha)) h fun r S1 hok hM => by
    match r, hok, hM with
    | .inl (some (.inl x)), _, hM => exact hp (wr x) S1 (wr_r x) (hM.mono fun k v ha => ⟨ha.1, by rw [ha.2]⟩)
theorem lw_mwipe {xs : Nat → Int} {Ln : Nat} {n : Int} {S : Sto} {A : Int → Int → Prop} (h : MID xs Ln n wipeR A S) (hn : n + 1 ≤ 15000) {post : Res → Sto → Prop} (hp : ∀ k v S2, A k v → FIN xs Ln n k S S2 → post (.inl (some (vI (wr v)))) S2) : frS s_wipe [vT 2] S post :=
  lw_mod (op := wipeR) (res := fun v => .inl (some (vI v))) (fun hI hn _ hp => ⟨⟨n, hI⟩, trivial, hp⟩) good_wipe (fun C h => CL.cons (fun t e => by cases e; rw [h]; exact fun z => by cases z) (fun a ha => by cases ha)) hn h hp
