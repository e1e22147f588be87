/-! THE LAW'S WRAPPERS: each calls a method of the class, and answers a number for what it throws (by wip/whole/mkw.py) -/
def handF (pcs : Nat) (ex : List Nat) (em : Nat → Int) : Nat → Nat → Option Int := fun ee pc => if pc = pcs ∧ ex.contains ee = true then some (em ee) else none
theorem handF_t {pcs : Nat} {ex : List Nat} {em : Nat → Int} {ee : Nat} (h : ex.contains ee = true) : handF pcs ex em ee pcs = some (em ee) := if_pos ⟨rfl, h⟩
theorem handF_e {pcs : Nat} {ex : List Nat} {em : Nat → Int} {ee pc : Nat} {z : Int} (h : handF pcs ex em ee pc = some z) : pc = pcs ∧ ex.contains ee = true ∧ em ee = z := by
  unfold handF at h
  by_cases e : pc = pcs ∧ ex.contains ee = true
  · rw [if_pos e] at h; exact ⟨e.1, e.2, Option.some.inj h⟩
  · rw [if_neg e] at h; cases h
/-- a wrapper with a long for the answer; one without -/
def wS (spec : Spec) (em : Nat → Int) (ex : List Nat) (as : List AV) (S : Sto) (post : Res → Sto → Prop) : Prop := (∃ n, S.1 1 = some (6, n)) ∧ S.1 3 = some (101, 1) ∧ ∀ post' : Res → Sto → Prop, (∀ v S1, InR v → S1.1 3 = some (101, 1) → post (.inl (some (vI 0))) (updI S1 3 0 v) → post' (.inl (some (vI v))) S1) → (∀ e S1, ex.contains e = true → post (.inl (some (vI (em e)))) S1 → post' (.inr e) S1) → frS spec as S post'
def wS0 (spec : Spec) (em : Nat → Int) (ex : List Nat) (as : List AV) (S : Sto) (post : Res → Sto → Prop) : Prop := (∃ n, S.1 1 = some (6, n)) ∧ ∀ post' : Res → Sto → Prop, (∀ S1, post (.inl (some (vI 0))) S1 → post' (.inl none) S1) → (∀ e S1, ex.contains e = true → post (.inl (some (vI (em e)))) S1 → post' (.inr e) S1) → frS spec as S post'
def s_wshape : Spec := fun as S post => match as with
  | [.inr (.inr (some 1)), .inl a1, .inl a2, .inl a3, .inl a4, .inl a5, .inl a6, .inr (.inr (some 3))] => wS s_shapeC em1 [0, 1, 2] [vT 1, vI a1, vI a2, vI a3, vI a4, vI a5, vI a6] S post
  | _ => False
def spL_shape : Nat → CD := spF mdL_shape fun i => match i with
  | 1 => (frS s_shapeC, 2, 22, 12)
  | _ => noR
set_option maxHeartbeats 4000000 in
set_option maxRecDepth 100000 in
theorem hdL_shape : ∀ ee pc z, handF 13 [0, 1, 2] em1 ee pc = some z → handAt RL cL_shape 9 hhL_shape ee pc z := by
  intro ee pc z h
  obtain ⟨rfl, h2, rfl⟩ := handF_e h
  simp only [List.contains_cons, List.contains_nil, Bool.or_false, Bool.or_eq_true, beq_iff_eq] at h2
  rcases h2 with rfl | rfl | rfl
  · exact ⟨[], [(0, 18, 25, 15), (0, 18, 29, 17)], (0, 18, 21, 13), 8, 2, rfl, (fun w hw => by cases hw), ⟨by decide, by decide⟩, by decide, (List.mem_of_getElem? (i := 115) (by decide +kernel)), (List.mem_of_getElem? (i := 127) (by decide +kernel)), Or.inl ⟨by decide +kernel, rfl⟩, by decide, by decide +kernel, by decide +kernel⟩
  · exact ⟨[(0, 18, 21, 13)], [(0, 18, 29, 17)], (0, 18, 25, 15), 8, 2, rfl, List.forall_mem_cons.mpr ⟨⟨by decide, 0, (List.mem_of_getElem? (i := 115) (by decide +kernel)), by decide +kernel⟩, (fun w hw => by cases hw)⟩, ⟨by decide, by decide⟩, by decide, (List.mem_of_getElem? (i := 116) (by decide +kernel)), (List.mem_of_getElem? (i := 201) (by decide +kernel)), Or.inl ⟨by decide +kernel, rfl⟩, by decide, by decide +kernel, by decide +kernel⟩
  · exact ⟨[(0, 18, 21, 13), (0, 18, 25, 15)], [], (0, 18, 29, 17), 8, 2, rfl, List.forall_mem_cons.mpr ⟨⟨by decide, 0, (List.mem_of_getElem? (i := 115) (by decide +kernel)), by decide +kernel⟩, List.forall_mem_cons.mpr ⟨⟨by decide, 1, (List.mem_of_getElem? (i := 116) (by decide +kernel)), by decide +kernel⟩, (fun w hw => by cases hw)⟩⟩, ⟨by decide, by decide⟩, by decide, (List.mem_of_getElem? (i := 117) (by decide +kernel)), (List.mem_of_getElem? (i := 217) (by decide +kernel)), Or.inl ⟨by decide +kernel, rfl⟩, by decide, by decide +kernel, by decide +kernel⟩
set_option maxHeartbeats 4000000 in
set_option maxRecDepth 100000 in
theorem satH_shape : SatH mL_shape hhL_shape s_wshape 2 22 13 := by
  refine satH_of (E := eL_shape) (sp := spL_shape) (hand := handF 13 [0, 1, 2] em1) (by decide +kernel) rfl okL_shape (fun i => match i with
    | 1 => ⟨frS_sat sat_X6_shape, Nat.le_of_ble_eq_true rfl⟩
    | i + 2 => ⟨sat_no _, Nat.le_of_ble_eq_true rfl⟩
    | 0 => ⟨sat_no _, Nat.le_of_ble_eq_true rfl⟩) hdL_shape ?_
  intro as S post h
  match as, h with
  | [.inr (.inr (some 1)), .inl a1, .inl a2, .inl a3, .inl a4, .inl a5, .inl a6, .inr (.inr (some 3))], h =>
    obtain ⟨h1, h3, h⟩ := h
    refine ⟨rfl, 60, ?_⟩
    repeat' (first
        | omega
        | with_reducible apply And.intro
        | (intro c9; (try simp only [mg, mf, colK, stK, clK, mnK, shN] at c9))
        | exact h1
        | refine h _ (fun v S1 i1 i2 i3 => ?_) (fun e S1 i1 i2 => ?_)
        | exact ⟨1, i2, by omega, by omega⟩
        | exact kr_i ( i3 ) (Nat.le_of_ble_eq_true rfl) (Nat.le_of_ble_eq_true rfl)
        | exact ⟨_, handF_t i1, i2, Nat.le_of_ble_eq_true rfl, Nat.le_of_ble_eq_true rfl⟩
        | (simp only [mg, mf, colK, stK, clK, mnK, shN]; omega)
        | refine Exists.intro _ (And.intro rfl ?_)
        | ((with_reducible show wp _ _ _ _ _ _ _ _ _ _ _ _ _ _); conv => whnf)
        | ((with_reducible show callK _ _ _ _ _ _ _ _ _); conv => whnf)
        | ((with_reducible show condK _ _ _ _ _); conv => whnf)
        | ((with_reducible show st1 _ _ _ _ _ _ _ _ _ _ _ _); conv => whnf)
        | ((with_reducible show (Prod.fst _ : Spec) _ _ _); conv => whnf)
        | ((with_reducible show shortK _ _); conv => whnf)
        | exact Nat.le_of_ble_eq_true rfl)
def s_wdesign : Spec := fun as S post => match as with
  | [.inr (.inr (some 1)), .inr (.inr (some 3))] => wS s_designC em3 [2] [vT 1] S post
  | _ => False
def spL_design : Nat → CD := spF mdL_design fun i => match i with
  | 1 => (frS s_designC, 8, 3178, 12)
  | _ => noR
set_option maxHeartbeats 4000000 in
set_option maxRecDepth 100000 in
theorem hdL_design : ∀ ee pc z, handF 3 [2] em3 ee pc = some z → handAt RL cL_design 3 hhL_design ee pc z := by
  intro ee pc z h
  obtain ⟨rfl, h2, rfl⟩ := handF_e h
  simp only [List.contains_cons, List.contains_nil, Bool.or_false, Bool.or_eq_true, beq_iff_eq] at h2
  subst h2
  · exact ⟨[], [], (0, 8, 11, 17), 2, 1, rfl, (fun w hw => by cases hw), ⟨by decide, by decide⟩, by decide, (List.mem_of_getElem? (i := 117) (by decide +kernel)), (List.mem_of_getElem? (i := 217) (by decide +kernel)), Or.inr ⟨2, by decide +kernel, rfl, rfl⟩, by decide, by decide +kernel, by decide +kernel⟩
set_option maxHeartbeats 4000000 in
set_option maxRecDepth 100000 in
theorem satH_design : SatH mL_design hhL_design s_wdesign 8 3178 13 := by
  refine satH_of (E := eL_design) (sp := spL_design) (hand := handF 3 [2] em3) (by decide +kernel) rfl okL_design (fun i => match i with
    | 1 => ⟨frS_sat sat_X6_design, Nat.le_of_ble_eq_true rfl⟩
    | i + 2 => ⟨sat_no _, Nat.le_of_ble_eq_true rfl⟩
    | 0 => ⟨sat_no _, Nat.le_of_ble_eq_true rfl⟩) hdL_design ?_
  intro as S post h
  match as, h with
  | [.inr (.inr (some 1)), .inr (.inr (some 3))], h =>
    obtain ⟨h1, h3, h⟩ := h
    refine ⟨rfl, 60, ?_⟩
    repeat' (first
        | omega
        | with_reducible apply And.intro
        | (intro c9; (try simp only [mg, mf, colK, stK, clK, mnK, shN] at c9))
        | exact h1
        | refine h _ (fun v S1 i1 i2 i3 => ?_) (fun e S1 i1 i2 => ?_)
        | exact ⟨1, i2, by omega, by omega⟩
        | exact kr_i ( i3 ) (Nat.le_of_ble_eq_true rfl) (Nat.le_of_ble_eq_true rfl)
        | exact ⟨_, handF_t i1, i2, Nat.le_of_ble_eq_true rfl, Nat.le_of_ble_eq_true rfl⟩
        | (simp only [mg, mf, colK, stK, clK, mnK, shN]; omega)
        | refine Exists.intro _ (And.intro rfl ?_)
        | ((with_reducible show wp _ _ _ _ _ _ _ _ _ _ _ _ _ _); conv => whnf)
        | ((with_reducible show callK _ _ _ _ _ _ _ _ _); conv => whnf)
        | ((with_reducible show condK _ _ _ _ _); conv => whnf)
        | ((with_reducible show st1 _ _ _ _ _ _ _ _ _ _ _ _); conv => whnf)
        | ((with_reducible show (Prod.fst _ : Spec) _ _ _); conv => whnf)
        | ((with_reducible show shortK _ _); conv => whnf)
        | exact Nat.le_of_ble_eq_true rfl)
def s_wmachine : Spec := fun as S post => match as with
  | [.inr (.inr (some 1)), .inl a1, .inl a2, .inl a3, .inr (.inr (some 3))] => wS s_machineC em0 [1, 2] [vT 1, vI a1, vI a2, vI a3] S post
  | _ => False
def spL_machine : Nat → CD := spF mdL_machine fun i => match i with
  | 1 => (frS s_machineC, 2, 24, 12)
  | _ => noR
set_option maxHeartbeats 4000000 in
set_option maxRecDepth 100000 in
theorem hdL_machine : ∀ ee pc z, handF 7 [1, 2] em0 ee pc = some z → handAt RL cL_machine 6 hhL_machine ee pc z := by
  intro ee pc z h
  obtain ⟨rfl, h2, rfl⟩ := handF_e h
  simp only [List.contains_cons, List.contains_nil, Bool.or_false, Bool.or_eq_true, beq_iff_eq] at h2
  rcases h2 with rfl | rfl
  · exact ⟨[], [(0, 12, 19, 17)], (0, 12, 15, 15), 5, 2, rfl, (fun w hw => by cases hw), ⟨by decide, by decide⟩, by decide, (List.mem_of_getElem? (i := 116) (by decide +kernel)), (List.mem_of_getElem? (i := 201) (by decide +kernel)), Or.inl ⟨by decide +kernel, rfl⟩, by decide, by decide +kernel, by decide +kernel⟩
  · exact ⟨[(0, 12, 15, 15)], [], (0, 12, 19, 17), 5, 2, rfl, List.forall_mem_cons.mpr ⟨⟨by decide, 1, (List.mem_of_getElem? (i := 116) (by decide +kernel)), by decide +kernel⟩, (fun w hw => by cases hw)⟩, ⟨by decide, by decide⟩, by decide, (List.mem_of_getElem? (i := 117) (by decide +kernel)), (List.mem_of_getElem? (i := 217) (by decide +kernel)), Or.inl ⟨by decide +kernel, rfl⟩, by decide, by decide +kernel, by decide +kernel⟩
set_option maxHeartbeats 4000000 in
set_option maxRecDepth 100000 in
theorem satH_machine : SatH mL_machine hhL_machine s_wmachine 2 24 13 := by
  refine satH_of (E := eL_machine) (sp := spL_machine) (hand := handF 7 [1, 2] em0) (by decide +kernel) rfl okL_machine (fun i => match i with
    | 1 => ⟨frS_sat sat_X6_machine, Nat.le_of_ble_eq_true rfl⟩
    | i + 2 => ⟨sat_no _, Nat.le_of_ble_eq_true rfl⟩
    | 0 => ⟨sat_no _, Nat.le_of_ble_eq_true rfl⟩) hdL_machine ?_
  intro as S post h
  match as, h with
  | [.inr (.inr (some 1)), .inl a1, .inl a2, .inl a3, .inr (.inr (some 3))], h =>
    obtain ⟨h1, h3, h⟩ := h
    refine ⟨rfl, 60, ?_⟩
    repeat' (first
        | omega
        | with_reducible apply And.intro
        | (intro c9; (try simp only [mg, mf, colK, stK, clK, mnK, shN] at c9))
        | exact h1
        | refine h _ (fun v S1 i1 i2 i3 => ?_) (fun e S1 i1 i2 => ?_)
        | exact ⟨1, i2, by omega, by omega⟩
        | exact kr_i ( i3 ) (Nat.le_of_ble_eq_true rfl) (Nat.le_of_ble_eq_true rfl)
        | exact ⟨_, handF_t i1, i2, Nat.le_of_ble_eq_true rfl, Nat.le_of_ble_eq_true rfl⟩
        | (simp only [mg, mf, colK, stK, clK, mnK, shN]; omega)
        | refine Exists.intro _ (And.intro rfl ?_)
        | ((with_reducible show wp _ _ _ _ _ _ _ _ _ _ _ _ _ _); conv => whnf)
        | ((with_reducible show callK _ _ _ _ _ _ _ _ _); conv => whnf)
        | ((with_reducible show condK _ _ _ _ _); conv => whnf)
        | ((with_reducible show st1 _ _ _ _ _ _ _ _ _ _ _ _); conv => whnf)
        | ((with_reducible show (Prod.fst _ : Spec) _ _ _); conv => whnf)
        | ((with_reducible show shortK _ _); conv => whnf)
        | exact Nat.le_of_ble_eq_true rfl)
def s_wstock : Spec := fun as S post => match as with
  | [.inr (.inr (some 1)), .inl a1, .inl a2, .inl a3, .inr (.inr (some 3))] => wS s_stockC em1 [0, 1, 2] [vT 1, vI a1, vI a2, vI a3] S post
  | _ => False
def spL_stock : Nat → CD := spF mdL_stock fun i => match i with
  | 1 => (frS s_stockC, 1, 6, 12)
  | _ => noR
set_option maxHeartbeats 4000000 in
set_option maxRecDepth 100000 in
theorem hdL_stock : ∀ ee pc z, handF 7 [0, 1, 2] em1 ee pc = some z → handAt RL cL_stock 6 hhL_stock ee pc z := by
  intro ee pc z h
  obtain ⟨rfl, h2, rfl⟩ := handF_e h
  simp only [List.contains_cons, List.contains_nil, Bool.or_false, Bool.or_eq_true, beq_iff_eq] at h2
  rcases h2 with rfl | rfl | rfl
  · exact ⟨[], [(0, 12, 19, 15), (0, 12, 23, 17)], (0, 12, 15, 13), 5, 2, rfl, (fun w hw => by cases hw), ⟨by decide, by decide⟩, by decide, (List.mem_of_getElem? (i := 115) (by decide +kernel)), (List.mem_of_getElem? (i := 127) (by decide +kernel)), Or.inl ⟨by decide +kernel, rfl⟩, by decide, by decide +kernel, by decide +kernel⟩
  · exact ⟨[(0, 12, 15, 13)], [(0, 12, 23, 17)], (0, 12, 19, 15), 5, 2, rfl, List.forall_mem_cons.mpr ⟨⟨by decide, 0, (List.mem_of_getElem? (i := 115) (by decide +kernel)), by decide +kernel⟩, (fun w hw => by cases hw)⟩, ⟨by decide, by decide⟩, by decide, (List.mem_of_getElem? (i := 116) (by decide +kernel)), (List.mem_of_getElem? (i := 201) (by decide +kernel)), Or.inl ⟨by decide +kernel, rfl⟩, by decide, by decide +kernel, by decide +kernel⟩
  · exact ⟨[(0, 12, 15, 13), (0, 12, 19, 15)], [], (0, 12, 23, 17), 5, 2, rfl, List.forall_mem_cons.mpr ⟨⟨by decide, 0, (List.mem_of_getElem? (i := 115) (by decide +kernel)), by decide +kernel⟩, List.forall_mem_cons.mpr ⟨⟨by decide, 1, (List.mem_of_getElem? (i := 116) (by decide +kernel)), by decide +kernel⟩, (fun w hw => by cases hw)⟩⟩, ⟨by decide, by decide⟩, by decide, (List.mem_of_getElem? (i := 117) (by decide +kernel)), (List.mem_of_getElem? (i := 217) (by decide +kernel)), Or.inl ⟨by decide +kernel, rfl⟩, by decide, by decide +kernel, by decide +kernel⟩
set_option maxHeartbeats 4000000 in
set_option maxRecDepth 100000 in
theorem satH_stock : SatH mL_stock hhL_stock s_wstock 1 6 13 := by
  refine satH_of (E := eL_stock) (sp := spL_stock) (hand := handF 7 [0, 1, 2] em1) (by decide +kernel) rfl okL_stock (fun i => match i with
    | 1 => ⟨frS_sat sat_X6_stock, Nat.le_of_ble_eq_true rfl⟩
    | i + 2 => ⟨sat_no _, Nat.le_of_ble_eq_true rfl⟩
    | 0 => ⟨sat_no _, Nat.le_of_ble_eq_true rfl⟩) hdL_stock ?_
  intro as S post h
  match as, h with
  | [.inr (.inr (some 1)), .inl a1, .inl a2, .inl a3, .inr (.inr (some 3))], h =>
    obtain ⟨h1, h3, h⟩ := h
    refine ⟨rfl, 60, ?_⟩
    repeat' (first
        | omega
        | with_reducible apply And.intro
        | (intro c9; (try simp only [mg, mf, colK, stK, clK, mnK, shN] at c9))
        | exact h1
        | refine h _ (fun v S1 i1 i2 i3 => ?_) (fun e S1 i1 i2 => ?_)
        | exact ⟨1, i2, by omega, by omega⟩
        | exact kr_i ( i3 ) (Nat.le_of_ble_eq_true rfl) (Nat.le_of_ble_eq_true rfl)
        | exact ⟨_, handF_t i1, i2, Nat.le_of_ble_eq_true rfl, Nat.le_of_ble_eq_true rfl⟩
        | (simp only [mg, mf, colK, stK, clK, mnK, shN]; omega)
        | refine Exists.intro _ (And.intro rfl ?_)
        | ((with_reducible show wp _ _ _ _ _ _ _ _ _ _ _ _ _ _); conv => whnf)
        | ((with_reducible show callK _ _ _ _ _ _ _ _ _); conv => whnf)
        | ((with_reducible show condK _ _ _ _ _); conv => whnf)
        | ((with_reducible show st1 _ _ _ _ _ _ _ _ _ _ _ _); conv => whnf)
        | ((with_reducible show (Prod.fst _ : Spec) _ _ _); conv => whnf)
        | ((with_reducible show shortK _ _); conv => whnf)
        | exact Nat.le_of_ble_eq_true rfl)
def s_worder : Spec := fun as S post => match as with
  | [.inr (.inr (some 1)), .inl a1, .inl a2, .inr (.inr (some 3))] => wS s_orderC em1 [0, 1, 2] [vT 1, vI a1, vI a2] S post
  | _ => False
def spL_order : Nat → CD := spF mdL_order fun i => match i with
  | 1 => (frS s_orderC, 3, 30, 12)
  | _ => noR
set_option maxHeartbeats 4000000 in
set_option maxRecDepth 100000 in
theorem hdL_order : ∀ ee pc z, handF 5 [0, 1, 2] em1 ee pc = some z → handAt RL cL_order 5 hhL_order ee pc z := by
  intro ee pc z h
  obtain ⟨rfl, h2, rfl⟩ := handF_e h
  simp only [List.contains_cons, List.contains_nil, Bool.or_false, Bool.or_eq_true, beq_iff_eq] at h2
  rcases h2 with rfl | rfl | rfl
  · exact ⟨[], [(0, 10, 17, 15), (0, 10, 21, 17)], (0, 10, 13, 13), 4, 2, rfl, (fun w hw => by cases hw), ⟨by decide, by decide⟩, by decide, (List.mem_of_getElem? (i := 115) (by decide +kernel)), (List.mem_of_getElem? (i := 127) (by decide +kernel)), Or.inl ⟨by decide +kernel, rfl⟩, by decide, by decide +kernel, by decide +kernel⟩
  · exact ⟨[(0, 10, 13, 13)], [(0, 10, 21, 17)], (0, 10, 17, 15), 4, 2, rfl, List.forall_mem_cons.mpr ⟨⟨by decide, 0, (List.mem_of_getElem? (i := 115) (by decide +kernel)), by decide +kernel⟩, (fun w hw => by cases hw)⟩, ⟨by decide, by decide⟩, by decide, (List.mem_of_getElem? (i := 116) (by decide +kernel)), (List.mem_of_getElem? (i := 201) (by decide +kernel)), Or.inl ⟨by decide +kernel, rfl⟩, by decide, by decide +kernel, by decide +kernel⟩
  · exact ⟨[(0, 10, 13, 13), (0, 10, 17, 15)], [], (0, 10, 21, 17), 4, 2, rfl, List.forall_mem_cons.mpr ⟨⟨by decide, 0, (List.mem_of_getElem? (i := 115) (by decide +kernel)), by decide +kernel⟩, List.forall_mem_cons.mpr ⟨⟨by decide, 1, (List.mem_of_getElem? (i := 116) (by decide +kernel)), by decide +kernel⟩, (fun w hw => by cases hw)⟩⟩, ⟨by decide, by decide⟩, by decide, (List.mem_of_getElem? (i := 117) (by decide +kernel)), (List.mem_of_getElem? (i := 217) (by decide +kernel)), Or.inl ⟨by decide +kernel, rfl⟩, by decide, by decide +kernel, by decide +kernel⟩
set_option maxHeartbeats 4000000 in
set_option maxRecDepth 100000 in
theorem satH_order : SatH mL_order hhL_order s_worder 3 30 13 := by
  refine satH_of (E := eL_order) (sp := spL_order) (hand := handF 5 [0, 1, 2] em1) (by decide +kernel) rfl okL_order (fun i => match i with
    | 1 => ⟨frS_sat sat_X6_order, Nat.le_of_ble_eq_true rfl⟩
    | i + 2 => ⟨sat_no _, Nat.le_of_ble_eq_true rfl⟩
    | 0 => ⟨sat_no _, Nat.le_of_ble_eq_true rfl⟩) hdL_order ?_
  intro as S post h
  match as, h with
  | [.inr (.inr (some 1)), .inl a1, .inl a2, .inr (.inr (some 3))], h =>
    obtain ⟨h1, h3, h⟩ := h
    refine ⟨rfl, 60, ?_⟩
    repeat' (first
        | omega
        | with_reducible apply And.intro
        | (intro c9; (try simp only [mg, mf, colK, stK, clK, mnK, shN] at c9))
        | exact h1
        | refine h _ (fun v S1 i1 i2 i3 => ?_) (fun e S1 i1 i2 => ?_)
        | exact ⟨1, i2, by omega, by omega⟩
        | exact kr_i ( i3 ) (Nat.le_of_ble_eq_true rfl) (Nat.le_of_ble_eq_true rfl)
        | exact ⟨_, handF_t i1, i2, Nat.le_of_ble_eq_true rfl, Nat.le_of_ble_eq_true rfl⟩
        | (simp only [mg, mf, colK, stK, clK, mnK, shN]; omega)
        | refine Exists.intro _ (And.intro rfl ?_)
        | ((with_reducible show wp _ _ _ _ _ _ _ _ _ _ _ _ _ _); conv => whnf)
        | ((with_reducible show callK _ _ _ _ _ _ _ _ _); conv => whnf)
        | ((with_reducible show condK _ _ _ _ _); conv => whnf)
        | ((with_reducible show st1 _ _ _ _ _ _ _ _ _ _ _ _); conv => whnf)
        | ((with_reducible show (Prod.fst _ : Spec) _ _ _); conv => whnf)
        | ((with_reducible show shortK _ _); conv => whnf)
        | exact Nat.le_of_ble_eq_true rfl)
def s_wstart : Spec := fun as S post => match as with
  | [.inr (.inr (some 1)), .inl a1, .inl a2] => wS0 s_startC em2 [0, 2] [vT 1, vI a1, vI a2] S post
  | _ => False
def spL_start : Nat → CD := spF mdL_start fun i => match i with
  | 1 => (frS s_startC, 3, 18, 12)
  | _ => noR
set_option maxHeartbeats 4000000 in
set_option maxRecDepth 100000 in
theorem hdL_start : ∀ ee pc z, handF 3 [0, 2] em2 ee pc = some z → handAt RL cL_start 4 hhL_start ee pc z := by
  intro ee pc z h
  obtain ⟨rfl, h2, rfl⟩ := handF_e h
  simp only [List.contains_cons, List.contains_nil, Bool.or_false, Bool.or_eq_true, beq_iff_eq] at h2
  rcases h2 with rfl | rfl
  · exact ⟨[], [(0, 6, 12, 17)], (0, 6, 9, 13), 3, 1, rfl, (fun w hw => by cases hw), ⟨by decide, by decide⟩, by decide, (List.mem_of_getElem? (i := 115) (by decide +kernel)), (List.mem_of_getElem? (i := 127) (by decide +kernel)), Or.inr ⟨3, by decide +kernel, rfl, rfl⟩, by decide, by decide +kernel, by decide +kernel⟩
  · exact ⟨[(0, 6, 9, 13)], [], (0, 6, 12, 17), 3, 1, rfl, List.forall_mem_cons.mpr ⟨⟨by decide, 0, (List.mem_of_getElem? (i := 115) (by decide +kernel)), by decide +kernel⟩, (fun w hw => by cases hw)⟩, ⟨by decide, by decide⟩, by decide, (List.mem_of_getElem? (i := 117) (by decide +kernel)), (List.mem_of_getElem? (i := 217) (by decide +kernel)), Or.inr ⟨3, by decide +kernel, rfl, rfl⟩, by decide, by decide +kernel, by decide +kernel⟩
set_option maxHeartbeats 4000000 in
set_option maxRecDepth 100000 in
theorem satH_start : SatH mL_start hhL_start s_wstart 3 18 13 := by
  refine satH_of (E := eL_start) (sp := spL_start) (hand := handF 3 [0, 2] em2) (by decide +kernel) rfl okL_start (fun i => match i with
    | 1 => ⟨frS_sat sat_X6_start, Nat.le_of_ble_eq_true rfl⟩
    | i + 2 => ⟨sat_no _, Nat.le_of_ble_eq_true rfl⟩
    | 0 => ⟨sat_no _, Nat.le_of_ble_eq_true rfl⟩) hdL_start ?_
  intro as S post h
  match as, h with
  | [.inr (.inr (some 1)), .inl a1, .inl a2], h =>
    obtain ⟨h1, h⟩ := h
    refine ⟨rfl, 60, ?_⟩
    repeat' (first
        | omega
        | with_reducible apply And.intro
        | (intro c9; (try simp only [mg, mf, colK, stK, clK, mnK, shN] at c9))
        | exact h1
        | refine h _ (fun S1 i3 => ?_) (fun e S1 i1 i2 => ?_)
        | exact kr_i ( i3 ) (Nat.le_of_ble_eq_true rfl) (Nat.le_of_ble_eq_true rfl)
        | exact ⟨_, handF_t i1, i2, Nat.le_of_ble_eq_true rfl, Nat.le_of_ble_eq_true rfl⟩
        | (simp only [mg, mf, colK, stK, clK, mnK, shN]; omega)
        | refine Exists.intro _ (And.intro rfl ?_)
        | ((with_reducible show wp _ _ _ _ _ _ _ _ _ _ _ _ _ _); conv => whnf)
        | ((with_reducible show callK _ _ _ _ _ _ _ _ _); conv => whnf)
        | ((with_reducible show condK _ _ _ _ _); conv => whnf)
        | ((with_reducible show st1 _ _ _ _ _ _ _ _ _ _ _ _); conv => whnf)
        | ((with_reducible show (Prod.fst _ : Spec) _ _ _); conv => whnf)
        | ((with_reducible show shortK _ _); conv => whnf)
        | exact Nat.le_of_ble_eq_true rfl)
def s_wrun : Spec := fun as S post => match as with
  | [.inr (.inr (some 1)), .inl a1, .inl a2, .inr (.inr (some 3))] => wS s_runC em1 [0, 1, 2] [vT 1, vI a1, vI a2] S post
  | _ => False
def spL_run : Nat → CD := spF mdL_run fun i => match i with
  | 1 => (frS s_runC, 2, 12, 12)
  | _ => noR
set_option maxHeartbeats 4000000 in
set_option maxRecDepth 100000 in
theorem hdL_run : ∀ ee pc z, handF 5 [0, 1, 2] em1 ee pc = some z → handAt RL cL_run 5 hhL_run ee pc z := by
  intro ee pc z h
  obtain ⟨rfl, h2, rfl⟩ := handF_e h
  simp only [List.contains_cons, List.contains_nil, Bool.or_false, Bool.or_eq_true, beq_iff_eq] at h2
  rcases h2 with rfl | rfl | rfl
  · exact ⟨[], [(0, 10, 17, 15), (0, 10, 21, 17)], (0, 10, 13, 13), 4, 2, rfl, (fun w hw => by cases hw), ⟨by decide, by decide⟩, by decide, (List.mem_of_getElem? (i := 115) (by decide +kernel)), (List.mem_of_getElem? (i := 127) (by decide +kernel)), Or.inl ⟨by decide +kernel, rfl⟩, by decide, by decide +kernel, by decide +kernel⟩
  · exact ⟨[(0, 10, 13, 13)], [(0, 10, 21, 17)], (0, 10, 17, 15), 4, 2, rfl, List.forall_mem_cons.mpr ⟨⟨by decide, 0, (List.mem_of_getElem? (i := 115) (by decide +kernel)), by decide +kernel⟩, (fun w hw => by cases hw)⟩, ⟨by decide, by decide⟩, by decide, (List.mem_of_getElem? (i := 116) (by decide +kernel)), (List.mem_of_getElem? (i := 201) (by decide +kernel)), Or.inl ⟨by decide +kernel, rfl⟩, by decide, by decide +kernel, by decide +kernel⟩
  · exact ⟨[(0, 10, 13, 13), (0, 10, 17, 15)], [], (0, 10, 21, 17), 4, 2, rfl, List.forall_mem_cons.mpr ⟨⟨by decide, 0, (List.mem_of_getElem? (i := 115) (by decide +kernel)), by decide +kernel⟩, List.forall_mem_cons.mpr ⟨⟨by decide, 1, (List.mem_of_getElem? (i := 116) (by decide +kernel)), by decide +kernel⟩, (fun w hw => by cases hw)⟩⟩, ⟨by decide, by decide⟩, by decide, (List.mem_of_getElem? (i := 117) (by decide +kernel)), (List.mem_of_getElem? (i := 217) (by decide +kernel)), Or.inl ⟨by decide +kernel, rfl⟩, by decide, by decide +kernel, by decide +kernel⟩
set_option maxHeartbeats 4000000 in
set_option maxRecDepth 100000 in
theorem satH_run : SatH mL_run hhL_run s_wrun 2 12 13 := by
  refine satH_of (E := eL_run) (sp := spL_run) (hand := handF 5 [0, 1, 2] em1) (by decide +kernel) rfl okL_run (fun i => match i with
    | 1 => ⟨frS_sat sat_X6_run, Nat.le_of_ble_eq_true rfl⟩
    | i + 2 => ⟨sat_no _, Nat.le_of_ble_eq_true rfl⟩
    | 0 => ⟨sat_no _, Nat.le_of_ble_eq_true rfl⟩) hdL_run ?_
  intro as S post h
  match as, h with
  | [.inr (.inr (some 1)), .inl a1, .inl a2, .inr (.inr (some 3))], h =>
    obtain ⟨h1, h3, h⟩ := h
    refine ⟨rfl, 60, ?_⟩
    repeat' (first
        | omega
        | with_reducible apply And.intro
        | (intro c9; (try simp only [mg, mf, colK, stK, clK, mnK, shN] at c9))
        | exact h1
        | refine h _ (fun v S1 i1 i2 i3 => ?_) (fun e S1 i1 i2 => ?_)
        | exact ⟨1, i2, by omega, by omega⟩
        | exact kr_i ( i3 ) (Nat.le_of_ble_eq_true rfl) (Nat.le_of_ble_eq_true rfl)
        | exact ⟨_, handF_t i1, i2, Nat.le_of_ble_eq_true rfl, Nat.le_of_ble_eq_true rfl⟩
        | (simp only [mg, mf, colK, stK, clK, mnK, shN]; omega)
        | refine Exists.intro _ (And.intro rfl ?_)
        | ((with_reducible show wp _ _ _ _ _ _ _ _ _ _ _ _ _ _); conv => whnf)
        | ((with_reducible show callK _ _ _ _ _ _ _ _ _); conv => whnf)
        | ((with_reducible show condK _ _ _ _ _); conv => whnf)
        | ((with_reducible show st1 _ _ _ _ _ _ _ _ _ _ _ _); conv => whnf)
        | ((with_reducible show (Prod.fst _ : Spec) _ _ _); conv => whnf)
        | ((with_reducible show shortK _ _); conv => whnf)
        | exact Nat.le_of_ble_eq_true rfl)
def s_wsnap : Spec := fun as S post => match as with
  | [.inr (.inr (some 1)), .inl a1, .inr (.inr (some 3))] => wS s_snapC em2 [0, 2] [vT 1, vI a1] S post
  | _ => False
def spL_snap : Nat → CD := spF mdL_snap fun i => match i with
  | 1 => (frS s_snapC, 2, 12, 12)
  | _ => noR
set_option maxHeartbeats 4000000 in
set_option maxRecDepth 100000 in
theorem hdL_snap : ∀ ee pc z, handF 4 [0, 2] em2 ee pc = some z → handAt RL cL_snap 4 hhL_snap ee pc z := by
  intro ee pc z h
  obtain ⟨rfl, h2, rfl⟩ := handF_e h
  simp only [List.contains_cons, List.contains_nil, Bool.or_false, Bool.or_eq_true, beq_iff_eq] at h2
  rcases h2 with rfl | rfl
  · exact ⟨[], [(0, 9, 15, 17)], (0, 9, 12, 13), 3, 1, rfl, (fun w hw => by cases hw), ⟨by decide, by decide⟩, by decide, (List.mem_of_getElem? (i := 115) (by decide +kernel)), (List.mem_of_getElem? (i := 127) (by decide +kernel)), Or.inr ⟨3, by decide +kernel, rfl, rfl⟩, by decide, by decide +kernel, by decide +kernel⟩
  · exact ⟨[(0, 9, 12, 13)], [], (0, 9, 15, 17), 3, 1, rfl, List.forall_mem_cons.mpr ⟨⟨by decide, 0, (List.mem_of_getElem? (i := 115) (by decide +kernel)), by decide +kernel⟩, (fun w hw => by cases hw)⟩, ⟨by decide, by decide⟩, by decide, (List.mem_of_getElem? (i := 117) (by decide +kernel)), (List.mem_of_getElem? (i := 217) (by decide +kernel)), Or.inr ⟨3, by decide +kernel, rfl, rfl⟩, by decide, by decide +kernel, by decide +kernel⟩
set_option maxHeartbeats 4000000 in
set_option maxRecDepth 100000 in
theorem satH_snap : SatH mL_snap hhL_snap s_wsnap 2 12 13 := by
  refine satH_of (E := eL_snap) (sp := spL_snap) (hand := handF 4 [0, 2] em2) (by decide +kernel) rfl okL_snap (fun i => match i with
    | 1 => ⟨frS_sat sat_X6_snap, Nat.le_of_ble_eq_true rfl⟩
    | i + 2 => ⟨sat_no _, Nat.le_of_ble_eq_true rfl⟩
    | 0 => ⟨sat_no _, Nat.le_of_ble_eq_true rfl⟩) hdL_snap ?_
  intro as S post h
  match as, h with
  | [.inr (.inr (some 1)), .inl a1, .inr (.inr (some 3))], h =>
    obtain ⟨h1, h3, h⟩ := h
    refine ⟨rfl, 60, ?_⟩
    repeat' (first
        | omega
        | with_reducible apply And.intro
        | (intro c9; (try simp only [mg, mf, colK, stK, clK, mnK, shN] at c9))
        | exact h1
        | refine h _ (fun v S1 i1 i2 i3 => ?_) (fun e S1 i1 i2 => ?_)
        | exact ⟨1, i2, by omega, by omega⟩
        | exact kr_i ( i3 ) (Nat.le_of_ble_eq_true rfl) (Nat.le_of_ble_eq_true rfl)
        | exact ⟨_, handF_t i1, i2, Nat.le_of_ble_eq_true rfl, Nat.le_of_ble_eq_true rfl⟩
        | (simp only [mg, mf, colK, stK, clK, mnK, shN]; omega)
        | refine Exists.intro _ (And.intro rfl ?_)
        | ((with_reducible show wp _ _ _ _ _ _ _ _ _ _ _ _ _ _); conv => whnf)
        | ((with_reducible show callK _ _ _ _ _ _ _ _ _); conv => whnf)
        | ((with_reducible show condK _ _ _ _ _); conv => whnf)
        | ((with_reducible show st1 _ _ _ _ _ _ _ _ _ _ _ _); conv => whnf)
        | ((with_reducible show (Prod.fst _ : Spec) _ _ _); conv => whnf)
        | ((with_reducible show shortK _ _); conv => whnf)
        | exact Nat.le_of_ble_eq_true rfl)
def s_wmatch : Spec := fun as S post => match as with
  | [.inr (.inr (some 1)), .inl a1, .inl a2, .inl a3, .inr (.inr (some 3))] => wS s_matchC em2 [0, 2] [vT 1, vI a1, vI a2, vI a3] S post
  | _ => False
def spL_match : Nat → CD := spF mdL_match fun i => match i with
  | 1 => (frS s_matchC, 2, 12, 12)
  | _ => noR
set_option maxHeartbeats 4000000 in
set_option maxRecDepth 100000 in
theorem hdL_match : ∀ ee pc z, handF 7 [0, 2] em2 ee pc = some z → handAt RL cL_match 6 hhL_match ee pc z := by
  intro ee pc z h
  obtain ⟨rfl, h2, rfl⟩ := handF_e h
  simp only [List.contains_cons, List.contains_nil, Bool.or_false, Bool.or_eq_true, beq_iff_eq] at h2
  rcases h2 with rfl | rfl
  · exact ⟨[], [(0, 12, 19, 17)], (0, 12, 15, 13), 5, 2, rfl, (fun w hw => by cases hw), ⟨by decide, by decide⟩, by decide, (List.mem_of_getElem? (i := 115) (by decide +kernel)), (List.mem_of_getElem? (i := 127) (by decide +kernel)), Or.inl ⟨by decide +kernel, rfl⟩, by decide, by decide +kernel, by decide +kernel⟩
  · exact ⟨[(0, 12, 15, 13)], [], (0, 12, 19, 17), 5, 2, rfl, List.forall_mem_cons.mpr ⟨⟨by decide, 0, (List.mem_of_getElem? (i := 115) (by decide +kernel)), by decide +kernel⟩, (fun w hw => by cases hw)⟩, ⟨by decide, by decide⟩, by decide, (List.mem_of_getElem? (i := 117) (by decide +kernel)), (List.mem_of_getElem? (i := 217) (by decide +kernel)), Or.inl ⟨by decide +kernel, rfl⟩, by decide, by decide +kernel, by decide +kernel⟩
set_option maxHeartbeats 4000000 in
set_option maxRecDepth 100000 in
theorem satH_match : SatH mL_match hhL_match s_wmatch 2 12 13 := by
  refine satH_of (E := eL_match) (sp := spL_match) (hand := handF 7 [0, 2] em2) (by decide +kernel) rfl okL_match (fun i => match i with
    | 1 => ⟨frS_sat sat_X6_match, Nat.le_of_ble_eq_true rfl⟩
    | i + 2 => ⟨sat_no _, Nat.le_of_ble_eq_true rfl⟩
    | 0 => ⟨sat_no _, Nat.le_of_ble_eq_true rfl⟩) hdL_match ?_
  intro as S post h
  match as, h with
  | [.inr (.inr (some 1)), .inl a1, .inl a2, .inl a3, .inr (.inr (some 3))], h =>
    obtain ⟨h1, h3, h⟩ := h
    refine ⟨rfl, 60, ?_⟩
    repeat' (first
        | omega
        | with_reducible apply And.intro
        | (intro c9; (try simp only [mg, mf, colK, stK, clK, mnK, shN] at c9))
        | exact h1
        | refine h _ (fun v S1 i1 i2 i3 => ?_) (fun e S1 i1 i2 => ?_)
        | exact ⟨1, i2, by omega, by omega⟩
        | exact kr_i ( i3 ) (Nat.le_of_ble_eq_true rfl) (Nat.le_of_ble_eq_true rfl)
        | exact ⟨_, handF_t i1, i2, Nat.le_of_ble_eq_true rfl, Nat.le_of_ble_eq_true rfl⟩
        | (simp only [mg, mf, colK, stK, clK, mnK, shN]; omega)
        | refine Exists.intro _ (And.intro rfl ?_)
        | ((with_reducible show wp _ _ _ _ _ _ _ _ _ _ _ _ _ _); conv => whnf)
        | ((with_reducible show callK _ _ _ _ _ _ _ _ _); conv => whnf)
        | ((with_reducible show condK _ _ _ _ _); conv => whnf)
        | ((with_reducible show st1 _ _ _ _ _ _ _ _ _ _ _ _); conv => whnf)
        | ((with_reducible show (Prod.fst _ : Spec) _ _ _); conv => whnf)
        | ((with_reducible show shortK _ _); conv => whnf)
        | exact Nat.le_of_ble_eq_true rfl)
def s_wcancel : Spec := fun as S post => match as with
  | [.inr (.inr (some 1)), .inl a1, .inr (.inr (some 3))] => wS s_cancelC em2 [0, 2] [vT 1, vI a1] S post
  | _ => False
def spL_cancel : Nat → CD := spF mdL_cancel fun i => match i with
  | 1 => (frS s_cancelC, 2, 12, 12)
  | _ => noR
set_option maxHeartbeats 4000000 in
set_option maxRecDepth 100000 in
theorem hdL_cancel : ∀ ee pc z, handF 4 [0, 2] em2 ee pc = some z → handAt RL cL_cancel 4 hhL_cancel ee pc z := by
  intro ee pc z h
  obtain ⟨rfl, h2, rfl⟩ := handF_e h
  simp only [List.contains_cons, List.contains_nil, Bool.or_false, Bool.or_eq_true, beq_iff_eq] at h2
  rcases h2 with rfl | rfl
  · exact ⟨[], [(0, 9, 15, 17)], (0, 9, 12, 13), 3, 1, rfl, (fun w hw => by cases hw), ⟨by decide, by decide⟩, by decide, (List.mem_of_getElem? (i := 115) (by decide +kernel)), (List.mem_of_getElem? (i := 127) (by decide +kernel)), Or.inr ⟨3, by decide +kernel, rfl, rfl⟩, by decide, by decide +kernel, by decide +kernel⟩
  · exact ⟨[(0, 9, 12, 13)], [], (0, 9, 15, 17), 3, 1, rfl, List.forall_mem_cons.mpr ⟨⟨by decide, 0, (List.mem_of_getElem? (i := 115) (by decide +kernel)), by decide +kernel⟩, (fun w hw => by cases hw)⟩, ⟨by decide, by decide⟩, by decide, (List.mem_of_getElem? (i := 117) (by decide +kernel)), (List.mem_of_getElem? (i := 217) (by decide +kernel)), Or.inr ⟨3, by decide +kernel, rfl, rfl⟩, by decide, by decide +kernel, by decide +kernel⟩
set_option maxHeartbeats 4000000 in
set_option maxRecDepth 100000 in
theorem satH_cancel : SatH mL_cancel hhL_cancel s_wcancel 2 12 13 := by
  refine satH_of (E := eL_cancel) (sp := spL_cancel) (hand := handF 4 [0, 2] em2) (by decide +kernel) rfl okL_cancel (fun i => match i with
    | 1 => ⟨frS_sat sat_X6_cancel, Nat.le_of_ble_eq_true rfl⟩
    | i + 2 => ⟨sat_no _, Nat.le_of_ble_eq_true rfl⟩
    | 0 => ⟨sat_no _, Nat.le_of_ble_eq_true rfl⟩) hdL_cancel ?_
  intro as S post h
  match as, h with
  | [.inr (.inr (some 1)), .inl a1, .inr (.inr (some 3))], h =>
    obtain ⟨h1, h3, h⟩ := h
    refine ⟨rfl, 60, ?_⟩
    repeat' (first
        | omega
        | with_reducible apply And.intro
        | (intro c9; (try simp only [mg, mf, colK, stK, clK, mnK, shN] at c9))
        | exact h1
        | refine h _ (fun v S1 i1 i2 i3 => ?_) (fun e S1 i1 i2 => ?_)
        | exact ⟨1, i2, by omega, by omega⟩
        | exact kr_i ( i3 ) (Nat.le_of_ble_eq_true rfl) (Nat.le_of_ble_eq_true rfl)
        | exact ⟨_, handF_t i1, i2, Nat.le_of_ble_eq_true rfl, Nat.le_of_ble_eq_true rfl⟩
        | (simp only [mg, mf, colK, stK, clK, mnK, shN]; omega)
        | refine Exists.intro _ (And.intro rfl ?_)
        | ((with_reducible show wp _ _ _ _ _ _ _ _ _ _ _ _ _ _); conv => whnf)
        | ((with_reducible show callK _ _ _ _ _ _ _ _ _); conv => whnf)
        | ((with_reducible show condK _ _ _ _ _); conv => whnf)
        | ((with_reducible show st1 _ _ _ _ _ _ _ _ _ _ _ _); conv => whnf)
        | ((with_reducible show (Prod.fst _ : Spec) _ _ _); conv => whnf)
        | ((with_reducible show shortK _ _); conv => whnf)
        | exact Nat.le_of_ble_eq_true rfl)
def s_wstitches : Spec := fun as S post => match as with
  | [.inr (.inr (some 1)), .inl a1, .inl a2, .inr (.inr (some 3))] => wS s_stitchesC em1 [0] [vT 1, vI a1, vI a2] S post
  | _ => False
def spL_stitches : Nat → CD := spF mdL_stitches fun i => match i with
  | 1 => (frS s_stitchesC, 2, 12, 12)
  | _ => noR
set_option maxHeartbeats 4000000 in
set_option maxRecDepth 100000 in
theorem hdL_stitches : ∀ ee pc z, handF 5 [0] em1 ee pc = some z → handAt RL cL_stitches 5 hhL_stitches ee pc z := by
  intro ee pc z h
  obtain ⟨rfl, h2, rfl⟩ := handF_e h
  simp only [List.contains_cons, List.contains_nil, Bool.or_false, Bool.or_eq_true, beq_iff_eq] at h2
  subst h2
  · exact ⟨[], [], (0, 10, 13, 13), 4, 2, rfl, (fun w hw => by cases hw), ⟨by decide, by decide⟩, by decide, (List.mem_of_getElem? (i := 115) (by decide +kernel)), (List.mem_of_getElem? (i := 127) (by decide +kernel)), Or.inl ⟨by decide +kernel, rfl⟩, by decide, by decide +kernel, by decide +kernel⟩
set_option maxHeartbeats 4000000 in
set_option maxRecDepth 100000 in
theorem satH_stitches : SatH mL_stitches hhL_stitches s_wstitches 2 12 13 := by
  refine satH_of (E := eL_stitches) (sp := spL_stitches) (hand := handF 5 [0] em1) (by decide +kernel) rfl okL_stitches (fun i => match i with
    | 1 => ⟨frS_sat sat_X6_stitches, Nat.le_of_ble_eq_true rfl⟩
    | i + 2 => ⟨sat_no _, Nat.le_of_ble_eq_true rfl⟩
    | 0 => ⟨sat_no _, Nat.le_of_ble_eq_true rfl⟩) hdL_stitches ?_
  intro as S post h
  match as, h with
  | [.inr (.inr (some 1)), .inl a1, .inl a2, .inr (.inr (some 3))], h =>
    obtain ⟨h1, h3, h⟩ := h
    refine ⟨rfl, 60, ?_⟩
    repeat' (first
        | omega
        | with_reducible apply And.intro
        | (intro c9; (try simp only [mg, mf, colK, stK, clK, mnK, shN] at c9))
        | exact h1
        | refine h _ (fun v S1 i1 i2 i3 => ?_) (fun e S1 i1 i2 => ?_)
        | exact ⟨1, i2, by omega, by omega⟩
        | exact kr_i ( i3 ) (Nat.le_of_ble_eq_true rfl) (Nat.le_of_ble_eq_true rfl)
        | exact ⟨_, handF_t i1, i2, Nat.le_of_ble_eq_true rfl, Nat.le_of_ble_eq_true rfl⟩
        | (simp only [mg, mf, colK, stK, clK, mnK, shN]; omega)
        | refine Exists.intro _ (And.intro rfl ?_)
        | ((with_reducible show wp _ _ _ _ _ _ _ _ _ _ _ _ _ _); conv => whnf)
        | ((with_reducible show callK _ _ _ _ _ _ _ _ _); conv => whnf)
        | ((with_reducible show condK _ _ _ _ _); conv => whnf)
        | ((with_reducible show st1 _ _ _ _ _ _ _ _ _ _ _ _); conv => whnf)
        | ((with_reducible show (Prod.fst _ : Spec) _ _ _); conv => whnf)
        | ((with_reducible show shortK _ _); conv => whnf)
        | exact Nat.le_of_ble_eq_true rfl)
def s_wstitch : Spec := fun as S post => match as with
  | [.inr (.inr (some 1)), .inl a1, .inl a2, .inl a3, .inr (.inr (some 3))] => wS s_stitchC em1 [0, 1] [vT 1, vI a1, vI a2, vI a3] S post
  | _ => False
def spL_stitch : Nat → CD := spF mdL_stitch fun i => match i with
  | 1 => (frS s_stitchC, 2, 12, 12)
  | _ => noR
set_option maxHeartbeats 4000000 in
set_option maxRecDepth 100000 in
theorem hdL_stitch : ∀ ee pc z, handF 7 [0, 1] em1 ee pc = some z → handAt RL cL_stitch 6 hhL_stitch ee pc z := by
  intro ee pc z h
  obtain ⟨rfl, h2, rfl⟩ := handF_e h
  simp only [List.contains_cons, List.contains_nil, Bool.or_false, Bool.or_eq_true, beq_iff_eq] at h2
  rcases h2 with rfl | rfl
  · exact ⟨[], [(0, 12, 19, 15)], (0, 12, 15, 13), 5, 2, rfl, (fun w hw => by cases hw), ⟨by decide, by decide⟩, by decide, (List.mem_of_getElem? (i := 115) (by decide +kernel)), (List.mem_of_getElem? (i := 127) (by decide +kernel)), Or.inl ⟨by decide +kernel, rfl⟩, by decide, by decide +kernel, by decide +kernel⟩
  · exact ⟨[(0, 12, 15, 13)], [], (0, 12, 19, 15), 5, 2, rfl, List.forall_mem_cons.mpr ⟨⟨by decide, 0, (List.mem_of_getElem? (i := 115) (by decide +kernel)), by decide +kernel⟩, (fun w hw => by cases hw)⟩, ⟨by decide, by decide⟩, by decide, (List.mem_of_getElem? (i := 116) (by decide +kernel)), (List.mem_of_getElem? (i := 201) (by decide +kernel)), Or.inl ⟨by decide +kernel, rfl⟩, by decide, by decide +kernel, by decide +kernel⟩
set_option maxHeartbeats 4000000 in
set_option maxRecDepth 100000 in
theorem satH_stitch : SatH mL_stitch hhL_stitch s_wstitch 2 12 13 := by
  refine satH_of (E := eL_stitch) (sp := spL_stitch) (hand := handF 7 [0, 1] em1) (by decide +kernel) rfl okL_stitch (fun i => match i with
    | 1 => ⟨frS_sat sat_X6_stitch, Nat.le_of_ble_eq_true rfl⟩
    | i + 2 => ⟨sat_no _, Nat.le_of_ble_eq_true rfl⟩
    | 0 => ⟨sat_no _, Nat.le_of_ble_eq_true rfl⟩) hdL_stitch ?_
  intro as S post h
  match as, h with
  | [.inr (.inr (some 1)), .inl a1, .inl a2, .inl a3, .inr (.inr (some 3))], h =>
    obtain ⟨h1, h3, h⟩ := h
    refine ⟨rfl, 60, ?_⟩
    repeat' (first
        | omega
        | with_reducible apply And.intro
        | (intro c9; (try simp only [mg, mf, colK, stK, clK, mnK, shN] at c9))
        | exact h1
        | refine h _ (fun v S1 i1 i2 i3 => ?_) (fun e S1 i1 i2 => ?_)
        | exact ⟨1, i2, by omega, by omega⟩
        | exact kr_i ( i3 ) (Nat.le_of_ble_eq_true rfl) (Nat.le_of_ble_eq_true rfl)
        | exact ⟨_, handF_t i1, i2, Nat.le_of_ble_eq_true rfl, Nat.le_of_ble_eq_true rfl⟩
        | (simp only [mg, mf, colK, stK, clK, mnK, shN]; omega)
        | refine Exists.intro _ (And.intro rfl ?_)
        | ((with_reducible show wp _ _ _ _ _ _ _ _ _ _ _ _ _ _); conv => whnf)
        | ((with_reducible show callK _ _ _ _ _ _ _ _ _); conv => whnf)
        | ((with_reducible show condK _ _ _ _ _); conv => whnf)
        | ((with_reducible show st1 _ _ _ _ _ _ _ _ _ _ _ _); conv => whnf)
        | ((with_reducible show (Prod.fst _ : Spec) _ _ _); conv => whnf)
        | ((with_reducible show shortK _ _); conv => whnf)
        | exact Nat.le_of_ble_eq_true rfl)
def s_wsequence : Spec := fun as S post => match as with
  | [.inr (.inr (some 1)), .inl a1, .inl a2, .inr (.inr (some 3))] => wS s_sequenceC em1 [0] [vT 1, vI a1, vI a2] S post
  | _ => False
def spL_sequence : Nat → CD := spF mdL_sequence fun i => match i with
  | 1 => (frS s_sequenceC, 2, 12, 12)
  | _ => noR
set_option maxHeartbeats 4000000 in
set_option maxRecDepth 100000 in
theorem hdL_sequence : ∀ ee pc z, handF 5 [0] em1 ee pc = some z → handAt RL cL_sequence 5 hhL_sequence ee pc z := by
  intro ee pc z h
  obtain ⟨rfl, h2, rfl⟩ := handF_e h
  simp only [List.contains_cons, List.contains_nil, Bool.or_false, Bool.or_eq_true, beq_iff_eq] at h2
  subst h2
  · exact ⟨[], [], (0, 10, 13, 13), 4, 2, rfl, (fun w hw => by cases hw), ⟨by decide, by decide⟩, by decide, (List.mem_of_getElem? (i := 115) (by decide +kernel)), (List.mem_of_getElem? (i := 127) (by decide +kernel)), Or.inl ⟨by decide +kernel, rfl⟩, by decide, by decide +kernel, by decide +kernel⟩
set_option maxHeartbeats 4000000 in
set_option maxRecDepth 100000 in
theorem satH_sequence : SatH mL_sequence hhL_sequence s_wsequence 2 12 13 := by
  refine satH_of (E := eL_sequence) (sp := spL_sequence) (hand := handF 5 [0] em1) (by decide +kernel) rfl okL_sequence (fun i => match i with
    | 1 => ⟨frS_sat sat_X6_sequence, Nat.le_of_ble_eq_true rfl⟩
    | i + 2 => ⟨sat_no _, Nat.le_of_ble_eq_true rfl⟩
    | 0 => ⟨sat_no _, Nat.le_of_ble_eq_true rfl⟩) hdL_sequence ?_
  intro as S post h
  match as, h with
  | [.inr (.inr (some 1)), .inl a1, .inl a2, .inr (.inr (some 3))], h =>
    obtain ⟨h1, h3, h⟩ := h
    refine ⟨rfl, 60, ?_⟩
    repeat' (first
        | omega
        | with_reducible apply And.intro
        | (intro c9; (try simp only [mg, mf, colK, stK, clK, mnK, shN] at c9))
        | exact h1
        | refine h _ (fun v S1 i1 i2 i3 => ?_) (fun e S1 i1 i2 => ?_)
        | exact ⟨1, i2, by omega, by omega⟩
        | exact kr_i ( i3 ) (Nat.le_of_ble_eq_true rfl) (Nat.le_of_ble_eq_true rfl)
        | exact ⟨_, handF_t i1, i2, Nat.le_of_ble_eq_true rfl, Nat.le_of_ble_eq_true rfl⟩
        | (simp only [mg, mf, colK, stK, clK, mnK, shN]; omega)
        | refine Exists.intro _ (And.intro rfl ?_)
        | ((with_reducible show wp _ _ _ _ _ _ _ _ _ _ _ _ _ _); conv => whnf)
        | ((with_reducible show callK _ _ _ _ _ _ _ _ _); conv => whnf)
        | ((with_reducible show condK _ _ _ _ _); conv => whnf)
        | ((with_reducible show st1 _ _ _ _ _ _ _ _ _ _ _ _); conv => whnf)
        | ((with_reducible show (Prod.fst _ : Spec) _ _ _); conv => whnf)
        | ((with_reducible show shortK _ _); conv => whnf)
        | exact Nat.le_of_ble_eq_true rfl)
def s_wchanges : Spec := fun as S post => match as with
  | [.inr (.inr (some 1)), .inl a1, .inr (.inr (some 3))] => wS s_changesC em1 [0] [vT 1, vI a1] S post
  | _ => False
def spL_changes : Nat → CD := spF mdL_changes fun i => match i with
  | 1 => (frS s_changesC, 1, 6, 12)
  | _ => noR
set_option maxHeartbeats 4000000 in
set_option maxRecDepth 100000 in
theorem hdL_changes : ∀ ee pc z, handF 4 [0] em1 ee pc = some z → handAt RL cL_changes 4 hhL_changes ee pc z := by
  intro ee pc z h
  obtain ⟨rfl, h2, rfl⟩ := handF_e h
  simp only [List.contains_cons, List.contains_nil, Bool.or_false, Bool.or_eq_true, beq_iff_eq] at h2
  subst h2
  · exact ⟨[], [], (0, 9, 12, 13), 3, 1, rfl, (fun w hw => by cases hw), ⟨by decide, by decide⟩, by decide, (List.mem_of_getElem? (i := 115) (by decide +kernel)), (List.mem_of_getElem? (i := 127) (by decide +kernel)), Or.inr ⟨3, by decide +kernel, rfl, rfl⟩, by decide, by decide +kernel, by decide +kernel⟩
set_option maxHeartbeats 4000000 in
set_option maxRecDepth 100000 in
theorem satH_changes : SatH mL_changes hhL_changes s_wchanges 1 6 13 := by
  refine satH_of (E := eL_changes) (sp := spL_changes) (hand := handF 4 [0] em1) (by decide +kernel) rfl okL_changes (fun i => match i with
    | 1 => ⟨frS_sat sat_X6_changes, Nat.le_of_ble_eq_true rfl⟩
    | i + 2 => ⟨sat_no _, Nat.le_of_ble_eq_true rfl⟩
    | 0 => ⟨sat_no _, Nat.le_of_ble_eq_true rfl⟩) hdL_changes ?_
  intro as S post h
  match as, h with
  | [.inr (.inr (some 1)), .inl a1, .inr (.inr (some 3))], h =>
    obtain ⟨h1, h3, h⟩ := h
    refine ⟨rfl, 60, ?_⟩
    repeat' (first
        | omega
        | with_reducible apply And.intro
        | (intro c9; (try simp only [mg, mf, colK, stK, clK, mnK, shN] at c9))
        | exact h1
        | refine h _ (fun v S1 i1 i2 i3 => ?_) (fun e S1 i1 i2 => ?_)
        | exact ⟨1, i2, by omega, by omega⟩
        | exact kr_i ( i3 ) (Nat.le_of_ble_eq_true rfl) (Nat.le_of_ble_eq_true rfl)
        | exact ⟨_, handF_t i1, i2, Nat.le_of_ble_eq_true rfl, Nat.le_of_ble_eq_true rfl⟩
        | (simp only [mg, mf, colK, stK, clK, mnK, shN]; omega)
        | refine Exists.intro _ (And.intro rfl ?_)
        | ((with_reducible show wp _ _ _ _ _ _ _ _ _ _ _ _ _ _); conv => whnf)
        | ((with_reducible show callK _ _ _ _ _ _ _ _ _); conv => whnf)
        | ((with_reducible show condK _ _ _ _ _); conv => whnf)
        | ((with_reducible show st1 _ _ _ _ _ _ _ _ _ _ _ _); conv => whnf)
        | ((with_reducible show (Prod.fst _ : Spec) _ _ _); conv => whnf)
        | ((with_reducible show shortK _ _); conv => whnf)
        | exact Nat.le_of_ble_eq_true rfl)
def s_wchangesAnew : Spec := fun as S post => match as with
  | [.inr (.inr (some 1)), .inl a1, .inr (.inr (some 3))] => wS s_changesAnewC em1 [0] [vT 1, vI a1] S post
  | _ => False
def spL_changesAnew : Nat → CD := spF mdL_changesAnew fun i => match i with
  | 1 => (frS s_changesAnewC, 1, 6, 12)
  | _ => noR
set_option maxHeartbeats 4000000 in
set_option maxRecDepth 100000 in
theorem hdL_changesAnew : ∀ ee pc z, handF 4 [0] em1 ee pc = some z → handAt RL cL_changesAnew 4 hhL_changesAnew ee pc z := by
  intro ee pc z h
  obtain ⟨rfl, h2, rfl⟩ := handF_e h
  simp only [List.contains_cons, List.contains_nil, Bool.or_false, Bool.or_eq_true, beq_iff_eq] at h2
  subst h2
  · exact ⟨[], [], (0, 9, 12, 13), 3, 1, rfl, (fun w hw => by cases hw), ⟨by decide, by decide⟩, by decide, (List.mem_of_getElem? (i := 115) (by decide +kernel)), (List.mem_of_getElem? (i := 127) (by decide +kernel)), Or.inr ⟨3, by decide +kernel, rfl, rfl⟩, by decide, by decide +kernel, by decide +kernel⟩
set_option maxHeartbeats 4000000 in
set_option maxRecDepth 100000 in
theorem satH_changesAnew : SatH mL_changesAnew hhL_changesAnew s_wchangesAnew 1 6 13 := by
  refine satH_of (E := eL_changesAnew) (sp := spL_changesAnew) (hand := handF 4 [0] em1) (by decide +kernel) rfl okL_changesAnew (fun i => match i with
    | 1 => ⟨frS_sat sat_X6_changesAnew, Nat.le_of_ble_eq_true rfl⟩
    | i + 2 => ⟨sat_no _, Nat.le_of_ble_eq_true rfl⟩
    | 0 => ⟨sat_no _, Nat.le_of_ble_eq_true rfl⟩) hdL_changesAnew ?_
  intro as S post h
  match as, h with
  | [.inr (.inr (some 1)), .inl a1, .inr (.inr (some 3))], h =>
    obtain ⟨h1, h3, h⟩ := h
    refine ⟨rfl, 60, ?_⟩
    repeat' (first
        | omega
        | with_reducible apply And.intro
        | (intro c9; (try simp only [mg, mf, colK, stK, clK, mnK, shN] at c9))
        | exact h1
        | refine h _ (fun v S1 i1 i2 i3 => ?_) (fun e S1 i1 i2 => ?_)
        | exact ⟨1, i2, by omega, by omega⟩
        | exact kr_i ( i3 ) (Nat.le_of_ble_eq_true rfl) (Nat.le_of_ble_eq_true rfl)
        | exact ⟨_, handF_t i1, i2, Nat.le_of_ble_eq_true rfl, Nat.le_of_ble_eq_true rfl⟩
        | (simp only [mg, mf, colK, stK, clK, mnK, shN]; omega)
        | refine Exists.intro _ (And.intro rfl ?_)
        | ((with_reducible show wp _ _ _ _ _ _ _ _ _ _ _ _ _ _); conv => whnf)
        | ((with_reducible show callK _ _ _ _ _ _ _ _ _); conv => whnf)
        | ((with_reducible show condK _ _ _ _ _); conv => whnf)
        | ((with_reducible show st1 _ _ _ _ _ _ _ _ _ _ _ _); conv => whnf)
        | ((with_reducible show (Prod.fst _ : Spec) _ _ _); conv => whnf)
        | ((with_reducible show shortK _ _); conv => whnf)
        | exact Nat.le_of_ble_eq_true rfl)
def s_wjumps : Spec := fun as S post => match as with
  | [.inr (.inr (some 1)), .inl a1, .inl a2, .inr (.inr (some 3))] => wS s_jumpsC em1 [0] [vT 1, vI a1, vI a2] S post
  | _ => False
def spL_jumps : Nat → CD := spF mdL_jumps fun i => match i with
  | 1 => (frS s_jumpsC, 1, 6, 12)
  | _ => noR
set_option maxHeartbeats 4000000 in
set_option maxRecDepth 100000 in
theorem hdL_jumps : ∀ ee pc z, handF 5 [0] em1 ee pc = some z → handAt RL cL_jumps 5 hhL_jumps ee pc z := by
  intro ee pc z h
  obtain ⟨rfl, h2, rfl⟩ := handF_e h
  simp only [List.contains_cons, List.contains_nil, Bool.or_false, Bool.or_eq_true, beq_iff_eq] at h2
  subst h2
  · exact ⟨[], [], (0, 10, 13, 13), 4, 2, rfl, (fun w hw => by cases hw), ⟨by decide, by decide⟩, by decide, (List.mem_of_getElem? (i := 115) (by decide +kernel)), (List.mem_of_getElem? (i := 127) (by decide +kernel)), Or.inl ⟨by decide +kernel, rfl⟩, by decide, by decide +kernel, by decide +kernel⟩
set_option maxHeartbeats 4000000 in
set_option maxRecDepth 100000 in
theorem satH_jumps : SatH mL_jumps hhL_jumps s_wjumps 1 6 13 := by
  refine satH_of (E := eL_jumps) (sp := spL_jumps) (hand := handF 5 [0] em1) (by decide +kernel) rfl okL_jumps (fun i => match i with
    | 1 => ⟨frS_sat sat_X6_jumps, Nat.le_of_ble_eq_true rfl⟩
    | i + 2 => ⟨sat_no _, Nat.le_of_ble_eq_true rfl⟩
    | 0 => ⟨sat_no _, Nat.le_of_ble_eq_true rfl⟩) hdL_jumps ?_
  intro as S post h
  match as, h with
  | [.inr (.inr (some 1)), .inl a1, .inl a2, .inr (.inr (some 3))], h =>
    obtain ⟨h1, h3, h⟩ := h
    refine ⟨rfl, 60, ?_⟩
    repeat' (first
        | omega
        | with_reducible apply And.intro
        | (intro c9; (try simp only [mg, mf, colK, stK, clK, mnK, shN] at c9))
        | exact h1
        | refine h _ (fun v S1 i1 i2 i3 => ?_) (fun e S1 i1 i2 => ?_)
        | exact ⟨1, i2, by omega, by omega⟩
        | exact kr_i ( i3 ) (Nat.le_of_ble_eq_true rfl) (Nat.le_of_ble_eq_true rfl)
        | exact ⟨_, handF_t i1, i2, Nat.le_of_ble_eq_true rfl, Nat.le_of_ble_eq_true rfl⟩
        | (simp only [mg, mf, colK, stK, clK, mnK, shN]; omega)
        | refine Exists.intro _ (And.intro rfl ?_)
        | ((with_reducible show wp _ _ _ _ _ _ _ _ _ _ _ _ _ _); conv => whnf)
        | ((with_reducible show callK _ _ _ _ _ _ _ _ _); conv => whnf)
        | ((with_reducible show condK _ _ _ _ _); conv => whnf)
        | ((with_reducible show st1 _ _ _ _ _ _ _ _ _ _ _ _); conv => whnf)
        | ((with_reducible show (Prod.fst _ : Spec) _ _ _); conv => whnf)
        | ((with_reducible show shortK _ _); conv => whnf)
        | exact Nat.le_of_ble_eq_true rfl)
def s_wofOrder : Spec := fun as S post => match as with
  | [.inr (.inr (some 1)), .inl a1, .inl a2, .inr (.inr (some 3))] => wS s_ofOrderC em1 [0, 1] [vT 1, vI a1, vI a2] S post
  | _ => False
def spL_ofOrder : Nat → CD := spF mdL_ofOrder fun i => match i with
  | 1 => (frS s_ofOrderC, 2, 12, 12)
  | _ => noR
set_option maxHeartbeats 4000000 in
set_option maxRecDepth 100000 in
theorem hdL_ofOrder : ∀ ee pc z, handF 5 [0, 1] em1 ee pc = some z → handAt RL cL_ofOrder 5 hhL_ofOrder ee pc z := by
  intro ee pc z h
  obtain ⟨rfl, h2, rfl⟩ := handF_e h
  simp only [List.contains_cons, List.contains_nil, Bool.or_false, Bool.or_eq_true, beq_iff_eq] at h2
  rcases h2 with rfl | rfl
  · exact ⟨[], [(0, 10, 17, 15)], (0, 10, 13, 13), 4, 2, rfl, (fun w hw => by cases hw), ⟨by decide, by decide⟩, by decide, (List.mem_of_getElem? (i := 115) (by decide +kernel)), (List.mem_of_getElem? (i := 127) (by decide +kernel)), Or.inl ⟨by decide +kernel, rfl⟩, by decide, by decide +kernel, by decide +kernel⟩
  · exact ⟨[(0, 10, 13, 13)], [], (0, 10, 17, 15), 4, 2, rfl, List.forall_mem_cons.mpr ⟨⟨by decide, 0, (List.mem_of_getElem? (i := 115) (by decide +kernel)), by decide +kernel⟩, (fun w hw => by cases hw)⟩, ⟨by decide, by decide⟩, by decide, (List.mem_of_getElem? (i := 116) (by decide +kernel)), (List.mem_of_getElem? (i := 201) (by decide +kernel)), Or.inl ⟨by decide +kernel, rfl⟩, by decide, by decide +kernel, by decide +kernel⟩
set_option maxHeartbeats 4000000 in
set_option maxRecDepth 100000 in
theorem satH_ofOrder : SatH mL_ofOrder hhL_ofOrder s_wofOrder 2 12 13 := by
  refine satH_of (E := eL_ofOrder) (sp := spL_ofOrder) (hand := handF 5 [0, 1] em1) (by decide +kernel) rfl okL_ofOrder (fun i => match i with
    | 1 => ⟨frS_sat sat_X6_ofOrder, Nat.le_of_ble_eq_true rfl⟩
    | i + 2 => ⟨sat_no _, Nat.le_of_ble_eq_true rfl⟩
    | 0 => ⟨sat_no _, Nat.le_of_ble_eq_true rfl⟩) hdL_ofOrder ?_
  intro as S post h
  match as, h with
  | [.inr (.inr (some 1)), .inl a1, .inl a2, .inr (.inr (some 3))], h =>
    obtain ⟨h1, h3, h⟩ := h
    refine ⟨rfl, 60, ?_⟩
    repeat' (first
        | omega
        | with_reducible apply And.intro
        | (intro c9; (try simp only [mg, mf, colK, stK, clK, mnK, shN] at c9))
        | exact h1
        | refine h _ (fun v S1 i1 i2 i3 => ?_) (fun e S1 i1 i2 => ?_)
        | exact ⟨1, i2, by omega, by omega⟩
        | exact kr_i ( i3 ) (Nat.le_of_ble_eq_true rfl) (Nat.le_of_ble_eq_true rfl)
        | exact ⟨_, handF_t i1, i2, Nat.le_of_ble_eq_true rfl, Nat.le_of_ble_eq_true rfl⟩
        | (simp only [mg, mf, colK, stK, clK, mnK, shN]; omega)
        | refine Exists.intro _ (And.intro rfl ?_)
        | ((with_reducible show wp _ _ _ _ _ _ _ _ _ _ _ _ _ _); conv => whnf)
        | ((with_reducible show callK _ _ _ _ _ _ _ _ _); conv => whnf)
        | ((with_reducible show condK _ _ _ _ _); conv => whnf)
        | ((with_reducible show st1 _ _ _ _ _ _ _ _ _ _ _ _); conv => whnf)
        | ((with_reducible show (Prod.fst _ : Spec) _ _ _); conv => whnf)
        | ((with_reducible show shortK _ _); conv => whnf)
        | exact Nat.le_of_ble_eq_true rfl)
def s_wshadeOf : Spec := fun as S post => match as with
  | [.inr (.inr (some 1)), .inl a1, .inl a2, .inr (.inr (some 3))] => wS s_shadeOfC em1 [0] [vT 1, vI a1, vI a2] S post
  | _ => False
def spL_shadeOf : Nat → CD := spF mdL_shadeOf fun i => match i with
  | 1 => (frS s_shadeOfC, 2, 12, 12)
  | _ => noR
set_option maxHeartbeats 4000000 in
set_option maxRecDepth 100000 in
theorem hdL_shadeOf : ∀ ee pc z, handF 5 [0] em1 ee pc = some z → handAt RL cL_shadeOf 5 hhL_shadeOf ee pc z := by
  intro ee pc z h
  obtain ⟨rfl, h2, rfl⟩ := handF_e h
  simp only [List.contains_cons, List.contains_nil, Bool.or_false, Bool.or_eq_true, beq_iff_eq] at h2
  subst h2
  · exact ⟨[], [], (0, 10, 13, 13), 4, 2, rfl, (fun w hw => by cases hw), ⟨by decide, by decide⟩, by decide, (List.mem_of_getElem? (i := 115) (by decide +kernel)), (List.mem_of_getElem? (i := 127) (by decide +kernel)), Or.inl ⟨by decide +kernel, rfl⟩, by decide, by decide +kernel, by decide +kernel⟩
set_option maxHeartbeats 4000000 in
set_option maxRecDepth 100000 in
theorem satH_shadeOf : SatH mL_shadeOf hhL_shadeOf s_wshadeOf 2 12 13 := by
  refine satH_of (E := eL_shadeOf) (sp := spL_shadeOf) (hand := handF 5 [0] em1) (by decide +kernel) rfl okL_shadeOf (fun i => match i with
    | 1 => ⟨frS_sat sat_X6_shadeOf, Nat.le_of_ble_eq_true rfl⟩
    | i + 2 => ⟨sat_no _, Nat.le_of_ble_eq_true rfl⟩
    | 0 => ⟨sat_no _, Nat.le_of_ble_eq_true rfl⟩) hdL_shadeOf ?_
  intro as S post h
  match as, h with
  | [.inr (.inr (some 1)), .inl a1, .inl a2, .inr (.inr (some 3))], h =>
    obtain ⟨h1, h3, h⟩ := h
    refine ⟨rfl, 60, ?_⟩
    repeat' (first
        | omega
        | with_reducible apply And.intro
        | (intro c9; (try simp only [mg, mf, colK, stK, clK, mnK, shN] at c9))
        | exact h1
        | refine h _ (fun v S1 i1 i2 i3 => ?_) (fun e S1 i1 i2 => ?_)
        | exact ⟨1, i2, by omega, by omega⟩
        | exact kr_i ( i3 ) (Nat.le_of_ble_eq_true rfl) (Nat.le_of_ble_eq_true rfl)
        | exact ⟨_, handF_t i1, i2, Nat.le_of_ble_eq_true rfl, Nat.le_of_ble_eq_true rfl⟩
        | (simp only [mg, mf, colK, stK, clK, mnK, shN]; omega)
        | refine Exists.intro _ (And.intro rfl ?_)
        | ((with_reducible show wp _ _ _ _ _ _ _ _ _ _ _ _ _ _); conv => whnf)
        | ((with_reducible show callK _ _ _ _ _ _ _ _ _); conv => whnf)
        | ((with_reducible show condK _ _ _ _ _); conv => whnf)
        | ((with_reducible show st1 _ _ _ _ _ _ _ _ _ _ _ _); conv => whnf)
        | ((with_reducible show (Prod.fst _ : Spec) _ _ _); conv => whnf)
        | ((with_reducible show shortK _ _); conv => whnf)
        | exact Nat.le_of_ble_eq_true rfl)
def s_wofMachine : Spec := fun as S post => match as with
  | [.inr (.inr (some 1)), .inl a1, .inl a2, .inr (.inr (some 3))] => wS s_ofMachineC em1 [0, 1] [vT 1, vI a1, vI a2] S post
  | _ => False
def spL_ofMachine : Nat → CD := spF mdL_ofMachine fun i => match i with
  | 1 => (frS s_ofMachineC, 2, 12, 12)
  | _ => noR
set_option maxHeartbeats 4000000 in
set_option maxRecDepth 100000 in
theorem hdL_ofMachine : ∀ ee pc z, handF 5 [0, 1] em1 ee pc = some z → handAt RL cL_ofMachine 5 hhL_ofMachine ee pc z := by
  intro ee pc z h
  obtain ⟨rfl, h2, rfl⟩ := handF_e h
  simp only [List.contains_cons, List.contains_nil, Bool.or_false, Bool.or_eq_true, beq_iff_eq] at h2
  rcases h2 with rfl | rfl
  · exact ⟨[], [(0, 10, 17, 15)], (0, 10, 13, 13), 4, 2, rfl, (fun w hw => by cases hw), ⟨by decide, by decide⟩, by decide, (List.mem_of_getElem? (i := 115) (by decide +kernel)), (List.mem_of_getElem? (i := 127) (by decide +kernel)), Or.inl ⟨by decide +kernel, rfl⟩, by decide, by decide +kernel, by decide +kernel⟩
  · exact ⟨[(0, 10, 13, 13)], [], (0, 10, 17, 15), 4, 2, rfl, List.forall_mem_cons.mpr ⟨⟨by decide, 0, (List.mem_of_getElem? (i := 115) (by decide +kernel)), by decide +kernel⟩, (fun w hw => by cases hw)⟩, ⟨by decide, by decide⟩, by decide, (List.mem_of_getElem? (i := 116) (by decide +kernel)), (List.mem_of_getElem? (i := 201) (by decide +kernel)), Or.inl ⟨by decide +kernel, rfl⟩, by decide, by decide +kernel, by decide +kernel⟩
set_option maxHeartbeats 4000000 in
set_option maxRecDepth 100000 in
theorem satH_ofMachine : SatH mL_ofMachine hhL_ofMachine s_wofMachine 2 12 13 := by
  refine satH_of (E := eL_ofMachine) (sp := spL_ofMachine) (hand := handF 5 [0, 1] em1) (by decide +kernel) rfl okL_ofMachine (fun i => match i with
    | 1 => ⟨frS_sat sat_X6_ofMachine, Nat.le_of_ble_eq_true rfl⟩
    | i + 2 => ⟨sat_no _, Nat.le_of_ble_eq_true rfl⟩
    | 0 => ⟨sat_no _, Nat.le_of_ble_eq_true rfl⟩) hdL_ofMachine ?_
  intro as S post h
  match as, h with
  | [.inr (.inr (some 1)), .inl a1, .inl a2, .inr (.inr (some 3))], h =>
    obtain ⟨h1, h3, h⟩ := h
    refine ⟨rfl, 60, ?_⟩
    repeat' (first
        | omega
        | with_reducible apply And.intro
        | (intro c9; (try simp only [mg, mf, colK, stK, clK, mnK, shN] at c9))
        | exact h1
        | refine h _ (fun v S1 i1 i2 i3 => ?_) (fun e S1 i1 i2 => ?_)
        | exact ⟨1, i2, by omega, by omega⟩
        | exact kr_i ( i3 ) (Nat.le_of_ble_eq_true rfl) (Nat.le_of_ble_eq_true rfl)
        | exact ⟨_, handF_t i1, i2, Nat.le_of_ble_eq_true rfl, Nat.le_of_ble_eq_true rfl⟩
        | (simp only [mg, mf, colK, stK, clK, mnK, shN]; omega)
        | refine Exists.intro _ (And.intro rfl ?_)
        | ((with_reducible show wp _ _ _ _ _ _ _ _ _ _ _ _ _ _); conv => whnf)
        | ((with_reducible show callK _ _ _ _ _ _ _ _ _); conv => whnf)
        | ((with_reducible show condK _ _ _ _ _); conv => whnf)
        | ((with_reducible show st1 _ _ _ _ _ _ _ _ _ _ _ _); conv => whnf)
        | ((with_reducible show (Prod.fst _ : Spec) _ _ _); conv => whnf)
        | ((with_reducible show shortK _ _); conv => whnf)
        | exact Nat.le_of_ble_eq_true rfl)
def s_wleft : Spec := fun as S post => match as with
  | [.inr (.inr (some 1)), .inl a1, .inl a2, .inr (.inr (some 3))] => wS s_leftC em1 [0] [vT 1, vI a1, vI a2] S post
  | _ => False
def spL_left : Nat → CD := spF mdL_left fun i => match i with
  | 1 => (frS s_leftC, 2, 12, 12)
  | _ => noR
set_option maxHeartbeats 4000000 in
set_option maxRecDepth 100000 in
theorem hdL_left : ∀ ee pc z, handF 5 [0] em1 ee pc = some z → handAt RL cL_left 5 hhL_left ee pc z := by
  intro ee pc z h
  obtain ⟨rfl, h2, rfl⟩ := handF_e h
  simp only [List.contains_cons, List.contains_nil, Bool.or_false, Bool.or_eq_true, beq_iff_eq] at h2
  subst h2
  · exact ⟨[], [], (0, 10, 13, 13), 4, 2, rfl, (fun w hw => by cases hw), ⟨by decide, by decide⟩, by decide, (List.mem_of_getElem? (i := 115) (by decide +kernel)), (List.mem_of_getElem? (i := 127) (by decide +kernel)), Or.inl ⟨by decide +kernel, rfl⟩, by decide, by decide +kernel, by decide +kernel⟩
set_option maxHeartbeats 4000000 in
set_option maxRecDepth 100000 in
theorem satH_left : SatH mL_left hhL_left s_wleft 2 12 13 := by
  refine satH_of (E := eL_left) (sp := spL_left) (hand := handF 5 [0] em1) (by decide +kernel) rfl okL_left (fun i => match i with
    | 1 => ⟨frS_sat sat_X6_left, Nat.le_of_ble_eq_true rfl⟩
    | i + 2 => ⟨sat_no _, Nat.le_of_ble_eq_true rfl⟩
    | 0 => ⟨sat_no _, Nat.le_of_ble_eq_true rfl⟩) hdL_left ?_
  intro as S post h
  match as, h with
  | [.inr (.inr (some 1)), .inl a1, .inl a2, .inr (.inr (some 3))], h =>
    obtain ⟨h1, h3, h⟩ := h
    refine ⟨rfl, 60, ?_⟩
    repeat' (first
        | omega
        | with_reducible apply And.intro
        | (intro c9; (try simp only [mg, mf, colK, stK, clK, mnK, shN] at c9))
        | exact h1
        | refine h _ (fun v S1 i1 i2 i3 => ?_) (fun e S1 i1 i2 => ?_)
        | exact ⟨1, i2, by omega, by omega⟩
        | exact kr_i ( i3 ) (Nat.le_of_ble_eq_true rfl) (Nat.le_of_ble_eq_true rfl)
        | exact ⟨_, handF_t i1, i2, Nat.le_of_ble_eq_true rfl, Nat.le_of_ble_eq_true rfl⟩
        | (simp only [mg, mf, colK, stK, clK, mnK, shN]; omega)
        | refine Exists.intro _ (And.intro rfl ?_)
        | ((with_reducible show wp _ _ _ _ _ _ _ _ _ _ _ _ _ _); conv => whnf)
        | ((with_reducible show callK _ _ _ _ _ _ _ _ _); conv => whnf)
        | ((with_reducible show condK _ _ _ _ _); conv => whnf)
        | ((with_reducible show st1 _ _ _ _ _ _ _ _ _ _ _ _); conv => whnf)
        | ((with_reducible show (Prod.fst _ : Spec) _ _ _); conv => whnf)
        | ((with_reducible show shortK _ _); conv => whnf)
        | exact Nat.le_of_ble_eq_true rfl)
