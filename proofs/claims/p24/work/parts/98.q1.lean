/-! THE LAW'S WRAPPERS (by wip/p24/mkq1.py) -/
/-- a call of the class that changes it -/
theorem pw_cls {xs : Nat → Int} {Ln : Nat} {n : Int} {R S : Sto} {opC : Spec} {op : Sto → Int → Int → Sto → Prop} {em : Nat → Int} {ok : Res → Bool} {args : List AV} (AG : ∀ {B : Nat → Nat} {N : Nat} {C : Sto}, CI B N C R → MI n R → SI0 R → ∀ {post : Res → Sto → Prop}, (∀ r S1, ok r = true → tyF C S1 → agC em (op R) r S1 → post r S1) → opC args C post) (hgood : goodO op)
    (hargs : ∀ C : Sto, C.1 1 = some (6, 9) → CL C args) (h : PI xs Ln n R S) (hn : n + 1 ≤ 15000) (hx : ∃ k v R', op R k v R') {post : Res → Sto → Prop} (hp : ∀ r S1 k v R', ok r = true → op R k v R' → agA em k v r → PI xs Ln (n + 1) R' S1 → S1.2.1 3 = S.2.1 3 → post (nrm r) S1) : frS opC args S post := by
  obtain ⟨C, ⟨a1, a2⟩, b, d, ⟨e1, e2, e3⟩, hI, h0, B, N, hC⟩ := h
  obtain ⟨k, v, R', ho⟩ := hx
  obtain ⟨hI', h0', -, -⟩ := hgood n R k v R' hI h0 hn ho
  refine ⟨C, a1, a2, hargs C hC.1.1, AG hC hI h0 fun r C' hok hty hag => ⟨fun t t1 t2 => ?_, fun hcl hex => ?_⟩⟩
  · rcases d t t2 with z | z
    · exact absurd t1 z
    · rw [hty t z]; exact t1
  · obtain ⟨ha, B', N', hC'⟩ := hag k v R' ho
    have hF : ∀ t, inF t → C'.1 t = none := fun t ht => by rw [hty t ht]; exact b t ht
    refine hp r _ k v R' hok ho ha ⟨C', ⟨fun t x e => ovS_s e, hcl⟩, hF, fun t ht => ?_, ⟨?_, ?_, fun j => ?_⟩, hI', h0', B', N', hC'⟩ (ovS_n (hF 3 (by omega))).2.1
    · cases e9 : C'.1 t with
      | some x => exact Or.inl (by rw [e9] at *; exact fun z => by cases z)
      | none =>
        rw [(ovS_n e9).1] at ht
        rcases d t ht with z | z
        · cases e8 : C.1 t with
          | none => exact absurd e8 z
          | some y => rw [hex t y e8] at e9; cases e9
        · exact Or.inr z
    · rw [(ovS_n (hF 3 (by omega))).1]; exact e1
    · rw [(ovS_n (hF 10 (by omega))).1]; exact e2
    · rw [(ovS_n (hF 10 (by omega))).2.1]; exact e3 j
def wP (spec : Spec) (args : List AV) (S : Sto) (post : Res → Sto → Prop) : Prop := (∃ n, S.1 1 = some (6, n)) ∧ ∀ post' : Res → Sto → Prop, (∀ v S1, InR v → post (.inl (some (vI v))) S1 → post' (.inl (some (vI v))) S1) → (∀ S1, post (.inl (some (vI (-2)))) S1 → post' (.inr 2) S1) → frS spec args S post'
def wP0 (spec : Spec) (args : List AV) (S : Sto) (post : Res → Sto → Prop) : Prop := (∃ n, S.1 1 = some (6, n)) ∧ ∀ post' : Res → Sto → Prop, (∀ S1, post (.inl (some (vI 0))) S1 → post' (.inl none) S1) → (∀ S1, post (.inl (some (vI (-2)))) S1 → post' (.inr 2) S1) → frS spec args S post'
def handF (N : Nat) : Nat → Nat → Option Int := fun ee pc => if pc < N ∧ ee = 2 then some (-2) else none
theorem handF_t {N pc : Nat} (h : pc < N) : handF N 2 pc = some (-2) := if_pos ⟨h, rfl⟩
theorem handF_e {N ee pc : Nat} {z : Int} (h : handF N ee pc = some z) : pc < N ∧ ee = 2 ∧ z = -2 := by
  unfold handF at h
  by_cases e : pc < N ∧ ee = 2
  · rw [if_pos e] at h; exact ⟨e.1, e.2, (Option.some.inj h).symm⟩
  · rw [if_neg e] at h; cases h
def s_wshapes : Spec := fun as S post => match as with
  | [.inr (.inr (some 1)), .inl a1, .inl a2, .inl a3, .inl a4, .inl a5, .inl a6] => wP s_shapeC [vT 1, vI a1, vI a2, vI a3, vI a4, vI a5, vI a6] S post
  | _ => False
def spL_shapes : Nat → CD := spF mdL_shapes fun i => match i with
  | 1 => (frS s_shapeC, 2, 22, 12)
  | _ => noR
set_option maxHeartbeats 4000000 in
set_option maxRecDepth 100000 in
theorem hdL_shapes : ∀ ee pc z, handF 13 ee pc = some z → handAt RL cL_shapes 8 hhL_shapes ee pc z := by
  intro ee pc z h
  obtain ⟨h1, rfl, rfl⟩ := handF_e h
  exact ⟨[], [], (0, 13, 14, 16), 7, 2, rfl, (fun w hw => by cases hw), ⟨Nat.zero_le _, h1⟩, by decide, (List.mem_of_getElem? (i := 226) (by decide +kernel)), (List.mem_of_getElem? (i := 196) (by decide +kernel)), Or.inl ⟨by decide +kernel, rfl⟩, by decide, ⟨by decide +kernel, by decide +kernel⟩, by decide +kernel⟩
set_option maxHeartbeats 4000000 in
set_option maxRecDepth 100000 in
theorem satH_shapes : SatH mL_shapes hhL_shapes s_wshapes 2 22 13 := by
  refine satH_of (E := eL_shapes) (sp := spL_shapes) (hand := handF 13) (by decide +kernel) rfl okL_shapes (fun i => match i with
    | 1 => ⟨frS_sat sat_X6_shape, Nat.le_of_ble_eq_true rfl⟩
    | i + 2 => ⟨sat_no _, Nat.le_of_ble_eq_true rfl⟩
    | 0 => ⟨sat_no _, Nat.le_of_ble_eq_true rfl⟩) hdL_shapes ?_
  intro as S post h
  match as, h with
  | [.inr (.inr (some 1)), .inl a1, .inl a2, .inl a3, .inl a4, .inl a5, .inl a6], h =>
    obtain ⟨h1, h⟩ := h
    refine ⟨rfl, 60, ?_⟩
    repeat' (first
        | omega
        | with_reducible apply And.intro
        | intro c9
        | exact h1
        | refine h _ (fun v S1 i1 i2 => ?_) (fun S1 i1 => ?_)
        | exact kr_i ( i2 ) (Nat.le_of_ble_eq_true rfl) (Nat.le_of_ble_eq_true rfl)
        | exact ⟨_, handF_t (by omega), i1, Nat.le_of_ble_eq_true rfl, Nat.le_of_ble_eq_true rfl⟩
        | refine Exists.intro _ (And.intro rfl ?_)
        | ((with_reducible show wp _ _ _ _ _ _ _ _ _ _ _ _ _ _); conv => whnf)
        | ((with_reducible show callK _ _ _ _ _ _ _ _ _); conv => whnf)
        | ((with_reducible show condK _ _ _ _ _); conv => whnf)
        | ((with_reducible show st1 _ _ _ _ _ _ _ _ _ _ _ _); conv => whnf)
        | ((with_reducible show (Prod.fst _ : Spec) _ _ _); conv => whnf)
        | ((with_reducible show shortK _ _); conv => whnf)
        | exact Nat.le_of_ble_eq_true rfl)
def s_wdesigns : Spec := fun as S post => match as with
  | [.inr (.inr (some 1))] => wP s_designC [vT 1] S post
  | _ => False
def spL_designs : Nat → CD := spF mdL_designs fun i => match i with
  | 1 => (frS s_designC, 8, 3178, 12)
  | _ => noR
set_option maxHeartbeats 4000000 in
set_option maxRecDepth 100000 in
theorem hdL_designs : ∀ ee pc z, handF 4 ee pc = some z → handAt RL cL_designs 2 hhL_designs ee pc z := by
  intro ee pc z h
  obtain ⟨h1, rfl, rfl⟩ := handF_e h
  exact ⟨[], [], (0, 4, 5, 16), 1, 1, rfl, (fun w hw => by cases hw), ⟨Nat.zero_le _, h1⟩, by decide, (List.mem_of_getElem? (i := 226) (by decide +kernel)), (List.mem_of_getElem? (i := 196) (by decide +kernel)), Or.inr ⟨1, by decide +kernel, rfl, rfl⟩, by decide, ⟨by decide +kernel, by decide +kernel⟩, by decide +kernel⟩
set_option maxHeartbeats 4000000 in
set_option maxRecDepth 100000 in
theorem satH_designs : SatH mL_designs hhL_designs s_wdesigns 8 3178 13 := by
  refine satH_of (E := eL_designs) (sp := spL_designs) (hand := handF 4) (by decide +kernel) rfl okL_designs (fun i => match i with
    | 1 => ⟨frS_sat sat_X6_design, Nat.le_of_ble_eq_true rfl⟩
    | i + 2 => ⟨sat_no _, Nat.le_of_ble_eq_true rfl⟩
    | 0 => ⟨sat_no _, Nat.le_of_ble_eq_true rfl⟩) hdL_designs ?_
  intro as S post h
  match as, h with
  | [.inr (.inr (some 1))], h =>
    obtain ⟨h1, h⟩ := h
    refine ⟨rfl, 60, ?_⟩
    repeat' (first
        | omega
        | with_reducible apply And.intro
        | intro c9
        | exact h1
        | refine h _ (fun v S1 i1 i2 => ?_) (fun S1 i1 => ?_)
        | exact kr_i ( i2 ) (Nat.le_of_ble_eq_true rfl) (Nat.le_of_ble_eq_true rfl)
        | exact ⟨_, handF_t (by omega), i1, Nat.le_of_ble_eq_true rfl, Nat.le_of_ble_eq_true rfl⟩
        | refine Exists.intro _ (And.intro rfl ?_)
        | ((with_reducible show wp _ _ _ _ _ _ _ _ _ _ _ _ _ _); conv => whnf)
        | ((with_reducible show callK _ _ _ _ _ _ _ _ _); conv => whnf)
        | ((with_reducible show condK _ _ _ _ _); conv => whnf)
        | ((with_reducible show st1 _ _ _ _ _ _ _ _ _ _ _ _); conv => whnf)
        | ((with_reducible show (Prod.fst _ : Spec) _ _ _); conv => whnf)
        | ((with_reducible show shortK _ _); conv => whnf)
        | exact Nat.le_of_ble_eq_true rfl)
def s_wmachines : Spec := fun as S post => match as with
  | [.inr (.inr (some 1)), .inl a1, .inl a2, .inl a3] => wP s_machineC [vT 1, vI a1, vI a2, vI a3] S post
  | _ => False
def spL_machines : Nat → CD := spF mdL_machines fun i => match i with
  | 1 => (frS s_machineC, 2, 24, 12)
  | _ => noR
set_option maxHeartbeats 4000000 in
set_option maxRecDepth 100000 in
theorem hdL_machines : ∀ ee pc z, handF 7 ee pc = some z → handAt RL cL_machines 5 hhL_machines ee pc z := by
  intro ee pc z h
  obtain ⟨h1, rfl, rfl⟩ := handF_e h
  exact ⟨[], [], (0, 7, 8, 16), 4, 2, rfl, (fun w hw => by cases hw), ⟨Nat.zero_le _, h1⟩, by decide, (List.mem_of_getElem? (i := 226) (by decide +kernel)), (List.mem_of_getElem? (i := 196) (by decide +kernel)), Or.inl ⟨by decide +kernel, rfl⟩, by decide, ⟨by decide +kernel, by decide +kernel⟩, by decide +kernel⟩
set_option maxHeartbeats 4000000 in
set_option maxRecDepth 100000 in
theorem satH_machines : SatH mL_machines hhL_machines s_wmachines 2 24 13 := by
  refine satH_of (E := eL_machines) (sp := spL_machines) (hand := handF 7) (by decide +kernel) rfl okL_machines (fun i => match i with
    | 1 => ⟨frS_sat sat_X6_machine, Nat.le_of_ble_eq_true rfl⟩
    | i + 2 => ⟨sat_no _, Nat.le_of_ble_eq_true rfl⟩
    | 0 => ⟨sat_no _, Nat.le_of_ble_eq_true rfl⟩) hdL_machines ?_
  intro as S post h
  match as, h with
  | [.inr (.inr (some 1)), .inl a1, .inl a2, .inl a3], h =>
    obtain ⟨h1, h⟩ := h
    refine ⟨rfl, 60, ?_⟩
    repeat' (first
        | omega
        | with_reducible apply And.intro
        | intro c9
        | exact h1
        | refine h _ (fun v S1 i1 i2 => ?_) (fun S1 i1 => ?_)
        | exact kr_i ( i2 ) (Nat.le_of_ble_eq_true rfl) (Nat.le_of_ble_eq_true rfl)
        | exact ⟨_, handF_t (by omega), i1, Nat.le_of_ble_eq_true rfl, Nat.le_of_ble_eq_true rfl⟩
        | refine Exists.intro _ (And.intro rfl ?_)
        | ((with_reducible show wp _ _ _ _ _ _ _ _ _ _ _ _ _ _); conv => whnf)
        | ((with_reducible show callK _ _ _ _ _ _ _ _ _); conv => whnf)
        | ((with_reducible show condK _ _ _ _ _); conv => whnf)
        | ((with_reducible show st1 _ _ _ _ _ _ _ _ _ _ _ _); conv => whnf)
        | ((with_reducible show (Prod.fst _ : Spec) _ _ _); conv => whnf)
        | ((with_reducible show shortK _ _); conv => whnf)
        | exact Nat.le_of_ble_eq_true rfl)
def s_worders : Spec := fun as S post => match as with
  | [.inr (.inr (some 1)), .inl a1, .inl a2] => wP s_orderC [vT 1, vI a1, vI a2] S post
  | _ => False
def spL_orders : Nat → CD := spF mdL_orders fun i => match i with
  | 1 => (frS s_orderC, 3, 30, 12)
  | _ => noR
set_option maxHeartbeats 4000000 in
set_option maxRecDepth 100000 in
theorem hdL_orders : ∀ ee pc z, handF 6 ee pc = some z → handAt RL cL_orders 4 hhL_orders ee pc z := by
  intro ee pc z h
  obtain ⟨h1, rfl, rfl⟩ := handF_e h
  exact ⟨[], [], (0, 6, 7, 16), 3, 1, rfl, (fun w hw => by cases hw), ⟨Nat.zero_le _, h1⟩, by decide, (List.mem_of_getElem? (i := 226) (by decide +kernel)), (List.mem_of_getElem? (i := 196) (by decide +kernel)), Or.inr ⟨3, by decide +kernel, rfl, rfl⟩, by decide, ⟨by decide +kernel, by decide +kernel⟩, by decide +kernel⟩
set_option maxHeartbeats 4000000 in
set_option maxRecDepth 100000 in
theorem satH_orders : SatH mL_orders hhL_orders s_worders 3 30 13 := by
  refine satH_of (E := eL_orders) (sp := spL_orders) (hand := handF 6) (by decide +kernel) rfl okL_orders (fun i => match i with
    | 1 => ⟨frS_sat sat_X6_order, Nat.le_of_ble_eq_true rfl⟩
    | i + 2 => ⟨sat_no _, Nat.le_of_ble_eq_true rfl⟩
    | 0 => ⟨sat_no _, Nat.le_of_ble_eq_true rfl⟩) hdL_orders ?_
  intro as S post h
  match as, h with
  | [.inr (.inr (some 1)), .inl a1, .inl a2], h =>
    obtain ⟨h1, h⟩ := h
    refine ⟨rfl, 60, ?_⟩
    repeat' (first
        | omega
        | with_reducible apply And.intro
        | intro c9
        | exact h1
        | refine h _ (fun v S1 i1 i2 => ?_) (fun S1 i1 => ?_)
        | exact kr_i ( i2 ) (Nat.le_of_ble_eq_true rfl) (Nat.le_of_ble_eq_true rfl)
        | exact ⟨_, handF_t (by omega), i1, Nat.le_of_ble_eq_true rfl, Nat.le_of_ble_eq_true rfl⟩
        | refine Exists.intro _ (And.intro rfl ?_)
        | ((with_reducible show wp _ _ _ _ _ _ _ _ _ _ _ _ _ _); conv => whnf)
        | ((with_reducible show callK _ _ _ _ _ _ _ _ _); conv => whnf)
        | ((with_reducible show condK _ _ _ _ _); conv => whnf)
        | ((with_reducible show st1 _ _ _ _ _ _ _ _ _ _ _ _); conv => whnf)
        | ((with_reducible show (Prod.fst _ : Spec) _ _ _); conv => whnf)
        | ((with_reducible show shortK _ _); conv => whnf)
        | exact Nat.le_of_ble_eq_true rfl)
def s_wstarts : Spec := fun as S post => match as with
  | [.inr (.inr (some 1)), .inl a1, .inl a2] => wP0 s_startC [vT 1, vI a1, vI a2] S post
  | _ => False
def spL_starts : Nat → CD := spF mdL_starts fun i => match i with
  | 1 => (frS s_startC, 3, 18, 12)
  | _ => noR
set_option maxHeartbeats 4000000 in
set_option maxRecDepth 100000 in
theorem hdL_starts : ∀ ee pc z, handF 7 ee pc = some z → handAt RL cL_starts 4 hhL_starts ee pc z := by
  intro ee pc z h
  obtain ⟨h1, rfl, rfl⟩ := handF_e h
  exact ⟨[], [], (0, 7, 8, 16), 3, 1, rfl, (fun w hw => by cases hw), ⟨Nat.zero_le _, h1⟩, by decide, (List.mem_of_getElem? (i := 226) (by decide +kernel)), (List.mem_of_getElem? (i := 196) (by decide +kernel)), Or.inr ⟨3, by decide +kernel, rfl, rfl⟩, by decide, ⟨by decide +kernel, by decide +kernel⟩, by decide +kernel⟩
set_option maxHeartbeats 4000000 in
set_option maxRecDepth 100000 in
theorem satH_starts : SatH mL_starts hhL_starts s_wstarts 3 18 13 := by
  refine satH_of (E := eL_starts) (sp := spL_starts) (hand := handF 7) (by decide +kernel) rfl okL_starts (fun i => match i with
    | 1 => ⟨frS_sat sat_X6_start, Nat.le_of_ble_eq_true rfl⟩
    | i + 2 => ⟨sat_no _, Nat.le_of_ble_eq_true rfl⟩
    | 0 => ⟨sat_no _, Nat.le_of_ble_eq_true rfl⟩) hdL_starts ?_
  intro as S post h
  match as, h with
  | [.inr (.inr (some 1)), .inl a1, .inl a2], h =>
    obtain ⟨h1, h⟩ := h
    refine ⟨rfl, 60, ?_⟩
    repeat' (first
        | omega
        | with_reducible apply And.intro
        | intro c9
        | exact h1
        | refine h _ (fun S1 i2 => ?_) (fun S1 i1 => ?_)
        | exact kr_i ( i2 ) (Nat.le_of_ble_eq_true rfl) (Nat.le_of_ble_eq_true rfl)
        | exact ⟨_, handF_t (by omega), i1, Nat.le_of_ble_eq_true rfl, Nat.le_of_ble_eq_true rfl⟩
        | refine Exists.intro _ (And.intro rfl ?_)
        | ((with_reducible show wp _ _ _ _ _ _ _ _ _ _ _ _ _ _); conv => whnf)
        | ((with_reducible show callK _ _ _ _ _ _ _ _ _); conv => whnf)
        | ((with_reducible show condK _ _ _ _ _); conv => whnf)
        | ((with_reducible show st1 _ _ _ _ _ _ _ _ _ _ _ _); conv => whnf)
        | ((with_reducible show (Prod.fst _ : Spec) _ _ _); conv => whnf)
        | ((with_reducible show shortK _ _); conv => whnf)
        | exact Nat.le_of_ble_eq_true rfl)
def s_wacts : Spec := fun as S post => match as with
  | [.inr (.inr (some 1)), .inl a1, .inl a2, .inl a3, .inl a4] => (a4 = 0 → wP s_runC [vT 1, vI a1, vI a2] S post) ∧ (a4 = 1 → wP s_snapC [vT 1, vI a1] S post) ∧ (a4 = 2 → wP s_matchC [vT 1, vI a1, vI a2, vI a3] S post) ∧ (a4 = 3 → wP s_cancelC [vT 1, vI a1] S post) ∧ 0 ≤ a4 ∧ a4 ≤ 3
  | _ => False
def spL_acts : Nat → CD := spF mdL_acts fun i => match i with
  | 1 => (frS s_runC, 2, 12, 12)
  | 2 => (frS s_snapC, 2, 12, 12)
  | 3 => (frS s_matchC, 2, 12, 12)
  | 4 => (frS s_cancelC, 2, 12, 12)
  | _ => noR
set_option maxHeartbeats 4000000 in
set_option maxRecDepth 100000 in
theorem hdL_acts : ∀ ee pc z, handF 49 ee pc = some z → handAt RL cL_acts 6 hhL_acts ee pc z := by
  intro ee pc z h
  obtain ⟨h1, rfl, rfl⟩ := handF_e h
  exact ⟨[], [], (0, 49, 50, 16), 5, 2, rfl, (fun w hw => by cases hw), ⟨Nat.zero_le _, h1⟩, by decide, (List.mem_of_getElem? (i := 226) (by decide +kernel)), (List.mem_of_getElem? (i := 196) (by decide +kernel)), Or.inl ⟨by decide +kernel, rfl⟩, by decide, ⟨by decide +kernel, by decide +kernel⟩, by decide +kernel⟩
set_option maxHeartbeats 4000000 in
set_option maxRecDepth 100000 in
theorem satH_acts : SatH mL_acts hhL_acts s_wacts 2 12 13 := by
  refine satH_of (E := eL_acts) (sp := spL_acts) (hand := handF 49) (by decide +kernel) rfl okL_acts (fun i => match i with
    | 1 => ⟨frS_sat sat_X6_run, Nat.le_of_ble_eq_true rfl⟩
    | 2 => ⟨frS_sat sat_X6_snap, Nat.le_of_ble_eq_true rfl⟩
    | 3 => ⟨frS_sat sat_X6_match, Nat.le_of_ble_eq_true rfl⟩
    | 4 => ⟨frS_sat sat_X6_cancel, Nat.le_of_ble_eq_true rfl⟩
    | i + 5 => ⟨sat_no _, Nat.le_of_ble_eq_true rfl⟩
    | 0 => ⟨sat_no _, Nat.le_of_ble_eq_true rfl⟩) hdL_acts ?_
  intro as S post h
  match as, h with
  | [.inr (.inr (some 1)), .inl a1, .inl a2, .inl a3, .inl a4], h =>
    obtain ⟨g0, g1, g2, g3, g4⟩ := h
    rcases (show a4 = 0 ∨ a4 = 1 ∨ a4 = 2 ∨ a4 = 3 by omega) with e | e | e | e
    · obtain ⟨h1, h⟩ := g0 e
      refine ⟨rfl, 60, ?_⟩
      repeat' (first
          | omega
          | with_reducible apply And.intro
          | intro c9
          | exact h1
          | refine h _ (fun v S1 i1 i2 => ?_) (fun S1 i1 => ?_)
          | exact kr_i ( i2 ) (Nat.le_of_ble_eq_true rfl) (Nat.le_of_ble_eq_true rfl)
          | exact ⟨_, handF_t (by omega), i1, Nat.le_of_ble_eq_true rfl, Nat.le_of_ble_eq_true rfl⟩
          | refine Exists.intro _ (And.intro rfl ?_)
          | ((with_reducible show wp _ _ _ _ _ _ _ _ _ _ _ _ _ _); conv => whnf)
          | ((with_reducible show callK _ _ _ _ _ _ _ _ _); conv => whnf)
          | ((with_reducible show condK _ _ _ _ _); conv => whnf)
          | ((with_reducible show st1 _ _ _ _ _ _ _ _ _ _ _ _); conv => whnf)
          | ((with_reducible show (Prod.fst _ : Spec) _ _ _); conv => whnf)
          | ((with_reducible show shortK _ _); conv => whnf)
          | exact Nat.le_of_ble_eq_true rfl)
    · obtain ⟨h1, h⟩ := g1 e
      refine ⟨rfl, 60, ?_⟩
      repeat' (first
          | omega
          | with_reducible apply And.intro
          | intro c9
          | exact h1
          | refine h _ (fun v S1 i1 i2 => ?_) (fun S1 i1 => ?_)
          | exact kr_i ( i2 ) (Nat.le_of_ble_eq_true rfl) (Nat.le_of_ble_eq_true rfl)
          | exact ⟨_, handF_t (by omega), i1, Nat.le_of_ble_eq_true rfl, Nat.le_of_ble_eq_true rfl⟩
          | refine Exists.intro _ (And.intro rfl ?_)
          | ((with_reducible show wp _ _ _ _ _ _ _ _ _ _ _ _ _ _); conv => whnf)
          | ((with_reducible show callK _ _ _ _ _ _ _ _ _); conv => whnf)
          | ((with_reducible show condK _ _ _ _ _); conv => whnf)
          | ((with_reducible show st1 _ _ _ _ _ _ _ _ _ _ _ _); conv => whnf)
          | ((with_reducible show (Prod.fst _ : Spec) _ _ _); conv => whnf)
          | ((with_reducible show shortK _ _); conv => whnf)
          | exact Nat.le_of_ble_eq_true rfl)
    · obtain ⟨h1, h⟩ := g2 e
      refine ⟨rfl, 60, ?_⟩
      repeat' (first
          | omega
          | with_reducible apply And.intro
          | intro c9
          | exact h1
          | refine h _ (fun v S1 i1 i2 => ?_) (fun S1 i1 => ?_)
          | exact kr_i ( i2 ) (Nat.le_of_ble_eq_true rfl) (Nat.le_of_ble_eq_true rfl)
          | exact ⟨_, handF_t (by omega), i1, Nat.le_of_ble_eq_true rfl, Nat.le_of_ble_eq_true rfl⟩
          | refine Exists.intro _ (And.intro rfl ?_)
          | ((with_reducible show wp _ _ _ _ _ _ _ _ _ _ _ _ _ _); conv => whnf)
          | ((with_reducible show callK _ _ _ _ _ _ _ _ _); conv => whnf)
          | ((with_reducible show condK _ _ _ _ _); conv => whnf)
          | ((with_reducible show st1 _ _ _ _ _ _ _ _ _ _ _ _); conv => whnf)
          | ((with_reducible show (Prod.fst _ : Spec) _ _ _); conv => whnf)
          | ((with_reducible show shortK _ _); conv => whnf)
          | exact Nat.le_of_ble_eq_true rfl)
    · obtain ⟨h1, h⟩ := g3 e
      refine ⟨rfl, 60, ?_⟩
      repeat' (first
          | omega
          | with_reducible apply And.intro
          | intro c9
          | exact h1
          | refine h _ (fun v S1 i1 i2 => ?_) (fun S1 i1 => ?_)
          | exact kr_i ( i2 ) (Nat.le_of_ble_eq_true rfl) (Nat.le_of_ble_eq_true rfl)
          | exact ⟨_, handF_t (by omega), i1, Nat.le_of_ble_eq_true rfl, Nat.le_of_ble_eq_true rfl⟩
          | refine Exists.intro _ (And.intro rfl ?_)
          | ((with_reducible show wp _ _ _ _ _ _ _ _ _ _ _ _ _ _); conv => whnf)
          | ((with_reducible show callK _ _ _ _ _ _ _ _ _); conv => whnf)
          | ((with_reducible show condK _ _ _ _ _); conv => whnf)
          | ((with_reducible show st1 _ _ _ _ _ _ _ _ _ _ _ _); conv => whnf)
          | ((with_reducible show (Prod.fst _ : Spec) _ _ _); conv => whnf)
          | ((with_reducible show shortK _ _); conv => whnf)
          | exact Nat.le_of_ble_eq_true rfl)
theorem pw_gen {xs : Nat → Int} {Ln : Nat} {n : Int} {R S : Sto} {opC : Spec} {op : Sto → Int → Int → Sto → Prop} {em : Nat → Int} {ex : List Nat} {args : List AV} (AG : ∀ {B : Nat → Nat} {N : Nat} {C : Sto}, CI B N C R → MI n R → SI0 R → ∀ {post : Res → Sto → Prop}, (∀ r S1, okr ex r = true → tyF C S1 → agC em (op R) r S1 → post r S1) → opC args C post) (hgood : goodO op) (hargs : ∀ C : Sto, C.1 1 = some (6, 9) → CL C args) (h : PI xs Ln n R S) (hn : n + 1 ≤ 15000) (hx : ∃ k v R', op R k v R') (hx2 : ∀ e : Nat, ex.contains e = true → ∀ k v R', op R k v R' → k = em e → e = 2 ∧ k ≠ 0) {post : Res → Sto → Prop} (h2 : ∀ S1 k v R', op R k v R' → k ≠ 0 → PI xs Ln (n + 1) R' S1 → S1.2.1 3 = S.2.1 3 → post (.inl (some (vI (-2)))) S1) (h0 : ∀ S1 v R', op R 0 v R' → PI xs Ln (n + 1) R' S1 → S1.2.1 3 = S.2.1 3 → InR v ∧ post (.inl (some (vI v))) S1) : wP opC args S post := by
  refine ⟨⟨9, h.t1⟩, fun post' p1 p2 => ?_⟩
  refine pw_cls (op := op) (em := em) (ok := okr ex) AG hgood hargs h hn hx fun r S1 k v R' hok ho ha hP h3 => ?_
  match r, hok, ha with
  | .inl (some (.inl x)), _, ha =>
    obtain ⟨rfl, rfl⟩ := ha
    obtain ⟨q1, q2⟩ := h0 S1 v R' ho hP h3
    have e : nrm (.inl (some (.inl v))) = .inl (some (vI (wr v))) := rfl
    rw [e, wr_id q1]
    exact p1 v S1 q1 q2
  | .inr e, hok, ha =>
    obtain ⟨rfl, hk⟩ := hx2 e hok k v R' ho ha
    exact p2 S1 (h2 S1 k v R' ho hk hP h3)
theorem pw_gen0 {xs : Nat → Int} {Ln : Nat} {n : Int} {R S : Sto} {opC : Spec} {op : Sto → Int → Int → Sto → Prop} {em : Nat → Int} {ex : List Nat} {args : List AV} (AG : ∀ {B : Nat → Nat} {N : Nat} {C : Sto}, CI B N C R → MI n R → SI0 R → ∀ {post : Res → Sto → Prop}, (∀ r S1, okv ex r = true → tyF C S1 → agC em (op R) r S1 → post r S1) → opC args C post) (hgood : goodO op) (hargs : ∀ C : Sto, C.1 1 = some (6, 9) → CL C args) (h : PI xs Ln n R S) (hn : n + 1 ≤ 15000) (hx : ∃ k v R', op R k v R') (hx2 : ∀ e : Nat, ex.contains e = true → ∀ k v R', op R k v R' → k = em e → e = 2 ∧ k ≠ 0) {post : Res → Sto → Prop} (h2 : ∀ S1 k v R', op R k v R' → k ≠ 0 → PI xs Ln (n + 1) R' S1 → S1.2.1 3 = S.2.1 3 → post (.inl (some (vI (-2)))) S1) (h0 : ∀ S1 v R', op R 0 v R' → PI xs Ln (n + 1) R' S1 → S1.2.1 3 = S.2.1 3 → post (.inl (some (vI 0))) S1) : wP0 opC args S post := by
  refine ⟨⟨9, h.t1⟩, fun post' p1 p2 => ?_⟩
  refine pw_cls (op := op) (em := em) (ok := okv ex) AG hgood hargs h hn hx fun r S1 k v R' hok ho ha hP h3 => ?_
  match r, hok, ha with
  | .inl none, _, ha =>
    have hk : k = 0 := ha
    subst hk
    exact p1 S1 (h0 S1 v R' ho hP h3)
  | .inr e, hok, ha =>
    obtain ⟨rfl, hk⟩ := hx2 e hok k v R' ho ha
    exact p2 S1 (h2 S1 k v R' ho hk hP h3)
theorem pw_shapes {xs : Nat → Int} {Ln : Nat} {n : Int} {R S : Sto} {i c x y w g : Int} (h : PI xs Ln n R S) (hn : n + 1 ≤ 15000) (hr : (0 ≤ i ∧ i ≤ 1 ∧ 0 ≤ c ∧ c < 6) ∧ 0 ≤ x ∧ x ≤ 15 ∧ 0 ≤ y ∧ y ≤ 15 ∧ 1 ≤ w ∧ w ≤ 16 - x ∧ 1 ≤ g ∧ g ≤ 16 - y) {post : Res → Sto → Prop} (h2 : shN R 6 = 7 → ∀ S1, PI xs Ln (n + 1) (thr R 3) S1 → S1.2.1 3 = S.2.1 3 → post (.inl (some (vI (-2)))) S1) (h0 : ∀ S1 R', PI xs Ln (n + 1) R' S1 → S1.2.1 3 = S.2.1 3 → shN R 6 ≠ 7 → cntR R' (shN R 6 + 1) (nD R) (nM R) (nO R) → (∀ b, QI R b → QI R' b) → post (.inl (some (vI (shN R 6 + 1)))) S1) : wP s_shapeC [vT 1, vI i, vI c, vI x, vI y, vI w, vI g] S post := by
  have hI := h.mi
  have hN := hI.2.1
  refine pw_gen (op := fun R => shapeR R i c x y w g) (em := em1) (ex := [0, 1, 2]) (fun hC hI hS0 _ hq => ag_shape hC hI ⟨by omega, by omega⟩ ⟨by omega, by omega⟩ ⟨by omega, by omega⟩ ⟨by omega, by omega⟩ ⟨by omega, by omega⟩ ⟨by omega, by omega⟩ hq) good_shape (fun C h => CL.cons (fun t e => by cases e; rw [h]; exact fun z => by cases z) (CL.cons VOK.i (CL.cons VOK.i (CL.cons VOK.i (CL.cons VOK.i (CL.cons VOK.i (CL.cons VOK.i (fun a ha => by cases ha)))))))) h hn (ex_shape R i c x y w g) (fun e hok k v R' ho hk => ?_) (fun S1 k v R' ho k0 hP h3 => ?_) (fun S1 v R' ho hP h3 => ?_)
  · have hk9 : k = 0 ∨ k = 3 := by
      rcases op_shape hr ho with z | z
      · exact Or.inr z.1
      · exact Or.inl z.1
    simp only [List.contains_cons, List.contains_nil, Bool.or_false, Bool.or_eq_true, beq_iff_eq] at hok
    unfold em1 at hk <;> omega
  · rcases op_shape hr ho with ⟨-, f9, e9⟩ | z
    · subst e9
      exact h2 f9 S1 hP h3
    · exact absurd z.1 k0
  · rcases op_shape hr ho with z | ⟨-, f1, hv, f2, f3⟩
    · have := z.1
      omega
    · have hs := hI.2.2.1
      have hs0 := hs.1
      have hs7 := hs.2.1
      subst hv
      exact ⟨⟨by omega, by omega⟩, h0 S1 R' hP h3 f1 f2 f3⟩
theorem pw_designs {xs : Nat → Int} {Ln : Nat} {n : Int} {R S : Sto} (h : PI xs Ln n R S) (hn : n + 1 ≤ 15000) {post : Res → Sto → Prop} (h2 : (shN R 6 = 0 ∨ nD R = 6) → ∀ S1, PI xs Ln (n + 1) (thr R 1) S1 → S1.2.1 3 = S.2.1 3 → post (.inl (some (vI (-2)))) S1) (h0 : ∀ S1 R', PI xs Ln (n + 1) R' S1 → S1.2.1 3 = S.2.1 3 → ¬ (shN R 6 = 0 ∨ nD R = 6) → cntR R' (0) (nD R + 1) (nM R) (nO R) → shN R' (nD R) = shN R 6 → (∀ b, QI R b → QI R' b) → post (.inl (some (vI (nD R)))) S1) : wP s_designC [vT 1] S post := by
  have hI := h.mi
  have hN := hI.2.1
  refine pw_gen (op := designR) (em := em3) (ex := [2]) (fun hC hI hS0 _ hq => ag_design hC hI hq) good_design (fun C h => CL.cons (fun t e => by cases e; rw [h]; exact fun z => by cases z) (fun a ha => by cases ha)) h hn (ex_design hI) (fun e hok k v R' ho hk => ?_) (fun S1 k v R' ho k0 hP h3 => ?_) (fun S1 v R' ho hP h3 => ?_)
  · have hk9 : k = 0 ∨ k = 1 := by
      rcases op_design hI ho with z | z
      · exact Or.inr z.1
      · exact Or.inl z.1
    simp only [List.contains_cons, List.contains_nil, Bool.or_false, Bool.or_eq_true, beq_iff_eq] at hok
    unfold em3 at hk <;> omega
  · rcases op_design hI ho with ⟨-, f9, e9⟩ | z
    · subst e9
      exact h2 f9 S1 hP h3
    · exact absurd z.1 k0
  · rcases op_design hI ho with z | ⟨-, f1, hv, f2, f3, f4⟩
    · have := z.1
      omega
    · subst hv
      exact ⟨⟨by omega, by omega⟩, h0 S1 R' hP h3 f1 f2 f3 f4⟩
theorem pw_machines {xs : Nat → Int} {Ln : Nat} {n : Int} {R S : Sto} {a w g : Int} (h : PI xs Ln n R S) (hn : n + 1 ≤ 15000) (hr : 1 ≤ a ∧ a ≤ 6 ∧ 1 ≤ w ∧ w ≤ 16 ∧ 1 ≤ g ∧ g ≤ 16) {post : Res → Sto → Prop} (h2 : nM R = 4 → ∀ S1, PI xs Ln (n + 1) (thr R 2) S1 → S1.2.1 3 = S.2.1 3 → post (.inl (some (vI (-2)))) S1) (h0 : ∀ S1 R', PI xs Ln (n + 1) R' S1 → S1.2.1 3 = S.2.1 3 → nM R ≠ 4 → cntR R' (shN R 6) (nD R) (nM R + 1) (nO R) → mg R' 17 (nM R) = -1 → hset R' (nM R) (mg R' 14 (nM R)).toNat = 0 → (∀ b, QI R b → QI R' b) → post (.inl (some (vI (nM R)))) S1) : wP s_machineC [vT 1, vI a, vI w, vI g] S post := by
  have hI := h.mi
  have hN := hI.2.1
  refine pw_gen (op := fun R => machineR R a w g) (em := em0) (ex := [1, 2]) (fun hC hI hS0 _ hq => ag_machine hC hI ⟨by omega, by omega⟩ ⟨by omega, by omega⟩ ⟨by omega, by omega⟩ hq) good_machine (fun C h => CL.cons (fun t e => by cases e; rw [h]; exact fun z => by cases z) (CL.cons VOK.i (CL.cons VOK.i (CL.cons VOK.i (fun a ha => by cases ha))))) h hn (ex_machine R a w g) (fun e hok k v R' ho hk => ?_) (fun S1 k v R' ho k0 hP h3 => ?_) (fun S1 v R' ho hP h3 => ?_)
  · have hk9 : k = 0 ∨ k = 2 := by
      rcases op_machine hI hr ho with z | z
      · exact Or.inr z.1
      · exact Or.inl z.1
    simp only [List.contains_cons, List.contains_nil, Bool.or_false, Bool.or_eq_true, beq_iff_eq] at hok
    unfold em0 at hk <;> omega
  · rcases op_machine hI hr ho with ⟨-, f9, e9⟩ | z
    · subst e9
      exact h2 f9 S1 hP h3
    · exact absurd z.1 k0
  · rcases op_machine hI hr ho with z | ⟨-, f1, hv, f2, f3, f4, f5⟩
    · have := z.1
      omega
    · subst hv
      exact ⟨⟨by omega, by omega⟩, h0 S1 R' hP h3 f1 f2 f3 f4 f5⟩
theorem pw_orders {xs : Nat → Int} {Ln : Nat} {n : Int} {R S : Sto} {d p : Int} (h : PI xs Ln n R S) (hn : n + 1 ≤ 15000) (hr : (0 ≤ d ∧ d < nD R) ∧ 1 ≤ p ∧ p ≤ 50) {post : Res → Sto → Prop} (h2 : nO R = 20 → ∀ S1, PI xs Ln (n + 1) (thr R 3) S1 → S1.2.1 3 = S.2.1 3 → post (.inl (some (vI (-2)))) S1) (h0 : ∀ S1 R', PI xs Ln (n + 1) R' S1 → S1.2.1 3 = S.2.1 3 → nO R ≠ 20 → cntR R' (shN R 6) (nD R) (nM R) (nO R + 1) → mg R' 26 (nO R) = 0 → mg R' 27 (nO R) = -1 → (∀ c, 0 ≤ c → c < 6 → sdK R' (nO R) c = -1) → (∀ b, QI R b → QI R' b) → post (.inl (some (vI (nO R)))) S1) : wP s_orderC [vT 1, vI d, vI p] S post := by
  have hI := h.mi
  have hN := hI.2.1
  refine pw_gen (op := fun R => orderR R d p) (em := em1) (ex := [0, 1, 2]) (fun hC hI hS0 _ hq => ag_order hC hI ⟨by omega, by omega⟩ ⟨by omega, by omega⟩ hq) good_order (fun C h => CL.cons (fun t e => by cases e; rw [h]; exact fun z => by cases z) (CL.cons VOK.i (CL.cons VOK.i (fun a ha => by cases ha)))) h hn (ex_order R d p) (fun e hok k v R' ho hk => ?_) (fun S1 k v R' ho k0 hP h3 => ?_) (fun S1 v R' ho hP h3 => ?_)
  · have hk9 : k = 0 ∨ k = 3 := by
      rcases op_order hI hr ho with z | z
      · exact Or.inr z.1
      · exact Or.inl z.1
    simp only [List.contains_cons, List.contains_nil, Bool.or_false, Bool.or_eq_true, beq_iff_eq] at hok
    unfold em1 at hk <;> omega
  · rcases op_order hI hr ho with ⟨-, f9, e9⟩ | z
    · subst e9
      exact h2 f9 S1 hP h3
    · exact absurd z.1 k0
  · rcases op_order hI hr ho with z | ⟨-, f1, hv, f2, f3, f4, f5, f6⟩
    · have := z.1
      omega
    · subst hv
      exact ⟨⟨by omega, by omega⟩, h0 S1 R' hP h3 f1 f2 f3 f4 f5 f6⟩
theorem pw_starts {xs : Nat → Int} {Ln : Nat} {n : Int} {R S : Sto} {o m : Int} (h : PI xs Ln n R S) (hn : n + 1 ≤ 15000) (hr : 0 ≤ o ∧ o < nO R ∧ 0 ≤ m ∧ m < nM R) {post : Res → Sto → Prop} (h2 : ∀ S1, PI xs Ln (n + 1) (thr R 2) S1 → S1.2.1 3 = S.2.1 3 → post (.inl (some (vI (-2)))) S1) (h0 : ∀ S1 R', PI xs Ln (n + 1) R' S1 → S1.2.1 3 = S.2.1 3 → mg R 26 o = 0 → mg R 17 m = -1 → cntR R' (shN R 6) (nD R) (nM R) (nO R) → mg R' 26 o = 1 → mg R' 27 o = m → mg R' 17 m = o → (∀ c, 0 ≤ c → c < 6 → shdP R' o c) → (∀ b, QI R b → QI R' b) → post (.inl (some (vI (0)))) S1) : wP0 s_startC [vT 1, vI o, vI m] S post := by
  have hI := h.mi
  have hN := hI.2.1
  refine pw_gen0 (op := fun R k _ R' => startR R o m k R') (em := em2) (ex := [0, 2]) (fun hC hI hS0 _ hq => ag_start hC hI hS0 ⟨by omega, by omega⟩ ⟨by omega, by omega⟩ hq) good_start (fun C h => CL.cons (fun t e => by cases e; rw [h]; exact fun z => by cases z) (CL.cons VOK.i (CL.cons VOK.i (fun a ha => by cases ha)))) h hn (by obtain ⟨k, R', q⟩ := ex_start R o m; exact ⟨k, 0, R', q⟩) (fun e hok k v R' ho hk => ?_) (fun S1 k v R' ho k0 hP h3 => ?_) (fun S1 v R' ho hP h3 => ?_)
  · have hk9 : k = 0 ∨ k = 2 := by
      rcases op_start hI hr ho with z | z
      · exact Or.inr z.1
      · exact Or.inl z.1
    simp only [List.contains_cons, List.contains_nil, Bool.or_false, Bool.or_eq_true, beq_iff_eq] at hok
    unfold em2 at hk; split at hk <;> omega
  · rcases op_start hI hr ho with ⟨-, e9⟩ | z
    · subst e9
      exact h2 S1 hP h3
    · exact absurd z.1 k0
  · rcases op_start hI hr ho with z | ⟨-, f1, f2, f3, f4, f5, f6, f7, f8⟩
    · have := z.1
      omega
    · exact h0 S1 R' hP h3 f1 f2 f3 f4 f5 f6 f7 f8
theorem pw_snap {xs : Nat → Int} {Ln : Nat} {n : Int} {R S : Sto} {m : Int} (h : PI xs Ln n R S) (hn : n + 1 ≤ 15000) (hr : 0 ≤ m ∧ m < nM R) {post : Res → Sto → Prop} (h2 : (mg R 17 m = -1 ∨ mg R 29 (mg R 17 m) = 0) → ∀ S1, PI xs Ln (n + 1) (thr R 2) S1 → S1.2.1 3 = S.2.1 3 → post (.inl (some (vI (-2)))) S1) (h0 : ∀ v S1 R', PI xs Ln (n + 1) R' S1 → S1.2.1 3 = S.2.1 3 → ¬ (mg R 17 m = -1 ∨ mg R 29 (mg R 17 m) = 0) → (1 ≤ v ∧ v ≤ 5) → cntR R' (shN R 6) (nD R) (nM R) (nO R) → mg R' 29 (mg R 17 m) = mg R 29 (mg R 17 m) - v → mg R' 28 (mg R 17 m) = mg R 28 (mg R 17 m) → (∀ b, QI R b → QI R' b) → post (.inl (some (vI (v)))) S1) : wP s_snapC [vT 1, vI m] S post := by
  have hI := h.mi
  have hN := hI.2.1
  refine pw_gen (op := fun R => snapR R m) (em := em2) (ex := [0, 2]) (fun hC hI hS0 _ hq => ag_snap hC hI ⟨by omega, by omega⟩ hq) good_snap (fun C h => CL.cons (fun t e => by cases e; rw [h]; exact fun z => by cases z) (CL.cons VOK.i (fun a ha => by cases ha))) h hn (ex_snap hI m) (fun e hok k v R' ho hk => ?_) (fun S1 k v R' ho k0 hP h3 => ?_) (fun S1 v R' ho hP h3 => ?_)
  · have hk9 : k = 0 ∨ k = 2 := by
      rcases op_snap hI hr ho with z | z
      · exact Or.inr z.1
      · exact Or.inl z.1
    simp only [List.contains_cons, List.contains_nil, Bool.or_false, Bool.or_eq_true, beq_iff_eq] at hok
    unfold em2 at hk; split at hk <;> omega
  · rcases op_snap hI hr ho with ⟨-, f9, e9⟩ | z
    · subst e9
      exact h2 f9 S1 hP h3
    · exact absurd z.1 k0
  · rcases op_snap hI hr ho with z | ⟨-, f1, f2, f3, f4, f5, f6⟩
    · have := z.1
      omega
    · exact ⟨⟨by omega, by omega⟩, h0 v S1 R' hP h3 f1 f2 f3 f4 f5 f6⟩
theorem pw_match {xs : Nat → Int} {Ln : Nat} {n : Int} {R S : Sto} {o c s : Int} (h : PI xs Ln n R S) (hn : n + 1 ≤ 15000) (hr : 0 ≤ o ∧ o < nO R ∧ 0 ≤ c ∧ c < 6 ∧ 0 ≤ s ∧ s < 3) {post : Res → Sto → Prop} (h2 : ∀ S1, PI xs Ln (n + 1) (thr R 2) S1 → S1.2.1 3 = S.2.1 3 → post (.inl (some (vI (-2)))) S1) (h0 : ∀ v S1 R', PI xs Ln (n + 1) R' S1 → S1.2.1 3 = S.2.1 3 → cntR R' (shN R 6) (nD R) (nM R) (nO R) → sdK R' o c = s → sdK R o c ≠ s → sdK R o c ≠ -1 → ((v = 0 ∧ mg R' 30 o = mg R 30 o) ∨ (v ≠ 0 ∧ v = mg R 28 o + (if 0 < mg R 29 o then 1 else 0) ∧ mg R' 28 o = 0 ∧ mg R' 29 o = 0 ∧ mg R 30 o < mg R' 30 o)) → (∀ b, QI R b → QI R' b) → post (.inl (some (vI (v)))) S1) : wP s_matchC [vT 1, vI o, vI c, vI s] S post := by
  have hI := h.mi
  have hN := hI.2.1
  refine pw_gen (op := fun R => matchR R o c s) (em := em2) (ex := [0, 2]) (fun hC hI hS0 _ hq => ag_match hC hI ⟨by omega, by omega⟩ ⟨by omega, by omega⟩ ⟨by omega, by omega⟩ hq) good_match (fun C h => CL.cons (fun t e => by cases e; rw [h]; exact fun z => by cases z) (CL.cons VOK.i (CL.cons VOK.i (CL.cons VOK.i (fun a ha => by cases ha))))) h hn (ex_match R o c s) (fun e hok k v R' ho hk => ?_) (fun S1 k v R' ho k0 hP h3 => ?_) (fun S1 v R' ho hP h3 => ?_)
  · have hk9 : k = 0 ∨ k = 2 := by
      rcases op_match hI hr ho with z | z
      · exact Or.inr z.1
      · exact Or.inl z.1
    simp only [List.contains_cons, List.contains_nil, Bool.or_false, Bool.or_eq_true, beq_iff_eq] at hok
    unfold em2 at hk; split at hk <;> omega
  · rcases op_match hI hr ho with ⟨-, e9⟩ | z
    · subst e9
      exact h2 S1 hP h3
    · exact absurd z.1 k0
  · rcases op_match hI hr ho with z | ⟨-, f1, f2, f3, f4, f5, f6⟩
    · have := z.1
      omega
    · have h5 := (hI.2.2.2.2.2.1 o hr.1 hr.2.1).2.2.2.2.1
      have h25 := (hI.2.2.2.2.2.1 o hr.1 hr.2.1).2.1
      have hv : 0 ≤ v ∧ v ≤ 51 := by
        rcases f5 with q | ⟨-, q, -⟩
        · omega
        · split at q <;> omega
      exact ⟨⟨by omega, by omega⟩, h0 v S1 R' hP h3 f1 f2 f3 f4 f5 f6⟩
theorem pw_cancel {xs : Nat → Int} {Ln : Nat} {n : Int} {R S : Sto} {o : Int} (h : PI xs Ln n R S) (hn : n + 1 ≤ 15000) (hr : 0 ≤ o ∧ o < nO R) {post : Res → Sto → Prop} (h2 : (mg R 26 o = 2 ∨ mg R 26 o = 3) → ∀ S1, PI xs Ln (n + 1) (thr R 2) S1 → S1.2.1 3 = S.2.1 3 → post (.inl (some (vI (-2)))) S1) (h0 : ∀ v S1 R', PI xs Ln (n + 1) R' S1 → S1.2.1 3 = S.2.1 3 → (0 ≤ mg R 26 o ∧ mg R 26 o ≤ 1) → 0 ≤ v → cntR R' (shN R 6) (nD R) (nM R) (nO R) → mg R' 26 o = 3 → mg R' 30 o = mg R 30 o + v → mg R' 28 o = 0 → mg R' 27 o = -1 → (∀ b, QI R b → QI R' b) → post (.inl (some (vI (v)))) S1) : wP s_cancelC [vT 1, vI o] S post := by
  have hI := h.mi
  have hN := hI.2.1
  refine pw_gen (op := fun R => cancelR R o) (em := em2) (ex := [0, 2]) (fun hC hI hS0 _ hq => ag_cancel hC hI ⟨by omega, by omega⟩ hq) good_cancel (fun C h => CL.cons (fun t e => by cases e; rw [h]; exact fun z => by cases z) (CL.cons VOK.i (fun a ha => by cases ha))) h hn (ex_cancel R o) (fun e hok k v R' ho hk => ?_) (fun S1 k v R' ho k0 hP h3 => ?_) (fun S1 v R' ho hP h3 => ?_)
  · have hk9 : k = 0 ∨ k = 2 := by
      rcases op_cancel hI hr ho with z | z
      · exact Or.inr z.1
      · exact Or.inl z.1
    simp only [List.contains_cons, List.contains_nil, Bool.or_false, Bool.or_eq_true, beq_iff_eq] at hok
    unfold em2 at hk; split at hk <;> omega
  · rcases op_cancel hI hr ho with ⟨-, f9, e9⟩ | z
    · subst e9
      exact h2 f9 S1 hP h3
    · exact absurd z.1 k0
  · rcases op_cancel hI hr ho with z | ⟨-, f1, f2, f3, f4, f5, f6, f7, f8⟩
    · have := z.1
      omega
    · have h30 := (hP.mi.2.2.2.2.2.1 o hr.1 (by have := f3.2.2.2; omega)).2.2.2.2.2.1
      have h30' := (hI.2.2.2.2.2.1 o hr.1 hr.2).2.2.2.2.2.1
      exact ⟨⟨by omega, by omega⟩, h0 v S1 R' hP h3 f1 f2 f3 f4 f5 f6 f7 f8⟩
theorem pw_run {xs : Nat → Int} {Ln : Nat} {n : Int} {R S : Sto} {m s : Int} (h : PI xs Ln n R S) (hn : n + 1 ≤ 15000) (hr : (0 ≤ m ∧ m < nM R) ∧ 1 ≤ s ∧ s ≤ 100000) {post : Res → Sto → Prop} (h2 : mg R 17 m = -1 → ∀ S1, PI xs Ln (n + 1) (thr R 3) S1 → S1.2.1 3 = S.2.1 3 → post (.inl (some (vI (-2)))) S1) (h0 : ∀ v S1 R', PI xs Ln (n + 1) R' S1 → S1.2.1 3 = S.2.1 3 → mg R 17 m ≠ -1 → (0 ≤ v ∧ v ≤ s) → cntR R' (shN R 6) (nD R) (nM R) (nO R) → mg R' 19 m = mg R 19 m + v → (mg R' 17 m = mg R 17 m ∨ mg R' 17 m = -1 ∧ mg R' 26 (mg R 17 m) = 2 ∧ mg R' 28 (mg R 17 m) = mg R' 25 (mg R 17 m)) → (∀ b, QI R b → QI R' b) → post (.inl (some (vI (v)))) S1) : wP s_runC [vT 1, vI m, vI s] S post := by
  have hI := h.mi
  have hN := hI.2.1
  refine pw_gen (op := fun R => runR R m s) (em := em1) (ex := [0, 1, 2]) (fun hC hI hS0 _ hq => ag_run hC hI hn ⟨by omega, by omega⟩ ⟨by omega, by omega⟩ hq) good_run (fun C h => CL.cons (fun t e => by cases e; rw [h]; exact fun z => by cases z) (CL.cons VOK.i (CL.cons VOK.i (fun a ha => by cases ha)))) h hn (ex_run hI hn m s) (fun e hok k v R' ho hk => ?_) (fun S1 k v R' ho k0 hP h3 => ?_) (fun S1 v R' ho hP h3 => ?_)
  · have hk9 : k = 0 ∨ k = 3 := by
      rcases op_run hI hn hr ho with z | z
      · exact Or.inr z.1
      · exact Or.inl z.1
    simp only [List.contains_cons, List.contains_nil, Bool.or_false, Bool.or_eq_true, beq_iff_eq] at hok
    unfold em1 at hk <;> omega
  · rcases op_run hI hn hr ho with ⟨-, f9, e9⟩ | z
    · subst e9
      exact h2 f9 S1 hP h3
    · exact absurd z.1 k0
  · rcases op_run hI hn hr ho with z | ⟨-, f1, f2, f3, f4, f5, f6⟩
    · have := z.1
      omega
    · exact ⟨⟨by omega, by omega⟩, h0 v S1 R' hP h3 f1 f2 f3 f4 f5 f6⟩
theorem pw_wipe {xs : Nat → Int} {Ln : Nat} {n : Int} {R S : Sto} (h : PI xs Ln n R S) (hn : n + 1 ≤ 15000) {post : Res → Sto → Prop} (h0 : ∀ S1 R', PI xs Ln (n + 1) R' S1 → S1.2.1 3 = S.2.1 3 → cntR R' 0 (nD R) (nM R) (nO R) → (∀ b, QI R b → QI R' b) → post (.inl (some (vI (shN R 6)))) S1) : frS s_wipeC [vT 1] S post := by
  have hI := h.mi
  refine pw_cls (op := wipeR) (em := em1) (ok := okr []) (fun hC hI _ _ hq => ag_wipe hC hI hq) good_wipe (fun C h => CL.cons (fun t e => by cases e; rw [h]; exact fun z => by cases z) (fun a ha => by cases ha)) h hn (ex_wipe R) fun r S1 k v R' hok ho ha hP h3 => ?_
  obtain ⟨f1, f2, f3⟩ := op_wipe ho
  have hd := hI.2.2.1
  have hd1 := hd.1
  have hd2 := hd.2.1
  match r, hok, ha with
  | .inl (some (.inl x)), _, ha =>
    have hx : v = x := ha.2
    subst hx
    subst f2
    have e : nrm (.inl (some (.inl (shN R 6)))) = .inl (some (vI (wr (shN R 6)))) := rfl
    rw [e, wr_id ⟨by omega, by omega⟩]
    exact h0 S1 R' hP h3 f3 (fun b hb => hb.wipe ho)
theorem pw_stock {xs : Nat → Int} {Ln : Nat} {n : Int} {R S : Sto} {c s x : Int} (h : PI xs Ln n R S) (hn : n + 1 ≤ 15000) (hc : 0 ≤ c ∧ c < 6 ∧ 0 ≤ s ∧ s < 3) (hx : 1 ≤ x ∧ x ≤ 100000) (hl : mg R 22 (3 * c + s) + x ≤ 1000000) {post : Res → Sto → Prop} (h0 : ∀ S1 R', PI xs Ln (n + 1) R' S1 → S1.2.1 3 = S.2.1 3 → cntR R' (shN R 6) (nD R) (nM R) (nO R) → (∀ b, QI R b → QI R' (b + x)) → post (.inl (some (vI (mg R 22 (3 * c + s) + x)))) S1) : frS s_stockC [vT 1, vI c, vI s, vI x] S post := by
  have hI := h.mi
  refine pw_cls (op := fun R => stockR R c s x) (em := em1) (ok := okr [0, 1, 2]) (fun hC hI _ _ hq => ag_stock hC hI ⟨by omega, by omega⟩ ⟨by omega, by omega⟩ ⟨by omega, by omega⟩ hq) good_stock (fun C h => CL.cons (fun t e => by cases e; rw [h]; exact fun z => by cases z) (CL.cons VOK.i (CL.cons VOK.i (CL.cons VOK.i (fun a ha => by cases ha))))) h hn (ex_stock R c s x) fun r S1 k v R' hok ho ha hP h3 => ?_
  obtain ⟨f1, f2, f3, f4⟩ := op_stock (n := n) hc hx hl ho
  have h22 := hI.2.2.2.2.2.2.2 (3 * c + s) (by omega) (by omega)
  subst f1
  match r, hok, ha with
  | .inl (some (.inl y)), _, ha =>
    have hy : v = y := ha.2
    subst hy
    subst f2
    have e : nrm (.inl (some (.inl (mg R 22 (3 * c + s) + x)))) = .inl (some (vI (wr (mg R 22 (3 * c + s) + x)))) := rfl
    rw [e, wr_id ⟨by omega, by omega⟩]
    exact h0 S1 R' hP h3 f3 f4
  | .inr e, _, ha =>
    exfalso
    have ha' : (0 : Int) = em1 e := ha
    unfold em1 at ha'
    omega

