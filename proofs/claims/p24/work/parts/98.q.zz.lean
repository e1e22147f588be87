/-! THE LAW: what holds between its calls -/
def PIb (xs : Nat → Int) (Ln : Nat) (n : Int) (C R S : Sto) : Prop := (subS C S ∧ cloS C) ∧ (∀ t, inF t → C.1 t = none) ∧ (∀ t, S.1 t ≠ none → C.1 t ≠ none ∨ inF t) ∧ (S.1 3 = some (100, 5) ∧ S.1 10 = some (102, Ln) ∧ ∀ j, S.2.1 10 j = xs j) ∧ MI n R ∧ SI0 R ∧ ∃ B N, CI B N C R
def PI (xs : Nat → Int) (Ln : Nat) (n : Int) (R S : Sto) : Prop := ∃ C, PIb xs Ln n C R S
theorem PI.mi {xs : Nat → Int} {Ln : Nat} {n : Int} {R S : Sto} (h : PI xs Ln n R S) : MI n R := by
  obtain ⟨C, -, -, -, -, hI, -⟩ := h
  exact hI
theorem PI.x {xs : Nat → Int} {Ln : Nat} {n : Int} {R S : Sto} (h : PI xs Ln n R S) : S.1 3 = some (100, 5) ∧ S.1 10 = some (102, Ln) ∧ ∀ j, S.2.1 10 j = xs j := by
  obtain ⟨C, -, -, -, e, -⟩ := h
  exact e
theorem PI.t1 {xs : Nat → Int} {Ln : Nat} {n : Int} {R S : Sto} (h : PI xs Ln n R S) : S.1 1 = some (6, 9) := by
  obtain ⟨C, a, -, -, -, -, -, B, N, hC⟩ := h
  exact (a.1 1 _ hC.1.1).1
theorem PI.put {xs : Nat → Int} {Ln : Nat} {n : Int} {R S : Sto} (h : PI xs Ln n R S) {j : Nat} {w : Int} : PI xs Ln n R (updI S 3 j w) := by
  obtain ⟨C, ⟨a1, a2⟩, b, d, ⟨e1, e2, e3⟩, hI⟩ := h
  have hu : ∀ t, t ≠ 3 → (updI S 3 j w).2.1 t = S.2.1 t := fun t ht => by funext q; rw [updI_2, if_neg (fun z => ht z.1)]
  refine ⟨C, ⟨fun t x e => ?_, a2⟩, b, d, ⟨e1, e2, fun q => ?_⟩, hI⟩
  · obtain ⟨q1, q2, q3⟩ := a1 t x e
    exact ⟨q1, (hu t (fun z => by rw [z, b 3 (by omega)] at e; cases e)).trans q2, q3⟩
  · rw [hu 10 (by omega)]; exact e3 q
theorem PI.up {xs : Nat → Int} {Ln : Nat} {n : Int} {R S : Sto} (h : PI xs Ln n R S) (hn : n + 1 ≤ 15000) : PI xs Ln (n + 1) R S := by
  obtain ⟨C, a, b, d, e, hI, h0⟩ := h
  exact ⟨C, a, b, d, e, hI.up hn, h0⟩
theorem ovS_self {C S : Sto} (h : subS C S) : ovS S C = S := by
  have e1 : (ovS S C).1 = S.1 := funext fun t => by
    cases e : C.1 t with
    | none => exact (ovS_n e).1
    | some x => exact (ovS_s e).1.trans (h t x e).1.symm
  have e2 : (ovS S C).2.1 = S.2.1 := funext fun t => by
    cases e : C.1 t with
    | none => exact (ovS_n e).2.1
    | some x => exact (ovS_s e).2.1.trans (h t x e).2.1.symm
  have e3 : (ovS S C).2.2 = S.2.2 := funext fun t => by
    cases e : C.1 t with
    | none => exact (ovS_n e).2.2
    | some x => exact (ovS_s e).2.2.trans (h t x e).2.2.symm
  exact Prod.ext e1 (Prod.ext e2 e3)
/-- a call that asks -/
theorem pg {spec : Spec} {as : List AV} {v : Int} {xs : Nat → Int} {Ln : Nat} {n : Int} {R S : Sto} (h : PI xs Ln n R S) (hargs : ∀ C : Sto, C.1 1 = some (6, 9) → CL C as) (hv : InR v) (hs : ∀ (B : Nat → Nat) (N : Nat) (C : Sto), CI B N C R → ∀ P : Res → Sto → Prop, P (.inl (some (vI v))) C → spec as C P) {post : Res → Sto → Prop} (hp : post (.inl (some (vI v))) S) : frS spec as S post := by
  obtain ⟨C, ⟨a1, a2⟩, b, d, -, hI, -, B, N, hC⟩ := h
  refine ⟨C, a1, a2, hargs C hC.1.1, hs B N C hC _ ⟨fun t t1 _ => t1, fun _ _ => ?_⟩⟩
  have e : nrm (.inl (some (vI v))) = .inl (some (vI v)) := by
    show Sum.inl (some (Sum.inl (wr v))) = _
    rw [wr_id hv]
  rw [ovS_self a1, e]
  exact hp
/-- the one answer that agrees -/
theorem get_of {ex : List Nat} {op : Int → Int → Sto → Prop} {spec : Spec} {as : List AV} {S R' : Sto} {f : Int} (AG : ∀ {post : Res → Sto → Prop}, (∀ r S1, okr ex r = true → tyF S S1 → agC em1 op r S1 → post r S1) → spec as S post) (mono : ∀ p q : Res → Sto → Prop, spec as S p → (∀ r, p r S → q r S) → spec as S q) (ho : op 0 f R') {P : Res → Sto → Prop} (hP : P (.inl (some (vI f))) S) : spec as S P := by
  refine mono (fun r _ => r = .inl (some (vI f))) P (AG fun r S1 hok _ hag => ?_) (fun r h => by rw [h]; exact hP)
  have ha := (hag 0 f R' ho).1
  match r, hok, ha with
  | .inl (some (.inl x)), _, ha => rw [ha.2]
  | .inr e, _, ha =>
    exfalso
    have ha' : (0 : Int) = (e : Int) + 1 := ha
    omega
theorem mo_changes {S : Sto} {d9 : Int} (p q : Res → Sto → Prop) : s_changesC [vT 1, vI d9] S p → (∀ r, p r S → q r S) → s_changesC [vT 1, vI d9] S q :=
  fun ⟨W, hW, hd, a, b⟩ h => ⟨W, hW, hd, fun n => h _ (a n), fun n => h _ (b n)⟩
theorem mo_changesAnew {S : Sto} {d9 : Int} (p q : Res → Sto → Prop) : s_changesAnewC [vT 1, vI d9] S p → (∀ r, p r S → q r S) → s_changesAnewC [vT 1, vI d9] S q :=
  fun ⟨W, hW, hd, a, b⟩ h => ⟨W, hW, hd, fun n => h _ (a n), fun n => h _ (b n)⟩
theorem mo_jumps {S : Sto} {d9 i9 : Int} (p q : Res → Sto → Prop) : s_jumpsC [vT 1, vI d9, vI i9] S p → (∀ r, p r S → q r S) → s_jumpsC [vT 1, vI d9, vI i9] S q :=
  fun ⟨W, hW, hd, a, b⟩ h => ⟨W, hW, hd, fun n => h _ (a n), fun n => h _ (b n)⟩
theorem mo_sequence {S : Sto} {d9 p9 : Int} (p q : Res → Sto → Prop) : s_sequenceC [vT 1, vI d9, vI p9] S p → (∀ r, p r S → q r S) → s_sequenceC [vT 1, vI d9, vI p9] S q :=
  fun ⟨W, hW, hd, a, b⟩ h => ⟨W, hW, hd, fun n => h _ (a n), fun n => h _ (b n)⟩
theorem mo_stitches {S : Sto} {d9 c9 : Int} (p q : Res → Sto → Prop) : s_stitchesC [vT 1, vI d9, vI c9] S p → (∀ r, p r S → q r S) → s_stitchesC [vT 1, vI d9, vI c9] S q :=
  fun ⟨W, hW, hd, a, b⟩ h => ⟨W, hW, hd, fun n => h _ (a n), fun n => h _ (b n)⟩
theorem mo_shadeOf {S : Sto} {o9 c9 : Int} (p q : Res → Sto → Prop) : s_shadeOfC [vT 1, vI o9, vI c9] S p → (∀ r, p r S → q r S) → s_shadeOfC [vT 1, vI o9, vI c9] S q :=
  fun ⟨W, hW, hd, a, b⟩ h => ⟨W, hW, hd, fun n => h _ (a n), fun n => h _ (b n)⟩
theorem mo_left {S : Sto} {c9 s9 : Int} (p q : Res → Sto → Prop) : s_leftC [vT 1, vI c9, vI s9] S p → (∀ r, p r S → q r S) → s_leftC [vT 1, vI c9, vI s9] S q :=
  fun ⟨W, hW, hd, a, b⟩ h => ⟨W, hW, hd, fun n => h _ (a n), fun n => h _ (b n)⟩
theorem mo_stitch {S : Sto} {d9 x9 w9 : Int} (p q : Res → Sto → Prop) : s_stitchC [vT 1, vI d9, vI x9, vI w9] S p → (∀ r, p r S → q r S) → s_stitchC [vT 1, vI d9, vI x9, vI w9] S q :=
  fun ⟨W, hW, hd, a, a2, b⟩ h => ⟨W, hW, hd, fun n => h _ (a n), fun n m => h _ (a2 n m), fun n m => ⟨fun z => h _ ((b n m).1 z), fun p z => h _ ((b n m).2 p z)⟩⟩
theorem mo_ofMachine {S : Sto} {d9 w9 : Int} (p q : Res → Sto → Prop) : s_ofMachineC [vT 1, vI d9, vI w9] S p → (∀ r, p r S → q r S) → s_ofMachineC [vT 1, vI d9, vI w9] S q :=
  fun ⟨W, hW, hd, a, a2, b⟩ h => ⟨W, hW, hd, fun n => h _ (a n), fun n m => h _ (a2 n m), fun n m => ⟨fun w z => h _ ((b n m).1 w z), fun o w z => h _ ((b n m).2.1 o w z), fun w => h _ ((b n m).2.2.1 w), fun w => h _ ((b n m).2.2.2.1 w), fun w => h _ ((b n m).2.2.2.2 w)⟩⟩
theorem mo_ofOrder {S : Sto} {d9 w9 : Int} (p q : Res → Sto → Prop) : s_ofOrderC [vT 1, vI d9, vI w9] S p → (∀ r, p r S → q r S) → s_ofOrderC [vT 1, vI d9, vI w9] S q :=
  fun ⟨W, hW, hd, a, a2, b⟩ h => ⟨W, hW, hd, fun n => h _ (a n), fun n m => h _ (a2 n m), fun n m => ⟨fun w z => h _ ((b n m).1 w z), fun o w z => h _ ((b n m).2.1 o w z), fun w => h _ ((b n m).2.2.1 w), fun w => h _ ((b n m).2.2.2.1 w), fun w => h _ ((b n m).2.2.2.2.1 w), fun w => h _ ((b n m).2.2.2.2.2.1 w), fun w => h _ ((b n m).2.2.2.2.2.2.1 w), fun w => h _ ((b n m).2.2.2.2.2.2.2 w)⟩⟩
theorem gg_changes {xs : Nat → Int} {Ln : Nat} {n : Int} {R S : Sto} {d : Int} (h : PI xs Ln n R S) (hr : 0 ≤ d ∧ d < nD R) {post : Res → Sto → Prop} (hp : post (.inl (some (vI (chgN R d (shN R d).toNat)))) S) : frS s_changesI [vT 1, vI d] S post := by
  have hI := h.mi
  have hN := hI.2.1
  have hD := hI.2.2.2.1 d (by omega) (by omega)
  have hmn := hD.mn
  refine pg h (fun C h => CL.cons (fun t e => by cases e; rw [h]; exact fun z => by cases z) (CL.cons VOK.i (fun a ha => by cases ha))) (by have := chg_lt hD; have := hD.1.2.2.2.1; unfold InR; omega) (fun B N C hC P hP => ⟨?_, get_of (fun hq => ag_changes hC hI ⟨by omega, by omega⟩ hq) (mo_changes) (R' := thr R 0) (f := chgN R d (shN R d).toNat) ?_ hP⟩) hp
  · have e3 := hC.2.1.2.1; omega
  · exact ⟨(if_pos hr).symm, rfl, fun _ => rfl⟩
theorem gg_changesAnew {xs : Nat → Int} {Ln : Nat} {n : Int} {R S : Sto} {d : Int} (h : PI xs Ln n R S) (hr : 0 ≤ d ∧ d < nD R) {post : Res → Sto → Prop} (hp : post (.inl (some (vI (chgN R d (shN R d).toNat)))) S) : frS s_changesAnewI [vT 1, vI d] S post := by
  have hI := h.mi
  have hN := hI.2.1
  have hD := hI.2.2.2.1 d (by omega) (by omega)
  have hmn := hD.mn
  refine pg h (fun C h => CL.cons (fun t e => by cases e; rw [h]; exact fun z => by cases z) (CL.cons VOK.i (fun a ha => by cases ha))) (by have := chg_lt hD; have := hD.1.2.2.2.1; unfold InR; omega) (fun B N C hC P hP => ⟨?_, get_of (fun hq => ag_changesAnew hC hI ⟨by omega, by omega⟩ hq) (mo_changesAnew) (R' := thr R 0) (f := chgN R d (shN R d).toNat) ?_ hP⟩) hp
  · have e3 := hC.2.1.2.1; omega
  · exact ⟨(if_pos hr).symm, rfl, fun _ => rfl⟩
theorem gg_jumps {xs : Nat → Int} {Ln : Nat} {n : Int} {R S : Sto} {d i : Int} (h : PI xs Ln n R S) (hr : (0 ≤ d ∧ d < nD R) ∧ (i = 0 ∨ i = 1)) {post : Res → Sto → Prop} (hp : post (.inl (some (vI (jmpN R d i (mnK R d).toNat)))) S) : frS s_jumpsI [vT 1, vI d, vI i] S post := by
  have hI := h.mi
  have hN := hI.2.1
  have hD := hI.2.2.2.1 d (by omega) (by omega)
  have hmn := hD.mn
  refine pg h (fun C h => CL.cons (fun t e => by cases e; rw [h]; exact fun z => by cases z) (CL.cons VOK.i (CL.cons VOK.i (fun a ha => by cases ha)))) (by have := jmp_r (R := R) (d := d) (hid := i) (mnK R d).toNat; unfold InR; omega) (fun B N C hC P hP => ⟨?_, get_of (fun hq => ag_jumps hC hI ⟨by omega, by omega⟩ (by omega) hq) (mo_jumps) (R' := thr R 0) (f := jmpN R d i (mnK R d).toNat) ?_ hP⟩) hp
  · have e3 := hC.2.1.2.1; omega
  · exact ⟨(if_pos hr.1).symm, rfl, fun _ => rfl⟩
theorem gg_seq {xs : Nat → Int} {Ln : Nat} {n : Int} {R S : Sto} {d p : Int} (h : PI xs Ln n R S) (hr : (0 ≤ d ∧ d < nD R) ∧ 0 ≤ p ∧ p < shN R d) {post : Res → Sto → Prop} (hp : post (.inl (some (vI (seqK R d p)))) S) : frS s_sequenceI [vT 1, vI d, vI p] S post := by
  have hI := h.mi
  have hN := hI.2.1
  have hD := hI.2.2.2.1 d (by omega) (by omega)
  have hmn := hD.mn
  have h7 := hD.1.2.2.2.1
  refine pg h (fun C h => CL.cons (fun t e => by cases e; rw [h]; exact fun z => by cases z) (CL.cons VOK.i (CL.cons VOK.i (fun a ha => by cases ha)))) (by have := hD.seq hr.2.1 hr.2.2; have := hD.1.2.2.2.1; unfold InR; omega) (fun B N C hC P hP => ⟨?_, get_of (fun hq => ag_sequence hC hI ⟨by omega, by omega⟩ ⟨by omega, by omega⟩ hq) (mo_sequence) (R' := thr R 0) (f := seqK R d p) ?_ hP⟩) hp
  · have e3 := hC.2.1.2.1; omega
  · exact ⟨(if_pos ⟨hr.1.1, hr.1.2, hr.2.1⟩).symm, rfl, fun _ => (if_pos hr.2.2).symm⟩
theorem gg_seqN {xs : Nat → Int} {Ln : Nat} {n : Int} {R S : Sto} {d p : Int} (h : PI xs Ln n R S) (hr : (0 ≤ d ∧ d < nD R) ∧ 0 ≤ p ∧ p ≤ 100 ∧ shN R d ≤ p) {post : Res → Sto → Prop} (hp : post (.inl (some (vI (-1)))) S) : frS s_sequenceI [vT 1, vI d, vI p] S post := by
  have hI := h.mi
  have hN := hI.2.1
  have hD := hI.2.2.2.1 d (by omega) (by omega)
  have hmn := hD.mn
  refine pg h (fun C h => CL.cons (fun t e => by cases e; rw [h]; exact fun z => by cases z) (CL.cons VOK.i (CL.cons VOK.i (fun a ha => by cases ha)))) (by unfold InR; omega) (fun B N C hC P hP => ⟨?_, get_of (fun hq => ag_sequence hC hI ⟨by omega, by omega⟩ ⟨by omega, by omega⟩ hq) (mo_sequence) (R' := thr R 0) (f := -1) ?_ hP⟩) hp
  · have e3 := hC.2.1.2.1; omega
  · exact ⟨(if_pos ⟨hr.1.1, hr.1.2, hr.2.1⟩).symm, rfl, fun _ => (if_neg (by omega)).symm⟩
theorem gg_stitches {xs : Nat → Int} {Ln : Nat} {n : Int} {R S : Sto} {d c : Int} (h : PI xs Ln n R S) (hr : (0 ≤ d ∧ d < nD R) ∧ 0 ≤ c ∧ c < 6) {post : Res → Sto → Prop} (hp : post (.inl (some (vI (cntC R d c (mnK R d).toNat)))) S) : frS s_stitchesI [vT 1, vI d, vI c] S post := by
  have hI := h.mi
  have hN := hI.2.1
  have hD := hI.2.2.2.1 d (by omega) (by omega)
  have hmn := hD.mn
  refine pg h (fun C h => CL.cons (fun t e => by cases e; rw [h]; exact fun z => by cases z) (CL.cons VOK.i (CL.cons VOK.i (fun a ha => by cases ha)))) (by have := cnt_r (R := R) (d := d) (c := c) (mnK R d).toNat; unfold InR; omega) (fun B N C hC P hP => ⟨?_, get_of (fun hq => ag_stitches hC hI ⟨by omega, by omega⟩ ⟨by omega, by omega⟩ hq) (mo_stitches) (R' := thr R 0) (f := cntC R d c (mnK R d).toNat) ?_ hP⟩) hp
  · have e3 := hC.2.1.2.1; omega
  · exact ⟨(if_pos ⟨hr.1.1, hr.1.2, Or.inr hr.2⟩).symm, rfl, fun _ => rfl⟩
theorem gg_stAll {xs : Nat → Int} {Ln : Nat} {n : Int} {R S : Sto} {d c : Int} (h : PI xs Ln n R S) (hr : (0 ≤ d ∧ d < nD R) ∧ c = -1) {post : Res → Sto → Prop} (hp : post (.inl (some (vI (mnK R d)))) S) : frS s_stitchesI [vT 1, vI d, vI c] S post := by
  have hI := h.mi
  have hN := hI.2.1
  have hD := hI.2.2.2.1 d (by omega) (by omega)
  have hmn := hD.mn
  refine pg h (fun C h => CL.cons (fun t e => by cases e; rw [h]; exact fun z => by cases z) (CL.cons VOK.i (CL.cons VOK.i (fun a ha => by cases ha)))) (by unfold InR; omega) (fun B N C hC P hP => ⟨?_, get_of (fun hq => ag_stitches hC hI ⟨by omega, by omega⟩ ⟨by omega, by omega⟩ hq) (mo_stitches) (R' := thr R 0) (f := mnK R d) ?_ hP⟩) hp
  · have e3 := hC.2.1.2.1; omega
  · exact ⟨(if_pos ⟨hr.1.1, hr.1.2, Or.inl hr.2⟩).symm, rfl, fun _ => by rw [hr.2, cnt_all]; omega⟩
theorem gg_stitch0 {xs : Nat → Int} {Ln : Nat} {n : Int} {R S : Sto} {d x w : Int} (h : PI xs Ln n R S) (hr : (0 ≤ d ∧ d < nD R) ∧ (0 ≤ x ∧ x < mnK R d) ∧ w = 0) {post : Res → Sto → Prop} (hp : post (.inl (some (vI (stK R d x % 16)))) S) : frS s_stitchI [vT 1, vI d, vI x, vI w] S post := by
  have hI := h.mi
  have hN := hI.2.1
  have hD := hI.2.2.2.1 d (by omega) (by omega)
  have hmn := hD.mn
  refine pg h (fun C h => CL.cons (fun t e => by cases e; rw [h]; exact fun z => by cases z) (CL.cons VOK.i (CL.cons VOK.i (CL.cons VOK.i (fun a ha => by cases ha))))) (by have := hD.stR hr.2.1.1 hr.2.1.2; have := hD.1.2.2.2.1; unfold InR; omega) (fun B N C hC P hP => ⟨?_, get_of (fun hq => ag_stitch hC hI ⟨by omega, by omega⟩ ⟨by omega, by omega⟩ ⟨by omega, by omega⟩ hq) (mo_stitch) (R' := thr R 0) (f := stK R d x % 16) ?_ hP⟩) hp
  · have e3 := hC.2.1.2.1; omega
  · exact ⟨by rw [if_neg (by omega), if_pos (by omega)], rfl, fun _ => by rw [if_neg (by omega), if_pos hr.2.2]⟩
theorem gg_stitch1 {xs : Nat → Int} {Ln : Nat} {n : Int} {R S : Sto} {d x w : Int} (h : PI xs Ln n R S) (hr : (0 ≤ d ∧ d < nD R) ∧ (0 ≤ x ∧ x < mnK R d) ∧ w = 1) {post : Res → Sto → Prop} (hp : post (.inl (some (vI (stK R d x / 16 % 16)))) S) : frS s_stitchI [vT 1, vI d, vI x, vI w] S post := by
  have hI := h.mi
  have hN := hI.2.1
  have hD := hI.2.2.2.1 d (by omega) (by omega)
  have hmn := hD.mn
  refine pg h (fun C h => CL.cons (fun t e => by cases e; rw [h]; exact fun z => by cases z) (CL.cons VOK.i (CL.cons VOK.i (CL.cons VOK.i (fun a ha => by cases ha))))) (by have := hD.stR hr.2.1.1 hr.2.1.2; have := hD.1.2.2.2.1; unfold InR; omega) (fun B N C hC P hP => ⟨?_, get_of (fun hq => ag_stitch hC hI ⟨by omega, by omega⟩ ⟨by omega, by omega⟩ ⟨by omega, by omega⟩ hq) (mo_stitch) (R' := thr R 0) (f := stK R d x / 16 % 16) ?_ hP⟩) hp
  · have e3 := hC.2.1.2.1; omega
  · exact ⟨by rw [if_neg (by omega), if_pos (by omega)], rfl, fun _ => by rw [if_neg (by omega), if_neg (by omega), if_pos hr.2.2]⟩
theorem gg_stitch2 {xs : Nat → Int} {Ln : Nat} {n : Int} {R S : Sto} {d x w : Int} (h : PI xs Ln n R S) (hr : (0 ≤ d ∧ d < nD R) ∧ (0 ≤ x ∧ x < mnK R d) ∧ w = 2) {post : Res → Sto → Prop} (hp : post (.inl (some (vI (stK R d x / 256)))) S) : frS s_stitchI [vT 1, vI d, vI x, vI w] S post := by
  have hI := h.mi
  have hN := hI.2.1
  have hD := hI.2.2.2.1 d (by omega) (by omega)
  have hmn := hD.mn
  refine pg h (fun C h => CL.cons (fun t e => by cases e; rw [h]; exact fun z => by cases z) (CL.cons VOK.i (CL.cons VOK.i (CL.cons VOK.i (fun a ha => by cases ha))))) (by have := hD.stR hr.2.1.1 hr.2.1.2; have := hD.1.2.2.2.1; unfold InR; omega) (fun B N C hC P hP => ⟨?_, get_of (fun hq => ag_stitch hC hI ⟨by omega, by omega⟩ ⟨by omega, by omega⟩ ⟨by omega, by omega⟩ hq) (mo_stitch) (R' := thr R 0) (f := stK R d x / 256) ?_ hP⟩) hp
  · have e3 := hC.2.1.2.1; omega
  · exact ⟨by rw [if_neg (by omega), if_pos (by omega)], rfl, fun _ => by rw [if_neg (by omega), if_neg (by omega), if_neg (by omega)]⟩
theorem gg_stitchN {xs : Nat → Int} {Ln : Nat} {n : Int} {R S : Sto} {d x w : Int} (h : PI xs Ln n R S) (hr : (0 ≤ d ∧ d < nD R) ∧ x = mnK R d ∧ w = 0) {post : Res → Sto → Prop} (hp : post (.inl (some (vI (-1)))) S) : frS s_stitchI [vT 1, vI d, vI x, vI w] S post := by
  have hI := h.mi
  have hN := hI.2.1
  have hD := hI.2.2.2.1 d (by omega) (by omega)
  have hmn := hD.mn
  refine pg h (fun C h => CL.cons (fun t e => by cases e; rw [h]; exact fun z => by cases z) (CL.cons VOK.i (CL.cons VOK.i (CL.cons VOK.i (fun a ha => by cases ha))))) (by unfold InR; omega) (fun B N C hC P hP => ⟨?_, get_of (fun hq => ag_stitch hC hI ⟨by omega, by omega⟩ ⟨by omega, by omega⟩ ⟨by omega, by omega⟩ hq) (mo_stitch) (R' := thr R 0) (f := -1) ?_ hP⟩) hp
  · have e3 := hC.2.1.2.1; omega
  · exact ⟨by rw [if_neg (by omega), if_pos (by omega)], rfl, fun _ => by rw [if_pos (by omega)]⟩
theorem gg_shadeOf {xs : Nat → Int} {Ln : Nat} {n : Int} {R S : Sto} {o c : Int} (h : PI xs Ln n R S) (hr : (0 ≤ o ∧ o < nO R) ∧ 0 ≤ c ∧ c < 6) {post : Res → Sto → Prop} (hp : post (.inl (some (vI (sdK R o c)))) S) : frS s_shadeOfI [vT 1, vI o, vI c] S post := by
  have hI := h.mi
  have hN := hI.2.1
  refine pg h (fun C h => CL.cons (fun t e => by cases e; rw [h]; exact fun z => by cases z) (CL.cons VOK.i (CL.cons VOK.i (fun a ha => by cases ha)))) (by have := (hI.2.2.2.2.2.1 o hr.1.1 hr.1.2).2.2.2.2.2.2 c hr.2.1 hr.2.2; unfold InR; omega) (fun B N C hC P hP => ⟨?_, get_of (fun hq => ag_shadeOf hC hI ⟨by omega, by omega⟩ ⟨by omega, by omega⟩ hq) (mo_shadeOf) (R' := thr R 0) (f := sdK R o c) ?_ hP⟩) hp
  · have e7 := hC.2.1.2.2.2; omega
  · exact ⟨(if_pos ⟨hr.1.1, hr.1.2, hr.2.1, hr.2.2⟩).symm, rfl, fun _ => rfl⟩
theorem gg_left {xs : Nat → Int} {Ln : Nat} {n : Int} {R S : Sto} {c s : Int} (h : PI xs Ln n R S) (hr : 0 ≤ c ∧ c < 6 ∧ 0 ≤ s ∧ s < 3) {post : Res → Sto → Prop} (hp : post (.inl (some (vI (mg R 22 (3 * c + s))))) S) : frS s_leftI [vT 1, vI c, vI s] S post := by
  have hI := h.mi
  have hN := hI.2.1
  refine pg h (fun C h => CL.cons (fun t e => by cases e; rw [h]; exact fun z => by cases z) (CL.cons VOK.i (CL.cons VOK.i (fun a ha => by cases ha)))) (by have := hI.2.2.2.2.2.2.2 (3 * c + s) (by omega) (by omega); unfold InR; omega) (fun B N C hC P hP => ⟨?_, get_of (fun hq => ag_left hC hI ⟨by omega, by omega⟩ ⟨by omega, by omega⟩ hq) (mo_left) (R' := thr R 0) (f := mg R 22 (3 * c + s)) ?_ hP⟩) hp
  · exact hr
  · exact ⟨(if_pos hr).symm, rfl, fun _ => rfl⟩
theorem gg_mac0 {xs : Nat → Int} {Ln : Nat} {n : Int} {R S : Sto} {i w : Int} (h : PI xs Ln n R S) (hr : (0 ≤ i ∧ i < nM R) ∧ w = 0) {post : Res → Sto → Prop} (hp : post (.inl (some (vI (mg R 17 i)))) S) : frS s_ofMachineI [vT 1, vI i, vI w] S post := by
  have hI := h.mi
  have hN := hI.2.1
  refine pg h (fun C h => CL.cons (fun t e => by cases e; rw [h]; exact fun z => by cases z) (CL.cons VOK.i (CL.cons VOK.i (fun a ha => by cases ha)))) (by have hm := hI.2.2.2.2.1 i hr.1.1 hr.1.2; have := hm.2.2.2.2.2.2.2; have := hm.2.2.2.1; have := hm.2.2.2.2.1; have h6 := hset_lt (fun k k0 k6 => ⟨(hm.2.2.2.2.2.1 k k0 k6).1, (hm.2.2.2.2.2.1 k k0 k6).2.1⟩) (mg R 14 i).toNat (by have := hm.1; omega); unfold InR; omega) (fun B N C hC P hP => ⟨?_, get_of (fun hq => ag_ofMachine hC hI ⟨by omega, by omega⟩ ⟨by omega, by omega⟩ hq) (mo_ofMachine) (R' := thr R 0) (f := mg R 17 i) ?_ hP⟩) hp
  · have e5 := hC.2.1.2.2.1; omega
  · exact ⟨by rw [if_neg (fun z => z hr.1), if_pos (by omega)], rfl, fun _ => by rw [if_pos hr.2]⟩
theorem gg_mac1 {xs : Nat → Int} {Ln : Nat} {n : Int} {R S : Sto} {i w : Int} (h : PI xs Ln n R S) (hr : (0 ≤ i ∧ i < nM R) ∧ w = 1) {post : Res → Sto → Prop} (hp : post (.inl (some (vI (mg R 18 i)))) S) : frS s_ofMachineI [vT 1, vI i, vI w] S post := by
  have hI := h.mi
  have hN := hI.2.1
  refine pg h (fun C h => CL.cons (fun t e => by cases e; rw [h]; exact fun z => by cases z) (CL.cons VOK.i (CL.cons VOK.i (fun a ha => by cases ha)))) (by have hm := hI.2.2.2.2.1 i hr.1.1 hr.1.2; have := hm.2.2.2.2.2.2.2; have := hm.2.2.2.1; have := hm.2.2.2.2.1; have h6 := hset_lt (fun k k0 k6 => ⟨(hm.2.2.2.2.2.1 k k0 k6).1, (hm.2.2.2.2.2.1 k k0 k6).2.1⟩) (mg R 14 i).toNat (by have := hm.1; omega); unfold InR; omega) (fun B N C hC P hP => ⟨?_, get_of (fun hq => ag_ofMachine hC hI ⟨by omega, by omega⟩ ⟨by omega, by omega⟩ hq) (mo_ofMachine) (R' := thr R 0) (f := mg R 18 i) ?_ hP⟩) hp
  · have e5 := hC.2.1.2.2.1; omega
  · exact ⟨by rw [if_neg (fun z => z hr.1), if_pos (by omega)], rfl, fun _ => by rw [if_neg (by omega), if_pos hr.2]⟩
theorem gg_mac2 {xs : Nat → Int} {Ln : Nat} {n : Int} {R S : Sto} {i w : Int} (h : PI xs Ln n R S) (hr : (0 ≤ i ∧ i < nM R) ∧ w = 2) {post : Res → Sto → Prop} (hp : post (.inl (some (vI (((hset R i (mg R 14 i).toNat : Nat) : Int))))) S) : frS s_ofMachineI [vT 1, vI i, vI w] S post := by
  have hI := h.mi
  have hN := hI.2.1
  refine pg h (fun C h => CL.cons (fun t e => by cases e; rw [h]; exact fun z => by cases z) (CL.cons VOK.i (CL.cons VOK.i (fun a ha => by cases ha)))) (by have hm := hI.2.2.2.2.1 i hr.1.1 hr.1.2; have := hm.2.2.2.2.2.2.2; have := hm.2.2.2.1; have := hm.2.2.2.2.1; have h6 := hset_lt (fun k k0 k6 => ⟨(hm.2.2.2.2.2.1 k k0 k6).1, (hm.2.2.2.2.2.1 k k0 k6).2.1⟩) (mg R 14 i).toNat (by have := hm.1; omega); unfold InR; omega) (fun B N C hC P hP => ⟨?_, get_of (fun hq => ag_ofMachine hC hI ⟨by omega, by omega⟩ ⟨by omega, by omega⟩ hq) (mo_ofMachine) (R' := thr R 0) (f := ((hset R i (mg R 14 i).toNat : Nat) : Int)) ?_ hP⟩) hp
  · have e5 := hC.2.1.2.2.1; omega
  · exact ⟨by rw [if_neg (fun z => z hr.1), if_pos (by omega)], rfl, fun _ => by rw [if_neg (by omega), if_neg (by omega), if_pos hr.2]⟩
theorem gg_mac3 {xs : Nat → Int} {Ln : Nat} {n : Int} {R S : Sto} {i w : Int} (h : PI xs Ln n R S) (hr : (0 ≤ i ∧ i < nM R) ∧ w = 3) {post : Res → Sto → Prop} (hp : post (.inl (some (vI (mg R 19 i)))) S) : frS s_ofMachineI [vT 1, vI i, vI w] S post := by
  have hI := h.mi
  have hN := hI.2.1
  refine pg h (fun C h => CL.cons (fun t e => by cases e; rw [h]; exact fun z => by cases z) (CL.cons VOK.i (CL.cons VOK.i (fun a ha => by cases ha)))) (by have hm := hI.2.2.2.2.1 i hr.1.1 hr.1.2; have := hm.2.2.2.2.2.2.2; have := hm.2.2.2.1; have := hm.2.2.2.2.1; have h6 := hset_lt (fun k k0 k6 => ⟨(hm.2.2.2.2.2.1 k k0 k6).1, (hm.2.2.2.2.2.1 k k0 k6).2.1⟩) (mg R 14 i).toNat (by have := hm.1; omega); unfold InR; omega) (fun B N C hC P hP => ⟨?_, get_of (fun hq => ag_ofMachine hC hI ⟨by omega, by omega⟩ ⟨by omega, by omega⟩ hq) (mo_ofMachine) (R' := thr R 0) (f := mg R 19 i) ?_ hP⟩) hp
  · have e5 := hC.2.1.2.2.1; omega
  · exact ⟨by rw [if_neg (fun z => z hr.1), if_pos (by omega)], rfl, fun _ => by rw [if_neg (by omega), if_neg (by omega), if_neg (by omega)]⟩
theorem gg_ord0 {xs : Nat → Int} {Ln : Nat} {n : Int} {R S : Sto} {o w : Int} (h : PI xs Ln n R S) (hr : (0 ≤ o ∧ o < nO R) ∧ w = 0) {post : Res → Sto → Prop} (hp : post (.inl (some (vI (mg R 26 o)))) S) : frS s_ofOrderI [vT 1, vI o, vI w] S post := by
  have hI := h.mi
  have hN := hI.2.1
  refine pg h (fun C h => CL.cons (fun t e => by cases e; rw [h]; exact fun z => by cases z) (CL.cons VOK.i (CL.cons VOK.i (fun a ha => by cases ha)))) (by have hm := hI.2.2.2.2.2.1 o hr.1.1 hr.1.2; have hmn := (hI.2.2.2.1 _ hm.1.1 hm.1.2).mn; have := hm.1; have := hm.2.1; have := hm.2.2.1; have := hm.2.2.2.1; have := hm.2.2.2.2.1; have := hm.2.2.2.2.2.1; unfold InR; omega) (fun B N C hC P hP => ⟨?_, get_of (fun hq => ag_ofOrder hC hI ⟨by omega, by omega⟩ ⟨by omega, by omega⟩ hq) (mo_ofOrder) (R' := thr R 0) (f := mg R 26 o) ?_ hP⟩) hp
  · have e7 := hC.2.1.2.2.2; omega
  · exact ⟨by rw [if_neg (fun z => z hr.1), if_pos (by omega)], rfl, fun _ => by rw [if_pos hr.2]⟩
theorem gg_ord1 {xs : Nat → Int} {Ln : Nat} {n : Int} {R S : Sto} {o w : Int} (h : PI xs Ln n R S) (hr : (0 ≤ o ∧ o < nO R) ∧ w = 1) {post : Res → Sto → Prop} (hp : post (.inl (some (vI (mg R 24 o)))) S) : frS s_ofOrderI [vT 1, vI o, vI w] S post := by
  have hI := h.mi
  have hN := hI.2.1
  refine pg h (fun C h => CL.cons (fun t e => by cases e; rw [h]; exact fun z => by cases z) (CL.cons VOK.i (CL.cons VOK.i (fun a ha => by cases ha)))) (by have hm := hI.2.2.2.2.2.1 o hr.1.1 hr.1.2; have hmn := (hI.2.2.2.1 _ hm.1.1 hm.1.2).mn; have := hm.1; have := hm.2.1; have := hm.2.2.1; have := hm.2.2.2.1; have := hm.2.2.2.2.1; have := hm.2.2.2.2.2.1; unfold InR; omega) (fun B N C hC P hP => ⟨?_, get_of (fun hq => ag_ofOrder hC hI ⟨by omega, by omega⟩ ⟨by omega, by omega⟩ hq) (mo_ofOrder) (R' := thr R 0) (f := mg R 24 o) ?_ hP⟩) hp
  · have e7 := hC.2.1.2.2.2; omega
  · exact ⟨by rw [if_neg (fun z => z hr.1), if_pos (by omega)], rfl, fun _ => by rw [if_neg (by omega), if_pos hr.2]⟩
theorem gg_ord2 {xs : Nat → Int} {Ln : Nat} {n : Int} {R S : Sto} {o w : Int} (h : PI xs Ln n R S) (hr : (0 ≤ o ∧ o < nO R) ∧ w = 2) {post : Res → Sto → Prop} (hp : post (.inl (some (vI (mg R 25 o)))) S) : frS s_ofOrderI [vT 1, vI o, vI w] S post := by
  have hI := h.mi
  have hN := hI.2.1
  refine pg h (fun C h => CL.cons (fun t e => by cases e; rw [h]; exact fun z => by cases z) (CL.cons VOK.i (CL.cons VOK.i (fun a ha => by cases ha)))) (by have hm := hI.2.2.2.2.2.1 o hr.1.1 hr.1.2; have hmn := (hI.2.2.2.1 _ hm.1.1 hm.1.2).mn; have := hm.1; have := hm.2.1; have := hm.2.2.1; have := hm.2.2.2.1; have := hm.2.2.2.2.1; have := hm.2.2.2.2.2.1; unfold InR; omega) (fun B N C hC P hP => ⟨?_, get_of (fun hq => ag_ofOrder hC hI ⟨by omega, by omega⟩ ⟨by omega, by omega⟩ hq) (mo_ofOrder) (R' := thr R 0) (f := mg R 25 o) ?_ hP⟩) hp
  · have e7 := hC.2.1.2.2.2; omega
  · exact ⟨by rw [if_neg (fun z => z hr.1), if_pos (by omega)], rfl, fun _ => by rw [if_neg (by omega), if_neg (by omega), if_pos hr.2]⟩
theorem gg_ord3 {xs : Nat → Int} {Ln : Nat} {n : Int} {R S : Sto} {o w : Int} (h : PI xs Ln n R S) (hr : (0 ≤ o ∧ o < nO R) ∧ w = 3) {post : Res → Sto → Prop} (hp : post (.inl (some (vI (mg R 28 o)))) S) : frS s_ofOrderI [vT 1, vI o, vI w] S post := by
  have hI := h.mi
  have hN := hI.2.1
  refine pg h (fun C h => CL.cons (fun t e => by cases e; rw [h]; exact fun z => by cases z) (CL.cons VOK.i (CL.cons VOK.i (fun a ha => by cases ha)))) (by have hm := hI.2.2.2.2.2.1 o hr.1.1 hr.1.2; have hmn := (hI.2.2.2.1 _ hm.1.1 hm.1.2).mn; have := hm.1; have := hm.2.1; have := hm.2.2.1; have := hm.2.2.2.1; have := hm.2.2.2.2.1; have := hm.2.2.2.2.2.1; unfold InR; omega) (fun B N C hC P hP => ⟨?_, get_of (fun hq => ag_ofOrder hC hI ⟨by omega, by omega⟩ ⟨by omega, by omega⟩ hq) (mo_ofOrder) (R' := thr R 0) (f := mg R 28 o) ?_ hP⟩) hp
  · have e7 := hC.2.1.2.2.2; omega
  · exact ⟨by rw [if_neg (fun z => z hr.1), if_pos (by omega)], rfl, fun _ => by rw [if_neg (by omega), if_neg (by omega), if_neg (by omega), if_pos hr.2]⟩
theorem gg_ord4 {xs : Nat → Int} {Ln : Nat} {n : Int} {R S : Sto} {o w : Int} (h : PI xs Ln n R S) (hr : (0 ≤ o ∧ o < nO R) ∧ w = 4) {post : Res → Sto → Prop} (hp : post (.inl (some (vI (mg R 29 o)))) S) : frS s_ofOrderI [vT 1, vI o, vI w] S post := by
  have hI := h.mi
  have hN := hI.2.1
  refine pg h (fun C h => CL.cons (fun t e => by cases e; rw [h]; exact fun z => by cases z) (CL.cons VOK.i (CL.cons VOK.i (fun a ha => by cases ha)))) (by have hm := hI.2.2.2.2.2.1 o hr.1.1 hr.1.2; have hmn := (hI.2.2.2.1 _ hm.1.1 hm.1.2).mn; have := hm.1; have := hm.2.1; have := hm.2.2.1; have := hm.2.2.2.1; have := hm.2.2.2.2.1; have := hm.2.2.2.2.2.1; unfold InR; omega) (fun B N C hC P hP => ⟨?_, get_of (fun hq => ag_ofOrder hC hI ⟨by omega, by omega⟩ ⟨by omega, by omega⟩ hq) (mo_ofOrder) (R' := thr R 0) (f := mg R 29 o) ?_ hP⟩) hp
  · have e7 := hC.2.1.2.2.2; omega
  · exact ⟨by rw [if_neg (fun z => z hr.1), if_pos (by omega)], rfl, fun _ => by rw [if_neg (by omega), if_neg (by omega), if_neg (by omega), if_neg (by omega), if_pos hr.2]⟩
theorem gg_ord5 {xs : Nat → Int} {Ln : Nat} {n : Int} {R S : Sto} {o w : Int} (h : PI xs Ln n R S) (hr : (0 ≤ o ∧ o < nO R) ∧ w = 5) {post : Res → Sto → Prop} (hp : post (.inl (some (vI (mg R 30 o)))) S) : frS s_ofOrderI [vT 1, vI o, vI w] S post := by
  have hI := h.mi
  have hN := hI.2.1
  refine pg h (fun C h => CL.cons (fun t e => by cases e; rw [h]; exact fun z => by cases z) (CL.cons VOK.i (CL.cons VOK.i (fun a ha => by cases ha)))) (by have hm := hI.2.2.2.2.2.1 o hr.1.1 hr.1.2; have hmn := (hI.2.2.2.1 _ hm.1.1 hm.1.2).mn; have := hm.1; have := hm.2.1; have := hm.2.2.1; have := hm.2.2.2.1; have := hm.2.2.2.2.1; have := hm.2.2.2.2.2.1; unfold InR; omega) (fun B N C hC P hP => ⟨?_, get_of (fun hq => ag_ofOrder hC hI ⟨by omega, by omega⟩ ⟨by omega, by omega⟩ hq) (mo_ofOrder) (R' := thr R 0) (f := mg R 30 o) ?_ hP⟩) hp
  · have e7 := hC.2.1.2.2.2; omega
  · exact ⟨by rw [if_neg (fun z => z hr.1), if_pos (by omega)], rfl, fun _ => by rw [if_neg (by omega), if_neg (by omega), if_neg (by omega), if_neg (by omega), if_neg (by omega), if_pos hr.2]⟩
theorem gg_ord6 {xs : Nat → Int} {Ln : Nat} {n : Int} {R S : Sto} {o w : Int} (h : PI xs Ln n R S) (hr : (0 ≤ o ∧ o < nO R) ∧ w = 6) {post : Res → Sto → Prop} (hp : post (.inl (some (vI (mg R 27 o)))) S) : frS s_ofOrderI [vT 1, vI o, vI w] S post := by
  have hI := h.mi
  have hN := hI.2.1
  refine pg h (fun C h => CL.cons (fun t e => by cases e; rw [h]; exact fun z => by cases z) (CL.cons VOK.i (CL.cons VOK.i (fun a ha => by cases ha)))) (by have hm := hI.2.2.2.2.2.1 o hr.1.1 hr.1.2; have hmn := (hI.2.2.2.1 _ hm.1.1 hm.1.2).mn; have := hm.1; have := hm.2.1; have := hm.2.2.1; have := hm.2.2.2.1; have := hm.2.2.2.2.1; have := hm.2.2.2.2.2.1; unfold InR; omega) (fun B N C hC P hP => ⟨?_, get_of (fun hq => ag_ofOrder hC hI ⟨by omega, by omega⟩ ⟨by omega, by omega⟩ hq) (mo_ofOrder) (R' := thr R 0) (f := mg R 27 o) ?_ hP⟩) hp
  · have e7 := hC.2.1.2.2.2; omega
  · exact ⟨by rw [if_neg (fun z => z hr.1), if_pos (by omega)], rfl, fun _ => by rw [if_neg (by omega), if_neg (by omega), if_neg (by omega), if_neg (by omega), if_neg (by omega), if_neg (by omega)]⟩

/-! THE LAW'S WRAPPERS (by wip/p24/mkq1.py) -/
/-- a call of the class that changes it -/
theorem pw_cls {xs : Nat → Int} {Ln : Nat} {n : Int} {R S : Sto} {opC : Spec} {op : Sto → Int → Int → Sto → Prop} {em : Nat → Int} {ok : Res → Bool} {args : List AV} (AG : ∀ {B : Nat → Nat} {N : Nat} {C : Sto}, CI B N C R → MI n R → SI0 R → ∀ {post : Res → Sto → Prop}, (∀ r S1, ok r = true → tyF C S1 → agC em (op R) r S1 → post r S1) → opC args C post) (hgood : goodO op)
    (hargs : ∀ C : Sto, C.1 1 = some (6, 9) → CL C args) (h : PI xs Ln n R S) (hn : n + 1 ≤ 15000) (hx : ∃ k v R', op R k v R') {post : Res → Sto → Prop} (hp : ∀ r S1 k v R', ok r = true → op R k v R' → agA em k v r → PI xs Ln (n + 1) R' S1 → S1.2.1 3 = S.2.1 3 → post (nrm r) S1) : frS opC args S post := by
  obtain ⟨C, ⟨a1, a2⟩, b, d, ⟨e1, e2, e3⟩, hI, h0, B, N, hC⟩ := h
  obtain ⟨k, v, R', ho⟩ := hx
  obtain ⟨hI', h0', -, -⟩ := hgood n R k v R' hI h0 hn ho
  refine ⟨C, a1, a2, hargs C hC.1.1, AG hC hI h0 fun r C' hok hty hag => ⟨fun t t1 t2 => ?_, fun hcl hex => ?_⟩⟩
  · rcases d t t2 with z | z
    · exact absurd t1 z
    · rw [hty t z]; exact t1
  · obtain ⟨ha, B', N', hC'⟩ := hag k v R' ho
    have hF : ∀ t, inF t → C'.1 t = none := fun t ht => by rw [hty t ht]; exact b t ht
    refine hp r _ k v R' hok ho ha ⟨C', ⟨fun t x e => ovS_s e, hcl⟩, hF, fun t ht => ?_, ⟨?_, ?_, fun j => ?_⟩, hI', h0', B', N', hC'⟩ (ovS_n (hF 3 (by omega))).2.1
    · cases e9 : C'.1 t with
      | some x => exact Or.inl (by rw [e9] at *; exact fun z => by cases z)
      | none =>
        rw [(ovS_n e9).1] at ht
        rcases d t ht with z | z
        · cases e8 : C.1 t with
          | none => exact absurd e8 z
          | some y => rw [hex t y e8] at e9; cases e9
        · exact Or.inr z
    · rw [(ovS_n (hF 3 (by omega))).1]; exact e1
    · rw [(ovS_n (hF 10 (by omega))).1]; exact e2
    · rw [(ovS_n (hF 10 (by omega))).2.1]; exact e3 j
def wP (spec : Spec) (args : List AV) (S : Sto) (post : Res → Sto → Prop) : Prop := (∃ n, S.1 1 = some (6, n)) ∧ ∀ post' : Res → Sto → Prop, (∀ v S1, InR v → post (.inl (some (vI v))) S1 → post' (.inl (some (vI v))) S1) → (∀ S1, post (.inl (some (vI (-2)))) S1 → post' (.inr 2) S1) → frS spec args S post'
def wP0 (spec : Spec) (args : List AV) (S : Sto) (post : Res → Sto → Prop) : Prop := (∃ n, S.1 1 = some (6, n)) ∧ ∀ post' : Res → Sto → Prop, (∀ S1, post (.inl (some (vI 0))) S1 → post' (.inl none) S1) → (∀ S1, post (.inl (some (vI (-2)))) S1 → post' (.inr 2) S1) → frS spec args S post'
def handF (N : Nat) : Nat → Nat → Option Int := fun ee pc => if pc < N ∧ ee = 2 then some (-2) else none
theorem handF_t {N pc : Nat} (h : pc < N) : handF N 2 pc = some (-2) := if_pos ⟨h, rfl⟩
theorem handF_e {N ee pc : Nat} {z : Int} (h : handF N ee pc = some z) : pc < N ∧ ee = 2 ∧ z = -2 := by
  unfold handF at h
  by_cases e : pc < N ∧ ee = 2
  · rw [if_pos e] at h; exact ⟨e.1, e.2, (Option.some.inj h).symm⟩
  · rw [if_neg e] at h; cases h
def s_wshapes : Spec := fun as S post => match as with
  | [.inr (.inr (some 1)), .inl a1, .inl a2, .inl a3, .inl a4, .inl a5, .inl a6] => wP s_shapeC [vT 1, vI a1, vI a2, vI a3, vI a4, vI a5, vI a6] S post
  | _ => False
def spL_shapes : Nat → CD := spF mdL_shapes fun i => match i with
  | 1 => (frS s_shapeC, 2, 22, 12)
  | _ => noR
set_option maxHeartbeats 4000000 in
set_option maxRecDepth 100000 in
theorem hdL_shapes : ∀ ee pc z, handF 13 ee pc = some z → handAt RL cL_shapes 8 hhL_shapes ee pc z := by
  intro ee pc z h
  obtain ⟨h1, rfl, rfl⟩ := handF_e h
  exact ⟨[], [], (0, 13, 14, 16), 7, 2, rfl, (fun w hw => by cases hw), ⟨Nat.zero_le _, h1⟩, by decide, (List.mem_of_getElem? (i := 226) (by decide +kernel)), (List.mem_of_getElem? (i := 196) (by decide +kernel)), Or.inl ⟨by decide +kernel, rfl⟩, by decide, ⟨by decide +kernel, by decide +kernel⟩, by decide +kernel⟩
set_option maxHeartbeats 4000000 in
set_option maxRecDepth 100000 in
theorem satH_shapes : SatH mL_shapes hhL_shapes s_wshapes 2 22 13 := by
  refine satH_of (E := eL_shapes) (sp := spL_shapes) (hand := handF 13) (by decide +kernel) rfl okL_shapes (fun i => match i with
    | 1 => ⟨frS_sat sat_X6_shape, Nat.le_of_ble_eq_true rfl⟩
    | i + 2 => ⟨sat_no _, Nat.le_of_ble_eq_true rfl⟩
    | 0 => ⟨sat_no _, Nat.le_of_ble_eq_true rfl⟩) hdL_shapes ?_
  intro as S post h
  match as, h with
  | [.inr (.inr (some 1)), .inl a1, .inl a2, .inl a3, .inl a4, .inl a5, .inl a6], h =>
    obtain ⟨h1, h⟩ := h
    refine ⟨rfl, 60, ?_⟩
    repeat' (first
        | omega
        | with_reducible apply And.intro
        | intro c9
        | exact h1
        | refine h _ (fun v S1 i1 i2 => ?_) (fun S1 i1 => ?_)
        | exact kr_i ( i2 ) (Nat.le_of_ble_eq_true rfl) (Nat.le_of_ble_eq_true rfl)
        | exact ⟨_, handF_t (by omega), i1, Nat.le_of_ble_eq_true rfl, Nat.le_of_ble_eq_true rfl⟩
        | refine Exists.intro _ (And.intro rfl ?_)
        | ((with_reducible show wp _ _ _ _ _ _ _ _ _ _ _ _ _ _); conv => whnf)
        | ((with_reducible show callK _ _ _ _ _ _ _ _ _); conv => whnf)
        | ((with_reducible show condK _ _ _ _ _); conv => whnf)
        | ((with_reducible show st1 _ _ _ _ _ _ _ _ _ _ _ _); conv => whnf)
        | ((with_reducible show (Prod.fst _ : Spec) _ _ _); conv => whnf)
        | ((with_reducible show shortK _ _); conv => whnf)
        | exact Nat.le_of_ble_eq_true rfl)
def s_wdesigns : Spec := fun as S post => match as with
  | [.inr (.inr (some 1))] => wP s_designC [vT 1] S post
  | _ => False
def spL_designs : Nat → CD := spF mdL_designs fun i => match i with
  | 1 => (frS s_designC, 8, 3178, 12)
  | _ => noR
set_option maxHeartbeats 4000000 in
set_option maxRecDepth 100000 in
theorem hdL_designs : ∀ ee pc z, handF 4 ee pc = some z → handAt RL cL_designs 2 hhL_designs ee pc z := by
  intro ee pc z h
  obtain ⟨h1, rfl, rfl⟩ := handF_e h
  exact ⟨[], [], (0, 4, 5, 16), 1, 1, rfl, (fun w hw => by cases hw), ⟨Nat.zero_le _, h1⟩, by decide, (List.mem_of_getElem? (i := 226) (by decide +kernel)), (List.mem_of_getElem? (i := 196) (by decide +kernel)), Or.inr ⟨1, by decide +kernel, rfl, rfl⟩, by decide, ⟨by decide +kernel, by decide +kernel⟩, by decide +kernel⟩
set_option maxHeartbeats 4000000 in
set_option maxRecDepth 100000 in
theorem satH_designs : SatH mL_designs hhL_designs s_wdesigns 8 3178 13 := by
  refine satH_of (E := eL_designs) (sp := spL_designs) (hand := handF 4) (by decide +kernel) rfl okL_designs (fun i => match i with
    | 1 => ⟨frS_sat sat_X6_design, Nat.le_of_ble_eq_true rfl⟩
    | i + 2 => ⟨sat_no _, Nat.le_of_ble_eq_true rfl⟩
    | 0 => ⟨sat_no _, Nat.le_of_ble_eq_true rfl⟩) hdL_designs ?_
  intro as S post h
  match as, h with
  | [.inr (.inr (some 1))], h =>
    obtain ⟨h1, h⟩ := h
    refine ⟨rfl, 60, ?_⟩
    repeat' (first
        | omega
        | with_reducible apply And.intro
        | intro c9
        | exact h1
        | refine h _ (fun v S1 i1 i2 => ?_) (fun S1 i1 => ?_)
        | exact kr_i ( i2 ) (Nat.le_of_ble_eq_true rfl) (Nat.le_of_ble_eq_true rfl)
        | exact ⟨_, handF_t (by omega), i1, Nat.le_of_ble_eq_true rfl, Nat.le_of_ble_eq_true rfl⟩
        | refine Exists.intro _ (And.intro rfl ?_)
        | ((with_reducible show wp _ _ _ _ _ _ _ _ _ _ _ _ _ _); conv => whnf)
        | ((with_reducible show callK _ _ _ _ _ _ _ _ _); conv => whnf)
        | ((with_reducible show condK _ _ _ _ _); conv => whnf)
        | ((with_reducible show st1 _ _ _ _ _ _ _ _ _ _ _ _); conv => whnf)
        | ((with_reducible show (Prod.fst _ : Spec) _ _ _); conv => whnf)
        | ((with_reducible show shortK _ _); conv => whnf)
        | exact Nat.le_of_ble_eq_true rfl)
def s_wmachines : Spec := fun as S post => match as with
  | [.inr (.inr (some 1)), .inl a1, .inl a2, .inl a3] => wP s_machineC [vT 1, vI a1, vI a2, vI a3] S post
  | _ => False
def spL_machines : Nat → CD := spF mdL_machines fun i => match i with
  | 1 => (frS s_machineC, 2, 24, 12)
  | _ => noR
set_option maxHeartbeats 4000000 in
set_option maxRecDepth 100000 in
theorem hdL_machines : ∀ ee pc z, handF 7 ee pc = some z → handAt RL cL_machines 5 hhL_machines ee pc z := by
  intro ee pc z h
  obtain ⟨h1, rfl, rfl⟩ := handF_e h
  exact ⟨[], [], (0, 7, 8, 16), 4, 2, rfl, (fun w hw => by cases hw), ⟨Nat.zero_le _, h1⟩, by decide, (List.mem_of_getElem? (i := 226) (by decide +kernel)), (List.mem_of_getElem? (i := 196) (by decide +kernel)), Or.inl ⟨by decide +kernel, rfl⟩, by decide, ⟨by decide +kernel, by decide +kernel⟩, by decide +kernel⟩
set_option maxHeartbeats 4000000 in
set_option maxRecDepth 100000 in
theorem satH_machines : SatH mL_machines hhL_machines s_wmachines 2 24 13 := by
  refine satH_of (E := eL_machines) (sp := spL_machines) (hand := handF 7) (by decide +kernel) rfl okL_machines (fun i => match i with
    | 1 => ⟨frS_sat sat_X6_machine, Nat.le_of_ble_eq_true rfl⟩
    | i + 2 => ⟨sat_no _, Nat.le_of_ble_eq_true rfl⟩
    | 0 => ⟨sat_no _, Nat.le_of_ble_eq_true rfl⟩) hdL_machines ?_
  intro as S post h
  match as, h with
  | [.inr (.inr (some 1)), .inl a1, .inl a2, .inl a3], h =>
    obtain ⟨h1, h⟩ := h
    refine ⟨rfl, 60, ?_⟩
    repeat' (first
        | omega
        | with_reducible apply And.intro
        | intro c9
        | exact h1
        | refine h _ (fun v S1 i1 i2 => ?_) (fun S1 i1 => ?_)
        | exact kr_i ( i2 ) (Nat.le_of_ble_eq_true rfl) (Nat.le_of_ble_eq_true rfl)
        | exact ⟨_, handF_t (by omega), i1, Nat.le_of_ble_eq_true rfl, Nat.le_of_ble_eq_true rfl⟩
        | refine Exists.intro _ (And.intro rfl ?_)
        | ((with_reducible show wp _ _ _ _ _ _ _ _ _ _ _ _ _ _); conv => whnf)
        | ((with_reducible show callK _ _ _ _ _ _ _ _ _); conv => whnf)
        | ((with_reducible show condK _ _ _ _ _); conv => whnf)
        | ((with_reducible show st1 _ _ _ _ _ _ _ _ _ _ _ _); conv => whnf)
        | ((with_reducible show (Prod.fst _ : Spec) _ _ _); conv => whnf)
        | ((with_reducible show shortK _ _); conv => whnf)
        | exact Nat.le_of_ble_eq_true rfl)
def s_worders : Spec := fun as S post => match as with
  | [.inr (.inr (some 1)), .inl a1, .inl a2] => wP s_orderC [vT 1, vI a1, vI a2] S post
  | _ => False
def spL_orders : Nat → CD := spF mdL_orders fun i => match i with
  | 1 => (frS s_orderC, 3, 30, 12)
  | _ => noR
set_option maxHeartbeats 4000000 in
set_option maxRecDepth 100000 in
theorem hdL_orders : ∀ ee pc z, handF 6 ee pc = some z → handAt RL cL_orders 4 hhL_orders ee pc z := by
  intro ee pc z h
  obtain ⟨h1, rfl, rfl⟩ := handF_e h
  exact ⟨[], [], (0, 6, 7, 16), 3, 1, rfl, (fun w hw => by cases hw), ⟨Nat.zero_le _, h1⟩, by decide, (List.mem_of_getElem? (i := 226) (by decide +kernel)), (List.mem_of_getElem? (i := 196) (by decide +kernel)), Or.inr ⟨3, by decide +kernel, rfl, rfl⟩, by decide, ⟨by decide +kernel, by decide +kernel⟩, by decide +kernel⟩
set_option maxHeartbeats 4000000 in
set_option maxRecDepth 100000 in
theorem satH_orders : SatH mL_orders hhL_orders s_worders 3 30 13 := by
  refine satH_of (E := eL_orders) (sp := spL_orders) (hand := handF 6) (by decide +kernel) rfl okL_orders (fun i => match i with
    | 1 => ⟨frS_sat sat_X6_order, Nat.le_of_ble_eq_true rfl⟩
    | i + 2 => ⟨sat_no _, Nat.le_of_ble_eq_true rfl⟩
    | 0 => ⟨sat_no _, Nat.le_of_ble_eq_true rfl⟩) hdL_orders ?_
  intro as S post h
  match as, h with
  | [.inr (.inr (some 1)), .inl a1, .inl a2], h =>
    obtain ⟨h1, h⟩ := h
    refine ⟨rfl, 60, ?_⟩
    repeat' (first
        | omega
        | with_reducible apply And.intro
        | intro c9
        | exact h1
        | refine h _ (fun v S1 i1 i2 => ?_) (fun S1 i1 => ?_)
        | exact kr_i ( i2 ) (Nat.le_of_ble_eq_true rfl) (Nat.le_of_ble_eq_true rfl)
        | exact ⟨_, handF_t (by omega), i1, Nat.le_of_ble_eq_true rfl, Nat.le_of_ble_eq_true rfl⟩
        | refine Exists.intro _ (And.intro rfl ?_)
        | ((with_reducible show wp _ _ _ _ _ _ _ _ _ _ _ _ _ _); conv => whnf)
        | ((with_reducible show callK _ _ _ _ _ _ _ _ _); conv => whnf)
        | ((with_reducible show condK _ _ _ _ _); conv => whnf)
        | ((with_reducible show st1 _ _ _ _ _ _ _ _ _ _ _ _); conv => whnf)
        | ((with_reducible show (Prod.fst _ : Spec) _ _ _); conv => whnf)
        | ((with_reducible show shortK _ _); conv => whnf)
        | exact Nat.le_of_ble_eq_true rfl)
def s_wstarts : Spec := fun as S post => match as with
  | [.inr (.inr (some 1)), .inl a1, .inl a2] => wP0 s_startC [vT 1, vI a1, vI a2] S post
  | _ => False
def spL_starts : Nat → CD := spF mdL_starts fun i => match i with
  | 1 => (frS s_startC, 3, 18, 12)
  | _ => noR
set_option maxHeartbeats 4000000 in
set_option maxRecDepth 100000 in
theorem hdL_starts : ∀ ee pc z, handF 7 ee pc = some z → handAt RL cL_starts 4 hhL_starts ee pc z := by
  intro ee pc z h
  obtain ⟨h1, rfl, rfl⟩ := handF_e h
  exact ⟨[], [], (0, 7, 8, 16), 3, 1, rfl, (fun w hw => by cases hw), ⟨Nat.zero_le _, h1⟩, by decide, (List.mem_of_getElem? (i := 226) (by decide +kernel)), (List.mem_of_getElem? (i := 196) (by decide +kernel)), Or.inr ⟨3, by decide +kernel, rfl, rfl⟩, by decide, ⟨by decide +kernel, by decide +kernel⟩, by decide +kernel⟩
set_option maxHeartbeats 4000000 in
set_option maxRecDepth 100000 in
theorem satH_starts : SatH mL_starts hhL_starts s_wstarts 3 18 13 := by
  refine satH_of (E := eL_starts) (sp := spL_starts) (hand := handF 7) (by decide +kernel) rfl okL_starts (fun i => match i with
    | 1 => ⟨frS_sat sat_X6_start, Nat.le_of_ble_eq_true rfl⟩
    | i + 2 => ⟨sat_no _, Nat.le_of_ble_eq_true rfl⟩
    | 0 => ⟨sat_no _, Nat.le_of_ble_eq_true rfl⟩) hdL_starts ?_
  intro as S post h
  match as, h with
  | [.inr (.inr (some 1)), .inl a1, .inl a2], h =>
    obtain ⟨h1, h⟩ := h
    refine ⟨rfl, 60, ?_⟩
    repeat' (first
        | omega
        | with_reducible apply And.intro
        | intro c9
        | exact h1
        | refine h _ (fun S1 i2 => ?_) (fun S1 i1 => ?_)
        | exact kr_i ( i2 ) (Nat.le_of_ble_eq_true rfl) (Nat.le_of_ble_eq_true rfl)
        | exact ⟨_, handF_t (by omega), i1, Nat.le_of_ble_eq_true rfl, Nat.le_of_ble_eq_true rfl⟩
        | refine Exists.intro _ (And.intro rfl ?_)
        | ((with_reducible show wp _ _ _ _ _ _ _ _ _ _ _ _ _ _); conv => whnf)
        | ((with_reducible show callK _ _ _ _ _ _ _ _ _); conv => whnf)
        | ((with_reducible show condK _ _ _ _ _); conv => whnf)
        | ((with_reducible show st1 _ _ _ _ _ _ _ _ _ _ _ _); conv => whnf)
        | ((with_reducible show (Prod.fst _ : Spec) _ _ _); conv => whnf)
        | ((with_reducible show shortK _ _); conv => whnf)
        | exact Nat.le_of_ble_eq_true rfl)
def s_wacts : Spec := fun as S post => match as with
  | [.inr (.inr (some 1)), .inl a1, .inl a2, .inl a3, .inl a4] => (a4 = 0 → wP s_runC [vT 1, vI a1, vI a2] S post) ∧ (a4 = 1 → wP s_snapC [vT 1, vI a1] S post) ∧ (a4 = 2 → wP s_matchC [vT 1, vI a1, vI a2, vI a3] S post) ∧ (a4 = 3 → wP s_cancelC [vT 1, vI a1] S post) ∧ 0 ≤ a4 ∧ a4 ≤ 3
  | _ => False
def spL_acts : Nat → CD := spF mdL_acts fun i => match i with
  | 1 => (frS s_runC, 2, 12, 12)
  | 2 => (frS s_snapC, 2, 12, 12)
  | 3 => (frS s_matchC, 2, 12, 12)
  | 4 => (frS s_cancelC, 2, 12, 12)
  | _ => noR
set_option maxHeartbeats 4000000 in
set_option maxRecDepth 100000 in
theorem hdL_acts : ∀ ee pc z, handF 49 ee pc = some z → handAt RL cL_acts 6 hhL_acts ee pc z := by
  intro ee pc z h
  obtain ⟨h1, rfl, rfl⟩ := handF_e h
  exact ⟨[], [], (0, 49, 50, 16), 5, 2, rfl, (fun w hw => by cases hw), ⟨Nat.zero_le _, h1⟩, by decide, (List.mem_of_getElem? (i := 226) (by decide +kernel)), (List.mem_of_getElem? (i := 196) (by decide +kernel)), Or.inl ⟨by decide +kernel, rfl⟩, by decide, ⟨by decide +kernel, by decide +kernel⟩, by decide +kernel⟩
set_option maxHeartbeats 4000000 in
set_option maxRecDepth 100000 in
theorem satH_acts : SatH mL_acts hhL_acts s_wacts 2 12 13 := by
  refine satH_of (E := eL_acts) (sp := spL_acts) (hand := handF 49) (by decide +kernel) rfl okL_acts (fun i => match i with
    | 1 => ⟨frS_sat sat_X6_run, Nat.le_of_ble_eq_true rfl⟩
    | 2 => ⟨frS_sat sat_X6_snap, Nat.le_of_ble_eq_true rfl⟩
    | 3 => ⟨frS_sat sat_X6_match, Nat.le_of_ble_eq_true rfl⟩
    | 4 => ⟨frS_sat sat_X6_cancel, Nat.le_of_ble_eq_true rfl⟩
    | i + 5 => ⟨sat_no _, Nat.le_of_ble_eq_true rfl⟩
    | 0 => ⟨sat_no _, Nat.le_of_ble_eq_true rfl⟩) hdL_acts ?_
  intro as S post h
  match as, h with
  | [.inr (.inr (some 1)), .inl a1, .inl a2, .inl a3, .inl a4], h =>
    obtain ⟨g0, g1, g2, g3, g4⟩ := h
    rcases (show a4 = 0 ∨ a4 = 1 ∨ a4 = 2 ∨ a4 = 3 by omega) with e | e | e | e
    · obtain ⟨h1, h⟩ := g0 e
      refine ⟨rfl, 60, ?_⟩
      repeat' (first
          | omega
          | with_reducible apply And.intro
          | intro c9
          | exact h1
          | refine h _ (fun v S1 i1 i2 => ?_) (fun S1 i1 => ?_)
          | exact kr_i ( i2 ) (Nat.le_of_ble_eq_true rfl) (Nat.le_of_ble_eq_true rfl)
          | exact ⟨_, handF_t (by omega), i1, Nat.le_of_ble_eq_true rfl, Nat.le_of_ble_eq_true rfl⟩
          | refine Exists.intro _ (And.intro rfl ?_)
          | ((with_reducible show wp _ _ _ _ _ _ _ _ _ _ _ _ _ _); conv => whnf)
          | ((with_reducible show callK _ _ _ _ _ _ _ _ _); conv => whnf)
          | ((with_reducible show condK _ _ _ _ _); conv => whnf)
          | ((with_reducible show st1 _ _ _ _ _ _ _ _ _ _ _ _); conv => whnf)
          | ((with_reducible show (Prod.fst _ : Spec) _ _ _); conv => whnf)
          | ((with_reducible show shortK _ _); conv => whnf)
          | exact Nat.le_of_ble_eq_true rfl)
    · obtain ⟨h1, h⟩ := g1 e
      refine ⟨rfl, 60, ?_⟩
      repeat' (first
          | omega
          | with_reducible apply And.intro
          | intro c9
          | exact h1
          | refine h _ (fun v S1 i1 i2 => ?_) (fun S1 i1 => ?_)
          | exact kr_i ( i2 ) (Nat.le_of_ble_eq_true rfl) (Nat.le_of_ble_eq_true rfl)
          | exact ⟨_, handF_t (by omega), i1, Nat.le_of_ble_eq_true rfl, Nat.le_of_ble_eq_true rfl⟩
          | refine Exists.intro _ (And.intro rfl ?_)
          | ((with_reducible show wp _ _ _ _ _ _ _ _ _ _ _ _ _ _); conv => whnf)
          | ((with_reducible show callK _ _ _ _ _ _ _ _ _); conv => whnf)
          | ((with_reducible show condK _ _ _ _ _); conv => whnf)
          | ((with_reducible show st1 _ _ _ _ _ _ _ _ _ _ _ _); conv => whnf)
          | ((with_reducible show (Prod.fst _ : Spec) _ _ _); conv => whnf)
          | ((with_reducible show shortK _ _); conv => whnf)
          | exact Nat.le_of_ble_eq_true rfl)
    · obtain ⟨h1, h⟩ := g2 e
      refine ⟨rfl, 60, ?_⟩
      repeat' (first
          | omega
          | with_reducible apply And.intro
          | intro c9
          | exact h1
          | refine h _ (fun v S1 i1 i2 => ?_) (fun S1 i1 => ?_)
          | exact kr_i ( i2 ) (Nat.le_of_ble_eq_true rfl) (Nat.le_of_ble_eq_true rfl)
          | exact ⟨_, handF_t (by omega), i1, Nat.le_of_ble_eq_true rfl, Nat.le_of_ble_eq_true rfl⟩
          | refine Exists.intro _ (And.intro rfl ?_)
          | ((with_reducible show wp _ _ _ _ _ _ _ _ _ _ _ _ _ _); conv => whnf)
          | ((with_reducible show callK _ _ _ _ _ _ _ _ _); conv => whnf)
          | ((with_reducible show condK _ _ _ _ _); conv => whnf)
          | ((with_reducible show st1 _ _ _ _ _ _ _ _ _ _ _ _); conv => whnf)
          | ((with_reducible show (Prod.fst _ : Spec) _ _ _); conv => whnf)
          | ((with_reducible show shortK _ _); conv => whnf)
          | exact Nat.le_of_ble_eq_true rfl)
    · obtain ⟨h1, h⟩ := g3 e
      refine ⟨rfl, 60, ?_⟩
      repeat' (first
          | omega
          | with_reducible apply And.intro
          | intro c9
          | exact h1
          | refine h _ (fun v S1 i1 i2 => ?_) (fun S1 i1 => ?_)
          | exact kr_i ( i2 ) (Nat.le_of_ble_eq_true rfl) (Nat.le_of_ble_eq_true rfl)
          | exact ⟨_, handF_t (by omega), i1, Nat.le_of_ble_eq_true rfl, Nat.le_of_ble_eq_true rfl⟩
          | refine Exists.intro _ (And.intro rfl ?_)
          | ((with_reducible show wp _ _ _ _ _ _ _ _ _ _ _ _ _ _); conv => whnf)
          | ((with_reducible show callK _ _ _ _ _ _ _ _ _); conv => whnf)
          | ((with_reducible show condK _ _ _ _ _); conv => whnf)
          | ((with_reducible show st1 _ _ _ _ _ _ _ _ _ _ _ _); conv => whnf)
          | ((with_reducible show (Prod.fst _ : Spec) _ _ _); conv => whnf)
          | ((with_reducible show shortK _ _); conv => whnf)
          | exact Nat.le_of_ble_eq_true rfl)
theorem pw_gen {xs : Nat → Int} {Ln : Nat} {n : Int} {R S : Sto} {opC : Spec} {op : Sto → Int → Int → Sto → Prop} {em : Nat → Int} {ex : List Nat} {args : List AV} (AG : ∀ {B : Nat → Nat} {N : Nat} {C : Sto}, CI B N C R → MI n R → SI0 R → ∀ {post : Res → Sto → Prop}, (∀ r S1, okr ex r = true → tyF C S1 → agC em (op R) r S1 → post r S1) → opC args C post) (hgood : goodO op) (hargs : ∀ C : Sto, C.1 1 = some (6, 9) → CL C args) (h : PI xs Ln n R S) (hn : n + 1 ≤ 15000) (hx : ∃ k v R', op R k v R') (hx2 : ∀ e : Nat, ex.contains e = true → ∀ k v R', op R k v R' → k = em e → e = 2 ∧ k ≠ 0) {post : Res → Sto → Prop} (h2 : ∀ S1 k v R', op R k v R' → k ≠ 0 → PI xs Ln (n + 1) R' S1 → S1.2.1 3 = S.2.1 3 → post (.inl (some (vI (-2)))) S1) (h0 : ∀ S1 v R', op R 0 v R' → PI xs Ln (n + 1) R' S1 → S1.2.1 3 = S.2.1 3 → InR v ∧ post (.inl (some (vI v))) S1) : wP opC args S post := by
  refine ⟨⟨9, h.t1⟩, fun post' p1 p2 => ?_⟩
  refine pw_cls (op := op) (em := em) (ok := okr ex) AG hgood hargs h hn hx fun r S1 k v R' hok ho ha hP h3 => ?_
  match r, hok, ha with
  | .inl (some (.inl x)), _, ha =>
    obtain ⟨rfl, rfl⟩ := ha
    obtain ⟨q1, q2⟩ := h0 S1 v R' ho hP h3
    have e : nrm (.inl (some (.inl v))) = .inl (some (vI (wr v))) := rfl
    rw [e, wr_id q1]
    exact p1 v S1 q1 q2
  | .inr e, hok, ha =>
    obtain ⟨rfl, hk⟩ := hx2 e hok k v R' ho ha
    exact p2 S1 (h2 S1 k v R' ho hk hP h3)
theorem pw_gen0 {xs : Nat → Int} {Ln : Nat} {n : Int} {R S : Sto} {opC : Spec} {op : Sto → Int → Int → Sto → Prop} {em : Nat → Int} {ex : List Nat} {args : List AV} (AG : ∀ {B : Nat → Nat} {N : Nat} {C : Sto}, CI B N C R → MI n R → SI0 R → ∀ {post : Res → Sto → Prop}, (∀ r S1, okv ex r = true → tyF C S1 → agC em (op R) r S1 → post r S1) → opC args C post) (hgood : goodO op) (hargs : ∀ C : Sto, C.1 1 = some (6, 9) → CL C args) (h : PI xs Ln n R S) (hn : n + 1 ≤ 15000) (hx : ∃ k v R', op R k v R') (hx2 : ∀ e : Nat, ex.contains e = true → ∀ k v R', op R k v R' → k = em e → e = 2 ∧ k ≠ 0) {post : Res → Sto → Prop} (h2 : ∀ S1 k v R', op R k v R' → k ≠ 0 → PI xs Ln (n + 1) R' S1 → S1.2.1 3 = S.2.1 3 → post (.inl (some (vI (-2)))) S1) (h0 : ∀ S1 v R', op R 0 v R' → PI xs Ln (n + 1) R' S1 → S1.2.1 3 = S.2.1 3 → post (.inl (some (vI 0))) S1) : wP0 opC args S post := by
  refine ⟨⟨9, h.t1⟩, fun post' p1 p2 => ?_⟩
  refine pw_cls (op := op) (em := em) (ok := okv ex) AG hgood hargs h hn hx fun r S1 k v R' hok ho ha hP h3 => ?_
  match r, hok, ha with
  | .inl none, _, ha =>
    have hk : k = 0 := ha
    subst hk
    exact p1 S1 (h0 S1 v R' ho hP h3)
  | .inr e, hok, ha =>
    obtain ⟨rfl, hk⟩ := hx2 e hok k v R' ho ha
    exact p2 S1 (h2 S1 k v R' ho hk hP h3)
theorem pw_shapes {xs : Nat → Int} {Ln : Nat} {n : Int} {R S : Sto} {i c x y w g : Int} (h : PI xs Ln n R S) (hn : n + 1 ≤ 15000) (hr : (0 ≤ i ∧ i ≤ 1 ∧ 0 ≤ c ∧ c < 6) ∧ 0 ≤ x ∧ x ≤ 15 ∧ 0 ≤ y ∧ y ≤ 15 ∧ 1 ≤ w ∧ w ≤ 16 - x ∧ 1 ≤ g ∧ g ≤ 16 - y) {post : Res → Sto → Prop} (h2 : shN R 6 = 7 → ∀ S1, PI xs Ln (n + 1) (thr R 3) S1 → S1.2.1 3 = S.2.1 3 → post (.inl (some (vI (-2)))) S1) (h0 : ∀ S1 R', PI xs Ln (n + 1) R' S1 → S1.2.1 3 = S.2.1 3 → shN R 6 ≠ 7 → cntR R' (shN R 6 + 1) (nD R) (nM R) (nO R) → (∀ b, QI R b → QI R' b) → post (.inl (some (vI (shN R 6 + 1)))) S1) : wP s_shapeC [vT 1, vI i, vI c, vI x, vI y, vI w, vI g] S post := by
  have hI := h.mi
  have hN := hI.2.1
  refine pw_gen (op := fun R => shapeR R i c x y w g) (em := em1) (ex := [0, 1, 2]) (fun hC hI hS0 _ hq => ag_shape hC hI ⟨by omega, by omega⟩ ⟨by omega, by omega⟩ ⟨by omega, by omega⟩ ⟨by omega, by omega⟩ ⟨by omega, by omega⟩ ⟨by omega, by omega⟩ hq) good_shape (fun C h => CL.cons (fun t e => by cases e; rw [h]; exact fun z => by cases z) (CL.cons VOK.i (CL.cons VOK.i (CL.cons VOK.i (CL.cons VOK.i (CL.cons VOK.i (CL.cons VOK.i (fun a ha => by cases ha)))))))) h hn (ex_shape R i c x y w g) (fun e hok k v R' ho hk => ?_) (fun S1 k v R' ho k0 hP h3 => ?_) (fun S1 v R' ho hP h3 => ?_)
  · have hk9 : k = 0 ∨ k = 3 := by
      rcases op_shape hr ho with z | z
      · exact Or.inr z.1
      · exact Or.inl z.1
    simp only [List.contains_cons, List.contains_nil, Bool.or_false, Bool.or_eq_true, beq_iff_eq] at hok
    unfold em1 at hk <;> omega
  · rcases op_shape hr ho with ⟨-, f9, e9⟩ | z
    · subst e9
      exact h2 f9 S1 hP h3
    · exact absurd z.1 k0
  · rcases op_shape hr ho with z | ⟨-, f1, hv, f2, f3⟩
    · have := z.1
      omega
    · have hs := hI.2.2.1
      have hs0 := hs.1
      have hs7 := hs.2.1
      subst hv
      exact ⟨⟨by omega, by omega⟩, h0 S1 R' hP h3 f1 f2 f3⟩
theorem pw_designs {xs : Nat → Int} {Ln : Nat} {n : Int} {R S : Sto} (h : PI xs Ln n R S) (hn : n + 1 ≤ 15000) {post : Res → Sto → Prop} (h2 : (shN R 6 = 0 ∨ nD R = 6) → ∀ S1, PI xs Ln (n + 1) (thr R 1) S1 → S1.2.1 3 = S.2.1 3 → post (.inl (some (vI (-2)))) S1) (h0 : ∀ S1 R', PI xs Ln (n + 1) R' S1 → S1.2.1 3 = S.2.1 3 → ¬ (shN R 6 = 0 ∨ nD R = 6) → cntR R' (0) (nD R + 1) (nM R) (nO R) → shN R' (nD R) = shN R 6 → (∀ b, QI R b → QI R' b) → post (.inl (some (vI (nD R)))) S1) : wP s_designC [vT 1] S post := by
  have hI := h.mi
  have hN := hI.2.1
  refine pw_gen (op := designR) (em := em3) (ex := [2]) (fun hC hI hS0 _ hq => ag_design hC hI hq) good_design (fun C h => CL.cons (fun t e => by cases e; rw [h]; exact fun z => by cases z) (fun a ha => by cases ha)) h hn (ex_design hI) (fun e hok k v R' ho hk => ?_) (fun S1 k v R' ho k0 hP h3 => ?_) (fun S1 v R' ho hP h3 => ?_)
  · have hk9 : k = 0 ∨ k = 1 := by
      rcases op_design hI ho with z | z
      · exact Or.inr z.1
      · exact Or.inl z.1
    simp only [List.contains_cons, List.contains_nil, Bool.or_false, Bool.or_eq_true, beq_iff_eq] at hok
    unfold em3 at hk <;> omega
  · rcases op_design hI ho with ⟨-, f9, e9⟩ | z
    · subst e9
      exact h2 f9 S1 hP h3
    · exact absurd z.1 k0
  · rcases op_design hI ho with z | ⟨-, f1, hv, f2, f3, f4⟩
    · have := z.1
      omega
    · subst hv
      exact ⟨⟨by omega, by omega⟩, h0 S1 R' hP h3 f1 f2 f3 f4⟩
theorem pw_machines {xs : Nat → Int} {Ln : Nat} {n : Int} {R S : Sto} {a w g : Int} (h : PI xs Ln n R S) (hn : n + 1 ≤ 15000) (hr : 1 ≤ a ∧ a ≤ 6 ∧ 1 ≤ w ∧ w ≤ 16 ∧ 1 ≤ g ∧ g ≤ 16) {post : Res → Sto → Prop} (h2 : nM R = 4 → ∀ S1, PI xs Ln (n + 1) (thr R 2) S1 → S1.2.1 3 = S.2.1 3 → post (.inl (some (vI (-2)))) S1) (h0 : ∀ S1 R', PI xs Ln (n + 1) R' S1 → S1.2.1 3 = S.2.1 3 → nM R ≠ 4 → cntR R' (shN R 6) (nD R) (nM R + 1) (nO R) → mg R' 17 (nM R) = -1 → hset R' (nM R) (mg R' 14 (nM R)).toNat = 0 → (∀ b, QI R b → QI R' b) → post (.inl (some (vI (nM R)))) S1) : wP s_machineC [vT 1, vI a, vI w, vI g] S post := by
  have hI := h.mi
  have hN := hI.2.1
  refine pw_gen (op := fun R => machineR R a w g) (em := em0) (ex := [1, 2]) (fun hC hI hS0 _ hq => ag_machine hC hI ⟨by omega, by omega⟩ ⟨by omega, by omega⟩ ⟨by omega, by omega⟩ hq) good_machine (fun C h => CL.cons (fun t e => by cases e; rw [h]; exact fun z => by cases z) (CL.cons VOK.i (CL.cons VOK.i (CL.cons VOK.i (fun a ha => by cases ha))))) h hn (ex_machine R a w g) (fun e hok k v R' ho hk => ?_) (fun S1 k v R' ho k0 hP h3 => ?_) (fun S1 v R' ho hP h3 => ?_)
  · have hk9 : k = 0 ∨ k = 2 := by
      rcases op_machine hI hr ho with z | z
      · exact Or.inr z.1
      · exact Or.inl z.1
    simp only [List.contains_cons, List.contains_nil, Bool.or_false, Bool.or_eq_true, beq_iff_eq] at hok
    unfold em0 at hk <;> omega
  · rcases op_machine hI hr ho with ⟨-, f9, e9⟩ | z
    · subst e9
      exact h2 f9 S1 hP h3
    · exact absurd z.1 k0
  · rcases op_machine hI hr ho with z | ⟨-, f1, hv, f2, f3, f4, f5⟩
    · have := z.1
      omega
    · subst hv
      exact ⟨⟨by omega, by omega⟩, h0 S1 R' hP h3 f1 f2 f3 f4 f5⟩
theorem pw_orders {xs : Nat → Int} {Ln : Nat} {n : Int} {R S : Sto} {d p : Int} (h : PI xs Ln n R S) (hn : n + 1 ≤ 15000) (hr : (0 ≤ d ∧ d < nD R) ∧ 1 ≤ p ∧ p ≤ 50) {post : Res → Sto → Prop} (h2 : nO R = 20 → ∀ S1, PI xs Ln (n + 1) (thr R 3) S1 → S1.2.1 3 = S.2.1 3 → post (.inl (some (vI (-2)))) S1) (h0 : ∀ S1 R', PI xs Ln (n + 1) R' S1 → S1.2.1 3 = S.2.1 3 → nO R ≠ 20 → cntR R' (shN R 6) (nD R) (nM R) (nO R + 1) → mg R' 26 (nO R) = 0 → mg R' 27 (nO R) = -1 → (∀ c, 0 ≤ c → c < 6 → sdK R' (nO R) c = -1) → (∀ b, QI R b → QI R' b) → post (.inl (some (vI (nO R)))) S1) : wP s_orderC [vT 1, vI d, vI p] S post := by
  have hI := h.mi
  have hN := hI.2.1
  refine pw_gen (op := fun R => orderR R d p) (em := em1) (ex := [0, 1, 2]) (fun hC hI hS0 _ hq => ag_order hC hI ⟨by omega, by omega⟩ ⟨by omega, by omega⟩ hq) good_order (fun C h => CL.cons (fun t e => by cases e; rw [h]; exact fun z => by cases z) (CL.cons VOK.i (CL.cons VOK.i (fun a ha => by cases ha)))) h hn (ex_order R d p) (fun e hok k v R' ho hk => ?_) (fun S1 k v R' ho k0 hP h3 => ?_) (fun S1 v R' ho hP h3 => ?_)
  · have hk9 : k = 0 ∨ k = 3 := by
      rcases op_order hI hr ho with z | z
      · exact Or.inr z.1
      · exact Or.inl z.1
    simp only [List.contains_cons, List.contains_nil, Bool.or_false, Bool.or_eq_true, beq_iff_eq] at hok
    unfold em1 at hk <;> omega
  · rcases op_order hI hr ho with ⟨-, f9, e9⟩ | z
    · subst e9
      exact h2 f9 S1 hP h3
    · exact absurd z.1 k0
  · rcases op_order hI hr ho with z | ⟨-, f1, hv, f2, f3, f4, f5, f6⟩
    · have := z.1
      omega
    · subst hv
      exact ⟨⟨by omega, by omega⟩, h0 S1 R' hP h3 f1 f2 f3 f4 f5 f6⟩
theorem pw_starts {xs : Nat → Int} {Ln : Nat} {n : Int} {R S : Sto} {o m : Int} (h : PI xs Ln n R S) (hn : n + 1 ≤ 15000) (hr : 0 ≤ o ∧ o < nO R ∧ 0 ≤ m ∧ m < nM R) {post : Res → Sto → Prop} (h2 : ∀ S1, PI xs Ln (n + 1) (thr R 2) S1 → S1.2.1 3 = S.2.1 3 → post (.inl (some (vI (-2)))) S1) (h0 : ∀ S1 R', PI xs Ln (n + 1) R' S1 → S1.2.1 3 = S.2.1 3 → mg R 26 o = 0 → mg R 17 m = -1 → cntR R' (shN R 6) (nD R) (nM R) (nO R) → mg R' 26 o = 1 → mg R' 27 o = m → mg R' 17 m = o → (∀ c, 0 ≤ c → c < 6 → shdP R' o c) → (∀ b, QI R b → QI R' b) → post (.inl (some (vI (0)))) S1) : wP0 s_startC [vT 1, vI o, vI m] S post := by
  have hI := h.mi
  have hN := hI.2.1
  refine pw_gen0 (op := fun R k _ R' => startR R o m k R') (em := em2) (ex := [0, 2]) (fun hC hI hS0 _ hq => ag_start hC hI hS0 ⟨by omega, by omega⟩ ⟨by omega, by omega⟩ hq) good_start (fun C h => CL.cons (fun t e => by cases e; rw [h]; exact fun z => by cases z) (CL.cons VOK.i (CL.cons VOK.i (fun a ha => by cases ha)))) h hn (by obtain ⟨k, R', q⟩ := ex_start R o m; exact ⟨k, 0, R', q⟩) (fun e hok k v R' ho hk => ?_) (fun S1 k v R' ho k0 hP h3 => ?_) (fun S1 v R' ho hP h3 => ?_)
  · have hk9 : k = 0 ∨ k = 2 := by
      rcases op_start hI hr ho with z | z
      · exact Or.inr z.1
      · exact Or.inl z.1
    simp only [List.contains_cons, List.contains_nil, Bool.or_false, Bool.or_eq_true, beq_iff_eq] at hok
    unfold em2 at hk; split at hk <;> omega
  · rcases op_start hI hr ho with ⟨-, e9⟩ | z
    · subst e9
      exact h2 S1 hP h3
    · exact absurd z.1 k0
  · rcases op_start hI hr ho with z | ⟨-, f1, f2, f3, f4, f5, f6, f7, f8⟩
    · have := z.1
      omega
    · exact h0 S1 R' hP h3 f1 f2 f3 f4 f5 f6 f7 f8
theorem pw_snap {xs : Nat → Int} {Ln : Nat} {n : Int} {R S : Sto} {m : Int} (h : PI xs Ln n R S) (hn : n + 1 ≤ 15000) (hr : 0 ≤ m ∧ m < nM R) {post : Res → Sto → Prop} (h2 : (mg R 17 m = -1 ∨ mg R 29 (mg R 17 m) = 0) → ∀ S1, PI xs Ln (n + 1) (thr R 2) S1 → S1.2.1 3 = S.2.1 3 → post (.inl (some (vI (-2)))) S1) (h0 : ∀ v S1 R', PI xs Ln (n + 1) R' S1 → S1.2.1 3 = S.2.1 3 → ¬ (mg R 17 m = -1 ∨ mg R 29 (mg R 17 m) = 0) → (1 ≤ v ∧ v ≤ 5) → cntR R' (shN R 6) (nD R) (nM R) (nO R) → mg R' 29 (mg R 17 m) = mg R 29 (mg R 17 m) - v → mg R' 28 (mg R 17 m) = mg R 28 (mg R 17 m) → (∀ b, QI R b → QI R' b) → post (.inl (some (vI (v)))) S1) : wP s_snapC [vT 1, vI m] S post := by
  have hI := h.mi
  have hN := hI.2.1
  refine pw_gen (op := fun R => snapR R m) (em := em2) (ex := [0, 2]) (fun hC hI hS0 _ hq => ag_snap hC hI ⟨by omega, by omega⟩ hq) good_snap (fun C h => CL.cons (fun t e => by cases e; rw [h]; exact fun z => by cases z) (CL.cons VOK.i (fun a ha => by cases ha))) h hn (ex_snap hI m) (fun e hok k v R' ho hk => ?_) (fun S1 k v R' ho k0 hP h3 => ?_) (fun S1 v R' ho hP h3 => ?_)
  · have hk9 : k = 0 ∨ k = 2 := by
      rcases op_snap hI hr ho with z | z
      · exact Or.inr z.1
      · exact Or.inl z.1
    simp only [List.contains_cons, List.contains_nil, Bool.or_false, Bool.or_eq_true, beq_iff_eq] at hok
    unfold em2 at hk; split at hk <;> omega
  · rcases op_snap hI hr ho with ⟨-, f9, e9⟩ | z
    · subst e9
      exact h2 f9 S1 hP h3
    · exact absurd z.1 k0
  · rcases op_snap hI hr ho with z | ⟨-, f1, f2, f3, f4, f5, f6⟩
    · have := z.1
      omega
    · exact ⟨⟨by omega, by omega⟩, h0 v S1 R' hP h3 f1 f2 f3 f4 f5 f6⟩
theorem pw_match {xs : Nat → Int} {Ln : Nat} {n : Int} {R S : Sto} {o c s : Int} (h : PI xs Ln n R S) (hn : n + 1 ≤ 15000) (hr : 0 ≤ o ∧ o < nO R ∧ 0 ≤ c ∧ c < 6 ∧ 0 ≤ s ∧ s < 3) {post : Res → Sto → Prop} (h2 : ∀ S1, PI xs Ln (n + 1) (thr R 2) S1 → S1.2.1 3 = S.2.1 3 → post (.inl (some (vI (-2)))) S1) (h0 : ∀ v S1 R', PI xs Ln (n + 1) R' S1 → S1.2.1 3 = S.2.1 3 → cntR R' (shN R 6) (nD R) (nM R) (nO R) → sdK R' o c = s → sdK R o c ≠ s → sdK R o c ≠ -1 → ((v = 0 ∧ mg R' 30 o = mg R 30 o) ∨ (v ≠ 0 ∧ v = mg R 28 o + (if 0 < mg R 29 o then 1 else 0) ∧ mg R' 28 o = 0 ∧ mg R' 29 o = 0 ∧ mg R 30 o < mg R' 30 o)) → (∀ b, QI R b → QI R' b) → post (.inl (some (vI (v)))) S1) : wP s_matchC [vT 1, vI o, vI c, vI s] S post := by
  have hI := h.mi
  have hN := hI.2.1
  refine pw_gen (op := fun R => matchR R o c s) (em := em2) (ex := [0, 2]) (fun hC hI hS0 _ hq => ag_match hC hI ⟨by omega, by omega⟩ ⟨by omega, by omega⟩ ⟨by omega, by omega⟩ hq) good_match (fun C h => CL.cons (fun t e => by cases e; rw [h]; exact fun z => by cases z) (CL.cons VOK.i (CL.cons VOK.i (CL.cons VOK.i (fun a ha => by cases ha))))) h hn (ex_match R o c s) (fun e hok k v R' ho hk => ?_) (fun S1 k v R' ho k0 hP h3 => ?_) (fun S1 v R' ho hP h3 => ?_)
  · have hk9 : k = 0 ∨ k = 2 := by
      rcases op_match hI hr ho with z | z
      · exact Or.inr z.1
      · exact Or.inl z.1
    simp only [List.contains_cons, List.contains_nil, Bool.or_false, Bool.or_eq_true, beq_iff_eq] at hok
    unfold em2 at hk; split at hk <;> omega
  · rcases op_match hI hr ho with ⟨-, e9⟩ | z
    · subst e9
      exact h2 S1 hP h3
    · exact absurd z.1 k0
  · rcases op_match hI hr ho with z | ⟨-, f1, f2, f3, f4, f5, f6⟩
    · have := z.1
      omega
    · have h5 := (hI.2.2.2.2.2.1 o hr.1 hr.2.1).2.2.2.2.1
      have h25 := (hI.2.2.2.2.2.1 o hr.1 hr.2.1).2.1
      have hv : 0 ≤ v ∧ v ≤ 51 := by
        rcases f5 with q | ⟨-, q, -⟩
        · omega
        · split at q <;> omega
      exact ⟨⟨by omega, by omega⟩, h0 v S1 R' hP h3 f1 f2 f3 f4 f5 f6⟩
theorem pw_cancel {xs : Nat → Int} {Ln : Nat} {n : Int} {R S : Sto} {o : Int} (h : PI xs Ln n R S) (hn : n + 1 ≤ 15000) (hr : 0 ≤ o ∧ o < nO R) {post : Res → Sto → Prop} (h2 : (mg R 26 o = 2 ∨ mg R 26 o = 3) → ∀ S1, PI xs Ln (n + 1) (thr R 2) S1 → S1.2.1 3 = S.2.1 3 → post (.inl (some (vI (-2)))) S1) (h0 : ∀ v S1 R', PI xs Ln (n + 1) R' S1 → S1.2.1 3 = S.2.1 3 → (0 ≤ mg R 26 o ∧ mg R 26 o ≤ 1) → 0 ≤ v → cntR R' (shN R 6) (nD R) (nM R) (nO R) → mg R' 26 o = 3 → mg R' 30 o = mg R 30 o + v → mg R' 28 o = 0 → mg R' 27 o = -1 → (∀ b, QI R b → QI R' b) → post (.inl (some (vI (v)))) S1) : wP s_cancelC [vT 1, vI o] S post := by
  have hI := h.mi
  have hN := hI.2.1
  refine pw_gen (op := fun R => cancelR R o) (em := em2) (ex := [0, 2]) (fun hC hI hS0 _ hq => ag_cancel hC hI ⟨by omega, by omega⟩ hq) good_cancel (fun C h => CL.cons (fun t e => by cases e; rw [h]; exact fun z => by cases z) (CL.cons VOK.i (fun a ha => by cases ha))) h hn (ex_cancel R o) (fun e hok k v R' ho hk => ?_) (fun S1 k v R' ho k0 hP h3 => ?_) (fun S1 v R' ho hP h3 => ?_)
  · have hk9 : k = 0 ∨ k = 2 := by
      rcases op_cancel hI hr ho with z | z
      · exact Or.inr z.1
      · exact Or.inl z.1
    simp only [List.contains_cons, List.contains_nil, Bool.or_false, Bool.or_eq_true, beq_iff_eq] at hok
    unfold em2 at hk; split at hk <;> omega
  · rcases op_cancel hI hr ho with ⟨-, f9, e9⟩ | z
    · subst e9
      exact h2 f9 S1 hP h3
    · exact absurd z.1 k0
  · rcases op_cancel hI hr ho with z | ⟨-, f1, f2, f3, f4, f5, f6, f7, f8⟩
    · have := z.1
      omega
    · have h30 := (hP.mi.2.2.2.2.2.1 o hr.1 (by have := f3.2.2.2; omega)).2.2.2.2.2.1
      have h30' := (hI.2.2.2.2.2.1 o hr.1 hr.2).2.2.2.2.2.1
      exact ⟨⟨by omega, by omega⟩, h0 v S1 R' hP h3 f1 f2 f3 f4 f5 f6 f7 f8⟩
theorem pw_run {xs : Nat → Int} {Ln : Nat} {n : Int} {R S : Sto} {m s : Int} (h : PI xs Ln n R S) (hn : n + 1 ≤ 15000) (hr : (0 ≤ m ∧ m < nM R) ∧ 1 ≤ s ∧ s ≤ 100000) {post : Res → Sto → Prop} (h2 : mg R 17 m = -1 → ∀ S1, PI xs Ln (n + 1) (thr R 3) S1 → S1.2.1 3 = S.2.1 3 → post (.inl (some (vI (-2)))) S1) (h0 : ∀ v S1 R', PI xs Ln (n + 1) R' S1 → S1.2.1 3 = S.2.1 3 → mg R 17 m ≠ -1 → (0 ≤ v ∧ v ≤ s) → cntR R' (shN R 6) (nD R) (nM R) (nO R) → mg R' 19 m = mg R 19 m + v → (mg R' 17 m = mg R 17 m ∨ mg R' 17 m = -1 ∧ mg R' 26 (mg R 17 m) = 2 ∧ mg R' 28 (mg R 17 m) = mg R' 25 (mg R 17 m)) → (∀ b, QI R b → QI R' b) → post (.inl (some (vI (v)))) S1) : wP s_runC [vT 1, vI m, vI s] S post := by
  have hI := h.mi
  have hN := hI.2.1
  refine pw_gen (op := fun R => runR R m s) (em := em1) (ex := [0, 1, 2]) (fun hC hI hS0 _ hq => ag_run hC hI hn ⟨by omega, by omega⟩ ⟨by omega, by omega⟩ hq) good_run (fun C h => CL.cons (fun t e => by cases e; rw [h]; exact fun z => by cases z) (CL.cons VOK.i (CL.cons VOK.i (fun a ha => by cases ha)))) h hn (ex_run hI hn m s) (fun e hok k v R' ho hk => ?_) (fun S1 k v R' ho k0 hP h3 => ?_) (fun S1 v R' ho hP h3 => ?_)
  · have hk9 : k = 0 ∨ k = 3 := by
      rcases op_run hI hn hr ho with z | z
      · exact Or.inr z.1
      · exact Or.inl z.1
    simp only [List.contains_cons, List.contains_nil, Bool.or_false, Bool.or_eq_true, beq_iff_eq] at hok
    unfold em1 at hk <;> omega
  · rcases op_run hI hn hr ho with ⟨-, f9, e9⟩ | z
    · subst e9
      exact h2 f9 S1 hP h3
    · exact absurd z.1 k0
  · rcases op_run hI hn hr ho with z | ⟨-, f1, f2, f3, f4, f5, f6⟩
    · have := z.1
      omega
    · exact ⟨⟨by omega, by omega⟩, h0 v S1 R' hP h3 f1 f2 f3 f4 f5 f6⟩
theorem pw_wipe {xs : Nat → Int} {Ln : Nat} {n : Int} {R S : Sto} (h : PI xs Ln n R S) (hn : n + 1 ≤ 15000) {post : Res → Sto → Prop} (h0 : ∀ S1 R', PI xs Ln (n + 1) R' S1 → S1.2.1 3 = S.2.1 3 → cntR R' 0 (nD R) (nM R) (nO R) → (∀ b, QI R b → QI R' b) → post (.inl (some (vI (shN R 6)))) S1) : frS s_wipeC [vT 1] S post := by
  have hI := h.mi
  refine pw_cls (op := wipeR) (em := em1) (ok := okr []) (fun hC hI _ _ hq => ag_wipe hC hI hq) good_wipe (fun C h => CL.cons (fun t e => by cases e; rw [h]; exact fun z => by cases z) (fun a ha => by cases ha)) h hn (ex_wipe R) fun r S1 k v R' hok ho ha hP h3 => ?_
  obtain ⟨f1, f2, f3⟩ := op_wipe ho
  have hd := hI.2.2.1
  have hd1 := hd.1
  have hd2 := hd.2.1
  match r, hok, ha with
  | .inl (some (.inl x)), _, ha =>
    have hx : v = x := ha.2
    subst hx
    subst f2
    have e : nrm (.inl (some (.inl (shN R 6)))) = .inl (some (vI (wr (shN R 6)))) := rfl
    rw [e, wr_id ⟨by omega, by omega⟩]
    exact h0 S1 R' hP h3 f3 (fun b hb => hb.wipe ho)
theorem pw_stock {xs : Nat → Int} {Ln : Nat} {n : Int} {R S : Sto} {c s x : Int} (h : PI xs Ln n R S) (hn : n + 1 ≤ 15000) (hc : 0 ≤ c ∧ c < 6 ∧ 0 ≤ s ∧ s < 3) (hx : 1 ≤ x ∧ x ≤ 100000) (hl : mg R 22 (3 * c + s) + x ≤ 1000000) {post : Res → Sto → Prop} (h0 : ∀ S1 R', PI xs Ln (n + 1) R' S1 → S1.2.1 3 = S.2.1 3 → cntR R' (shN R 6) (nD R) (nM R) (nO R) → (∀ b, QI R b → QI R' (b + x)) → post (.inl (some (vI (mg R 22 (3 * c + s) + x)))) S1) : frS s_stockC [vT 1, vI c, vI s, vI x] S post := by
  have hI := h.mi
  refine pw_cls (op := fun R => stockR R c s x) (em := em1) (ok := okr [0, 1, 2]) (fun hC hI _ _ hq => ag_stock hC hI ⟨by omega, by omega⟩ ⟨by omega, by omega⟩ ⟨by omega, by omega⟩ hq) good_stock (fun C h => CL.cons (fun t e => by cases e; rw [h]; exact fun z => by cases z) (CL.cons VOK.i (CL.cons VOK.i (CL.cons VOK.i (fun a ha => by cases ha))))) h hn (ex_stock R c s x) fun r S1 k v R' hok ho ha hP h3 => ?_
  obtain ⟨f1, f2, f3, f4⟩ := op_stock (n := n) hc hx hl ho
  have h22 := hI.2.2.2.2.2.2.2 (3 * c + s) (by omega) (by omega)
  subst f1
  match r, hok, ha with
  | .inl (some (.inl y)), _, ha =>
    have hy : v = y := ha.2
    subst hy
    subst f2
    have e : nrm (.inl (some (.inl (mg R 22 (3 * c + s) + x)))) = .inl (some (vI (wr (mg R 22 (3 * c + s) + x)))) := rfl
    rw [e, wr_id ⟨by omega, by omega⟩]
    exact h0 S1 R' hP h3 f3 f4
  | .inr e, _, ha =>
    exfalso
    have ha' : (0 : Int) = em1 e := ha
    unfold em1 at ha'
    omega

/-! THE LAW'S SMALL METHODS -/
def s_off : Spec := fun as S post => match as with
  | [.inl x] => InR x ∧ ∀ r, isB r (x > 1 ∨ x < -1) → post (.inl (some (vI r))) S
  | _ => False
def spL_off : Nat → CD := spF mdL_off fun i => match i with
  | _ => noR
set_option maxHeartbeats 40000000 in
set_option maxRecDepth 100000 in
theorem sat_L_off : Sat mL_off s_off 0 0 1 := by
  refine sat_of (E := eL_off) (sp := spL_off) (ini := false) (by decide +kernel) (fun h => by cases h) okL_off (fun i => match i with
    | _ => ⟨sat_no _, Nat.le_of_ble_eq_true rfl⟩) ?_
  intro as S post h
  match as, h with
  | [.inl x], h =>
    obtain ⟨hx, h⟩ := h
    refine body0 40 rfl ?_
    repeat' (first
        | omega
        | with_reducible apply And.intro
        | intro c9
        | exact hx.1
        | exact hx.2
        | refine Exists.intro _ (And.intro rfl ?_)
        | ((with_reducible show wp _ _ _ _ _ _ _ _ _ _ _ _ _ _); conv => whnf)
        | ((with_reducible show callK _ _ _ _ _ _ _ _ _); conv => whnf)
        | ((with_reducible show condK _ _ _ _ _); conv => whnf)
        | ((with_reducible show st1 _ _ _ _ _ _ _ _ _ _ _ _); conv => whnf)
        | ((with_reducible show (Prod.fst _ : Spec) _ _ _); conv => whnf)
        | ((with_reducible show shortK _ _); conv => whnf)
        | exact Nat.le_of_ble_eq_true rfl)
    all_goals first
      | exact kr_i ( h _ (isBt (by omega)) ) (Nat.le_of_ble_eq_true rfl) (Nat.le_of_ble_eq_true rfl)
      | exact kr_i ( h _ (isBf (by omega)) ) (Nat.le_of_ble_eq_true rfl) (Nat.le_of_ble_eq_true rfl)
theorem bAnd_pos (a : Int) : 0 ≤ bAnd a 2147483647 ∧ bAnd a 2147483647 ≤ 2147483647 := by
  have h1 : (Int32.ofInt a &&& Int32.ofInt 2147483647).toBitVec.toNat ≤ 2147483647 := by
    rw [Int32.toBitVec_and, BitVec.toNat_and]
    have e := bn_nat (a := 2147483647) (by omega)
    have e' : (Int32.ofInt 2147483647).toBitVec.toNat = 2147483647 := e
    rw [e']
    exact Nat.and_le_right
  unfold bAnd
  rw [bn_int (by omega)]
  omega
def s_draw : Spec := fun as S post => match as with
  | [.inr (.inr (some 10)), .inl k] => ∃ Ln : Nat, S.1 10 = some (102, Ln) ∧ (0 ≤ k ∧ k < Ln ∧ Ln ≤ 1000) ∧ ∀ v, 0 ≤ v ∧ v ≤ 2147483647 → post (.inl (some (vI v))) S
  | _ => False
def spL_draw : Nat → CD := spF mdL_draw fun i => match i with
  | _ => noR
set_option maxHeartbeats 40000000 in
set_option maxRecDepth 100000 in
theorem sat_L_draw : Sat mL_draw s_draw 0 0 1 := by
  refine sat_of (E := eL_draw) (sp := spL_draw) (ini := false) (by decide +kernel) (fun h => by cases h) okL_draw (fun i => match i with
    | _ => ⟨sat_no _, Nat.le_of_ble_eq_true rfl⟩) ?_
  intro as S post h
  match as, h with
  | [.inr (.inr (some 10)), .inl k], h =>
    obtain ⟨Ln, h1, hk, h⟩ := h
    refine body0 40 rfl ?_
    repeat' (first
        | omega
        | with_reducible apply And.intro
        | intro c9
        | refine ⟨102, Ln, h1, by omega, ?_⟩
        | exact ⟨102, Ln, h1, Or.inr rfl, by omega, by omega⟩
        | exact h _ (bAnd_pos _)
        | refine Exists.intro _ (And.intro rfl ?_)
        | ((with_reducible show wp _ _ _ _ _ _ _ _ _ _ _ _ _ _); conv => whnf)
        | ((with_reducible show callK _ _ _ _ _ _ _ _ _); conv => whnf)
        | ((with_reducible show condK _ _ _ _ _); conv => whnf)
        | ((with_reducible show st1 _ _ _ _ _ _ _ _ _ _ _ _); conv => whnf)
        | ((with_reducible show (Prod.fst _ : Spec) _ _ _); conv => whnf)
        | ((with_reducible show shortK _ _); conv => whnf)
        | exact Nat.le_of_ble_eq_true rfl)
def s_areShades : Spec := fun as S post => match as with
  | [.inr (.inr (some 1)), .inl o] => ∃ xs Ln n R, PI xs Ln n R S ∧ (0 ≤ o ∧ o < nO R) ∧ (∀ c, 0 ≤ c → c < 6 → shdP R o c) ∧ post (.inl (some (vI 1))) S
  | _ => False
def spL_areShades : Nat → CD := spF mdL_areShades fun i => match i with
  | 1 => ((frS s_ofOrderI), 0, 0, 12)
  | 2 => ((frS s_shadeOfI), 0, 0, 12)
  | 3 => ((frS s_stitchesI), 0, 0, 12)
  | 4 => ((frS s_leftI), 0, 0, 12)
  | _ => noR
set_option maxHeartbeats 40000000 in
set_option maxRecDepth 100000 in
theorem sat_L_areShades : Sat mL_areShades s_areShades 0 0 13 := by
  refine sat_of (E := eL_areShades) (sp := spL_areShades) (ini := false) (by decide +kernel) (fun h => by cases h) okL_areShades (fun i => match i with
    | 1 => ⟨frS_sat sat_X6_ofOrder_i, Nat.le_of_ble_eq_true rfl⟩
    | 2 => ⟨frS_sat sat_X6_shadeOf_i, Nat.le_of_ble_eq_true rfl⟩
    | 3 => ⟨frS_sat sat_X6_stitches_i, Nat.le_of_ble_eq_true rfl⟩
    | 4 => ⟨frS_sat sat_X6_left_i, Nat.le_of_ble_eq_true rfl⟩
    | i + 5 => ⟨sat_no _, Nat.le_of_ble_eq_true rfl⟩
    | 0 => ⟨sat_no _, Nat.le_of_ble_eq_true rfl⟩) ?_
  intro as S post h
  match as, h with
  | [.inr (.inr (some 1)), .inl o], h =>
    obtain ⟨xs, Ln, n9, R, hP, ho, hsh, h⟩ := h
    have hI := hP.mi
    have hN := hI.2.1
    have hor := hI.2.2.2.2.2.1 o ho.1 ho.2
    have hd := hor.1
    have h25 := hor.2.1
    have hmn := (hI.2.2.2.1 _ hd.1 hd.2).mn
    have t1 : ∃ n, S.1 1 = some (6, n) := ⟨9, hP.t1⟩
    refine bodyL [(12, fun ms L st S' c => ∃ (k : Nat) (x5 x6 : AV), L = [vT 1, vI o, vI (mg R 24 o), vI 1, vI k, x5, x6] ∧ st = [] ∧ S' = S ∧ c = (0, 0) ∧ ms = 6 - k ∧ k ≤ 6)] 8 160 rfl
      (List.forall_mem_cons.mpr ⟨?_, fun q hq => by cases hq⟩) ?_
    · rintro ms L st S' c ⟨k, x5, x6, rfl, rfl, rfl, rfl, rfl, hk⟩
      by_cases hk6 : k < 6
      · have hs := hsh k (by omega) (by omega)
        have hcr := cnt_r (R := R) (d := mg R 24 o) (c := (k : Int)) (mnK R (mg R 24 o)).toNat
        have hN1 : 0 ≤ cntC R (mg R 24 o) k (mnK R (mg R 24 o)).toNat * mg R 25 o := Int.mul_nonneg hcr.1 (by omega)
        have hN2 : cntC R (mg R 24 o) k (mnK R (mg R 24 o)).toNat * mg R 25 o ≤ 112000 := by
          have := Int.mul_le_mul (show cntC R (mg R 24 o) k (mnK R (mg R 24 o)).toNat ≤ 2240 by omega) h25.2 (by omega) (by omega : (0 : Int) ≤ 2240)
          omega
        unfold shdP at hs
        generalize hNN : cntC R (mg R 24 o) k (mnK R (mg R 24 o)).toNat * mg R 25 o = NN at *
        by_cases z : NN = 0
        · have hs1 := hs.1 z
          clear hs
          repeat' (first
              | omega
              | with_reducible apply And.intro
              | intro c9
              | exact t1
              | refine gg_shadeOf hP ⟨ho, by omega, by omega⟩ ?_
              | refine gg_stitches hP ⟨hd, by omega, by omega⟩ ?_
              | refine gg_ord2 hP ⟨ho, rfl⟩ ?_
              | rw [hNN]
              | exact ⟨6 - (k + 1), by omega, k + 1, _, _, by rw [Int.natCast_add]; rfl, rfl, rfl, rfl, rfl, by omega⟩
              | refine Exists.intro _ (And.intro rfl ?_)
              | ((with_reducible show wp _ _ _ _ _ _ _ _ _ _ _ _ _ _); conv => whnf)
              | ((with_reducible show callK _ _ _ _ _ _ _ _ _); conv => whnf)
              | ((with_reducible show condK _ _ _ _ _); conv => whnf)
              | ((with_reducible show st1 _ _ _ _ _ _ _ _ _ _ _ _); conv => whnf)
              | ((with_reducible show (Prod.fst _ : Spec) _ _ _); conv => whnf)
              | ((with_reducible show shortK _ _); conv => whnf)
              | exact Nat.le_of_ble_eq_true rfl)
        · obtain ⟨s1, s2, s3⟩ := hs.2 z
          clear hs
          repeat' (first
              | omega
              | with_reducible apply And.intro
              | intro c9
              | exact t1
              | refine gg_shadeOf hP ⟨ho, by omega, by omega⟩ ?_
              | refine gg_stitches hP ⟨hd, by omega, by omega⟩ ?_
              | refine gg_ord2 hP ⟨ho, rfl⟩ ?_
              | refine gg_left hP ⟨by omega, by omega, by omega, by omega⟩ ?_
              | rw [hNN]
              | (have q := hI.2.2.2.2.2.2.2 (3 * (k : Int) + sdK R o k) (by omega) (by omega); omega)
              | (have q := hI.2.2.2.2.2.2.2 (3 * (k : Int) + (sdK R o k - 1)) (by omega) (by omega); omega)
              | exact ⟨6 - (k + 1), by omega, k + 1, _, _, by rw [Int.natCast_add]; rfl, rfl, rfl, rfl, rfl, by omega⟩
              | refine Exists.intro _ (And.intro rfl ?_)
              | ((with_reducible show wp _ _ _ _ _ _ _ _ _ _ _ _ _ _); conv => whnf)
              | ((with_reducible show callK _ _ _ _ _ _ _ _ _); conv => whnf)
              | ((with_reducible show condK _ _ _ _ _); conv => whnf)
              | ((with_reducible show st1 _ _ _ _ _ _ _ _ _ _ _ _); conv => whnf)
              | ((with_reducible show (Prod.fst _ : Spec) _ _ _); conv => whnf)
              | ((with_reducible show shortK _ _); conv => whnf)
              | exact Nat.le_of_ble_eq_true rfl)
      · repeat' (first
            | omega
            | with_reducible apply And.intro
            | intro c9
            | exact kr_i ( h ) (Nat.le_of_ble_eq_true rfl) (Nat.le_of_ble_eq_true rfl)
            | refine Exists.intro _ (And.intro rfl ?_)
            | ((with_reducible show wp _ _ _ _ _ _ _ _ _ _ _ _ _ _); conv => whnf)
            | ((with_reducible show callK _ _ _ _ _ _ _ _ _); conv => whnf)
            | ((with_reducible show condK _ _ _ _ _); conv => whnf)
            | ((with_reducible show st1 _ _ _ _ _ _ _ _ _ _ _ _); conv => whnf)
            | ((with_reducible show (Prod.fst _ : Spec) _ _ _); conv => whnf)
            | ((with_reducible show shortK _ _); conv => whnf)
            | exact Nat.le_of_ble_eq_true rfl)
    · repeat' (first
          | omega
          | with_reducible apply And.intro
          | intro c9
          | exact t1
          | refine gg_ord1 hP ⟨ho, rfl⟩ ?_
          | exact ⟨6, by omega, 0, _, _, rfl, rfl, rfl, rfl, rfl, by omega⟩
          | refine Exists.intro _ (And.intro rfl ?_)
          | ((with_reducible show wp _ _ _ _ _ _ _ _ _ _ _ _ _ _); conv => whnf)
          | ((with_reducible show callK _ _ _ _ _ _ _ _ _); conv => whnf)
          | ((with_reducible show condK _ _ _ _ _); conv => whnf)
          | ((with_reducible show st1 _ _ _ _ _ _ _ _ _ _ _ _); conv => whnf)
          | ((with_reducible show (Prod.fst _ : Spec) _ _ _); conv => whnf)
          | ((with_reducible show shortK _ _); conv => whnf)
          | exact Nat.le_of_ble_eq_true rfl)

/-! THE LAW: the whole house is looked at -/
theorem sum_part {f : Nat → Int} {k : Nat} : ∀ n : Nat, k ≤ n → (∀ j, j < n → 0 ≤ f j) → 0 ≤ sumTo f k ∧ sumTo f k ≤ sumTo f n
  | 0, h, _ => by rw [show k = 0 by omega]; exact ⟨Int.le_refl _, Int.le_refl _⟩
  | n + 1, h, hf => by
    have hn := hf n (by omega)
    by_cases e : k = n + 1
    · rw [e]
      exact ⟨sum_nn _ hf, Int.le_refl _⟩
    · have := sum_part (k := k) n (by omega) (fun j hj => hf j (by omega))
      show 0 ≤ sumTo f k ∧ sumTo f k ≤ sumTo f n + f n
      omega
theorem thO_nn {R : Sto} {o : Int} (h1 : 0 ≤ mnK R (mg R 24 o) * mg R 28 o) (h2 : 0 ≤ mg R 30 o) (h3 : 0 ≤ mg R 29 o) : 0 ≤ thO R o := by
  unfold thO
  omega
theorem MI.tho {n : Int} {R : Sto} (h : MI n R) {o : Int} (o0 : 0 ≤ o) (o1 : o < nO R) : 0 ≤ thO R o := by
  have hor := h.2.2.2.2.2.1 o o0 o1
  have hmn := (h.2.2.2.1 _ hor.1.1 hor.1.2).mn
  have h5 := hor.2.2.2.2.1
  have h6 := hor.2.2.2.2.2.1
  have := Int.mul_nonneg (show 0 ≤ mnK R (mg R 24 o) by omega) (show 0 ≤ mg R 28 o by omega)
  exact thO_nn this h6.1 h5.2.2.1
theorem QI.r {n : Int} {R : Sto} {b : Int} (h : QI R b) (hI : MI n R) : 0 ≤ lfS R ∧ 0 ≤ swS R ∧ lfS R ≤ b ∧ swS R ≤ b := by
  have hN := hI.2.1
  have h1 : 0 ≤ lfS R := sum_nn _ fun j hj => (hI.2.2.2.2.2.2.2 j (by omega) (by omega)).1
  have h2 : 0 ≤ swS R := sum_nn _ fun j hj => (hI.2.2.2.2.1 j (by omega) (by omega)).2.2.2.2.1.1
  have := h.1
  omega
theorem LD.h {n : Int} {R : Sto} {i : Int} (h : LD R i) (hI : MI n R) (i0 : 0 ≤ i) (i1 : i < nM R) : (mg R 18 i = 0 ∧ hset R i (mg R 14 i).toNat = 0) ∨ (mg R 18 i ≠ 0 ∧ hset R i (mg R 14 i).toNat ≠ 0) := by
  have hm := hI.2.2.2.2.1 i i0 i1
  have h14 := hm.1
  have hb : ∀ k, 0 ≤ k → k < 6 → -1 ≤ hdK R i k ∧ hdK R i k < 6 := fun k k0 k6 => ⟨(hm.2.2.2.2.2.1 k k0 k6).1, (hm.2.2.2.2.2.1 k k0 k6).2.1⟩
  by_cases e : mg R 18 i = 0
  · left
    have ha := h.2.mp e
    exact ⟨e, hset_0 (fun k k0 k6 => by
      by_cases z : k < mg R 14 i
      · exact ha k k0 z
      · exact (hm.2.2.2.2.2.1 k k0 k6).2.2.2.2.1 (by omega)) _ (by omega)⟩
  · right
    refine ⟨e, fun z => e (h.2.mpr fun k k0 k1 => ?_)⟩
    rcases (show hdK R i k = -1 ∨ 0 ≤ hdK R i k by have := hb k k0 (by omega); omega) with y | y
    · exact y
    · exfalso
      have := (hset_b hb (hdK R i k).toNat (mg R 14 i).toNat (by omega)).mpr ⟨k.toNat, by omega, by rw [Int.toNat_of_nonneg k0, Int.toNat_of_nonneg y]⟩
      rw [z] at this
      simp at this
theorem MI.hs6 {n : Int} {R : Sto} (hI : MI n R) {i : Int} (i0 : 0 ≤ i) (i1 : i < nM R) : hset R i (mg R 14 i).toNat < 64 := by
  have hm := hI.2.2.2.2.1 i i0 i1
  have h14 := hm.1
  exact hset_lt (fun k k0 k6 => ⟨(hm.2.2.2.2.2.1 k k0 k6).1, (hm.2.2.2.2.2.1 k k0 k6).2.1⟩) _ (by omega)
def s_isWhole : Spec := fun as S post => match as with
  | [.inr (.inr (some 1)), .inr (.inr (some 3))] => ∃ xs Ln n R, PI xs Ln n R S ∧ (S.2.1 3 2 = nM R ∧ S.2.1 3 3 = nO R) ∧ QI R (S.2.1 3 4) ∧ S.2.1 3 4 ≤ 2000000 ∧ post (.inl (some (vI 1))) S
  | _ => False
def spL_isWhole : Nat → CD := spF mdL_isWhole fun i => match i with
  | 1 => ((frS s_leftI), 0, 0, 12)
  | 2 => ((frS s_ofMachineI), 0, 0, 12)
  | 3 => ((frS s_ofOrderI), 0, 0, 12)
  | 4 => ((frS s_stitchesI), 0, 0, 12)
  | _ => noR
set_option maxHeartbeats 40000000 in
set_option maxRecDepth 100000 in
theorem sat_L_isWhole : Sat mL_isWhole s_isWhole 0 0 13 := by
  refine sat_of (E := eL_isWhole) (sp := spL_isWhole) (ini := false) (by decide +kernel) (fun h => by cases h) okL_isWhole (fun i => match i with
    | 1 => ⟨frS_sat sat_X6_left_i, Nat.le_of_ble_eq_true rfl⟩
    | 2 => ⟨frS_sat sat_X6_ofMachine_i, Nat.le_of_ble_eq_true rfl⟩
    | 3 => ⟨frS_sat sat_X6_ofOrder_i, Nat.le_of_ble_eq_true rfl⟩
    | 4 => ⟨frS_sat sat_X6_stitches_i, Nat.le_of_ble_eq_true rfl⟩
    | i + 5 => ⟨sat_no _, Nat.le_of_ble_eq_true rfl⟩
    | 0 => ⟨sat_no _, Nat.le_of_ble_eq_true rfl⟩) ?_
  intro as S post h
  match as, h with
  | [.inr (.inr (some 1)), .inr (.inr (some 3))], h =>
    obtain ⟨xs, Ln, n9, R, hP, ⟨d2, d3⟩, hQ, hb, h⟩ := h
    have hI := hP.mi
    have hN := hI.2.1
    have t1 : ∃ n, S.1 1 = some (6, n) := ⟨9, hP.t1⟩
    have t3 := hP.x.1
    have e2 : S.2.1 3 (Int.toNat 2) = nM R := d2
    have e3 : S.2.1 3 (Int.toNat 3) = nO R := d3
    have e4 : S.2.1 3 (Int.toNat 4) = S.2.1 3 4 := rfl
    obtain ⟨qa, qb, qc, qd⟩ := hQ.r hI
    obtain ⟨q1, q2, q3⟩ := hQ
    generalize hbb : S.2.1 3 4 = b9 at *
    refine bodyL [(4, fun ms L st S' c => ∃ (k : Nat) (x4 x5 x6 x7 : AV), L = [vT 1, vT 3, vI (sumTo (fun j => mg R 22 (j : Int)) k), vI k, x4, x5, x6, x7] ∧ st = [] ∧ S' = S ∧ c = (0, 0) ∧ ms = 100 + (18 - k) ∧ k ≤ 18),
      (37, fun ms L st S' c => ∃ (k : Nat) (x6 x7 : AV), L = [vT 1, vT 3, vI (lfS R), vI (sumTo (fun j => mg R 19 (j : Int)) k), vI 1, vI k, x6, x7] ∧ st = [] ∧ S' = S ∧ c = (0, 0) ∧ ms = 60 + (4 - k) ∧ (k : Int) ≤ nM R),
      (180, fun ms L st S' c => ∃ (k : Nat) (x7 : AV), L = [vT 1, vT 3, vI (lfS R), vI (swS R), vI 1, vI (sumTo (fun j => thO R (j : Int)) k), vI k, x7] ∧ st = [] ∧ S' = S ∧ c = (0, 0) ∧ ms = 20 - k ∧ (k : Int) ≤ nO R)] 200 200 rfl
      (List.forall_mem_cons.mpr ⟨?_, List.forall_mem_cons.mpr ⟨?_, List.forall_mem_cons.mpr ⟨?_, fun q hq => by cases hq⟩⟩⟩) ?_
    · rintro ms L st S' c ⟨k, x4, x5, x6, x7, rfl, rfl, rfl, rfl, rfl, hk⟩
      have e9 : 3 * ((k : Int) / 3) + (k : Int) % 3 = k := by omega
      repeat' (first
          | omega
          | with_reducible apply And.intro
          | intro c9
          | exact t1
          | refine gg_left hP ⟨by omega, by omega, by omega, by omega⟩ ?_
          | rw [e9]
          | exact ⟨100 + (18 - (k + 1)), by omega, k + 1, _, _, _, _, by rw [Int.natCast_add]; rfl, rfl, rfl, rfl, rfl, by omega⟩
          | (rw [show k = 18 by omega]; exact ⟨64, by omega, 0, _, _, rfl, rfl, rfl, rfl, rfl, by omega⟩)
          | refine Exists.intro _ (And.intro rfl ?_)
          | ((with_reducible show wp _ _ _ _ _ _ _ _ _ _ _ _ _ _); conv => whnf)
          | ((with_reducible show callK _ _ _ _ _ _ _ _ _); conv => whnf)
          | ((with_reducible show condK _ _ _ _ _); conv => whnf)
          | ((with_reducible show st1 _ _ _ _ _ _ _ _ _ _ _ _); conv => whnf)
          | ((with_reducible show (Prod.fst _ : Spec) _ _ _); conv => whnf)
          | ((with_reducible show shortK _ _); conv => whnf)
          | exact Nat.le_of_ble_eq_true rfl)
    · rintro ms L st S' c ⟨k, x6, x7, rfl, rfl, rfl, rfl, rfl, hk⟩
      by_cases hkn : (k : Int) < nM R
      · have hm := hI.2.2.2.2.1 k (by omega) hkn
        have hj := hm.2.2.2.2.2.2.2
        have h18 := hm.2.2.2.1
        have h19 := hm.2.2.2.2.1
        have hld := q3 k (by omega) hkn
        have hl1 := hld.1
        have hl2 := hld.h hI (by omega) hkn
        have h64 := hI.hs6 (i := k) (by omega) hkn
        have hr : (0 ≤ (k : Int) ∧ (k : Int) < nM R) := ⟨by omega, hkn⟩
        generalize hHH : hset R k (mg R 14 k).toNat = H at *
        by_cases z : mg R 17 k = -1
        · clear hj
          repeat' (first
              | omega
              | with_reducible apply And.intro
              | intro c9
              | exact t1
              | rw [e2]
              | exact ⟨100, 5, t3, Or.inl rfl, by omega, by omega⟩
              | refine gg_mac3 hP ⟨hr, rfl⟩ ?_
              | refine gg_mac0 hP ⟨hr, rfl⟩ ?_
              | refine gg_mac1 hP ⟨hr, rfl⟩ ?_
              | (refine gg_mac2 hP ⟨hr, rfl⟩ ?_; rw [hHH])
              | exact ⟨60 + (4 - (k + 1)), by omega, k + 1, _, _, by rw [Int.natCast_add]; rfl, rfl, rfl, rfl, rfl, by omega⟩
              | refine Exists.intro _ (And.intro rfl ?_)
              | ((with_reducible show wp _ _ _ _ _ _ _ _ _ _ _ _ _ _); conv => whnf)
              | ((with_reducible show callK _ _ _ _ _ _ _ _ _); conv => whnf)
              | ((with_reducible show condK _ _ _ _ _); conv => whnf)
              | ((with_reducible show st1 _ _ _ _ _ _ _ _ _ _ _ _); conv => whnf)
              | ((with_reducible show (Prod.fst _ : Spec) _ _ _); conv => whnf)
              | ((with_reducible show shortK _ _); conv => whnf)
              | exact Nat.le_of_ble_eq_true rfl)
        · have hj0 : 0 ≤ mg R 17 k := by omega
          obtain ⟨j1, j2⟩ := hj.2.2 hj0
          have hjr : 0 ≤ mg R 17 k ∧ mg R 17 k < nO R := ⟨hj0, hj.2.1⟩
          clear hj
          repeat' (first
              | omega
              | with_reducible apply And.intro
              | intro c9
              | exact t1
              | rw [e2]
              | exact ⟨100, 5, t3, Or.inl rfl, by omega, by omega⟩
              | refine gg_mac3 hP ⟨hr, rfl⟩ ?_
              | refine gg_mac0 hP ⟨hr, rfl⟩ ?_
              | refine gg_mac1 hP ⟨hr, rfl⟩ ?_
              | (refine gg_mac2 hP ⟨hr, rfl⟩ ?_; rw [hHH])
              | refine gg_ord6 hP ⟨hjr, rfl⟩ ?_
              | refine gg_ord0 hP ⟨hjr, rfl⟩ ?_
              | exact ⟨60 + (4 - (k + 1)), by omega, k + 1, _, _, by rw [Int.natCast_add]; rfl, rfl, rfl, rfl, rfl, by omega⟩
              | refine Exists.intro _ (And.intro rfl ?_)
              | ((with_reducible show wp _ _ _ _ _ _ _ _ _ _ _ _ _ _); conv => whnf)
              | ((with_reducible show callK _ _ _ _ _ _ _ _ _); conv => whnf)
              | ((with_reducible show condK _ _ _ _ _); conv => whnf)
              | ((with_reducible show st1 _ _ _ _ _ _ _ _ _ _ _ _); conv => whnf)
              | ((with_reducible show (Prod.fst _ : Spec) _ _ _); conv => whnf)
              | ((with_reducible show shortK _ _); conv => whnf)
              | exact Nat.le_of_ble_eq_true rfl)
      · have ek : k = (nM R).toNat := by omega
        repeat' (first
            | omega
            | with_reducible apply And.intro
            | intro c9
            | exact t1
            | rw [e2]
            | exact ⟨100, 5, t3, Or.inl rfl, by omega, by omega⟩
            | (rw [ek]; exact ⟨20, by omega, 0, _, rfl, rfl, rfl, rfl, rfl, by omega⟩)
            | refine Exists.intro _ (And.intro rfl ?_)
            | ((with_reducible show wp _ _ _ _ _ _ _ _ _ _ _ _ _ _); conv => whnf)
            | ((with_reducible show callK _ _ _ _ _ _ _ _ _); conv => whnf)
            | ((with_reducible show condK _ _ _ _ _); conv => whnf)
            | ((with_reducible show st1 _ _ _ _ _ _ _ _ _ _ _ _); conv => whnf)
            | ((with_reducible show (Prod.fst _ : Spec) _ _ _); conv => whnf)
            | ((with_reducible show shortK _ _); conv => whnf)
            | exact Nat.le_of_ble_eq_true rfl)
    · rintro ms L st S' c ⟨k, x7, rfl, rfl, rfl, rfl, rfl, hk⟩
      by_cases hkn : (k : Int) < nO R
      · have hor := hI.2.2.2.2.2.1 k (by omega) hkn
        have hd := hor.1
        have h25 := hor.2.1
        have h26 := hor.2.2.1
        have h27 := hor.2.2.2.1
        have h5 := hor.2.2.2.2.1
        have h30 := hor.2.2.2.2.2.1
        have hmn := (hI.2.2.2.1 _ hd.1 hd.2).mn
        have hr : (0 ≤ (k : Int) ∧ (k : Int) < nO R) := ⟨by omega, hkn⟩
        have hst : (mg R 26 k = 2 ∧ mg R 28 k = mg R 25 k ∧ mg R 27 k = -1) ∨ (mg R 26 k = 1 ∧ mg R 28 k < mg R 25 k ∧ 0 ≤ mg R 27 k) ∨ ((mg R 26 k = 0 ∨ mg R 26 k = 3) ∧ mg R 28 k < mg R 25 k ∧ mg R 27 k = -1) := by
          obtain ⟨y1, y2, y3, y4, y5, y6, y7⟩ := h5
          have hno : mg R 26 k ≠ 1 → mg R 27 k = -1 := fun q => by
            rcases (show mg R 27 k = -1 ∨ 0 ≤ mg R 27 k by omega) with w | w
            · exact w
            · exact absurd (h27.2.2.2.mpr w) q
          rcases (show mg R 26 k = 0 ∨ mg R 26 k = 1 ∨ mg R 26 k = 2 ∨ mg R 26 k = 3 by omega) with w | w | w | w
          · have a := y7 (by omega) (by omega)
            exact Or.inr (Or.inr ⟨Or.inl w, by omega, hno (by omega)⟩)
          · exact Or.inr (Or.inl ⟨w, y5 w, h27.2.2.2.mp w⟩)
          · exact Or.inl ⟨w, (y6 w).1, hno (by omega)⟩
          · have a := y7 (by omega) (by omega)
            exact Or.inr (Or.inr ⟨Or.inr w, by omega, hno (by omega)⟩)
        have h5' : 0 ≤ mg R 28 k ∧ mg R 28 k ≤ mg R 25 k ∧ 0 ≤ mg R 29 k ∧ mg R 29 k < mnK R (mg R 24 k) := ⟨h5.1, h5.2.1, h5.2.2.1, h5.2.2.2.1⟩
        have h27' : -1 ≤ mg R 27 k ∧ mg R 27 k < nM R := ⟨h27.1, h27.2.1⟩
        clear h5 h27 hor
        rcases hst with ⟨s1, s2, s3⟩ | ⟨s1, s2, s3⟩ | ⟨s1 | s1, s2, s3⟩
        repeat' (first
            | omega
            | with_reducible apply And.intro
            | intro c9
            | exact t1
            | rw [e3]
            | exact ⟨100, 5, t3, Or.inl rfl, by omega, by omega⟩
            | refine gg_ord0 hP ⟨hr, rfl⟩ ?_
            | refine gg_ord1 hP ⟨hr, rfl⟩ ?_
            | refine gg_ord2 hP ⟨hr, rfl⟩ ?_
            | refine gg_ord3 hP ⟨hr, rfl⟩ ?_
            | refine gg_ord4 hP ⟨hr, rfl⟩ ?_
            | refine gg_ord5 hP ⟨hr, rfl⟩ ?_
            | refine gg_ord6 hP ⟨hr, rfl⟩ ?_
            | refine gg_stAll hP ⟨hd, rfl⟩ ?_
            | exact ⟨20 - (k + 1), by omega, k + 1, _, by rw [Int.natCast_add]; rfl, rfl, rfl, rfl, rfl, by omega⟩
            | refine Exists.intro _ (And.intro rfl ?_)
            | ((with_reducible show wp _ _ _ _ _ _ _ _ _ _ _ _ _ _); conv => whnf)
            | ((with_reducible show callK _ _ _ _ _ _ _ _ _); conv => whnf)
            | ((with_reducible show condK _ _ _ _ _); conv => whnf)
            | ((with_reducible show st1 _ _ _ _ _ _ _ _ _ _ _ _); conv => whnf)
            | ((with_reducible show (Prod.fst _ : Spec) _ _ _); conv => whnf)
            | ((with_reducible show shortK _ _); conv => whnf)
            | exact Nat.le_of_ble_eq_true rfl)
      · have ek : k = (nO R).toNat := by omega
        have eth : sumTo (fun j => thO R (j : Int)) k = swS R := by rw [ek]; exact q2.symm
        repeat' (first
            | omega
            | with_reducible apply And.intro
            | intro c9
            | exact t1
            | rw [e3]
            | rw [eth]
            | rw [e4]
            | exact ⟨100, 5, t3, Or.inl rfl, by omega, by omega⟩
            | exact kr_i ( h ) (Nat.le_of_ble_eq_true rfl) (Nat.le_of_ble_eq_true rfl)
            | refine Exists.intro _ (And.intro rfl ?_)
            | ((with_reducible show wp _ _ _ _ _ _ _ _ _ _ _ _ _ _); conv => whnf)
            | ((with_reducible show callK _ _ _ _ _ _ _ _ _); conv => whnf)
            | ((with_reducible show condK _ _ _ _ _); conv => whnf)
            | ((with_reducible show st1 _ _ _ _ _ _ _ _ _ _ _ _); conv => whnf)
            | ((with_reducible show (Prod.fst _ : Spec) _ _ _); conv => whnf)
            | ((with_reducible show shortK _ _); conv => whnf)
            | exact Nat.le_of_ble_eq_true rfl)
    · repeat' (first
          | omega
          | with_reducible apply And.intro
          | intro c9
          | exact t1
          | exact ⟨118, by omega, 0, _, _, _, _, rfl, rfl, rfl, rfl, rfl, by omega⟩
          | refine Exists.intro _ (And.intro rfl ?_)
          | ((with_reducible show wp _ _ _ _ _ _ _ _ _ _ _ _ _ _); conv => whnf)
          | ((with_reducible show callK _ _ _ _ _ _ _ _ _); conv => whnf)
          | ((with_reducible show condK _ _ _ _ _); conv => whnf)
          | ((with_reducible show st1 _ _ _ _ _ _ _ _ _ _ _ _); conv => whnf)
          | ((with_reducible show (Prod.fst _ : Spec) _ _ _); conv => whnf)
          | ((with_reducible show shortK _ _); conv => whnf)
          | exact Nat.le_of_ble_eq_true rfl)

/-! THE LAW: a design is looked at -/
def s_isDesign : Spec := fun as S post => match as with
  | [.inr (.inr (some 1)), .inl d, .inl n] => ∃ xs Ln n9 R, PI xs Ln n9 R S ∧ (0 ≤ d ∧ d < nD R) ∧ n = shN R d ∧ post (.inl (some (vI 1))) S
  | _ => False
def spL_isDesign : Nat → CD := spF mdL_isDesign fun i => match i with
  | 1 => ((frS s_stitchesI), 0, 0, 12)
  | 2 => ((frS s_stitchI), 0, 0, 12)
  | 3 => ((frS s_sequenceI), 0, 0, 12)
  | 4 => ((frS s_changesI), 0, 0, 12)
  | 5 => ((frS s_changesAnewI), 0, 0, 12)
  | 6 => (s_off, 0, 0, 1)
  | 7 => ((frS s_jumpsI), 0, 0, 12)
  | _ => noR
set_option maxHeartbeats 40000000 in
set_option maxRecDepth 100000 in
theorem sat_L_isDesign : Sat mL_isDesign s_isDesign 0 0 13 := by
  refine sat_of (E := eL_isDesign) (sp := spL_isDesign) (ini := false) (by decide +kernel) (fun h => by cases h) okL_isDesign (fun i => match i with
    | 1 => ⟨frS_sat sat_X6_stitches_i, Nat.le_of_ble_eq_true rfl⟩
    | 2 => ⟨frS_sat sat_X6_stitch_i, Nat.le_of_ble_eq_true rfl⟩
    | 3 => ⟨frS_sat sat_X6_sequence_i, Nat.le_of_ble_eq_true rfl⟩
    | 4 => ⟨frS_sat sat_X6_changes_i, Nat.le_of_ble_eq_true rfl⟩
    | 5 => ⟨frS_sat sat_X6_changesAnew_i, Nat.le_of_ble_eq_true rfl⟩
    | 6 => ⟨sat_L_off, Nat.le_of_ble_eq_true rfl⟩
    | 7 => ⟨frS_sat sat_X6_jumps_i, Nat.le_of_ble_eq_true rfl⟩
    | i + 8 => ⟨sat_no _, Nat.le_of_ble_eq_true rfl⟩
    | 0 => ⟨sat_no _, Nat.le_of_ble_eq_true rfl⟩) ?_
  intro as S post h
  match as, h with
  | [.inr (.inr (some 1)), .inl d, .inl n], h =>
    obtain ⟨xs, Ln, n9, R, hP, hd, hn, h⟩ := h
    have hI := hP.mi
    have hN := hI.2.1
    have hD := hI.2.2.2.1 d hd.1 hd.2
    have hmn := hD.mn
    have t1 : ∃ n, S.1 1 = some (6, n) := ⟨9, hP.t1⟩
    have h17 : 1 ≤ shN R d ∧ shN R d ≤ 7 := ⟨hD.1.2.2.1, hD.1.2.2.2.1⟩
    obtain ⟨W, w0, wn, ws⟩ := des_set hD
    obtain ⟨q, hq⟩ : ∃ q : Nat, (q : Int) = shN R d := ⟨(shN R d).toNat, Int.toNat_of_nonneg (by omega)⟩
    have hqn : (shN R d).toNat = q := by omega
    rw [hqn] at wn
    obtain ⟨M, hM⟩ : ∃ M : Nat, (M : Int) = mnK R d := ⟨(mnK R d).toNat, Int.toNat_of_nonneg (by omega)⟩
    have hMn : (mnK R d).toNat = M := by omega
    have hend : bgD R d q = M := by
      have := hD.end
      rw [hqn] at this
      show bgN (dQ R d) q = M
      omega
    have hmono : ∀ p, p ≤ q → bgD R d p ≤ M := fun p hp => by rw [← hend]; exact bgN_mono q hp
    have h2n := des_all hD q (by omega)
    rw [hend] at h2n
    have hsum : sumTo (fun c => cntC R d (c : Int) (mnK R d).toNat) 6 = mnK R d := by
      rw [cnt_6 hD _ (by omega)]
      omega
    have hchg := chg_lt hD
    have hjf := jmp_far (R := R) (d := d) M
    have hj1 := jmp_r (R := R) (d := d) (hid := 1) M
    have hj0 := jmp_r (R := R) (d := d) (hid := 0) M
    subst hn
    refine bodyL [(13, fun ms L st S' c => ∃ (k : Nat) (x6 x7 x8 x9 x10 x11 x12 : AV), L = [vT 1, vI d, vI (shN R d), vI (mnK R d), vI (sumTo (fun c => cntC R d (c : Int) (mnK R d).toNat) k), vI k, x6, x7, x8, x9, x10, x11, x12] ∧ st = [] ∧ S' = S ∧ c = (0, 0) ∧ ms = 100000 + (6 - k) ∧ k ≤ 6),
      (113, fun ms L st S' c => ∃ (p : Nat) (x10 x11 x12 : AV), L = [vT 1, vI d, vI (shN R d), vI (mnK R d), vI (mnK R d), vI 1, vI (W p : Nat), vI (bgD R d p : Nat), vI (farN R d (bgD R d p)), vI p, x10, x11, x12] ∧ st = [] ∧ S' = S ∧ c = (0, 0) ∧ ms = (7 - p) * 10000 + 9999 ∧ p ≤ q),
      (176, fun ms L st S' c => ∃ (p at_ : Nat) (x12 : AV), L = [vT 1, vI d, vI (shN R d), vI (mnK R d), vI (mnK R d), vI 1, vI (W (p + 1) : Nat), vI at_, vI (farN R d at_), vI p, vI (seqK R d p), vI (bgD R d p : Nat), x12] ∧ st = [] ∧ S' = S ∧ c = (0, 0) ∧ ms = (7 - p) * 10000 + (M - at_) ∧ p < q ∧ bgD R d p ≤ at_ ∧ at_ ≤ bgD R d (p + 1))] 200000 250 rfl
      (List.forall_mem_cons.mpr ⟨?_, List.forall_mem_cons.mpr ⟨?_, List.forall_mem_cons.mpr ⟨?_, fun q hq => by cases hq⟩⟩⟩) ?_
    · rintro ms L st S' c ⟨k, x6, x7, x8, x9, x10, x11, x12, rfl, rfl, rfl, rfl, rfl, hk⟩
      by_cases hk6 : k < 6
      · repeat' (first
            | omega
            | with_reducible apply And.intro
            | intro c9
            | exact t1
            | refine gg_stitches hP ⟨hd, by omega, by omega⟩ ?_
            | exact ⟨100000 + (6 - (k + 1)), by omega, k + 1, _, _, _, _, _, _, _, by rw [Int.natCast_add]; rfl, rfl, rfl, rfl, rfl, by omega⟩
            | refine Exists.intro _ (And.intro rfl ?_)
            | ((with_reducible show wp _ _ _ _ _ _ _ _ _ _ _ _ _ _); conv => whnf)
            | ((with_reducible show callK _ _ _ _ _ _ _ _ _); conv => whnf)
            | ((with_reducible show condK _ _ _ _ _); conv => whnf)
            | ((with_reducible show st1 _ _ _ _ _ _ _ _ _ _ _ _); conv => whnf)
            | ((with_reducible show (Prod.fst _ : Spec) _ _ _); conv => whnf)
            | ((with_reducible show shortK _ _); conv => whnf)
            | exact Nat.le_of_ble_eq_true rfl)
      · have e6 : k = 6 := by omega
        subst e6
        repeat' (first
            | omega
            | with_reducible apply And.intro
            | intro c9
            | exact t1
            | rw [hsum]
            | refine gg_stitchN hP ⟨hd, rfl, rfl⟩ ?_
            | refine gg_seqN hP ⟨hd, by omega, by omega, by omega⟩ ?_
            | refine gg_changes hP hd ?_
            | refine gg_changesAnew hP hd ?_
            | exact ⟨79999, by omega, 0, _, _, _, by rw [w0]; rfl, rfl, rfl, rfl, rfl, by omega⟩
            | refine Exists.intro _ (And.intro rfl ?_)
            | ((with_reducible show wp _ _ _ _ _ _ _ _ _ _ _ _ _ _); conv => whnf)
            | ((with_reducible show callK _ _ _ _ _ _ _ _ _); conv => whnf)
            | ((with_reducible show condK _ _ _ _ _); conv => whnf)
            | ((with_reducible show st1 _ _ _ _ _ _ _ _ _ _ _ _); conv => whnf)
            | ((with_reducible show (Prod.fst _ : Spec) _ _ _); conv => whnf)
            | ((with_reducible show shortK _ _); conv => whnf)
            | exact Nat.le_of_ble_eq_true rfl)
    · rintro ms L st S' c ⟨p, x10, x11, x12, rfl, rfl, rfl, rfl, rfl, hp⟩
      by_cases hpq : p < q
      · obtain ⟨s1, s2, s3⟩ := ws p (by omega)
        have sq := hD.seq (p := (p : Int)) (by omega) (by omega)
        have hl := des_len hD (p := p) (by omega)
        have hm1 := hmono (p + 1) (by omega)
        have hi := des_its hD (p := p) (by omega) (Nat.le_refl _) (by omega)
        have eb : bAnd (bShr ((W p : Nat) : Int) (seqK R d p)) 1 = 0 := by
          have := bz_has (W p) (seqK R d p).toNat s1 (by omega)
          rw [Int.toNat_of_nonneg sq.1, s2, if_neg (by simp)] at this
          exact this
        have eo : bOr ((W p : Nat) : Int) (bShl 1 (seqK R d p)) = ((W (p + 1) : Nat) : Int) := by
          have := bz_or (W p) (seqK R d p).toNat s1 (by omega)
          rw [Int.toNat_of_nonneg sq.1, ← s3] at this
          exact this
        repeat' (first
            | omega
            | with_reducible apply And.intro
            | intro c9
            | exact t1
            | refine gg_seq hP ⟨hd, by omega, by omega⟩ ?_
            | refine gg_stitch2 hP ⟨hd, ⟨by omega, by omega⟩, rfl⟩ ?_
            | rw [eb]
            | rw [eo]
            | rw [hi]
            | exact ⟨(7 - p) * 10000 + (M - bgD R d p), by omega, p, bgD R d p, _, rfl, rfl, rfl, rfl, rfl, hpq, Nat.le_refl _, by omega⟩
            | refine Exists.intro _ (And.intro rfl ?_)
            | ((with_reducible show wp _ _ _ _ _ _ _ _ _ _ _ _ _ _); conv => whnf)
            | ((with_reducible show callK _ _ _ _ _ _ _ _ _); conv => whnf)
            | ((with_reducible show condK _ _ _ _ _); conv => whnf)
            | ((with_reducible show st1 _ _ _ _ _ _ _ _ _ _ _ _); conv => whnf)
            | ((with_reducible show (Prod.fst _ : Spec) _ _ _); conv => whnf)
            | ((with_reducible show shortK _ _); conv => whnf)
            | exact Nat.le_of_ble_eq_true rfl)
      · have ep : p = q := by omega
        subst ep
        have es : bShl 1 (shN R d) = ((2 ^ p : Nat) : Int) := by
          have := bz_shl p (by omega)
          rw [hq] at this
          exact this
        have hp2 := Nat.two_pow_pos p
        have hp7 : 2 ^ p ≤ 128 := Nat.le_trans (show 2 ^ p ≤ 2 ^ 7 from Nat.pow_le_pow_right (by omega) (by omega)) (by decide)
        have hfr := farN_r (R := R) (d := d) M
        rw [hend]
        repeat' (first
            | omega
            | with_reducible apply And.intro
            | intro c9
            | exact t1
            | rw [es]
            | rw [wn]
            | rw [hMn]
            | refine gg_jumps hP ⟨hd, Or.inl rfl⟩ ?_
            | refine gg_jumps hP ⟨hd, Or.inr rfl⟩ ?_
            | exact kr_i ( h ) (Nat.le_of_ble_eq_true rfl) (Nat.le_of_ble_eq_true rfl)
            | refine Exists.intro _ (And.intro rfl ?_)
            | ((with_reducible show wp _ _ _ _ _ _ _ _ _ _ _ _ _ _); conv => whnf)
            | ((with_reducible show callK _ _ _ _ _ _ _ _ _); conv => whnf)
            | ((with_reducible show condK _ _ _ _ _); conv => whnf)
            | ((with_reducible show st1 _ _ _ _ _ _ _ _ _ _ _ _); conv => whnf)
            | ((with_reducible show (Prod.fst _ : Spec) _ _ _); conv => whnf)
            | ((with_reducible show shortK _ _); conv => whnf)
            | exact Nat.le_of_ble_eq_true rfl)
    · rintro ms L st S' c ⟨p, at_, x12, rfl, rfl, rfl, rfl, rfl, hp, ha0, ha1⟩
      have sq := hD.seq (p := (p : Int)) (by omega) (by omega)
      have hl := des_len hD (p := p) (by omega)
      have hm1 := hmono (p + 1) (by omega)
      have hfr := farN_r (R := R) (d := d) at_
      by_cases hat : at_ < bgD R d (p + 1)
      · have hi := des_its hD (p := p) (by omega) ha0 hat
        by_cases h0 : at_ = 0
        · have hF : farN R d (at_ + 1) = farN R d at_ := by rw [h0]; rfl
          repeat' (first
              | omega
              | with_reducible apply And.intro
              | intro c9
              | exact t1
              | refine gg_stitch2 hP ⟨hd, ⟨by omega, by omega⟩, rfl⟩ ?_
              | rw [hi]
              | exact ⟨(7 - p) * 10000 + (M - (at_ + 1)), by omega, p, at_ + 1, _, by rw [hF, Int.natCast_add, Int.add_zero]; rfl, rfl, rfl, rfl, rfl, hp, by omega, by omega⟩
              | refine Exists.intro _ (And.intro rfl ?_)
              | ((with_reducible show wp _ _ _ _ _ _ _ _ _ _ _ _ _ _); conv => whnf)
              | ((with_reducible show callK _ _ _ _ _ _ _ _ _); conv => whnf)
              | ((with_reducible show condK _ _ _ _ _); conv => whnf)
              | ((with_reducible show st1 _ _ _ _ _ _ _ _ _ _ _ _); conv => whnf)
              | ((with_reducible show (Prod.fst _ : Spec) _ _ _); conv => whnf)
              | ((with_reducible show shortK _ _); conv => whnf)
              | exact Nat.le_of_ble_eq_true rfl)
        · have hFs := farN_s R d (k := at_) (by omega)
          have ho : farP2 R d at_ ↔ (stK R d at_ % 16 - stK R d ((at_ : Int) - 1) % 16 > 1 ∨ stK R d at_ % 16 - stK R d ((at_ : Int) - 1) % 16 < -1) ∨ (stK R d at_ / 16 % 16 - stK R d ((at_ : Int) - 1) / 16 % 16 > 1 ∨ stK R d at_ / 16 % 16 - stK R d ((at_ : Int) - 1) / 16 % 16 < -1) := by
            unfold farP2 offP
            omega
          by_cases hf : farP2 R d at_
          · have ho1 := ho.mp hf
            have hF : farN R d (at_ + 1) = farN R d at_ + 1 := by
              rw [hFs]
              unfold farI
              rw [if_pos hf]
            clear ho hFs
            repeat' (first
                | omega
                | with_reducible apply And.intro
                | intro c9
                | exact t1
                | refine gg_stitch2 hP ⟨hd, ⟨by omega, by omega⟩, rfl⟩ ?_
                | refine gg_stitch0 hP ⟨hd, ⟨by omega, by omega⟩, rfl⟩ ?_
                | refine gg_stitch1 hP ⟨hd, ⟨by omega, by omega⟩, rfl⟩ ?_
                | rw [hi]
                | exact ⟨(7 - p) * 10000 + (M - (at_ + 1)), by omega, p, at_ + 1, _, by rw [hF, Int.natCast_add]; rfl, rfl, rfl, rfl, rfl, hp, by omega, by omega⟩
                | refine Exists.intro _ (And.intro rfl ?_)
                | ((with_reducible show wp _ _ _ _ _ _ _ _ _ _ _ _ _ _); conv => whnf)
                | ((with_reducible show callK _ _ _ _ _ _ _ _ _); conv => whnf)
                | ((with_reducible show condK _ _ _ _ _); conv => whnf)
                | ((with_reducible show st1 _ _ _ _ _ _ _ _ _ _ _ _); conv => whnf)
                | ((with_reducible show (Prod.fst _ : Spec) _ _ _); conv => whnf)
                | ((with_reducible show shortK _ _); conv => whnf)
                | exact Nat.le_of_ble_eq_true rfl)
          · have ho1 : ¬ ((stK R d at_ % 16 - stK R d ((at_ : Int) - 1) % 16 > 1 ∨ stK R d at_ % 16 - stK R d ((at_ : Int) - 1) % 16 < -1) ∨ (stK R d at_ / 16 % 16 - stK R d ((at_ : Int) - 1) / 16 % 16 > 1 ∨ stK R d at_ / 16 % 16 - stK R d ((at_ : Int) - 1) / 16 % 16 < -1)) := fun z => hf (ho.mpr z)
            have hF : farN R d (at_ + 1) = farN R d at_ := by
              rw [hFs]
              unfold farI
              rw [if_neg hf]
              omega
            clear ho hFs
            repeat' (first
                | omega
                | with_reducible apply And.intro
                | intro c9
                | exact t1
                | refine gg_stitch2 hP ⟨hd, ⟨by omega, by omega⟩, rfl⟩ ?_
                | refine gg_stitch0 hP ⟨hd, ⟨by omega, by omega⟩, rfl⟩ ?_
                | refine gg_stitch1 hP ⟨hd, ⟨by omega, by omega⟩, rfl⟩ ?_
                | rw [hi]
                | exact ⟨(7 - p) * 10000 + (M - (at_ + 1)), by omega, p, at_ + 1, _, by rw [hF, Int.natCast_add, Int.add_zero]; rfl, rfl, rfl, rfl, rfl, hp, by omega, by omega⟩
                | refine Exists.intro _ (And.intro rfl ?_)
                | ((with_reducible show wp _ _ _ _ _ _ _ _ _ _ _ _ _ _); conv => whnf)
                | ((with_reducible show callK _ _ _ _ _ _ _ _ _); conv => whnf)
                | ((with_reducible show condK _ _ _ _ _); conv => whnf)
                | ((with_reducible show st1 _ _ _ _ _ _ _ _ _ _ _ _); conv => whnf)
                | ((with_reducible show (Prod.fst _ : Spec) _ _ _); conv => whnf)
                | ((with_reducible show shortK _ _); conv => whnf)
                | exact Nat.le_of_ble_eq_true rfl)
      · have ea : at_ = bgD R d (p + 1) := by omega
        by_cases hpn : p + 1 < q
        · have hl2 := des_len hD (p := p + 1) (by omega)
          have hm2 := hmono (p + 1 + 1) (by omega)
          have hi := des_its hD (p := p + 1) (by omega) (Nat.le_refl _) (by omega)
          rw [← ea] at hi hl2
          have hne := des_ne hD (p := p) (by omega)
          have sq2 := hD.seq (p := ((p + 1 : Nat) : Int)) (by omega) (by omega)
          repeat' (first
              | omega
              | with_reducible apply And.intro
              | intro c9
              | exact t1
              | refine gg_stitch2 hP ⟨hd, ⟨by omega, by omega⟩, rfl⟩ ?_
              | rw [hi]
              | exact ⟨(7 - (p + 1)) * 10000 + 9999, by omega, p + 1, _, _, _, by rw [← ea, Int.natCast_add]; rfl, rfl, rfl, rfl, rfl, by omega⟩
              | refine Exists.intro _ (And.intro rfl ?_)
              | ((with_reducible show wp _ _ _ _ _ _ _ _ _ _ _ _ _ _); conv => whnf)
              | ((with_reducible show callK _ _ _ _ _ _ _ _ _); conv => whnf)
              | ((with_reducible show condK _ _ _ _ _); conv => whnf)
              | ((with_reducible show st1 _ _ _ _ _ _ _ _ _ _ _ _); conv => whnf)
              | ((with_reducible show (Prod.fst _ : Spec) _ _ _); conv => whnf)
              | ((with_reducible show shortK _ _); conv => whnf)
              | exact Nat.le_of_ble_eq_true rfl)
        · have ep : p + 1 = q := by omega
          have eM : at_ = M := by rw [ea, ep]; exact hend
          repeat' (first
              | omega
              | with_reducible apply And.intro
              | intro c9
              | exact t1
              | exact ⟨(7 - (p + 1)) * 10000 + 9999, by omega, p + 1, _, _, _, by rw [← ea, Int.natCast_add]; rfl, rfl, rfl, rfl, rfl, by omega⟩
              | refine Exists.intro _ (And.intro rfl ?_)
              | ((with_reducible show wp _ _ _ _ _ _ _ _ _ _ _ _ _ _); conv => whnf)
              | ((with_reducible show callK _ _ _ _ _ _ _ _ _); conv => whnf)
              | ((with_reducible show condK _ _ _ _ _); conv => whnf)
              | ((with_reducible show st1 _ _ _ _ _ _ _ _ _ _ _ _); conv => whnf)
              | ((with_reducible show (Prod.fst _ : Spec) _ _ _); conv => whnf)
              | ((with_reducible show shortK _ _); conv => whnf)
              | exact Nat.le_of_ble_eq_true rfl)
    · repeat' (first
          | omega
          | with_reducible apply And.intro
          | intro c9
          | exact t1
          | refine gg_stAll hP ⟨hd, rfl⟩ ?_
          | exact ⟨100006, by omega, 0, _, _, _, _, _, _, _, rfl, rfl, rfl, rfl, rfl, by omega⟩
          | refine Exists.intro _ (And.intro rfl ?_)
          | ((with_reducible show wp _ _ _ _ _ _ _ _ _ _ _ _ _ _); conv => whnf)
          | ((with_reducible show callK _ _ _ _ _ _ _ _ _); conv => whnf)
          | ((with_reducible show condK _ _ _ _ _); conv => whnf)
          | ((with_reducible show st1 _ _ _ _ _ _ _ _ _ _ _ _); conv => whnf)
          | ((with_reducible show (Prod.fst _ : Spec) _ _ _); conv => whnf)
          | ((with_reducible show shortK _ _); conv => whnf)
          | exact Nat.le_of_ble_eq_true rfl)

