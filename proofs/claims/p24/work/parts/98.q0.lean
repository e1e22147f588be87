/-! THE LAW: what holds between its calls -/
def PIb (xs : Nat → Int) (Ln : Nat) (n : Int) (C R S : Sto) : Prop := (subS C S ∧ cloS C) ∧ (∀ t, inF t → C.1 t = none) ∧ (∀ t, S.1 t ≠ none → C.1 t ≠ none ∨ inF t) ∧ (S.1 3 = some (100, 5) ∧ S.1 10 = some (102, Ln) ∧ ∀ j, S.2.1 10 j = xs j) ∧ MI n R ∧ SI0 R ∧ ∃ B N, CI B N C R
def PI (xs : Nat → Int) (Ln : Nat) (n : Int) (R S : Sto) : Prop := ∃ C, PIb xs Ln n C R S
theorem PI.mi {xs : Nat → Int} {Ln : Nat} {n : Int} {R S : Sto} (h : PI xs Ln n R S) : MI n R := by
  obtain ⟨C, -, -, -, -, hI, -⟩ := h
  exact hI
theorem PI.x {xs : Nat → Int} {Ln : Nat} {n : Int} {R S : Sto} (h : PI xs Ln n R S) : S.1 3 = some (100, 5) ∧ S.1 10 = some (102, Ln) ∧ ∀ j, S.2.1 10 j = xs j := by
  obtain ⟨C, -, -, -, e, -⟩ := h
  exact e
theorem PI.t1 {xs : Nat → Int} {Ln : Nat} {n : Int} {R S : Sto} (h : PI xs Ln n R S) : S.1 1 = some (6, 9) := by
  obtain ⟨C, a, -, -, -, -, -, B, N, hC⟩ := h
  exact (a.1 1 _ hC.1.1).1
theorem PI.put {xs : Nat → Int} {Ln : Nat} {n : Int} {R S : Sto} (h : PI xs Ln n R S) {j : Nat} {w : Int} : PI xs Ln n R (updI S 3 j w) := by
  obtain ⟨C, ⟨a1, a2⟩, b, d, ⟨e1, e2, e3⟩, hI⟩ := h
  have hu : ∀ t, t ≠ 3 → (updI S 3 j w).2.1 t = S.2.1 t := fun t ht => by funext q; rw [updI_2, if_neg (fun z => ht z.1)]
  refine ⟨C, ⟨fun t x e => ?_, a2⟩, b, d, ⟨e1, e2, fun q => ?_⟩, hI⟩
  · obtain ⟨q1, q2, q3⟩ := a1 t x e
    exact ⟨q1, (hu t (fun z => by rw [z, b 3 (by omega)] at e; cases e)).trans q2, q3⟩
  · rw [hu 10 (by omega)]; exact e3 q
theorem PI.up {xs : Nat → Int} {Ln : Nat} {n : Int} {R S : Sto} (h : PI xs Ln n R S) (hn : n + 1 ≤ 15000) : PI xs Ln (n + 1) R S := by
  obtain ⟨C, a, b, d, e, hI, h0⟩ := h
  exact ⟨C, a, b, d, e, hI.up hn, h0⟩
theorem ovS_self {C S : Sto} (h : subS C S) : ovS S C = S := by
  have e1 : (ovS S C).1 = S.1 := funext fun t => by
    cases e : C.1 t with
    | none => exact (ovS_n e).1
    | some x => exact (ovS_s e).1.trans (h t x e).1.symm
  have e2 : (ovS S C).2.1 = S.2.1 := funext fun t => by
    cases e : C.1 t with
    | none => exact (ovS_n e).2.1
    | some x => exact (ovS_s e).2.1.trans (h t x e).2.1.symm
  have e3 : (ovS S C).2.2 = S.2.2 := funext fun t => by
    cases e : C.1 t with
    | none => exact (ovS_n e).2.2
    | some x => exact (ovS_s e).2.2.trans (h t x e).2.2.symm
  exact Prod.ext e1 (Prod.ext e2 e3)
/-- a call that asks -/
theorem pg {spec : Spec} {as : List AV} {v : Int} {xs : Nat → Int} {Ln : Nat} {n : Int} {R S : Sto} (h : PI xs Ln n R S) (hargs : ∀ C : Sto, C.1 1 = some (6, 9) → CL C as) (hv : InR v) (hs : ∀ (B : Nat → Nat) (N : Nat) (C : Sto), CI B N C R → ∀ P : Res → Sto → Prop, P (.inl (some (vI v))) C → spec as C P) {post : Res → Sto → Prop} (hp : post (.inl (some (vI v))) S) : frS spec as S post := by
  obtain ⟨C, ⟨a1, a2⟩, b, d, -, hI, -, B, N, hC⟩ := h
  refine ⟨C, a1, a2, hargs C hC.1.1, hs B N C hC _ ⟨fun t t1 _ => t1, fun _ _ => ?_⟩⟩
  have e : nrm (.inl (some (vI v))) = .inl (some (vI v)) := by
    show Sum.inl (some (Sum.inl (wr v))) = _
    rw [wr_id hv]
  rw [ovS_self a1, e]
  exact hp
/-- the one answer that agrees -/
theorem get_of {ex : List Nat} {op : Int → Int → Sto → Prop} {spec : Spec} {as : List AV} {S R' : Sto} {f : Int} (AG : ∀ {post : Res → Sto → Prop}, (∀ r S1, okr ex r = true → tyF S S1 → agC em1 op r S1 → post r S1) → spec as S post) (mono : ∀ p q : Res → Sto → Prop, spec as S p → (∀ r, p r S → q r S) → spec as S q) (ho : op 0 f R') {P : Res → Sto → Prop} (hP : P (.inl (some (vI f))) S) : spec as S P := by
  refine mono (fun r _ => r = .inl (some (vI f))) P (AG fun r S1 hok _ hag => ?_) (fun r h => by rw [h]; exact hP)
  have ha := (hag 0 f R' ho).1
  match r, hok, ha with
  | .inl (some (.inl x)), _, ha => rw [ha.2]
  | .inr e, _, ha =>
    exfalso
    have ha' : (0 : Int) = (e : Int) + 1 := ha
    omega
theorem mo_changes {S : Sto} {d9 : Int} (p q : Res → Sto → Prop) : s_changesC [vT 1, vI d9] S p → (∀ r, p r S → q r S) → s_changesC [vT 1, vI d9] S q :=
  fun ⟨W, hW, hd, a, b⟩ h => ⟨W, hW, hd, fun n => h _ (a n), fun n => h _ (b n)⟩
theorem mo_changesAnew {S : Sto} {d9 : Int} (p q : Res → Sto → Prop) : s_changesAnewC [vT 1, vI d9] S p → (∀ r, p r S → q r S) → s_changesAnewC [vT 1, vI d9] S q :=
  fun ⟨W, hW, hd, a, b⟩ h => ⟨W, hW, hd, fun n => h _ (a n), fun n => h _ (b n)⟩
theorem mo_jumps {S : Sto} {d9 i9 : Int} (p q : Res → Sto → Prop) : s_jumpsC [vT 1, vI d9, vI i9] S p → (∀ r, p r S → q r S) → s_jumpsC [vT 1, vI d9, vI i9] S q :=
  fun ⟨W, hW, hd, a, b⟩ h => ⟨W, hW, hd, fun n => h _ (a n), fun n => h _ (b n)⟩
theorem mo_sequence {S : Sto} {d9 p9 : Int} (p q : Res → Sto → Prop) : s_sequenceC [vT 1, vI d9, vI p9] S p → (∀ r, p r S → q r S) → s_sequenceC [vT 1, vI d9, vI p9] S q :=
  fun ⟨W, hW, hd, a, b⟩ h => ⟨W, hW, hd, fun n => h _ (a n), fun n => h _ (b n)⟩
theorem mo_stitches {S : Sto} {d9 c9 : Int} (p q : Res → Sto → Prop) : s_stitchesC [vT 1, vI d9, vI c9] S p → (∀ r, p r S → q r S) → s_stitchesC [vT 1, vI d9, vI c9] S q :=
  fun ⟨W, hW, hd, a, b⟩ h => ⟨W, hW, hd, fun n => h _ (a n), fun n => h _ (b n)⟩
theorem mo_shadeOf {S : Sto} {o9 c9 : Int} (p q : Res → Sto → Prop) : s_shadeOfC [vT 1, vI o9, vI c9] S p → (∀ r, p r S → q r S) → s_shadeOfC [vT 1, vI o9, vI c9] S q :=
  fun ⟨W, hW, hd, a, b⟩ h => ⟨W, hW, hd, fun n => h _ (a n), fun n => h _ (b n)⟩
theorem mo_left {S : Sto} {c9 s9 : Int} (p q : Res → Sto → Prop) : s_leftC [vT 1, vI c9, vI s9] S p → (∀ r, p r S → q r S) → s_leftC [vT 1, vI c9, vI s9] S q :=
  fun ⟨W, hW, hd, a, b⟩ h => ⟨W, hW, hd, fun n => h _ (a n), fun n => h _ (b n)⟩
theorem mo_stitch {S : Sto} {d9 x9 w9 : Int} (p q : Res → Sto → Prop) : s_stitchC [vT 1, vI d9, vI x9, vI w9] S p → (∀ r, p r S → q r S) → s_stitchC [vT 1, vI d9, vI x9, vI w9] S q :=
  fun ⟨W, hW, hd, a, a2, b⟩ h => ⟨W, hW, hd, fun n => h _ (a n), fun n m => h _ (a2 n m), fun n m => ⟨fun z => h _ ((b n m).1 z), fun p z => h _ ((b n m).2 p z)⟩⟩
theorem mo_ofMachine {S : Sto} {d9 w9 : Int} (p q : Res → Sto → Prop) : s_ofMachineC [vT 1, vI d9, vI w9] S p → (∀ r, p r S → q r S) → s_ofMachineC [vT 1, vI d9, vI w9] S q :=
  fun ⟨W, hW, hd, a, a2, b⟩ h => ⟨W, hW, hd, fun n => h _ (a n), fun n m => h _ (a2 n m), fun n m => ⟨fun w z => h _ ((b n m).1 w z), fun o w z => h _ ((b n m).2.1 o w z), fun w => h _ ((b n m).2.2.1 w), fun w => h _ ((b n m).2.2.2.1 w), fun w => h _ ((b n m).2.2.2.2 w)⟩⟩
theorem mo_ofOrder {S : Sto} {d9 w9 : Int} (p q : Res → Sto → Prop) : s_ofOrderC [vT 1, vI d9, vI w9] S p → (∀ r, p r S → q r S) → s_ofOrderC [vT 1, vI d9, vI w9] S q :=
  fun ⟨W, hW, hd, a, a2, b⟩ h => ⟨W, hW, hd, fun n => h _ (a n), fun n m => h _ (a2 n m), fun n m => ⟨fun w z => h _ ((b n m).1 w z), fun o w z => h _ ((b n m).2.1 o w z), fun w => h _ ((b n m).2.2.1 w), fun w => h _ ((b n m).2.2.2.1 w), fun w => h _ ((b n m).2.2.2.2.1 w), fun w => h _ ((b n m).2.2.2.2.2.1 w), fun w => h _ ((b n m).2.2.2.2.2.2.1 w), fun w => h _ ((b n m).2.2.2.2.2.2.2 w)⟩⟩
theorem gg_changes {xs : Nat → Int} {Ln : Nat} {n : Int} {R S : Sto} {d : Int} (h : PI xs Ln n R S) (hr : 0 ≤ d ∧ d < nD R) {post : Res → Sto → Prop} (hp : post (.inl (some (vI (chgN R d (shN R d).toNat)))) S) : frS s_changesI [vT 1, vI d] S post := by
  have hI := h.mi
  have hN := hI.2.1
  have hD := hI.2.2.2.1 d (by omega) (by omega)
  have hmn := hD.mn
  refine pg h (fun C h => CL.cons (fun t e => by cases e; rw [h]; exact fun z => by cases z) (CL.cons VOK.i (fun a ha => by cases ha))) (by have := chg_lt hD; have := hD.1.2.2.2.1; unfold InR; omega) (fun B N C hC P hP => ⟨?_, get_of (fun hq => ag_changes hC hI ⟨by omega, by omega⟩ hq) (mo_changes) (R' := thr R 0) (f := chgN R d (shN R d).toNat) ?_ hP⟩) hp
  · have e3 := hC.2.1.2.1; omega
  · exact ⟨(if_pos hr).symm, rfl, fun _ => rfl⟩
theorem gg_changesAnew {xs : Nat → Int} {Ln : Nat} {n : Int} {R S : Sto} {d : Int} (h : PI xs Ln n R S) (hr : 0 ≤ d ∧ d < nD R) {post : Res → Sto → Prop} (hp : post (.inl (some (vI (chgN R d (shN R d).toNat)))) S) : frS s_changesAnewI [vT 1, vI d] S post := by
  have hI := h.mi
  have hN := hI.2.1
  have hD := hI.2.2.2.1 d (by omega) (by omega)
  have hmn := hD.mn
  refine pg h (fun C h => CL.cons (fun t e => by cases e; rw [h]; exact fun z => by cases z) (CL.cons VOK.i (fun a ha => by cases ha))) (by have := chg_lt hD; have := hD.1.2.2.2.1; unfold InR; omega) (fun B N C hC P hP => ⟨?_, get_of (fun hq => ag_changesAnew hC hI ⟨by omega, by omega⟩ hq) (mo_changesAnew) (R' := thr R 0) (f := chgN R d (shN R d).toNat) ?_ hP⟩) hp
  · have e3 := hC.2.1.2.1; omega
  · exact ⟨(if_pos hr).symm, rfl, fun _ => rfl⟩
theorem gg_jumps {xs : Nat → Int} {Ln : Nat} {n : Int} {R S : Sto} {d i : Int} (h : PI xs Ln n R S) (hr : (0 ≤ d ∧ d < nD R) ∧ (i = 0 ∨ i = 1)) {post : Res → Sto → Prop} (hp : post (.inl (some (vI (jmpN R d i (mnK R d).toNat)))) S) : frS s_jumpsI [vT 1, vI d, vI i] S post := by
  have hI := h.mi
  have hN := hI.2.1
  have hD := hI.2.2.2.1 d (by omega) (by omega)
  have hmn := hD.mn
  refine pg h (fun C h => CL.cons (fun t e => by cases e; rw [h]; exact fun z => by cases z) (CL.cons VOK.i (CL.cons VOK.i (fun a ha => by cases ha)))) (by have := jmp_r (R := R) (d := d) (hid := i) (mnK R d).toNat; unfold InR; omega) (fun B N C hC P hP => ⟨?_, get_of (fun hq => ag_jumps hC hI ⟨by omega, by omega⟩ (by omega) hq) (mo_jumps) (R' := thr R 0) (f := jmpN R d i (mnK R d).toNat) ?_ hP⟩) hp
  · have e3 := hC.2.1.2.1; omega
  · exact ⟨(if_pos hr.1).symm, rfl, fun _ => rfl⟩
theorem gg_seq {xs : Nat → Int} {Ln : Nat} {n : Int} {R S : Sto} {d p : Int} (h : PI xs Ln n R S) (hr : (0 ≤ d ∧ d < nD R) ∧ 0 ≤ p ∧ p < shN R d) {post : Res → Sto → Prop} (hp : post (.inl (some (vI (seqK R d p)))) S) : frS s_sequenceI [vT 1, vI d, vI p] S post := by
  have hI := h.mi
  have hN := hI.2.1
  have hD := hI.2.2.2.1 d (by omega) (by omega)
  have hmn := hD.mn
  have h7 := hD.1.2.2.2.1
  refine pg h (fun C h => CL.cons (fun t e => by cases e; rw [h]; exact fun z => by cases z) (CL.cons VOK.i (CL.cons VOK.i (fun a ha => by cases ha)))) (by have := hD.seq hr.2.1 hr.2.2; have := hD.1.2.2.2.1; unfold InR; omega) (fun B N C hC P hP => ⟨?_, get_of (fun hq => ag_sequence hC hI ⟨by omega, by omega⟩ ⟨by omega, by omega⟩ hq) (mo_sequence) (R' := thr R 0) (f := seqK R d p) ?_ hP⟩) hp
  · have e3 := hC.2.1.2.1; omega
  · exact ⟨(if_pos ⟨hr.1.1, hr.1.2, hr.2.1⟩).symm, rfl, fun _ => (if_pos hr.2.2).symm⟩
theorem gg_seqN {xs : Nat → Int} {Ln : Nat} {n : Int} {R S : Sto} {d p : Int} (h : PI xs Ln n R S) (hr : (0 ≤ d ∧ d < nD R) ∧ 0 ≤ p ∧ p ≤ 100 ∧ shN R d ≤ p) {post : Res → Sto → Prop} (hp : post (.inl (some (vI (-1)))) S) : frS s_sequenceI [vT 1, vI d, vI p] S post := by
  have hI := h.mi
  have hN := hI.2.1
  have hD := hI.2.2.2.1 d (by omega) (by omega)
  have hmn := hD.mn
  refine pg h (fun C h => CL.cons (fun t e => by cases e; rw [h]; exact fun z => by cases z) (CL.cons VOK.i (CL.cons VOK.i (fun a ha => by cases ha)))) (by unfold InR; omega) (fun B N C hC P hP => ⟨?_, get_of (fun hq => ag_sequence hC hI ⟨by omega, by omega⟩ ⟨by omega, by omega⟩ hq) (mo_sequence) (R' := thr R 0) (f := -1) ?_ hP⟩) hp
  · have e3 := hC.2.1.2.1; omega
  · exact ⟨(if_pos ⟨hr.1.1, hr.1.2, hr.2.1⟩).symm, rfl, fun _ => (if_neg (by omega)).symm⟩
theorem gg_stitches {xs : Nat → Int} {Ln : Nat} {n : Int} {R S : Sto} {d c : Int} (h : PI xs Ln n R S) (hr : (0 ≤ d ∧ d < nD R) ∧ 0 ≤ c ∧ c < 6) {post : Res → Sto → Prop} (hp : post (.inl (some (vI (cntC R d c (mnK R d).toNat)))) S) : frS s_stitchesI [vT 1, vI d, vI c] S post := by
  have hI := h.mi
  have hN := hI.2.1
  have hD := hI.2.2.2.1 d (by omega) (by omega)
  have hmn := hD.mn
  refine pg h (fun C h => CL.cons (fun t e => by cases e; rw [h]; exact fun z => by cases z) (CL.cons VOK.i (CL.cons VOK.i (fun a ha => by cases ha)))) (by have := cnt_r (R := R) (d := d) (c := c) (mnK R d).toNat; unfold InR; omega) (fun B N C hC P hP => ⟨?_, get_of (fun hq => ag_stitches hC hI ⟨by omega, by omega⟩ ⟨by omega, by omega⟩ hq) (mo_stitches) (R' := thr R 0) (f := cntC R d c (mnK R d).toNat) ?_ hP⟩) hp
  · have e3 := hC.2.1.2.1; omega
  · exact ⟨(if_pos ⟨hr.1.1, hr.1.2, Or.inr hr.2⟩).symm, rfl, fun _ => rfl⟩
theorem gg_stAll {xs : Nat → Int} {Ln : Nat} {n : Int} {R S : Sto} {d c : Int} (h : PI xs Ln n R S) (hr : (0 ≤ d ∧ d < nD R) ∧ c = -1) {post : Res → Sto → Prop} (hp : post (.inl (some (vI (mnK R d)))) S) : frS s_stitchesI [vT 1, vI d, vI c] S post := by
  have hI := h.mi
  have hN := hI.2.1
  have hD := hI.2.2.2.1 d (by omega) (by omega)
  have hmn := hD.mn
  refine pg h (fun C h => CL.cons (fun t e => by cases e; rw [h]; exact fun z => by cases z) (CL.cons VOK.i (CL.cons VOK.i (fun a ha => by cases ha)))) (by unfold InR; omega) (fun B N C hC P hP => ⟨?_, get_of (fun hq => ag_stitches hC hI ⟨by omega, by omega⟩ ⟨by omega, by omega⟩ hq) (mo_stitches) (R' := thr R 0) (f := mnK R d) ?_ hP⟩) hp
  · have e3 := hC.2.1.2.1; omega
  · exact ⟨(if_pos ⟨hr.1.1, hr.1.2, Or.inl hr.2⟩).symm, rfl, fun _ => by rw [hr.2, cnt_all]; omega⟩
theorem gg_stitch0 {xs : Nat → Int} {Ln : Nat} {n : Int} {R S : Sto} {d x w : Int} (h : PI xs Ln n R S) (hr : (0 ≤ d ∧ d < nD R) ∧ (0 ≤ x ∧ x < mnK R d) ∧ w = 0) {post : Res → Sto → Prop} (hp : post (.inl (some (vI (stK R d x % 16)))) S) : frS s_stitchI [vT 1, vI d, vI x, vI w] S post := by
  have hI := h.mi
  have hN := hI.2.1
  have hD := hI.2.2.2.1 d (by omega) (by omega)
  have hmn := hD.mn
  refine pg h (fun C h => CL.cons (fun t e => by cases e; rw [h]; exact fun z => by cases z) (CL.cons VOK.i (CL.cons VOK.i (CL.cons VOK.i (fun a ha => by cases ha))))) (by have := hD.stR hr.2.1.1 hr.2.1.2; have := hD.1.2.2.2.1; unfold InR; omega) (fun B N C hC P hP => ⟨?_, get_of (fun hq => ag_stitch hC hI ⟨by omega, by omega⟩ ⟨by omega, by omega⟩ ⟨by omega, by omega⟩ hq) (mo_stitch) (R' := thr R 0) (f := stK R d x % 16) ?_ hP⟩) hp
  · have e3 := hC.2.1.2.1; omega
  · exact ⟨by rw [if_neg (by omega), if_pos (by omega)], rfl, fun _ => by rw [if_neg (by omega), if_pos hr.2.2]⟩
theorem gg_stitch1 {xs : Nat → Int} {Ln : Nat} {n : Int} {R S : Sto} {d x w : Int} (h : PI xs Ln n R S) (hr : (0 ≤ d ∧ d < nD R) ∧ (0 ≤ x ∧ x < mnK R d) ∧ w = 1) {post : Res → Sto → Prop} (hp : post (.inl (some (vI (stK R d x / 16 % 16)))) S) : frS s_stitchI [vT 1, vI d, vI x, vI w] S post := by
  have hI := h.mi
  have hN := hI.2.1
  have hD := hI.2.2.2.1 d (by omega) (by omega)
  have hmn := hD.mn
  refine pg h (fun C h => CL.cons (fun t e => by cases e; rw [h]; exact fun z => by cases z) (CL.cons VOK.i (CL.cons VOK.i (CL.cons VOK.i (fun a ha => by cases ha))))) (by have := hD.stR hr.2.1.1 hr.2.1.2; have := hD.1.2.2.2.1; unfold InR; omega) (fun B N C hC P hP => ⟨?_, get_of (fun hq => ag_stitch hC hI ⟨by omega, by omega⟩ ⟨by omega, by omega⟩ ⟨by omega, by omega⟩ hq) (mo_stitch) (R' := thr R 0) (f := stK R d x / 16 % 16) ?_ hP⟩) hp
  · have e3 := hC.2.1.2.1; omega
  · exact ⟨by rw [if_neg (by omega), if_pos (by omega)], rfl, fun _ => by rw [if_neg (by omega), if_neg (by omega), if_pos hr.2.2]⟩
theorem gg_stitch2 {xs : Nat → Int} {Ln : Nat} {n : Int} {R S : Sto} {d x w : Int} (h : PI xs Ln n R S) (hr : (0 ≤ d ∧ d < nD R) ∧ (0 ≤ x ∧ x < mnK R d) ∧ w = 2) {post : Res → Sto → Prop} (hp : post (.inl (some (vI (stK R d x / 256)))) S) : frS s_stitchI [vT 1, vI d, vI x, vI w] S post := by
  have hI := h.mi
  have hN := hI.2.1
  have hD := hI.2.2.2.1 d (by omega) (by omega)
  have hmn := hD.mn
  refine pg h (fun C h => CL.cons (fun t e => by cases e; rw [h]; exact fun z => by cases z) (CL.cons VOK.i (CL.cons VOK.i (CL.cons VOK.i (fun a ha => by cases ha))))) (by have := hD.stR hr.2.1.1 hr.2.1.2; have := hD.1.2.2.2.1; unfold InR; omega) (fun B N C hC P hP => ⟨?_, get_of (fun hq => ag_stitch hC hI ⟨by omega, by omega⟩ ⟨by omega, by omega⟩ ⟨by omega, by omega⟩ hq) (mo_stitch) (R' := thr R 0) (f := stK R d x / 256) ?_ hP⟩) hp
  · have e3 := hC.2.1.2.1; omega
  · exact ⟨by rw [if_neg (by omega), if_pos (by omega)], rfl, fun _ => by rw [if_neg (by omega), if_neg (by omega), if_neg (by omega)]⟩
theorem gg_stitchN {xs : Nat → Int} {Ln : Nat} {n : Int} {R S : Sto} {d x w : Int} (h : PI xs Ln n R S) (hr : (0 ≤ d ∧ d < nD R) ∧ x = mnK R d ∧ w = 0) {post : Res → Sto → Prop} (hp : post (.inl (some (vI (-1)))) S) : frS s_stitchI [vT 1, vI d, vI x, vI w] S post := by
  have hI := h.mi
  have hN := hI.2.1
  have hD := hI.2.2.2.1 d (by omega) (by omega)
  have hmn := hD.mn
  refine pg h (fun C h => CL.cons (fun t e => by cases e; rw [h]; exact fun z => by cases z) (CL.cons VOK.i (CL.cons VOK.i (CL.cons VOK.i (fun a ha => by cases ha))))) (by unfold InR; omega) (fun B N C hC P hP => ⟨?_, get_of (fun hq => ag_stitch hC hI ⟨by omega, by omega⟩ ⟨by omega, by omega⟩ ⟨by omega, by omega⟩ hq) (mo_stitch) (R' := thr R 0) (f := -1) ?_ hP⟩) hp
  · have e3 := hC.2.1.2.1; omega
  · exact ⟨by rw [if_neg (by omega), if_pos (by omega)], rfl, fun _ => by rw [if_pos (by omega)]⟩
theorem gg_shadeOf {xs : Nat → Int} {Ln : Nat} {n : Int} {R S : Sto} {o c : Int} (h : PI xs Ln n R S) (hr : (0 ≤ o ∧ o < nO R) ∧ 0 ≤ c ∧ c < 6) {post : Res → Sto → Prop} (hp : post (.inl (some (vI (sdK R o c)))) S) : frS s_shadeOfI [vT 1, vI o, vI c] S post := by
  have hI := h.mi
  have hN := hI.2.1
  refine pg h (fun C h => CL.cons (fun t e => by cases e; rw [h]; exact fun z => by cases z) (CL.cons VOK.i (CL.cons VOK.i (fun a ha => by cases ha)))) (by have := (hI.2.2.2.2.2.1 o hr.1.1 hr.1.2).2.2.2.2.2.2 c hr.2.1 hr.2.2; unfold InR; omega) (fun B N C hC P hP => ⟨?_, get_of (fun hq => ag_shadeOf hC hI ⟨by omega, by omega⟩ ⟨by omega, by omega⟩ hq) (mo_shadeOf) (R' := thr R 0) (f := sdK R o c) ?_ hP⟩) hp
  · have e7 := hC.2.1.2.2.2; omega
  · exact ⟨(if_pos ⟨hr.1.1, hr.1.2, hr.2.1, hr.2.2⟩).symm, rfl, fun _ => rfl⟩
theorem gg_left {xs : Nat → Int} {Ln : Nat} {n : Int} {R S : Sto} {c s : Int} (h : PI xs Ln n R S) (hr : 0 ≤ c ∧ c < 6 ∧ 0 ≤ s ∧ s < 3) {post : Res → Sto → Prop} (hp : post (.inl (some (vI (mg R 22 (3 * c + s))))) S) : frS s_leftI [vT 1, vI c, vI s] S post := by
  have hI := h.mi
  have hN := hI.2.1
  refine pg h (fun C h => CL.cons (fun t e => by cases e; rw [h]; exact fun z => by cases z) (CL.cons VOK.i (CL.cons VOK.i (fun a ha => by cases ha)))) (by have := hI.2.2.2.2.2.2.2 (3 * c + s) (by omega) (by omega); unfold InR; omega) (fun B N C hC P hP => ⟨?_, get_of (fun hq => ag_left hC hI ⟨by omega, by omega⟩ ⟨by omega, by omega⟩ hq) (mo_left) (R' := thr R 0) (f := mg R 22 (3 * c + s)) ?_ hP⟩) hp
  · exact hr
  · exact ⟨(if_pos hr).symm, rfl, fun _ => rfl⟩
theorem gg_mac0 {xs : Nat → Int} {Ln : Nat} {n : Int} {R S : Sto} {i w : Int} (h : PI xs Ln n R S) (hr : (0 ≤ i ∧ i < nM R) ∧ w = 0) {post : Res → Sto → Prop} (hp : post (.inl (some (vI (mg R 17 i)))) S) : frS s_ofMachineI [vT 1, vI i, vI w] S post := by
  have hI := h.mi
  have hN := hI.2.1
  refine pg h (fun C h => CL.cons (fun t e => by cases e; rw [h]; exact fun z => by cases z) (CL.cons VOK.i (CL.cons VOK.i (fun a ha => by cases ha)))) (by have hm := hI.2.2.2.2.1 i hr.1.1 hr.1.2; have := hm.2.2.2.2.2.2.2; have := hm.2.2.2.1; have := hm.2.2.2.2.1; have h6 := hset_lt (fun k k0 k6 => ⟨(hm.2.2.2.2.2.1 k k0 k6).1, (hm.2.2.2.2.2.1 k k0 k6).2.1⟩) (mg R 14 i).toNat (by have := hm.1; omega); unfold InR; omega) (fun B N C hC P hP => ⟨?_, get_of (fun hq => ag_ofMachine hC hI ⟨by omega, by omega⟩ ⟨by omega, by omega⟩ hq) (mo_ofMachine) (R' := thr R 0) (f := mg R 17 i) ?_ hP⟩) hp
  · have e5 := hC.2.1.2.2.1; omega
  · exact ⟨by rw [if_neg (fun z => z hr.1), if_pos (by omega)], rfl, fun _ => by rw [if_pos hr.2]⟩
theorem gg_mac1 {xs : Nat → Int} {Ln : Nat} {n : Int} {R S : Sto} {i w : Int} (h : PI xs Ln n R S) (hr : (0 ≤ i ∧ i < nM R) ∧ w = 1) {post : Res → Sto → Prop} (hp : post (.inl (some (vI (mg R 18 i)))) S) : frS s_ofMachineI [vT 1, vI i, vI w] S post := by
  have hI := h.mi
  have hN := hI.2.1
  refine pg h (fun C h => CL.cons (fun t e => by cases e; rw [h]; exact fun z => by cases z) (CL.cons VOK.i (CL.cons VOK.i (fun a ha => by cases ha)))) (by have hm := hI.2.2.2.2.1 i hr.1.1 hr.1.2; have := hm.2.2.2.2.2.2.2; have := hm.2.2.2.1; have := hm.2.2.2.2.1; have h6 := hset_lt (fun k k0 k6 => ⟨(hm.2.2.2.2.2.1 k k0 k6).1, (hm.2.2.2.2.2.1 k k0 k6).2.1⟩) (mg R 14 i).toNat (by have := hm.1; omega); unfold InR; omega) (fun B N C hC P hP => ⟨?_, get_of (fun hq => ag_ofMachine hC hI ⟨by omega, by omega⟩ ⟨by omega, by omega⟩ hq) (mo_ofMachine) (R' := thr R 0) (f := mg R 18 i) ?_ hP⟩) hp
  · have e5 := hC.2.1.2.2.1; omega
  · exact ⟨by rw [if_neg (fun z => z hr.1), if_pos (by omega)], rfl, fun _ => by rw [if_neg (by omega), if_pos hr.2]⟩
theorem gg_mac2 {xs : Nat → Int} {Ln : Nat} {n : Int} {R S : Sto} {i w : Int} (h : PI xs Ln n R S) (hr : (0 ≤ i ∧ i < nM R) ∧ w = 2) {post : Res → Sto → Prop} (hp : post (.inl (some (vI (((hset R i (mg R 14 i).toNat : Nat) : Int))))) S) : frS s_ofMachineI [vT 1, vI i, vI w] S post := by
  have hI := h.mi
  have hN := hI.2.1
  refine pg h (fun C h => CL.cons (fun t e => by cases e; rw [h]; exact fun z => by cases z) (CL.cons VOK.i (CL.cons VOK.i (fun a ha => by cases ha)))) (by have hm := hI.2.2.2.2.1 i hr.1.1 hr.1.2; have := hm.2.2.2.2.2.2.2; have := hm.2.2.2.1; have := hm.2.2.2.2.1; have h6 := hset_lt (fun k k0 k6 => ⟨(hm.2.2.2.2.2.1 k k0 k6).1, (hm.2.2.2.2.2.1 k k0 k6).2.1⟩) (mg R 14 i).toNat (by have := hm.1; omega); unfold InR; omega) (fun B N C hC P hP => ⟨?_, get_of (fun hq => ag_ofMachine hC hI ⟨by omega, by omega⟩ ⟨by omega, by omega⟩ hq) (mo_ofMachine) (R' := thr R 0) (f := ((hset R i (mg R 14 i).toNat : Nat) : Int)) ?_ hP⟩) hp
  · have e5 := hC.2.1.2.2.1; omega
  · exact ⟨by rw [if_neg (fun z => z hr.1), if_pos (by omega)], rfl, fun _ => by rw [if_neg (by omega), if_neg (by omega), if_pos hr.2]⟩
theorem gg_mac3 {xs : Nat → Int} {Ln : Nat} {n : Int} {R S : Sto} {i w : Int} (h : PI xs Ln n R S) (hr : (0 ≤ i ∧ i < nM R) ∧ w = 3) {post : Res → Sto → Prop} (hp : post (.inl (some (vI (mg R 19 i)))) S) : frS s_ofMachineI [vT 1, vI i, vI w] S post := by
  have hI := h.mi
  have hN := hI.2.1
  refine pg h (fun C h => CL.cons (fun t e => by cases e; rw [h]; exact fun z => by cases z) (CL.cons VOK.i (CL.cons VOK.i (fun a ha => by cases ha)))) (by have hm := hI.2.2.2.2.1 i hr.1.1 hr.1.2; have := hm.2.2.2.2.2.2.2; have := hm.2.2.2.1; have := hm.2.2.2.2.1; have h6 := hset_lt (fun k k0 k6 => ⟨(hm.2.2.2.2.2.1 k k0 k6).1, (hm.2.2.2.2.2.1 k k0 k6).2.1⟩) (mg R 14 i).toNat (by have := hm.1; omega); unfold InR; omega) (fun B N C hC P hP => ⟨?_, get_of (fun hq => ag_ofMachine hC hI ⟨by omega, by omega⟩ ⟨by omega, by omega⟩ hq) (mo_ofMachine) (R' := thr R 0) (f := mg R 19 i) ?_ hP⟩) hp
  · have e5 := hC.2.1.2.2.1; omega
  · exact ⟨by rw [if_neg (fun z => z hr.1), if_pos (by omega)], rfl, fun _ => by rw [if_neg (by omega), if_neg (by omega), if_neg (by omega)]⟩
theorem gg_ord0 {xs : Nat → Int} {Ln : Nat} {n : Int} {R S : Sto} {o w : Int} (h : PI xs Ln n R S) (hr : (0 ≤ o ∧ o < nO R) ∧ w = 0) {post : Res → Sto → Prop} (hp : post (.inl (some (vI (mg R 26 o)))) S) : frS s_ofOrderI [vT 1, vI o, vI w] S post := by
  have hI := h.mi
  have hN := hI.2.1
  refine pg h (fun C h => CL.cons (fun t e => by cases e; rw [h]; exact fun z => by cases z) (CL.cons VOK.i (CL.cons VOK.i (fun a ha => by cases ha)))) (by have hm := hI.2.2.2.2.2.1 o hr.1.1 hr.1.2; have hmn := (hI.2.2.2.1 _ hm.1.1 hm.1.2).mn; have := hm.1; have := hm.2.1; have := hm.2.2.1; have := hm.2.2.2.1; have := hm.2.2.2.2.1; have := hm.2.2.2.2.2.1; unfold InR; omega) (fun B N C hC P hP => ⟨?_, get_of (fun hq => ag_ofOrder hC hI ⟨by omega, by omega⟩ ⟨by omega, by omega⟩ hq) (mo_ofOrder) (R' := thr R 0) (f := mg R 26 o) ?_ hP⟩) hp
  · have e7 := hC.2.1.2.2.2; omega
  · exact ⟨by rw [if_neg (fun z => z hr.1), if_pos (by omega)], rfl, fun _ => by rw [if_pos hr.2]⟩
theorem gg_ord1 {xs : Nat → Int} {Ln : Nat} {n : Int} {R S : Sto} {o w : Int} (h : PI xs Ln n R S) (hr : (0 ≤ o ∧ o < nO R) ∧ w = 1) {post : Res → Sto → Prop} (hp : post (.inl (some (vI (mg R 24 o)))) S) : frS s_ofOrderI [vT 1, vI o, vI w] S post := by
  have hI := h.mi
  have hN := hI.2.1
  refine pg h (fun C h => CL.cons (fun t e => by cases e; rw [h]; exact fun z => by cases z) (CL.cons VOK.i (CL.cons VOK.i (fun a ha => by cases ha)))) (by have hm := hI.2.2.2.2.2.1 o hr.1.1 hr.1.2; have hmn := (hI.2.2.2.1 _ hm.1.1 hm.1.2).mn; have := hm.1; have := hm.2.1; have := hm.2.2.1; have := hm.2.2.2.1; have := hm.2.2.2.2.1; have := hm.2.2.2.2.2.1; unfold InR; omega) (fun B N C hC P hP => ⟨?_, get_of (fun hq => ag_ofOrder hC hI ⟨by omega, by omega⟩ ⟨by omega, by omega⟩ hq) (mo_ofOrder) (R' := thr R 0) (f := mg R 24 o) ?_ hP⟩) hp
  · have e7 := hC.2.1.2.2.2; omega
  · exact ⟨by rw [if_neg (fun z => z hr.1), if_pos (by omega)], rfl, fun _ => by rw [if_neg (by omega), if_pos hr.2]⟩
theorem gg_ord2 {xs : Nat → Int} {Ln : Nat} {n : Int} {R S : Sto} {o w : Int} (h : PI xs Ln n R S) (hr : (0 ≤ o ∧ o < nO R) ∧ w = 2) {post : Res → Sto → Prop} (hp : post (.inl (some (vI (mg R 25 o)))) S) : frS s_ofOrderI [vT 1, vI o, vI w] S post := by
  have hI := h.mi
  have hN := hI.2.1
  refine pg h (fun C h => CL.cons (fun t e => by cases e; rw [h]; exact fun z => by cases z) (CL.cons VOK.i (CL.cons VOK.i (fun a ha => by cases ha)))) (by have hm := hI.2.2.2.2.2.1 o hr.1.1 hr.1.2; have hmn := (hI.2.2.2.1 _ hm.1.1 hm.1.2).mn; have := hm.1; have := hm.2.1; have := hm.2.2.1; have := hm.2.2.2.1; have := hm.2.2.2.2.1; have := hm.2.2.2.2.2.1; unfold InR; omega) (fun B N C hC P hP => ⟨?_, get_of (fun hq => ag_ofOrder hC hI ⟨by omega, by omega⟩ ⟨by omega, by omega⟩ hq) (mo_ofOrder) (R' := thr R 0) (f := mg R 25 o) ?_ hP⟩) hp
  · have e7 := hC.2.1.2.2.2; omega
  · exact ⟨by rw [if_neg (fun z => z hr.1), if_pos (by omega)], rfl, fun _ => by rw [if_neg (by omega), if_neg (by omega), if_pos hr.2]⟩
theorem gg_ord3 {xs : Nat → Int} {Ln : Nat} {n : Int} {R S : Sto} {o w : Int} (h : PI xs Ln n R S) (hr : (0 ≤ o ∧ o < nO R) ∧ w = 3) {post : Res → Sto → Prop} (hp : post (.inl (some (vI (mg R 28 o)))) S) : frS s_ofOrderI [vT 1, vI o, vI w] S post := by
  have hI := h.mi
  have hN := hI.2.1
  refine pg h (fun C h => CL.cons (fun t e => by cases e; rw [h]; exact fun z => by cases z) (CL.cons VOK.i (CL.cons VOK.i (fun a ha => by cases ha)))) (by have hm := hI.2.2.2.2.2.1 o hr.1.1 hr.1.2; have hmn := (hI.2.2.2.1 _ hm.1.1 hm.1.2).mn; have := hm.1; have := hm.2.1; have := hm.2.2.1; have := hm.2.2.2.1; have := hm.2.2.2.2.1; have := hm.2.2.2.2.2.1; unfold InR; omega) (fun B N C hC P hP => ⟨?_, get_of (fun hq => ag_ofOrder hC hI ⟨by omega, by omega⟩ ⟨by omega, by omega⟩ hq) (mo_ofOrder) (R' := thr R 0) (f := mg R 28 o) ?_ hP⟩) hp
  · have e7 := hC.2.1.2.2.2; omega
  · exact ⟨by rw [if_neg (fun z => z hr.1), if_pos (by omega)], rfl, fun _ => by rw [if_neg (by omega), if_neg (by omega), if_neg (by omega), if_pos hr.2]⟩
theorem gg_ord4 {xs : Nat → Int} {Ln : Nat} {n : Int} {R S : Sto} {o w : Int} (h : PI xs Ln n R S) (hr : (0 ≤ o ∧ o < nO R) ∧ w = 4) {post : Res → Sto → Prop} (hp : post (.inl (some (vI (mg R 29 o)))) S) : frS s_ofOrderI [vT 1, vI o, vI w] S post := by
  have hI := h.mi
  have hN := hI.2.1
  refine pg h (fun C h => CL.cons (fun t e => by cases e; rw [h]; exact fun z => by cases z) (CL.cons VOK.i (CL.cons VOK.i (fun a ha => by cases ha)))) (by have hm := hI.2.2.2.2.2.1 o hr.1.1 hr.1.2; have hmn := (hI.2.2.2.1 _ hm.1.1 hm.1.2).mn; have := hm.1; have := hm.2.1; have := hm.2.2.1; have := hm.2.2.2.1; have := hm.2.2.2.2.1; have := hm.2.2.2.2.2.1; unfold InR; omega) (fun B N C hC P hP => ⟨?_, get_of (fun hq => ag_ofOrder hC hI ⟨by omega, by omega⟩ ⟨by omega, by omega⟩ hq) (mo_ofOrder) (R' := thr R 0) (f := mg R 29 o) ?_ hP⟩) hp
  · have e7 := hC.2.1.2.2.2; omega
  · exact ⟨by rw [if_neg (fun z => z hr.1), if_pos (by omega)], rfl, fun _ => by rw [if_neg (by omega), if_neg (by omega), if_neg (by omega), if_neg (by omega), if_pos hr.2]⟩
theorem gg_ord5 {xs : Nat → Int} {Ln : Nat} {n : Int} {R S : Sto} {o w : Int} (h : PI xs Ln n R S) (hr : (0 ≤ o ∧ o < nO R) ∧ w = 5) {post : Res → Sto → Prop} (hp : post (.inl (some (vI (mg R 30 o)))) S) : frS s_ofOrderI [vT 1, vI o, vI w] S post := by
  have hI := h.mi
  have hN := hI.2.1
  refine pg h (fun C h => CL.cons (fun t e => by cases e; rw [h]; exact fun z => by cases z) (CL.cons VOK.i (CL.cons VOK.i (fun a ha => by cases ha)))) (by have hm := hI.2.2.2.2.2.1 o hr.1.1 hr.1.2; have hmn := (hI.2.2.2.1 _ hm.1.1 hm.1.2).mn; have := hm.1; have := hm.2.1; have := hm.2.2.1; have := hm.2.2.2.1; have := hm.2.2.2.2.1; have := hm.2.2.2.2.2.1; unfold InR; omega) (fun B N C hC P hP => ⟨?_, get_of (fun hq => ag_ofOrder hC hI ⟨by omega, by omega⟩ ⟨by omega, by omega⟩ hq) (mo_ofOrder) (R' := thr R 0) (f := mg R 30 o) ?_ hP⟩) hp
  · have e7 := hC.2.1.2.2.2; omega
  · exact ⟨by rw [if_neg (fun z => z hr.1), if_pos (by omega)], rfl, fun _ => by rw [if_neg (by omega), if_neg (by omega), if_neg (by omega), if_neg (by omega), if_neg (by omega), if_pos hr.2]⟩
theorem gg_ord6 {xs : Nat → Int} {Ln : Nat} {n : Int} {R S : Sto} {o w : Int} (h : PI xs Ln n R S) (hr : (0 ≤ o ∧ o < nO R) ∧ w = 6) {post : Res → Sto → Prop} (hp : post (.inl (some (vI (mg R 27 o)))) S) : frS s_ofOrderI [vT 1, vI o, vI w] S post := by
  have hI := h.mi
  have hN := hI.2.1
  refine pg h (fun C h => CL.cons (fun t e => by cases e; rw [h]; exact fun z => by cases z) (CL.cons VOK.i (CL.cons VOK.i (fun a ha => by cases ha)))) (by have hm := hI.2.2.2.2.2.1 o hr.1.1 hr.1.2; have hmn := (hI.2.2.2.1 _ hm.1.1 hm.1.2).mn; have := hm.1; have := hm.2.1; have := hm.2.2.1; have := hm.2.2.2.1; have := hm.2.2.2.2.1; have := hm.2.2.2.2.2.1; unfold InR; omega) (fun B N C hC P hP => ⟨?_, get_of (fun hq => ag_ofOrder hC hI ⟨by omega, by omega⟩ ⟨by omega, by omega⟩ hq) (mo_ofOrder) (R' := thr R 0) (f := mg R 27 o) ?_ hP⟩) hp
  · have e7 := hC.2.1.2.2.2; omega
  · exact ⟨by rw [if_neg (fun z => z hr.1), if_pos (by omega)], rfl, fun _ => by rw [if_neg (by omega), if_neg (by omega), if_neg (by omega), if_neg (by omega), if_neg (by omega), if_neg (by omega)]⟩

