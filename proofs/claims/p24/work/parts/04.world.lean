/-! THE WORLD: what the store is in the machine's heap; what the tables give. -/
def RC : Nat → String
  | 0 => RX0 | 1 => RX1 | 2 => RX2 | 3 => RX3 | 4 => RX4 | 5 => RX5 | 6 => RX6 | _ => RX6
def TC : Nat → u_T
  | 0 => TX0 | 1 => TX1 | 2 => TX2 | 3 => TX3 | 4 => TX4 | 5 => TX5 | 6 => TX6 | _ => TX6
def tyC : Nat → Nat → FieldType
  | 0 => tyX0 | 1 => tyX1 | 2 => tyX2 | 3 => tyX3 | 4 => tyX4 | 5 => tyX5 | 6 => tyX6 | _ => tyX6
def clN : Nat → Nat
  | 0 => 9 | 1 => 9 | 2 => 9 | 3 => 3 | 4 => 5 | 5 => 1 | 6 => 9 | _ => 9
def isR : Nat → Nat → Bool
  | 0, k => k == 1 || k == 2 || k == 3
  | 1, k => k == 4 || k == 8
  | 2, k => k == 1 || k == 3 || k == 8
  | 3, _ => true
  | 4, k => k == 2
  | 5, _ => true
  | 6, k => k % 2 == 0
  | _, k => k % 2 == 0
def aTy : Nat → FieldType
  | 110 => .object RX0 | 111 => .object RX1 | 112 => .object RX2 | 114 => .object RX4 | _ => .int
def isA (cd : Nat) : Bool := cd == 100 || cd == 110 || cd == 111 || cd == 112 || cd == 114
def isRA (cd : Nat) : Bool := cd == 110 || cd == 111 || cd == 112 || cd == 114
def okTy (x : Nat × Nat) : Bool := (decide (x.1 < 8) && x.2 == clN x.1) || ((isA x.1 || x.1 == 102) && decide (x.2 ≤ 100000))
theorem cl8 {P : Nat → Prop} (h0 : P 0) (h1 : P 1) (h2 : P 2) (h3 : P 3) (h4 : P 4) (h5 : P 5) (h6 : P 6) (h7 : P 7) : ∀ ci, ci < 8 → P ci := by
  intro ci h
  rcases (show ci = 0 ∨ ci = 1 ∨ ci = 2 ∨ ci = 3 ∨ ci = 4 ∨ ci = 5 ∨ ci = 6 ∨ ci = 7 by omega) with rfl | rfl | rfl | rfl | rfl | rfl | rfl | rfl <;> assumption
theorem in_C : ∀ ci, ci < 8 → ∀ w ∈ u_ws (RC ci) (TC ci) (clN ci), w ∈ lw_tbl := cl8 inX0 inX1 inX2 inX3 inX4 inX5 inX6 inX6
theorem ty_C : ∀ ci, ci < 8 → ∀ k, k < clN ci → parseFieldDescriptor (TC ci k).2.2.1 = some (tyC ci k) := cl8 tyX0_ok tyX1_ok tyX2_ok tyX3_ok tyX4_ok tyX5_ok tyX6_ok tyX6_ok
theorem nm_C : ∀ ci, ci < 8 → ∀ a, a < clN ci → ∀ b, b < clN ci → a ≠ b → (TC ci a).2.1 ≠ (TC ci b).2.1 := cl8 nmX0 nmX1 nmX2 nmX3 nmX4 nmX5 nmX6 nmX6
def isObjT : FieldType → Bool
  | .object _ => true
  | .array _ => true
  | _ => false
theorem kd_C : ∀ ci, ci < 8 → ∀ k, k < clN ci → (isR ci k = true → isObjT (tyC ci k) = true) ∧ (isR ci k = false → tyC ci k = .int) := cl8 (by decide +kernel) (by decide +kernel) (by decide +kernel) (by decide +kernel) (by decide +kernel) (by decide +kernel) (by decide +kernel) (by decide +kernel)
abbrev DD := va_G × (Nat → ClassId) × (Cell → Prop)
def aCell (ad : Nat → Nat) (S : Sto) (t : Nat) (x : Nat × Nat) : vp_A :=
  (x.2, if x.1 = 100 then .inl fun j => Int32.ofInt (S.2.1 t j) else if x.1 = 101 then .inr (.inl fun j => Int64.ofInt (S.2.1 t j)) else .inr (.inr (.inr (.inr fun j => (S.2.2 t j).map ad))))
def oCell (ad : Nat → Nat) (S : Sto) (t ci : Nat) : Nat → Value := fun j => if isR ci j = true then va_rf ((S.2.2 t j).map ad) else .int (Int32.ofInt (S.2.1 t j))
def RepAt (D : DD) (ad : Nat → Nat) (S : Sto) (t : Nat) (x : Nat × Nat) (H : Heap) : Prop :=
  if x.1 < 8 then t_OB (ad t) (D.1.1 x.1) x.2 (D.1.2 x.1) H (oCell ad S t x.1)
  else if x.1 = 102 then ∃ scr : Cell, H[ad t]? = some scr ∧ D.2.2 scr ∧ scr.vm ≠ .unknown ∧ scr.slots.size = x.2 ∧ ∀ j : Nat, j < x.2 → scr.slots[j]? = some (.int (Int32.ofInt (S.2.1 t j)))
  else H[ad t]? = some (vp_cell (D.2.1 x.1) (aCell ad S t x))
def VOK (S : Sto) (a : AV) : Prop := ∀ t, a = vT t → S.1 t ≠ none
def CL (S : Sto) (st : List AV) : Prop := ∀ a ∈ st, VOK S a
def CLs (S : Sto) (L : List AV) : Prop := ∀ i, VOK S (nth L i)
def Rep (D : DD) (ad : Nat → Nat) (S : Sto) (H : Heap) : Prop :=
  (∀ t x, S.1 t = some x → okTy x = true ∧ RepAt D ad S t x H) ∧ (∀ t t' x x', S.1 t = some x → S.1 t' = some x' → ad t = ad t' → t = t') ∧
  ∀ t x j t', S.1 t = some x → S.2.2 t j = some t' → S.1 t' ≠ none
def Ext (ad0 : Nat → Nat) (S0 : Sto) (sz : Nat) (ad : Nat → Nat) (S : Sto) : Prop :=
  (∀ t x, S0.1 t = some x → S.1 t = some x ∧ ad t = ad0 t) ∧ ∀ t x, S.1 t = some x → S0.1 t = none → sz ≤ ad t ∧ x.1 ≠ 102
def foot (ad0 : Nat → Nat) (S0 : Sto) (sz : Nat) : Nat → Prop := fun q => (∃ t x, S0.1 t = some x ∧ x.1 ≠ 102 ∧ ad0 t = q) ∨ sz ≤ q
theorem Ext.rf {ad : Nat → Nat} {S : Sto} {sz : Nat} : Ext ad S sz ad S := ⟨fun _ _ h => ⟨h, rfl⟩, fun t x h h0 => by rw [h0] at h; cases h⟩
theorem Ext.trans {ad0 ad1 ad2 : Nat → Nat} {S0 S1 S2 : Sto} {z0 z1 : Nat} (hz : z0 ≤ z1) (h : Ext ad0 S0 z0 ad1 S1) (h2 : Ext ad1 S1 z1 ad2 S2) : Ext ad0 S0 z0 ad2 S2 := by
  refine ⟨fun t x e => ?_, fun t x e e0 => ?_⟩
  · obtain ⟨a, b⟩ := h.1 t x e
    obtain ⟨a2, b2⟩ := h2.1 t x a
    exact ⟨a2, b2.trans b⟩
  · cases e1 : S1.1 t with
    | none => exact ⟨Nat.le_trans hz (h2.2 t x e e1).1, (h2.2 t x e e1).2⟩
    | some y =>
      obtain ⟨a2, b2⟩ := h2.1 t y e1
      obtain ⟨a, b⟩ := h.2 t y e1 e0
      rw [e] at a2; cases a2
      exact ⟨by rw [b2]; exact a, b⟩
theorem Ext.inF {ad0 ad : Nat → Nat} {S0 S : Sto} {sz : Nat} (h : Ext ad0 S0 sz ad S) {t : Nat} {x : Nat × Nat} (e : S.1 t = some x) (hx : x.1 ≠ 102) : foot ad0 S0 sz (ad t) := by
  cases e0 : S0.1 t with
  | none => exact Or.inr (h.2 t x e e0).1
  | some y =>
    obtain ⟨a, b⟩ := h.1 t y e0
    rw [e] at a; cases a
    exact Or.inl ⟨t, x, e0, hx, b.symm⟩
theorem Ext.foots {ad0 ad : Nat → Nat} {S0 S : Sto} {z0 z1 : Nat} (hz : z0 ≤ z1) (h : Ext ad0 S0 z0 ad S) : ∀ q, foot ad S z1 q → foot ad0 S0 z0 q := by
  rintro q (⟨t, x, e, hx, rfl⟩ | hq)
  · exact h.inF e hx
  · exact Or.inr (Nat.le_trans hz hq)
theorem VOK.ext {ad0 ad : Nat → Nat} {S0 S : Sto} {z : Nat} (h : Ext ad0 S0 z ad S) {a : AV} (ha : VOK S0 a) : VOK S a := by
  intro t e
  cases e0 : S0.1 t with
  | none => exact absurd e0 (ha t e)
  | some y => rw [(h.1 t y e0).1]; exact fun q => by cases q
theorem VOK.cv {ad0 ad : Nat → Nat} {S0 S : Sto} {z : Nat} (h : Ext ad0 S0 z ad S) {a : AV} (ha : VOK S0 a) : cv ad a = cv ad0 a := by
  rcases a with z | z | r
  · rfl
  · rfl
  · cases r with
    | none => rfl
    | some t =>
      cases e0 : S0.1 t with
      | none => exact absurd e0 (ha t rfl)
      | some y =>
        show va_rf (some (ad t)) = va_rf (some (ad0 t))
        rw [(h.1 t y e0).2]
theorem CL.cons {S : Sto} {a : AV} {st : List AV} (h : VOK S a) (h2 : CL S st) : CL S (a :: st) := fun b hb => (List.mem_cons.mp hb).elim (fun e => by rw [e]; exact h) (h2 b)
theorem CL.hd {S : Sto} {a : AV} {st : List AV} (h : CL S (a :: st)) : VOK S a := h a List.mem_cons_self
theorem CL.tl {S : Sto} {a : AV} {st : List AV} (h : CL S (a :: st)) : CL S st := fun b hb => h b (List.mem_cons_of_mem _ hb)
theorem CL.ext {ad0 ad : Nat → Nat} {S0 S : Sto} {z : Nat} (h : Ext ad0 S0 z ad S) {st : List AV} (ha : CL S0 st) : CL S st := fun a hm => (ha a hm).ext h
theorem CL.map {ad0 ad : Nat → Nat} {S0 S : Sto} {z : Nat} (h : Ext ad0 S0 z ad S) {st : List AV} (ha : CL S0 st) : st.map (cv ad) = st.map (cv ad0) := List.map_congr_left fun a hm => (ha a hm).cv h
theorem VOK.i {S : Sto} {z : Int} : VOK S (vI z) := fun t e => by cases e
theorem VOK.l {S : Sto} {z : Int} : VOK S (vL z) := fun t e => by cases e
theorem VOK.n {S : Sto} : VOK S (vR none) := fun t e => by cases e
theorem CLs.set {S : Sto} {L : List AV} {i : Nat} {a : AV} (h : CLs S L) (ha : VOK S a) : CLs S (setn L i a) := by
  intro j
  rcases nth_setn L i a j with e | ⟨-, e⟩
  · rw [e]; exact h j
  · rw [e]; exact ha
theorem CLs.ext {ad0 ad : Nat → Nat} {S0 S : Sto} {z : Nat} (h : Ext ad0 S0 z ad S) {L : List AV} (ha : CLs S0 L) : CLs S L := fun i => (ha i).ext h
theorem LocOK.ext {ad0 ad : Nat → Nat} {S0 S : Sto} {z nL : Nat} {ls : Array Slot} (h : Ext ad0 S0 z ad S) {L : List AV} (ha : CLs S0 L) (hl : LocOK ad0 L ls nL) : LocOK ad L ls nL :=
  ⟨hl.1, hl.2.1, fun i hi => by rw [(ha i).cv h]; exact hl.2.2 i hi⟩
def updI (S : Sto) (t k : Nat) (v : Int) : Sto := (S.1, fun t' j => if t' = t ∧ j = k then v else S.2.1 t' j, S.2.2)
def updR (S : Sto) (t k : Nat) (v : Option Nat) : Sto := (S.1, S.2.1, fun t' j => if t' = t ∧ j = k then v else S.2.2 t' j)
def newS (S : Sto) (t : Nat) (x : Nat × Nat) : Sto := (fun t' => if t' = t then some x else S.1 t', fun t' j => if t' = t then 0 else S.2.1 t' j, fun t' j => if t' = t then none else S.2.2 t' j)
theorem okTy_cases {x : Nat × Nat} (h : okTy x = true) : (x.1 < 8 ∧ x.2 = clN x.1) ∨ (¬ x.1 < 8 ∧ (isA x.1 = true ∨ x.1 = 102) ∧ x.2 ≤ 100000) := by
  simp only [okTy, isA, Bool.or_eq_true, Bool.and_eq_true, decide_eq_true_eq, beq_iff_eq] at h ⊢
  omega
theorem RepAt.lt {D : DD} {ad : Nat → Nat} {S : Sto} {t : Nat} {x : Nat × Nat} {H : Heap} (h : RepAt D ad S t x H) : ad t < H.size := by
  unfold RepAt at h
  split at h
  · obtain ⟨cell, q, -⟩ := h
    exact (Array.getElem?_eq_some_iff.mp q).1
  · split at h
    · obtain ⟨scr, q, -⟩ := h
      exact (Array.getElem?_eq_some_iff.mp q).1
    · exact (Array.getElem?_eq_some_iff.mp h).1
theorem RepAt.kept {D : DD} {ad ad' : Nat → Nat} {S S' : Sto} {t : Nat} {x : Nat × Nat} {H H1 : Heap} (h : RepAt D ad S t x H) (ha : ad' t = ad t) (hH : H1[ad t]? = H[ad t]?) (hI : S'.2.1 t = S.2.1 t) (hR : ∀ j, (S'.2.2 t j).map ad' = (S.2.2 t j).map ad) : RepAt D ad' S' t x H1 := by
  unfold RepAt oCell aCell at h ⊢
  simp only [hI, hR, ha]
  split
  · rw [if_pos (by assumption)] at h
    exact h.kept hH
  · rw [if_neg (by assumption)] at h
    split
    · rw [if_pos (by assumption)] at h
      rw [hH]; exact h
    · rw [if_neg (by assumption)] at h
      rw [hH]; exact h
/-- one cell is written -/
theorem Rep.put {D : DD} {ad : Nat → Nat} {S S' : Sto} {H H1 : Heap} {t : Nat} {x : Nat × Nat} (h : Rep D ad S H) (e : S.1 t = some x) (h0 : S'.1 = S.1) (hI : ∀ t', t' ≠ t → S'.2.1 t' = S.2.1 t') (hR : ∀ t', t' ≠ t → S'.2.2 t' = S.2.2 t')
    (hc : ∀ j t', S'.2.2 t j = some t' → S.1 t' ≠ none) (hat : RepAt D ad S' t x H1) (oq : ∀ q : Nat, q ≠ ad t → H1[q]? = H[q]?) : Rep D ad S' H1 := by
  obtain ⟨h1, h2, h3⟩ := h
  refine ⟨fun u y hy => ?_, fun u u' y y' hy hy' => ?_, fun u y j u' hy hu => ?_⟩
  · rw [h0] at hy
    refine ⟨(h1 u y hy).1, ?_⟩
    by_cases hu : u = t
    · subst hu
      rw [e] at hy; cases hy
      exact hat
    · exact (h1 u y hy).2.kept rfl (oq _ fun q => hu (h2 u t y x hy e q)) (hI u hu) (fun j => by rw [hR u hu])
  · rw [h0] at hy hy'
    exact h2 u u' y y' hy hy'
  · rw [h0] at hy ⊢
    by_cases hut : u = t
    · subst hut; exact hc j u' hu
    · rw [hR u hut] at hu
      exact h3 u y j u' hy hu
theorem Ext.put {ad0 ad : Nat → Nat} {S0 S S' : Sto} {z : Nat} (h : Ext ad0 S0 z ad S) (h0 : S'.1 = S.1) : Ext ad0 S0 z ad S' := by
  unfold Ext; rw [h0]; exact h
/-- a new cell -/
theorem Rep.new {D : DD} {ad : Nat → Nat} {S : Sto} {H H1 : Heap} {t : Nat} {x : Nat × Nat} (h : Rep D ad S H) (e : S.1 t = none) (hx : okTy x = true) (hat : RepAt D (fun q => if q = t then H.size else ad q) (newS S t x) t x H1) (o1 : ∀ q : Nat, q < H.size → H1[q]? = H[q]?) :
    Rep D (fun q => if q = t then H.size else ad q) (newS S t x) H1 := by
  obtain ⟨h1, h2, h3⟩ := h
  have hne : ∀ u y, S.1 u = some y → u ≠ t := fun u y hy q => by rw [q, e] at hy; cases hy
  have hold : ∀ u y, (newS S t x).1 u = some y → u ≠ t → S.1 u = some y := fun u y hy hu => by
    simpa [newS, hu] using hy
  refine ⟨fun u y hy => ?_, fun u u' y y' hy hy' hq => ?_, fun u y j u' hy hu => ?_⟩
  · by_cases hu : u = t
    · subst hu
      have : y = x := by simpa [newS] using hy.symm
      subst this
      exact ⟨hx, hat⟩
    · have hy := hold u y hy hu
      refine ⟨(h1 u y hy).1, (h1 u y hy).2.kept (by simp [hu]) (o1 _ (h1 u y hy).2.lt) (by funext j; simp [newS, hu]) (fun j => ?_)⟩
      simp only [newS, if_neg hu]
      cases hr : S.2.2 u j with
      | none => rfl
      | some v =>
        have : v ≠ t := fun q => h3 u y j v hy hr (by rw [q]; exact e)
        simp [this]
  · by_cases hu : u = t
    · by_cases hu' : u' = t
      · rw [hu, hu']
      · have hy' := hold u' y' hy' hu'
        simp only [if_pos hu, if_neg hu'] at hq
        have := (h1 u' y' hy').2.lt
        omega
    · have hy := hold u y hy hu
      by_cases hu' : u' = t
      · simp only [if_neg hu, if_pos hu'] at hq
        have := (h1 u y hy).2.lt
        omega
      · simp only [if_neg hu, if_neg hu'] at hq
        exact h2 u u' y y' hy (hold u' y' hy' hu') hq
  · by_cases hu0 : u = t
    · simp [newS, hu0] at hu
    · have hy := hold u y hy hu0
      simp only [newS, if_neg hu0] at hu ⊢
      have := h3 u y j u' hy hu
      split
      · exact fun q => by cases q
      · exact this
theorem Ext.new {ad0 ad : Nat → Nat} {S0 S : Sto} {z n : Nat} {t : Nat} {x : Nat × Nat} (h : Ext ad0 S0 z ad S) (e : S.1 t = none) (hx : x.1 ≠ 102) (hz : z ≤ n) : Ext ad0 S0 z (fun q => if q = t then n else ad q) (newS S t x) := by
  refine ⟨fun u y hy => ?_, fun u y hy h0 => ?_⟩
  · obtain ⟨a, b⟩ := h.1 u y hy
    have hu : u ≠ t := fun q => by rw [q, e] at a; cases a
    exact ⟨by simp [newS, hu, a], by simp [hu, b]⟩
  · by_cases hu : u = t
    · simp [newS, hu] at hy
      subst hy
      exact ⟨by simp [hu, hz], hx⟩
    · simp [newS, hu] at hy
      simpa [hu] using h.2 u y hy h0
theorem Ext.step {ad : Nat → Nat} {S : Sto} {n : Nat} {t : Nat} {x : Nat × Nat} (e : S.1 t = none) (hx : x.1 ≠ 102) : Ext ad S n (fun q => if q = t then n else ad q) (newS S t x) := Ext.rf.new e hx (Nat.le_refl n)
/-! the tables -/
def okw (w : Cond) : Bool := goodWord w || match w with
  | .castable _ _ => true
  | .methodLinkNest _ _ _ _ => true
  | .arrayOver _ => true
  | .declares _ => true
  | _ => false
def VKw (U : State) : Prop := ∀ w ∈ lw_tbl, okw w = true → ∀ A : Array Value, w.before A U = true
def KC (D : DD) (U : State) : Prop := (∀ ci, ci < 8 → u_Kn U (RC ci) (TC ci) (clN ci) (D.1.1 ci) (D.1.2 ci)) ∧ (∀ cd, isA cd = true → ArrOfT U (D.2.1 cd) (aTy cd) ∧ va_RA U (D.2.1 cd) (aTy cd)) ∧ ∀ scr, D.2.2 scr → U.isArrayOf scr .int
def strs : List (Nat × String) := lw_tbl.filterMap fun w => match w with
  | .stringRef _ k tx => some (k, tx)
  | _ => none
def KS (U : State) : Prop := ∀ q ∈ strs, ∃ sa, vk_R RX6 q.1 q.2 sa U
def KT (A : Nat → Prop) (U : State) (H : Heap) : Prop := vx_Zq Bundle.tN "UNASSIGNED_STACK" Bundle.steD A U H ∧ vx_Zq Bundle.tN "SUPPRESSED_SENTINEL" Bundle.listD A U H
def VK (D : DD) (A : Nat → Prop) (U : State) (H : Heap) : Prop := VKw U ∧ KC D U ∧ KS U ∧ KT A U H
theorem VKw.warm {s U : State} (hW : s.WarmedH U.vm) (h : VKw s) : VKw U := by
  intro w hw ho A
  by_cases hg : goodWord w = true
  · exact word_at hW (good_of_word hg) (h w hw ho #[])
  · have hh := h w hw ho
    cases w with
    | castable C T => exact va_Nw.use rfl (va_Nw.warmC hW (va_Nw.of rfl (hh #[])))
    | methodLinkNest a i x b => exact va_Nw.use rfl (va_Nw.warmM hW (va_Nw.of rfl (hh #[])))
    | declares x =>
      have h2 : (Cond.declares x).before A (s.setVm U.vm) = true := by rw [Cond.declares_setVm hW.alike]; exact hh A
      exact va_tabs rfl (rfl : (s.setVm U.vm).vm = U.vm) h2
    | arrayOver ty =>
      have h2 : ∃ C, ty = .object C := by
        revert hw
        have : ∀ w ∈ lw_tbl, (match w with | .arrayOver (.object _) => true | .arrayOver _ => false | _ => true) = true := by decide +kernel
        intro hw
        have h3 := this _ hw
        cases ty <;> first | exact ⟨_, rfl⟩ | (cases h3)
      obtain ⟨C, rfl⟩ := h2
      exact va_AO.use (va_AO.moved hW.alike (va_AO.of (hh #[])))
    | _ => simp [okw, hg] at ho
theorem KC.warm {D : DD} {s U : State} (hvm : s.vm.Alike U.vm) (h : KC D s) : KC D U :=
  ⟨fun ci hc => u_Kn_moved hvm (h.1 ci hc), fun cd hc => ⟨arrOfT_moved hvm (h.2.1 cd hc).1, va_RA.moved hvm (h.2.1 cd hc).2⟩, fun scr hs => State.isArrayOf_alike hvm (h.2.2 scr hs)⟩
theorem KS.warm {s U : State} (hW : s.WarmedH U.vm) (h : KS s) : KS U := fun q hq => by
  obtain ⟨sa, h1⟩ := h q hq
  exact ⟨sa, h1.warm hW⟩
theorem VK.warm {D : DD} {A B : Nat → Prop} {s U : State} {H0 H : Heap} {locs : List Loc} (hW : s.WarmedH U.vm) (hS : va_S A H0 H locs) (hAB : ∀ q, B q → A q) (h : VK D A s H0) : VK D B U H :=
  ⟨h.1.warm hW, h.2.1.warm hW.alike, h.2.2.1.warm hW, vx_Zq.narrow (vx_Zq.moved hW.alike (h.2.2.2.1.kept hS.2.1)) hAB, vx_Zq.narrow (vx_Zq.moved hW.alike (h.2.2.2.2.kept hS.2.1)) hAB⟩
theorem VKw.at {s : State} (h : VKw s) (i : Nat) {w : Cond} (hi : lw_tbl[i]? = some w) (ho : okw w = true) {A : Array Value} : w.before A s = true := h w (List.mem_of_getElem? hi) ho A
