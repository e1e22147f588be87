/-! THE FRAME: a method's contract upon a part of the store -/
def subS (C S : Sto) : Prop := ∀ t x, C.1 t = some x → S.1 t = some x ∧ S.2.1 t = C.2.1 t ∧ S.2.2 t = C.2.2 t
def cloS (C : Sto) : Prop := ∀ t x j t', C.1 t = some x → C.2.2 t j = some t' → C.1 t' ≠ none
def ovS (S C : Sto) : Sto := (fun t => match C.1 t with
  | none => S.1 t
  | some x => some x, fun t => match C.1 t with
  | none => S.2.1 t
  | some _ => C.2.1 t, fun t => match C.1 t with
  | none => S.2.2 t
  | some _ => C.2.2 t)
def wr (z : Int) : Int := (Int32.ofInt z).toInt
def nrmO : Option AV → Option AV
  | some (.inl z) => some (vI (wr z))
  | r => r
def nrm : Res → Res
  | .inl r => .inl (nrmO r)
  | .inr e => .inr e
def frS (spec : Spec) : Spec := fun as S post => ∃ C, subS C S ∧ cloS C ∧ CL C as ∧ spec as C fun r C' => (∀ t, C.1 t = none → S.1 t ≠ none → C'.1 t = none) ∧ (cloS C' → (∀ t x, C.1 t = some x → C'.1 t = some x) → post (nrm r) (ovS S C'))
theorem ovS_n {S C : Sto} {t : Nat} (h : C.1 t = none) : (ovS S C).1 t = S.1 t ∧ (ovS S C).2.1 t = S.2.1 t ∧ (ovS S C).2.2 t = S.2.2 t := by
  unfold ovS
  dsimp only
  rw [h]
  exact ⟨rfl, rfl, rfl⟩
theorem ovS_s {S C : Sto} {t : Nat} {x : Nat × Nat} (h : C.1 t = some x) : (ovS S C).1 t = some x ∧ (ovS S C).2.1 t = C.2.1 t ∧ (ovS S C).2.2 t = C.2.2 t := by
  unfold ovS
  dsimp only
  rw [h]
  exact ⟨rfl, rfl, rfl⟩
theorem wr_r (z : Int) : InR (wr z) := ⟨Int32.le_toInt _, Int32.toInt_le _⟩
theorem wr_id {z : Int} (h : InR z) : wr z = z := oI_toInt h
theorem Rep.sub {D : DD} {ad : Nat → Nat} {C S : Sto} {H : Heap} (h : Rep D ad S H) (hs : subS C S) (hc : cloS C) : Rep D ad C H := by
  refine ⟨fun t x e => ?_, fun t t' x x' e e' ha => h.2.1 t t' x x' (hs t x e).1 (hs t' x' e').1 ha, hc⟩
  obtain ⟨a, b, c⟩ := hs t x e
  obtain ⟨o1, o2⟩ := h.1 t x a
  exact ⟨o1, o2.kept rfl rfl b.symm fun j => by rw [c]⟩
def adO (ad ad' : Nat → Nat) (C' : Sto) : Nat → Nat := fun t => match C'.1 t with
  | none => ad t
  | some _ => ad' t
theorem adO_n {ad ad' : Nat → Nat} {C' : Sto} {t : Nat} (h : C'.1 t = none) : adO ad ad' C' t = ad t := by unfold adO; rw [h]
theorem adO_s {ad ad' : Nat → Nat} {C' : Sto} {t : Nat} (h : C'.1 t ≠ none) : adO ad ad' C' t = ad' t := by
  unfold adO
  cases e : C'.1 t with
  | none => exact absurd e h
  | some x => rfl
/-- what a part of the store became, the whole becomes -/
theorem Rep.ov {D : DD} {ad ad' : Nat → Nat} {C S C' : Sto} {H H' : Heap} (h : Rep D ad S H) (hs : subS C S) (hE : Ext ad C H.size ad' C') (hR : Rep D ad' C' H') (hnc : ∀ t, C.1 t = none → S.1 t ≠ none → C'.1 t = none) (hF : ∀ q : Nat, q < H.size → ¬ foot ad C H.size q → H'[q]? = H[q]?) :
    Rep D (adO ad ad' C') (ovS S C') H' ∧ Ext ad S H.size (adO ad ad' C') (ovS S C') := by
  have hsC : ∀ t, S.1 t = none → C.1 t = none := fun t e => by
    cases e2 : C.1 t with
    | none => rfl
    | some x => rw [(hs t x e2).1] at e; cases e
  -- an address of a tag of both is the old one
  have hadB : ∀ t, S.1 t ≠ none → adO ad ad' C' t = ad t := fun t e => by
    cases e2 : C'.1 t with
    | none => exact adO_n e2
    | some x =>
      rw [adO_s (by rw [e2]; exact fun z => by cases z)]
      cases e3 : C.1 t with
      | none => have := hnc t e3 e; rw [e2] at this; cases this
      | some y => exact (hE.1 t y e3).2
  have hlt : ∀ t x, S.1 t = some x → ad t < H.size := fun t x e => (h.1 t x e).2.lt
  refine ⟨⟨fun t x e => ?_, fun t t' x x' e e' ha => ?_, fun t x j t' e e' => ?_⟩, fun t x e => ?_, fun t x e e0 => ?_⟩
  · cases e2 : C'.1 t with
    | some y =>
      obtain ⟨b1, b2, b3⟩ := ovS_s (S := S) e2
      rw [b1] at e
      have hyx : y = x := Option.some.inj e
      subst hyx
      obtain ⟨o1, o2⟩ := hR.1 t y e2
      refine ⟨o1, o2.kept (adO_s (by rw [e2]; exact fun z => by cases z)) rfl b2 fun j => ?_⟩
      rw [b3]
      cases e4 : C'.2.2 t j with
      | none => rfl
      | some t' => show some _ = some _; rw [adO_s (hR.2.2 t y j t' e2 e4)]
    | none =>
      obtain ⟨b1, b2, b3⟩ := ovS_n (S := S) e2
      rw [b1] at e
      obtain ⟨o1, o2⟩ := h.1 t x e
      have hC : C.1 t = none := by
        cases e3 : C.1 t with
        | none => rfl
        | some y => rw [(hE.1 t y e3).1] at e2; cases e2
      refine ⟨o1, o2.kept (adO_n e2) (hF _ o2.lt ?_) b2 fun j => ?_⟩
      · rintro (⟨t0, x0, q1, q2, q3⟩ | q)
        · have := h.2.1 t0 t x0 x (hs t0 x0 q1).1 e q3
          subst this
          rw [hC] at q1; cases q1
        · have := o2.lt; omega
      · rw [b3]
        cases e4 : S.2.2 t j with
        | none => rfl
        | some t' => show some _ = some _; rw [hadB t' (h.2.2 t x j t' e e4)]
  · cases e2 : C'.1 t with
    | some y =>
      cases e3 : C'.1 t' with
      | some y' =>
        rw [adO_s (by rw [e2]; exact fun z => by cases z), adO_s (by rw [e3]; exact fun z => by cases z)] at ha
        exact hR.2.1 t t' y y' e2 e3 ha
      | none =>
        rw [(ovS_n e3).1] at e'
        rw [adO_n e3] at ha
        have l' := hlt t' x' e'
        cases e5 : C.1 t with
        | some z =>
          rw [hadB t (by rw [(hs t z e5).1]; exact fun z => by cases z)] at ha
          exact h.2.1 t t' _ _ (hs t z e5).1 e' ha
        | none =>
          rw [adO_s (by rw [e2]; exact fun z => by cases z)] at ha
          have := (hE.2 t y e2 e5).1
          omega
    | none =>
      rw [(ovS_n e2).1] at e
      rw [adO_n e2] at ha
      have l := hlt t x e
      cases e3 : C'.1 t' with
      | none =>
        rw [(ovS_n e3).1] at e'
        rw [adO_n e3] at ha
        exact h.2.1 t t' x x' e e' ha
      | some y' =>
        cases e5 : C.1 t' with
        | some z =>
          rw [hadB t' (by rw [(hs t' z e5).1]; exact fun z => by cases z)] at ha
          exact h.2.1 t t' _ _ e (hs t' z e5).1 ha
        | none =>
          rw [adO_s (by rw [e3]; exact fun z => by cases z)] at ha
          have := (hE.2 t' y' e3 e5).1
          omega
  · cases e2 : C'.1 t with
    | some y =>
      rw [(ovS_s e2).2.2] at e'
      have := hR.2.2 t y j t' e2 e'
      cases e3 : C'.1 t' with
      | none => exact absurd e3 this
      | some z => rw [(ovS_s e3).1]; exact fun z => by cases z
    | none =>
      rw [(ovS_n e2).1] at e
      rw [(ovS_n e2).2.2] at e'
      have := h.2.2 t x j t' e e'
      cases e3 : C'.1 t' with
      | none => rw [(ovS_n e3).1]; exact this
      | some z => rw [(ovS_s e3).1]; exact fun z => by cases z
  · refine ⟨?_, hadB t (by rw [e]; exact fun z => by cases z)⟩
    cases e2 : C'.1 t with
    | none => rw [(ovS_n e2).1]; exact e
    | some y =>
      rw [(ovS_s e2).1]
      cases e3 : C.1 t with
      | none => have := hnc t e3 (by rw [e]; exact fun z => by cases z); rw [e2] at this; cases this
      | some z =>
        have a1 := (hs t z e3).1
        have a2 := (hE.1 t z e3).1
        rw [e] at a1
        rw [e2] at a2
        rw [a2, ← a1]
  · cases e2 : C'.1 t with
    | none => rw [(ovS_n e2).1, e0] at e; cases e
    | some y =>
      rw [(ovS_s e2).1] at e
      rw [adO_s (by rw [e2]; exact fun z => by cases z)]
      have := hE.2 t y e2 (hsC t e0)
      cases e
      exact this
theorem nrmO_cv {D : DD} {ad ad' : Nat → Nat} {C' : Sto} {r : Option AV} (hv : ∀ v, r = some v → VOK C' v) : r.map (cv ad') = (nrmO r).map (cv (adO ad ad' C')) := by
  cases r with
  | none => rfl
  | some v =>
    rcases v with z | z | z
    · show some (Value.int (Int32.ofInt z)) = some (Value.int (Int32.ofInt (wr z)))
      unfold wr
      rw [Int32.ofInt_toInt]
    · rfl
    · cases z with
      | none => rfl
      | some t =>
        show some (va_rf (some (ad' t))) = some (va_rf (some (adO ad ad' C' t)))
        rw [adO_s (hv _ rfl t rfl)]
theorem nrmO_ok {S C' : Sto} {r : Option AV} (hv : ∀ v, r = some v → VOK C' v) : ∀ v, nrmO r = some v → VOK (ovS S C') v := by
  intro v e t e2
  subst e2
  have hr : r = some (vT t) := by
    cases r with
    | none => cases e
    | some w =>
      rcases w with z | z | z
      · cases e
      · cases e
      · exact e
  have := hv _ hr t rfl
  cases e3 : C'.1 t with
  | none => exact absurd e3 this
  | some x => rw [(ovS_s e3).1]; exact fun z => by cases z
theorem frS_sat {q : MD} {spec : Spec} {mc ms d : Nat} (h : Sat q spec mc ms d) : Sat q (frS spec) mc ms d := by
  intro l D ad S as post sz htr hcl hsp
  obtain ⟨C, hsub, hclo, hclC, hspec⟩ := hsp
  have hM := h l D ad C as _ sz htr hclC hspec
  have hfoot : ∀ q, foot ad C sz q → foot ad S sz q := by
    rintro q (⟨t, x, e, hx, rfl⟩ | hq)
    · exact Or.inl ⟨t, x, (hsub t x e).1, hx, rfl⟩
    · exact Or.inr hq
  refine MetFree.mono hM (fun a s hP => ?_) (fun _ _ _ _ _ h => h) (fun a s o t hP hQ => ?_)
  · obtain ⟨e1, e2, hR, hV⟩ := hP
    exact ⟨e1, e2, hR.sub hsub hclo, hV.1, hV.2.1, hV.2.2.1, vx_Zq.narrow hV.2.2.2.1 hfoot, vx_Zq.narrow hV.2.2.2.2 hfoot⟩
  · obtain ⟨e1, e2, hR, hV⟩ := hP
    subst e2
    have hFm : va_F (foot ad C s.heap.size) s t → va_F (foot ad S s.heap.size) s t := fun hF => ⟨hF.1, fun q q1 q2 => hF.2 q q1 fun z => q2 (hfoot q z)⟩
    rcases hQ with ⟨⟨⟨r, ad', C', ho, ⟨hnc, hp⟩, hE, hR', hv⟩, hF⟩, L, hL, hLf⟩ | ⟨q, hq, E, ce, L, ⟨⟨ee, ad', C', hee, ⟨hnc, hp⟩, hE, hR'⟩, hF⟩, r1, r2, r3, r4, r5, r6⟩
    · obtain ⟨k1, k2⟩ := hR.ov hsub hE hR' hnc hF.2
      exact Or.inl ⟨⟨⟨nrmO r, adO ad ad' C', ovS S C', by rw [ho, nrmO_cv (D := D) (ad := ad) hv], hp hR'.2.2 (fun t x e => (hE.1 t x e).1), k2, k1, nrmO_ok hv⟩, hFm hF⟩, L, hL, fun q hq => hfoot _ (hLf q hq)⟩
    · obtain ⟨k1, k2⟩ := hR.ov hsub hE hR' hnc hF.2
      exact Or.inr ⟨q, hq, E, ce, L, ⟨⟨ee, adO ad ad' C', ovS S C', hee, hp hR'.2.2 (fun t x e => (hE.1 t x e).1), k2, k1⟩, hFm hF⟩, r1, r2, r3, r4, r5, fun z hz => hfoot _ (r6 z hz)⟩

