/-! THE LAW'S LOOP: what holds between the calls -/
def LIb (xs : Nat → Int) (Ln : Nat) (n : Int) (C R S : Sto) : Prop := (subS C S ∧ cloS C ∧ subS R S ∧ cloS R) ∧ (∀ t, inF t → C.1 t = none) ∧ (∀ t, R.1 t ≠ none → t = 2 ∨ 20 ≤ t ∧ t ≤ 60) ∧ (∀ t, S.1 t ≠ none → C.1 t ≠ none ∨ inF t) ∧ (S.1 3 = some (101, 1) ∧ S.1 10 = some (102, Ln) ∧ ∀ j, S.2.1 10 j = xs j) ∧ MI n R ∧ SI0 R
def LI (xs : Nat → Int) (Ln : Nat) (n : Int) (S : Sto) : Prop := ∃ C R B N, LIb xs Ln n C R S ∧ CI B N C R
/-- behind the class's call: whatever the reference's call does, A holds of its answer -/
def MID (xs : Nat → Int) (Ln : Nat) (n : Int) (op : Sto → Int → Int → Sto → Prop) (A : Int → Int → Prop) (S : Sto) : Prop := ∃ C R, LIb xs Ln n C R S ∧ ∀ k v R', op R k v R' → A k v ∧ ∃ B N, CI B N C R'
def FIN (xs : Nat → Int) (Ln : Nat) (n k : Int) (S1 S2 : Sto) : Prop := LI xs Ln (n + 1) S2 ∧ MS S2 ∧ S2.2.1 2 0 = k ∧ S2.2.1 3 = S1.2.1 3
theorem LI.up {xs : Nat → Int} {Ln : Nat} {n : Int} {S : Sto} (h : LI xs Ln n S) (hn : n + 1 ≤ 15000) : LI xs Ln (n + 1) S := by
  obtain ⟨C, R, B, N, ⟨a, b, c, d, e, hI, h0⟩, hC⟩ := h
  exact ⟨C, R, B, N, ⟨a, b, c, d, e, hI.up hn, h0⟩, hC⟩
theorem LIb.C1 {xs : Nat → Int} {Ln : Nat} {n : Int} {C R S : Sto} {B : Nat → Nat} {N : Nat} (h : LIb xs Ln n C R S) (hC : CI B N C R) : C.1 1 = some (6, 9) ∧ S.1 1 = some (6, 9) := ⟨hC.1.1, (h.1.1 1 _ hC.1.1).1⟩
theorem LI.t1 {xs : Nat → Int} {Ln : Nat} {n : Int} {S : Sto} (h : LI xs Ln n S) : S.1 1 = some (6, 9) := by
  obtain ⟨C, R, B, N, hb, hC⟩ := h
  exact (hb.C1 hC).2
theorem LI.x {xs : Nat → Int} {Ln : Nat} {n : Int} {S : Sto} (h : LI xs Ln n S) : S.1 3 = some (101, 1) ∧ S.1 10 = some (102, Ln) ∧ ∀ j, S.2.1 10 j = xs j := by
  obtain ⟨C, R, B, N, hb, hC⟩ := h
  exact hb.2.2.2.2.1
theorem MID.x {xs : Nat → Int} {Ln : Nat} {n : Int} {op : Sto → Int → Int → Sto → Prop} {A : Int → Int → Prop} {S : Sto} (h : MID xs Ln n op A S) : S.1 3 = some (101, 1) ∧ S.1 10 = some (102, Ln) ∧ ∀ j, S.2.1 10 j = xs j := by
  obtain ⟨C, R, hb, hC⟩ := h
  exact hb.2.2.2.2.1
theorem MID.m2 {xs : Nat → Int} {Ln : Nat} {n : Int} {op : Sto → Int → Int → Sto → Prop} {A : Int → Int → Prop} {S : Sto} (h : MID xs Ln n op A S) : S.1 2 = some (7, 33) := by
  obtain ⟨C, R, hb, hC⟩ := h
  exact (hb.1.2.2.1 2 _ hb.2.2.2.2.2.1.1.1).1
theorem MID.mono {xs : Nat → Int} {Ln : Nat} {n : Int} {op : Sto → Int → Int → Sto → Prop} {A A' : Int → Int → Prop} {S : Sto} (h : MID xs Ln n op A S) (hA : ∀ k v, A k v → A' k v) : MID xs Ln n op A' S := by
  obtain ⟨C, R, hb, hC⟩ := h
  exact ⟨C, R, hb, fun k v R' ho => ⟨hA k v (hC k v R' ho).1, (hC k v R' ho).2⟩⟩
theorem MID.put {xs : Nat → Int} {Ln : Nat} {n : Int} {op : Sto → Int → Int → Sto → Prop} {A : Int → Int → Prop} {S : Sto} (h : MID xs Ln n op A S) {j : Nat} {w : Int} : MID xs Ln n op A (updI S 3 j w) := by
  obtain ⟨C, R, ⟨⟨a1, a2, a3, a4⟩, b, c, d, ⟨e1, e2, e3⟩, hI⟩, hC⟩ := h
  have hu : ∀ t, t ≠ 3 → (updI S 3 j w).2.1 t = S.2.1 t := fun t ht => by funext q; rw [updI_2, if_neg (fun z => ht z.1)]
  refine ⟨C, R, ⟨⟨fun t x e => ?_, a2, fun t x e => ?_, a4⟩, b, c, d, ⟨e1, e2, fun q => ?_⟩, hI⟩, hC⟩
  · obtain ⟨q1, q2, q3⟩ := a1 t x e
    exact ⟨q1, (hu t (fun z => by rw [z, b 3 (by omega)] at e; cases e)).trans q2, q3⟩
  · obtain ⟨q1, q2, q3⟩ := a3 t x e
    have := c t (by rw [e]; exact fun z => by cases z)
    exact ⟨q1, (hu t (by omega)).trans q2, q3⟩
  · rw [hu 10 (by omega)]; exact e3 q
/-- a call of the class -/
theorem lw_cls {xs : Nat → Int} {Ln : Nat} {n : Int} {opC : Spec} {op : Sto → Int → Int → Sto → Prop} {em : Nat → Int} {ok : Res → Bool} {args : List AV} {S : Sto} (AG : ∀ {B : Nat → Nat} {N : Nat} {C R : Sto}, CI B N C R → MI n R → SI0 R → ∀ {post : Res → Sto → Prop}, (∀ r S1, ok r = true → tyF C S1 → agC em (op R) r S1 → post r S1) → opC args C post)
    (hargs : ∀ C : Sto, C.1 1 = some (6, 9) → CL C args) (h : LI xs Ln n S) {post : Res → Sto → Prop} (hp : ∀ r S1, ok r = true → MID xs Ln n op (fun k v => agA em k v r) S1 → post (nrm r) S1) : frS opC args S post := by
  obtain ⟨C, R, B, N, hb, hC⟩ := h
  obtain ⟨hC1, -⟩ := hb.C1 hC
  obtain ⟨⟨a1, a2, a3, a4⟩, b, c, d, ⟨e1, e2, e3⟩, hI, h0⟩ := hb
  refine ⟨C, a1, a2, hargs C hC1, AG hC hI h0 fun r C' hok hty hag => ⟨fun t t1 t2 => ?_, fun hcl hex => hp r _ hok ?_⟩⟩
  · rcases d t t2 with z | z
    · exact absurd t1 z
    · rw [hty t z]; exact t1
  · have hF : ∀ t, inF t → C'.1 t = none := fun t ht => by rw [hty t ht]; exact b t ht
    refine ⟨C', R, ⟨⟨fun t x e => ?_, hcl, fun t x e => ?_, a4⟩, hF, c, fun t ht => ?_, ⟨?_, ?_, fun j => ?_⟩, hI, h0⟩, fun k v R' ho => hag k v R' ho⟩
    · exact ovS_s e
    · have := c t (by rw [e]; exact fun z => by cases z)
      obtain ⟨q1, q2, q3⟩ := ovS_n (S := S) (hF t (by omega))
      obtain ⟨p1, p2, p3⟩ := a3 t x e
      exact ⟨q1.trans p1, q2.trans p2, q3.trans p3⟩
    · cases e9 : C'.1 t with
      | some x => exact Or.inl (by rw [e9] at *; exact fun z => by cases z)
      | none =>
        rw [(ovS_n e9).1] at ht
        rcases d t ht with z | z
        · cases e8 : C.1 t with
          | none => exact absurd e8 z
          | some y => rw [hex t y e8] at e9; cases e9
        · exact Or.inr z
    · rw [(ovS_n (hF 3 (by omega))).1]; exact e1
    · rw [(ovS_n (hF 10 (by omega))).1]; exact e2
    · rw [(ovS_n (hF 10 (by omega))).2.1]; exact e3 j
/-- a wrapper's call -/
theorem lw_w {xs : Nat → Int} {Ln : Nat} {n : Int} {opC : Spec} {op : Sto → Int → Int → Sto → Prop} {em : Nat → Int} {ex : List Nat} {args : List AV} {S : Sto} (AG : ∀ {B : Nat → Nat} {N : Nat} {C R : Sto}, CI B N C R → MI n R → SI0 R → ∀ {post : Res → Sto → Prop}, (∀ r S1, okr ex r = true → tyF C S1 → agC em (op R) r S1 → post r S1) → opC args C post)
    (hargs : ∀ C : Sto, C.1 1 = some (6, 9) → CL C args) (hex : ∀ e, ex.contains e = true → 1 ≤ em e ∧ em e ≤ 3) (h : LI xs Ln n S) {post : Res → Sto → Prop} (hp : ∀ z S1, 0 ≤ z ∧ z ≤ 3 → MID xs Ln n op (fun k v => k = z ∧ (z = 0 → S1.2.1 3 0 = wr v)) S1 → post (.inl (some (vI z))) S1) : wS opC em ex args S post := by
  refine ⟨⟨9, h.t1⟩, h.x.1, fun post' p1 p2 => lw_cls AG hargs h fun r S1 hok hM => ?_⟩
  match r, hok, hM with
  | .inl (some (.inl x)), _, hM =>
    refine p1 (wr x) S1 (wr_r x) hM.x.1 (hp 0 _ (by omega) (hM.put.mono fun k v ha => ?_))
    obtain ⟨a1, a2⟩ := ha
    exact ⟨a1, fun _ => by rw [updI_2, if_pos ⟨rfl, rfl⟩, a2]⟩
  | .inr e, hok, hM =>
    have he := hex e hok
    exact p2 e S1 hok (hp (em e) S1 (by omega) (hM.mono fun k v ha => ⟨ha, fun z => by omega⟩))
theorem lw_w0 {xs : Nat → Int} {Ln : Nat} {n : Int} {opC : Spec} {op : Sto → Int → Int → Sto → Prop} {em : Nat → Int} {ex : List Nat} {args : List AV} {S : Sto} (AG : ∀ {B : Nat → Nat} {N : Nat} {C R : Sto}, CI B N C R → MI n R → SI0 R → ∀ {post : Res → Sto → Prop}, (∀ r S1, okv ex r = true → tyF C S1 → agC em (op R) r S1 → post r S1) → opC args C post)
    (hargs : ∀ C : Sto, C.1 1 = some (6, 9) → CL C args) (hex : ∀ e, ex.contains e = true → 1 ≤ em e ∧ em e ≤ 3) (h : LI xs Ln n S) {post : Res → Sto → Prop} (hp : ∀ z S1, 0 ≤ z ∧ z ≤ 3 → MID xs Ln n op (fun k _ => k = z) S1 → post (.inl (some (vI z))) S1) : wS0 opC em ex args S post := by
  refine ⟨⟨9, h.t1⟩, fun post' p1 p2 => lw_cls AG hargs h fun r S1 hok hM => ?_⟩
  match r, hok, hM with
  | .inl none, _, hM => exact p1 S1 (hp 0 _ (by omega) (hM.mono fun k v ha => ha))
  | .inr e, hok, hM =>
    have he := hex e hok
    exact p2 e S1 hok (hp (em e) S1 (by omega) (hM.mono fun k v ha => ha))
/-- a call of the reference -/
theorem lw_mod {xs : Nat → Int} {Ln : Nat} {n : Int} {opM : Spec} {op : Sto → Int → Int → Sto → Prop} {A : Int → Int → Prop} {args : List AV} {S : Sto} {res : Int → Res} (MO : ∀ {R : Sto}, MI n R → n + 1 ≤ 15000 → ∀ {post : Res → Sto → Prop}, (∀ k v R', op R k v R' → post (res v) R') → opM args R post) (hgood : goodO op)
    (hargs : ∀ R : Sto, R.1 2 = some (7, 33) → CL R args) (hn : n + 1 ≤ 15000) (h : MID xs Ln n op A S) {post : Res → Sto → Prop} (hp : ∀ k v S2, A k v → FIN xs Ln n k S S2 → post (nrm (res v)) S2) : frS opM args S post := by
  obtain ⟨C, R, ⟨⟨a1, a2, a3, a4⟩, b, c, d, ⟨e1, e2, e3⟩, hI, h0⟩, hag⟩ := h
  refine ⟨R, a3, a4, hargs R hI.1.1, MO hI hn fun k v R' ho => ?_⟩
  obtain ⟨hI', h0', hty, hk⟩ := hgood n R k v R' hI h0 hn ho
  obtain ⟨hA, B, N, hCI⟩ := hag k v R' ho
  refine ⟨fun t t1 _ => by rw [hty]; exact t1, fun hcl hex => hp k v _ hA ?_⟩
  have hR' : ∀ t, ¬ (t = 2 ∨ 20 ≤ t ∧ t ≤ 60) → R'.1 t = none := fun t ht => by
    rw [hty]
    cases e : R.1 t with
    | none => rfl
    | some x => exact absurd (c t (by rw [e]; exact fun z => by cases z)) ht
  obtain ⟨m1, m2, m3⟩ := hI'.1
  refine ⟨⟨C, R', B, N, ⟨⟨fun t x e => ?_, a2, fun t x e => ovS_s e, hcl⟩, b, fun t ht => c t (by rw [← hty]; exact ht), fun t ht => ?_, ⟨?_, ?_, fun j => ?_⟩, hI', h0'⟩, hCI⟩, ⟨(ovS_s m1).1, (ovS_s m1).2.2.trans m2, fun q q1 q2 => (ovS_s (m3 q q1 q2)).1⟩, ?_, ?_⟩
  · have hnF : ¬ inF t := fun z => by rw [b t z] at e; cases e
    obtain ⟨q1, q2, q3⟩ := ovS_n (S := S) (hR' t (by omega))
    obtain ⟨p1, p2, p3⟩ := a1 t x e
    exact ⟨q1.trans p1, q2.trans p2, q3.trans p3⟩
  · cases e9 : R'.1 t with
    | some x =>
      have := c t (by rw [← hty, e9]; exact fun z => by cases z)
      exact Or.inr (by omega)
    | none => rw [(ovS_n e9).1] at ht; exact d t ht
  · rw [(ovS_n (hR' 3 (by omega))).1]; exact e1
  · rw [(ovS_n (hR' 10 (by omega))).1]; exact e2
  · rw [(ovS_n (hR' 10 (by omega))).2.1]; exact e3 j
  · rw [(ovS_s m1).2.1]; exact hk
  · exact (ovS_n (hR' 3 (by omega))).2.1
/-- the class is made -/
def INI1 (xs : Nat → Int) (Ln : Nat) (S : Sto) : Prop := ∃ C0 : Sto, (C0.1 1 = some (6, 9) ∧ (∀ t, t ≠ 1 → C0.1 t = none) ∧ ∀ k, C0.2.1 1 k = 0) ∧ subS (clNew C0) S ∧ cloS (clNew C0) ∧ (S.1 10 = some (102, Ln) ∧ ∀ j, S.2.1 10 j = xs j) ∧ ∀ t, S.1 t ≠ none → (clNew C0).1 t ≠ none ∨ t = 10
theorem clNew_t {C : Sto} {t : Nat} (h : t < 4 ∨ 9 < t) : (clNew C).1 t = C.1 t := by
  show (if t = 9 then _ else if t = 8 then _ else if t = 7 then _ else if t = 6 then _ else if t = 5 then _ else if t = 4 then _ else C.1 t) = _
  rw [if_neg (by omega), if_neg (by omega), if_neg (by omega), if_neg (by omega), if_neg (by omega), if_neg (by omega)]
theorem lw_ini1 {xs : Nat → Int} {Ln : Nat} {S : Sto} (h1 : S.1 1 = none) (h10 : S.1 10 = some (102, Ln) ∧ ∀ j, S.2.1 10 j = xs j) (hS : ∀ t, t ≠ 10 → S.1 t = none) {post : Res → Sto → Prop} (hp : ∀ S2, INI1 xs Ln S2 → post (.inl none) S2) : frS s_initC [vT 1] (newS S 1 (6, 9)) post := by
  have g1 : (newS S 1 (6, 9)).1 1 = some (6, 9) := rfl
  have g3 : ∀ j, (newS S 1 (6, 9)).2.2 1 j = none := fun _ => rfl
  have g2 : ∀ j, (newS S 1 (6, 9)).2.1 1 j = 0 := fun _ => rfl
  obtain ⟨C, hC⟩ : ∃ C : Sto, C = (fun t => if t = 1 then some (6, 9) else none, (newS S 1 (6, 9)).2.1, (newS S 1 (6, 9)).2.2) := ⟨_, rfl⟩
  have c1 : ∀ t, C.1 t = if t = 1 then some (6, 9) else none := fun t => by rw [hC]
  have c2 : C.2 = (newS S 1 (6, 9)).2 := by rw [hC]
  have o1 : ∀ t, t ≠ 1 → C.1 t = none := fun t ht => by rw [c1, if_neg ht]
  have d1 : ∀ t x, C.1 t = some x → t = 1 := fun t x e => by
    by_cases z : t = 1
    · exact z
    · rw [o1 t z] at e; cases e
  refine ⟨C, fun t x e => ?_, fun t x j t' e e' => ?_, fun a ha t e => ?_, ⟨by rw [c1, if_pos rfl], fun k k4 k9 => o1 k (by omega)⟩, fun t t1 t2 => ?_, fun hcl hex => hp _ ⟨C, ⟨by rw [c1, if_pos rfl], o1, fun k => by rw [c2]; exact g2 k⟩, fun t x e => ovS_s e, hcl, ⟨?_, fun j => ?_⟩, fun t ht => ?_⟩⟩
  · have := d1 t x e
    subst this
    rw [c1, if_pos rfl] at e
    exact ⟨g1.trans e, by rw [c2], by rw [c2]⟩
  · have := d1 t x e
    subst this
    rw [c2, g3] at e'
    cases e'
  · rw [List.mem_singleton.mp ha] at e
    cases e
    rw [c1, if_pos rfl]; exact fun z => by cases z
  · have ht1 : t ≠ 1 := fun z => by rw [c1, if_pos z] at t1; cases t1
    have h9 : t = 10 := by
      by_cases z : t = 10
      · exact z
      · rw [newS_1, if_neg ht1, hS t z] at t2; exact absurd rfl t2
    rw [clNew_t (by omega)]; exact t1
  · rw [(ovS_n (by rw [clNew_t (by omega)]; exact o1 10 (by omega))).1, newS_1, if_neg (by omega)]; exact h10.1
  · rw [(ovS_n (by rw [clNew_t (by omega)]; exact o1 10 (by omega))).2.1, newS_2, if_neg (by omega)]; exact h10.2 j
  · cases e9 : (clNew C).1 t with
    | some x => exact Or.inl (by rw [e9] at *; exact fun z => by cases z)
    | none =>
      rw [(ovS_n e9).1] at ht
      by_cases z : t = 1
      · subst z
        rw [clNew_t (by omega), c1, if_pos rfl] at e9; cases e9
      · rw [newS_1, if_neg z] at ht
        by_cases z2 : t = 10
        · exact Or.inr z2
        · rw [hS t z2] at ht; exact absurd rfl ht
theorem INI1.o2 {xs : Nat → Int} {Ln : Nat} {S : Sto} (h : INI1 xs Ln S) {t : Nat} (ht : (t < 4 ∨ 9 < t) ∧ t ≠ 1 ∧ t ≠ 10) : S.1 t = none := by
  obtain ⟨C0, ⟨h1, h2, h3⟩, -, -, -, h6⟩ := h
  cases e : S.1 t with
  | none => rfl
  | some x =>
    rcases h6 t (by rw [e]; exact fun z => by cases z) with z | z
    · rw [clNew_t ht.1] at z; exact absurd (h2 t ht.2.1) z
    · omega
def INI2 (xs : Nat → Int) (Ln : Nat) (S : Sto) : Prop := S.1 3 = none ∧ ∀ S', S' = newS S 3 (101, 1) → LI xs Ln 0 S'
theorem lw_ini2 {xs : Nat → Int} {Ln : Nat} {S : Sto} (h : INI1 xs Ln S) {post : Res → Sto → Prop} (hp : ∀ S2, INI2 xs Ln S2 → post (.inl none) S2) : frS s_minit [vT 2] (newS S 2 (7, 33)) post := by
  have ho := fun t => h.o2 (t := t)
  obtain ⟨C0, ⟨h1, h2, h3⟩, h4, h5, ⟨h6, h7⟩, h8⟩ := h
  have cF : ∀ t, inF t → (clNew C0).1 t = none := fun t ht => by rw [clNew_t (by omega)]; exact h2 t (by omega)
  obtain ⟨R, hR⟩ : ∃ R : Sto, R = (fun t => if t = 2 then some (7, 33) else none, (newS S 2 (7, 33)).2.1, (newS S 2 (7, 33)).2.2) := ⟨_, rfl⟩
  have c1 : ∀ t, R.1 t = if t = 2 then some (7, 33) else none := fun t => by rw [hR]
  have c2 : R.2 = (newS S 2 (7, 33)).2 := by rw [hR]
  have o1 : ∀ t, t ≠ 2 → R.1 t = none := fun t ht => by rw [c1, if_neg ht]
  have d1 : ∀ t x, R.1 t = some x → t = 2 := fun t x e => by
    by_cases z : t = 2
    · exact z
    · rw [o1 t z] at e; cases e
  refine ⟨R, fun t x e => ?_, fun t x j t' e e' => ?_, fun a ha t e => ?_, ⟨by rw [c1, if_pos rfl], fun k => by rw [c2]; rfl, fun k => by rw [c2]; rfl, fun k hk => o1 _ (by unfold mt; omega)⟩, fun R' hI hD hM hO hs6 h22 hout => ⟨fun t t1 t2 => ?_, fun hcl hex => hp _ ?_⟩⟩
  · have := d1 t x e
    subst this
    rw [c1, if_pos rfl] at e
    exact ⟨e, by rw [c2], by rw [c2]⟩
  · have := d1 t x e
    subst this
    rw [c2, newS_3, if_pos rfl] at e'
    cases e'
  · rw [List.mem_singleton.mp ha] at e
    cases e
    rw [c1, if_pos rfl]; exact fun z => by cases z
  · have ht2 : t ≠ 2 := fun z => by rw [c1, if_pos z] at t1; cases t1
    rw [newS_1, if_neg ht2] at t2
    have hk : ∀ k, k < 33 → t ≠ mt k := fun k hk z => t2 (ho t (by unfold mt at z; omega))
    rw [(hout t ht2 hk).1]; exact t1
  · have hRt : ∀ t, R'.1 t ≠ none → t = 2 ∨ 20 ≤ t ∧ t ≤ 60 := fun t ht => by
      by_cases z : t = 2
      · exact Or.inl z
      · by_cases y : 20 ≤ t ∧ t ≤ 60
        · exact Or.inr y
        · exact absurd ((hout t z (fun k hk q => y (by unfold mt at q; omega))).1.trans (o1 t z)) ht
    have hRn : ∀ t, ¬ (t = 2 ∨ 20 ≤ t ∧ t ≤ 60) → R'.1 t = none := fun t ht => by
      cases e : R'.1 t with
      | none => rfl
      | some x => exact absurd (hRt t (by rw [e]; exact fun z => by cases z)) ht
    have h33 : (ovS (newS S 2 (7, 33)) R').1 3 = none := by
      rw [(ovS_n (hRn 3 (by omega))).1, newS_1, if_neg (by omega)]; exact ho 3 (by omega)
    refine ⟨h33, fun S' hS' => ⟨clNew C0, R', fun _ => 0, 0, ⟨⟨fun t x e => ?_, h5, fun t x e => ?_, hcl⟩, cF, hRt, fun t ht => ?_, ⟨?_, ?_, fun j => ?_⟩, hI, fun o ho' => by rw [hO] at ho'; omega⟩, CI.new h1 h2 hD hM hO hs6 h22 h3⟩⟩
    · have hnF : ¬ inF t := fun z => by rw [cF t z] at e; cases e
      obtain ⟨q1, q2, q3⟩ := ovS_n (S := newS S 2 (7, 33)) (hRn t (by omega))
      obtain ⟨p1, p2, p3⟩ := h4 t x e
      have e3 : t ≠ 3 := by omega
      have e2 : t ≠ 2 := by omega
      rw [hS']
      refine ⟨?_, ?_, ?_⟩
      · rw [newS_1, if_neg e3, q1, newS_1, if_neg e2]; exact p1
      · funext k; rw [newS_2, if_neg e3, q2, newS_2, if_neg e2, p2]
      · funext k; rw [newS_3, if_neg e3, q3, newS_3, if_neg e2, p3]
    · have := hRt t (by rw [e]; exact fun z => by cases z)
      have e3 : t ≠ 3 := by omega
      obtain ⟨q1, q2, q3⟩ := ovS_s (S := newS S 2 (7, 33)) e
      rw [hS']
      refine ⟨?_, ?_, ?_⟩
      · rw [newS_1, if_neg e3]; exact q1
      · funext k; rw [newS_2, if_neg e3, q2]
      · funext k; rw [newS_3, if_neg e3, q3]
    · rw [hS', newS_1] at ht
      by_cases e3 : t = 3
      · exact Or.inr (by omega)
      · rw [if_neg e3] at ht
        cases e9 : R'.1 t with
        | some x =>
          have := hRt t (by rw [e9]; exact fun z => by cases z)
          exact Or.inr (by omega)
        | none =>
          rw [(ovS_n e9).1, newS_1] at ht
          by_cases e2 : t = 2
          · exact Or.inr (by omega)
          · rw [if_neg e2] at ht
            rcases h8 t ht with z | z
            · exact Or.inl z
            · exact Or.inr (by omega)
    · rw [hS', newS_1, if_pos rfl]
    · rw [hS', newS_1, if_neg (by omega), (ovS_n (hRn 10 (by omega))).1, newS_1, if_neg (by omega)]; exact h6
    · rw [hS', newS_2, if_neg (by omega), (ovS_n (hRn 10 (by omega))).2.1, newS_2, if_neg (by omega)]; exact h7 j
