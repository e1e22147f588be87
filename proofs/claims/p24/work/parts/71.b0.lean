/-! JAVA.LANG.MATH: by the library's contracts (its methods may be run by entries of their own) -/
theorem room_less {s : State} {pl : Platform} {r r' : Room} (h : s.hasRoom pl r = true) (h1 : r'.frames ≤ r.frames) (h2 : r'.cells ≤ r.cells) (h3 : r'.slots ≤ r.slots) (h4 : r'.locals ≤ r.locals) : s.hasRoom pl r' = true := by
  have a := State.hasRoom_stack h
  have b := State.hasRoom_heap h
  have c := State.hasRoom_real h
  have d := State.hasRoom_plain h
  simp only [State.hasRoom, Bool.and_eq_true, decide_eq_true_eq] at h ⊢
  exact ⟨by omega, h.2⟩
theorem sat_lib {q : MD} {sp : Spec} {X : _root_.Jvm.Spec} (hM : ∀ l, MeetsLoose l q.1 X) (hroom : X.room = {}) (hpre : ∀ (ad : Nat → Nat) (S : Sto) (as : List AV) (post : Res → Sto → Prop) (U : State), sp as S post → (Cond.code q.1 q.2.1 q.2.2.1 q.2.2.2).before (as.map (cv ad)).toArray U = true → X.pre.before (as.map (cv ad)).toArray U = true)
    (hens : ∀ (ad : Nat → Nat) (S : Sto) (as : List AV) (post : Res → Sto → Prop) (s : State) (o : Outcome) (t : State), sp as S post → X.ensures (as.map (cv ad)).toArray s o t → ∃ r : Int, o = .returned (some (.int (Int32.ofInt r))) ∧ post (.inl (some (vI r))) S ∧ t = s.setFrames t.frames) : Sat q sp 0 0 1 := by
  intro l D ad S as post sz htr hcl hspec p e hadm hc hk s m args below hf happ hP _
  obtain ⟨rfl, hsz, hR, hV⟩ := hP
  obtain ⟨g1, g2, g3, g4, g5, g6, g7, g8⟩ := (_root_.Jvm.Spec.appliesLoose_iff hf).mp happ
  have hcode : (Cond.code q.1 q.2.1 q.2.2.1 q.2.2.2).before (as.map (cv ad)).toArray s = true := atoms_spec (ws := [Cond.code q.1 q.2.1 q.2.2.1 q.2.2.2]) g8 _ List.mem_cons_self
  have happ2 : X.appliesLoose q.1 e.platform s = true := (_root_.Jvm.Spec.appliesLoose_iff hf).mpr ⟨g1, g2, g3, g4, g5, g6, room_less g7 (by rw [hroom]; exact Nat.zero_le _) (by rw [hroom]; exact Nat.zero_le _) (by rw [hroom]; exact Nat.zero_le _) (by rw [hroom]; exact Nat.zero_le _), hpre ad S as post s hspec hcode⟩
  obtain ⟨n, o, h1, h2, h3, h4⟩ := hM l p e hadm hc hk s m _ below hf happ2
  obtain ⟨r, ho, hpost, ht⟩ := hens ad S as post s o _ hspec h4
  refine ⟨n, o, h1, h2, h3, Or.inl ?_⟩
  generalize stepsAlone p.tables e n s = t at *
  have hh : t.heap = s.heap := by rw [ht]; rfl
  have hvm : t.vm = s.vm := by rw [ht]; rfl
  have hsu : t.slotsUsed = s.slotsUsed := by rw [ht]; rfl
  refine ⟨⟨⟨some (vI r), ad, S, ho, hpost, Ext.rf, by rw [hh]; exact hR, fun v hv => ?_⟩, ⟨by rw [hh]; exact Nat.le_refl _, fun z hz hA => by rw [hh]⟩⟩, [], ⟨⟨_, ho⟩, by rw [hvm]; exact State.WarmedH.refl s, ?_, ?_, ?_, ?_, ?_, ?_⟩, fun z hz => by cases hz⟩
  · cases hv; exact VOK.i
  · show ({ t with vm := s.vm } : State) = { s.setFrames t.frames with heap := t.heap, slotsUsed := t.slotsUsed }
    generalize t.frames = F at *
    subst ht
    rfl
  · show s.heap.size ≤ t.heap.size
    rw [hh]; exact Nat.le_refl _
  · show t.heap.size ≤ s.heap.size + 0
    rw [hh]; exact Nat.le_refl _
  · show t.slotsUsed = s.slotsUsed + ((t.heap.toList.drop s.heap.size).map (·.slots.size)).sum
    rw [hh, hsu, List.drop_eq_nil_of_le (by simp)]; rfl
  · show ((t.heap.toList.drop s.heap.size).map (·.slots.size)).sum ≤ 0
    rw [hh, List.drop_eq_nil_of_le (by simp)]; exact Nat.le_refl _
  · intro a c hac
    refine ⟨c, by show t.heap[a]? = some c; rw [hh]; exact hac, rfl, rfl, fun i _ => rfl⟩
def s_min : Spec := sF2 (fun a b => InR a ∧ InR b) fun a b r => r = if a ≤ b then a else b
def s_max : Spec := sF2 (fun a b => InR a ∧ InR b) fun a b r => r = if a ≤ b then b else a
def s_abs : Spec := sF1 (fun a => -1000000 ≤ a ∧ a ≤ 1000000) fun a r => r = if 0 ≤ a then a else -a
theorem sat_J9_min_7cf53 : Sat mJ9_min_7cf53 s_min 0 0 1 := by
  refine sat_lib (X := Lib.MathLoose.min_int.spec) (fun l => Lib.MathLoose.min_int l) rfl ?_ ?_
  · intro ad S as post U h hc
    match as, h with
    | [.inl a, .inl b], h =>
      simp only [Lib.MathLoose.min_int.spec, Cond.before_and, Bool.and_eq_true]
      exact ⟨hc, rfl, rfl, rfl⟩
  · intro ad S as post s o t h he
    match as, h with
    | [.inl a, .inl b], h =>
      obtain ⟨hp, hx⟩ := he
      have ht : t = s.setFrames t.frames := State.sameBut_nil.mp hx
      have hlt : Int32.ofInt b < Int32.ofInt a ↔ b < a := oI_lt h.1.2 h.1.1
      by_cases q : b < a
      · refine ⟨b, ?_, h.2 _ (by show b = if a ≤ b then a else b; rw [if_neg (by omega)]), ht⟩
        have q2 := hlt.mpr q
        rcases o with v | v
        · rcases v with _ | w
          · simp [Lib.MathLoose.min_int.spec, Cond.after, Cond.holds, Cond.value, Term.eval, cv, q2] at hp
          · cases w <;> simp [Lib.MathLoose.min_int.spec, Cond.after, Cond.holds, Cond.value, Term.eval, cv, q2] at hp ⊢
            rename_i z
            by_cases e : z = Int32.ofInt b
            · exact e
            · exfalso; simp [e] at hp
        · simp [Lib.MathLoose.min_int.spec, Cond.after, Cond.holds, Cond.value, Term.eval, cv, q2] at hp
      · refine ⟨a, ?_, h.2 _ (by show a = if a ≤ b then a else b; rw [if_pos (by omega)]), ht⟩
        have q2 : ¬ Int32.ofInt b < Int32.ofInt a := fun z => q (hlt.mp z)
        rcases o with v | v
        · rcases v with _ | w
          · simp [Lib.MathLoose.min_int.spec, Cond.after, Cond.holds, Cond.value, Term.eval, cv, q2] at hp
          · cases w <;> simp [Lib.MathLoose.min_int.spec, Cond.after, Cond.holds, Cond.value, Term.eval, cv, q2] at hp ⊢
            rename_i z
            by_cases e : z = Int32.ofInt a
            · exact e
            · exfalso; simp [e] at hp
        · simp [Lib.MathLoose.min_int.spec, Cond.after, Cond.holds, Cond.value, Term.eval, cv, q2] at hp
theorem sat_J9_max_7cf53 : Sat mJ9_max_7cf53 s_max 0 0 1 := by
  refine sat_lib (X := Lib.MathLoose.max_int.spec) (fun l => Lib.MathLoose.max_int l) rfl ?_ ?_
  · intro ad S as post U h hc
    match as, h with
    | [.inl a, .inl b], h =>
      simp only [Lib.MathLoose.max_int.spec, Cond.before_and, Bool.and_eq_true]
      exact ⟨hc, rfl, rfl, rfl⟩
  · intro ad S as post s o t h he
    match as, h with
    | [.inl a, .inl b], h =>
      obtain ⟨hp, hx⟩ := he
      have ht : t = s.setFrames t.frames := State.sameBut_nil.mp hx
      have hlt : Int32.ofInt a < Int32.ofInt b ↔ a < b := oI_lt h.1.1 h.1.2
      by_cases q : a < b
      · refine ⟨b, ?_, h.2 _ (by show b = if a ≤ b then b else a; rw [if_pos (by omega)]), ht⟩
        have q2 := hlt.mpr q
        rcases o with v | v
        · rcases v with _ | w
          · simp [Lib.MathLoose.max_int.spec, Cond.after, Cond.holds, Cond.value, Term.eval, cv, q2] at hp
          · cases w <;> simp [Lib.MathLoose.max_int.spec, Cond.after, Cond.holds, Cond.value, Term.eval, cv, q2] at hp ⊢
            rename_i z
            by_cases e : z = Int32.ofInt b
            · exact e
            · exfalso; simp [e] at hp
        · simp [Lib.MathLoose.max_int.spec, Cond.after, Cond.holds, Cond.value, Term.eval, cv, q2] at hp
      · refine ⟨a, ?_, h.2 _ (by show a = if a ≤ b then b else a; split <;> omega), ht⟩
        have q2 : ¬ Int32.ofInt a < Int32.ofInt b := fun z => q (hlt.mp z)
        rcases o with v | v
        · rcases v with _ | w
          · simp [Lib.MathLoose.max_int.spec, Cond.after, Cond.holds, Cond.value, Term.eval, cv, q2] at hp
          · cases w <;> simp [Lib.MathLoose.max_int.spec, Cond.after, Cond.holds, Cond.value, Term.eval, cv, q2] at hp ⊢
            rename_i z
            by_cases e : z = Int32.ofInt a
            · exact e
            · exfalso; simp [e] at hp
        · simp [Lib.MathLoose.max_int.spec, Cond.after, Cond.holds, Cond.value, Term.eval, cv, q2] at hp
theorem sat_J9_abs_0f7a4 : Sat mJ9_abs_0f7a4 s_abs 0 0 1 := by
  refine sat_lib (X := Lib.MathLoose.abs_int.spec) (fun l => Lib.MathLoose.abs_int l) rfl ?_ ?_
  · intro ad S as post U h hc
    match as, h with
    | [.inl a], h =>
      simp only [Lib.MathLoose.abs_int.spec, Cond.before_and, Bool.and_eq_true]
      exact ⟨hc, rfl, rfl⟩
  · intro ad S as post s o t h he
    match as, h with
    | [.inl a], h =>
      obtain ⟨hp, hx⟩ := he
      have ht : t = s.setFrames t.frames := State.sameBut_nil.mp hx
      have hlt : (0 : Int32) ≤ Int32.ofInt a ↔ 0 ≤ a := by rw [oI_0]; exact oI_le ⟨by omega, by omega⟩ ⟨by have := h.1.1; omega, by have := h.1.2; omega⟩
      by_cases q : 0 ≤ a
      · refine ⟨a, ?_, h.2 _ (by show a = if 0 ≤ a then a else -a; rw [if_pos q]), ht⟩
        have q2 := hlt.mpr q
        rcases o with v | v
        · rcases v with _ | w
          · simp [Lib.MathLoose.abs_int.spec, Cond.after, Cond.holds, Cond.value, Term.eval, cv, q2] at hp
          · cases w <;> simp [Lib.MathLoose.abs_int.spec, Cond.after, Cond.holds, Cond.value, Term.eval, cv, q2] at hp ⊢
            rename_i z
            by_cases e : z = Int32.ofInt a
            · exact e
            · exfalso; simp [e] at hp
        · simp [Lib.MathLoose.abs_int.spec, Cond.after, Cond.holds, Cond.value, Term.eval, cv, q2] at hp
      · refine ⟨-a, ?_, h.2 _ (by show -a = if 0 ≤ a then a else -a; rw [if_neg q]), ht⟩
        have q2 : ¬ (0 : Int32) ≤ Int32.ofInt a := fun z => q (hlt.mp z)
        rcases o with v | v
        · rcases v with _ | w
          · simp [Lib.MathLoose.abs_int.spec, Cond.after, Cond.holds, Cond.value, Term.eval, cv, q2] at hp
          · cases w <;> simp [Lib.MathLoose.abs_int.spec, Cond.after, Cond.holds, Cond.value, Term.eval, cv, q2] at hp ⊢
            rename_i z
            by_cases e : z = -Int32.ofInt a
            · first | exact e | (rw [← oI_neg]; exact e)
            · exfalso; simp [e] at hp
        · simp [Lib.MathLoose.abs_int.spec, Cond.after, Cond.holds, Cond.value, Term.eval, cv, q2] at hp

