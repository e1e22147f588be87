/-! THE LAW: a run that calls what catches; the world at its entry -/
abbrev WrF := Nat → Option (Spec × Nat × Nat × Nat)
def stW (E : Nat → Ent) (sp : Nat → CD) (wrr : WrF) (lim : Nat × Nat) (kr : Option AV → Sto → Nat × Nat → Prop) (k : KF) (pc : Nat) (L st : List AV) (S : Sto) (c : Nat × Nat) : Prop := match wrr pc with
  | some (spec, n, mc, ms) => argsK n [] st fun as r => shortK r ((c.1 + mc ≤ lim.1 ∧ c.2 + ms ≤ lim.2) ∧ spec as S (callK k (fun _ _ _ _ _ => False) pc (pc + 3) L r (c.1 + mc, c.2 + ms)))
  | none => st1 sp lim kr (fun _ _ _ => False) (fun _ _ _ _ _ => False) k pc (E pc) L st S c
def wpL (E : Nat → Ent) (sp : Nat → CD) (wrr : WrF) (lim : Nat × Nat) (kr : Option AV → Sto → Nat × Nat → Prop) (cut : CutF) (n : Nat) : Nat → KF
  | 0 => fun _ _ _ _ _ => False
  | f + 1 => fun pc L st S c => match cut pc with
    | some I => ∃ m, m < n ∧ I m L st S c
    | none => stW E sp wrr lim kr (wpL E sp wrr lim kr cut n f) pc L st S c
theorem wpL_sound {E : Nat → Ent} {sp : Nat → CD} {wrr : WrF} {lim : Nat × Nat} {kr : Option AV → Sto → Nat × Nat → Prop} {cut : CutF} {g : KF}
    (hs : ∀ pc L st S c (k : KF), (∀ pc' L' st' S' c', k pc' L' st' S' c' → g pc' L' st' S' c') → stW E sp wrr lim kr k pc L st S c → g pc L st S c)
    (hVC : ∀ pc I, cut pc = some I → ∀ n L st S c, I n L st S c → ∃ f, stW E sp wrr lim kr (wpL E sp wrr lim kr cut n f) pc L st S c) :
    ∀ n f pc L st S c, wpL E sp wrr lim kr cut n f pc L st S c → g pc L st S c := by
  intro n
  induction n using Nat.strongRecOn with
  | ind n ih =>
    intro f
    induction f with
    | zero => intro pc L st S c h; exact h.elim
    | succ f ihf =>
      intro pc L st S c h
      unfold wpL at h
      split at h
      · rename_i I hI
        obtain ⟨m, hm, h⟩ := h
        obtain ⟨f', h'⟩ := hVC pc I hI m L st S c h
        exact hs pc L st S c _ (ih m hm f') h'
      · exact hs pc L st S c _ ihf h
/-- what a wrapper's place in the law wants -/
def wrOK (pc : Nat) (q : MD) (hh : List (Nat × Nat × Nat × Nat)) (n : Nat) : Prop := ∃ i, decode code pc = .ok (.invokestatic i, 3) ∧ Cond.methodLink RL i q.1 ∈ lw_tbl ∧ Cond.static q.1 ∈ lw_tbl ∧ mOKH q hh n
def krL : Option AV → Sto → Nat × Nat → Prop := fun v _ c => v = some (vI 1) ∧ c.1 ≤ 601024 ∧ c.2 ≤ 7293034
theorem VKw.of {s : State} {a : Array Value} (h : ∀ w ∈ lw_tbl, w.before a s = true) : VKw s := by
  intro w hw ho A
  by_cases hg : goodWord w = true
  · exact word_at (State.WarmedH.refl s) (good_of_word hg) (h w hw)
  · have hh := h w hw
    cases w with
    | castable C T => exact va_Nw.use rfl (va_Nw.of rfl hh)
    | methodLinkNest a i x b => exact va_Nw.use rfl (va_Nw.of rfl hh)
    | declares x => exact hh
    | arrayOver ty => exact hh
    | _ => simp [okw, hg] at ho
theorem inst_C : ∀ ci, ci < 8 → Cond.instantiable (RC ci) (clN ci) ∈ lw_tbl := cl8 (by decide +kernel) (by decide +kernel) (by decide +kernel) (by decide +kernel) (by decide +kernel) (by decide +kernel) (by decide +kernel) (by decide +kernel)
theorem strs_c : ∀ w ∈ lw_tbl, (match w with
  | .stringRef c _ _ => decide (c = RX6)
  | _ => true) = true := by decide +kernel
theorem KS.of {s : State} {a : Array Value} (h : ∀ w ∈ lw_tbl, w.before a s = true) : KS s := by
  intro q hq
  obtain ⟨w, hw, e⟩ := List.mem_filterMap.mp hq
  have hc := strs_c w hw
  have hb := h w hw
  cases w <;> try (cases e; done)
  rename_i c k tx
  have e2 : (k, tx) = q := by simpa using e
  subst e2
  have hcc : c = RX6 := by simpa using hc
  subst hcc
  have hcur : ∃ cur, s.vm.findClass RX6 = some cur := by
    have h1 := hb
    simp only [Cond.before, Cond.holds, Cond.value] at h1
    cases hc : s.vm.findClass RX6 with
    | none => simp [hc] at h1
    | some cur => exact ⟨cur, rfl⟩
  obtain ⟨cur, hcur⟩ := hcur
  obtain ⟨-, -, -, sa, -, -, -, -, -, hev⟩ := Cond.stringRef_spec hcur hb
  exact ⟨sa, vk_R.of hb hev⟩
theorem arr_i {s : State} {a : Array Value} {ty : FieldType} (hne : ∀ C, ty ≠ .object C) (h : (Cond.arrayClass ty).before a s = true) : ∃ cA, ArrOfT s cA ty ∧ va_RA s cA ty := by
  obtain ⟨cA, kA, comp, h1, h2, h3⟩ := Cond.arrayClass_spec h
  refine ⟨cA, fun n z => ⟨fun k h => (by cases h), kA, h2, comp, h3⟩, ?_⟩
  cases ty <;> first | exact h1 | exact absurd rfl (hne _)
theorem arr_o {s : State} {a : Array Value} {C : String} (h : (Cond.arrayOver (.object C)).before a s = true) : ∃ cA, ArrOfT s cA (.object C) ∧ va_RA s cA (.object C) := by
  obtain ⟨comp, cA, kA, h1, h2, h3, h4, h5⟩ := Cond.arrayOver_spec h
  exact ⟨cA, fun n z => ⟨fun k h => (by cases h), kA, h3, comp, h4⟩, kA, comp, h3, h4, h1, h5⟩
theorem KC.of {s : State} {a : Array Value} (h : ∀ w ∈ lw_tbl, w.before a s = true) : ∃ D : DD, KC D s ∧ D.2.2 = fun scr => s.isArrayOf scr .int := by
  have h1 : ∀ ci, ∃ q : ClassId × (Nat → Nat), ci < 8 → u_Kn s (RC ci) (TC ci) (clN ci) q.1 q.2 := fun ci => by
    by_cases e : ci < 8
    · obtain ⟨cC, iS, hk⟩ := u_known (T := TC ci) (N := clN ci) h (in_C ci e) (h _ (inst_C ci e))
      exact ⟨(cC, iS), fun _ => hk⟩
    · exact ⟨(0, fun k => k), fun z => absurd z e⟩
  have h2 : ∀ cd, ∃ cA : ClassId, isA cd = true → ArrOfT s cA (aTy cd) ∧ va_RA s cA (aTy cd) := fun cd => by
    by_cases e : isA cd = true
    · have e' := e
      simp only [isA, Bool.or_eq_true, beq_iff_eq] at e'
      rcases (show cd = 100 ∨ cd = 101 ∨ cd = 110 ∨ cd = 111 ∨ cd = 112 ∨ cd = 114 by omega) with rfl | rfl | rfl | rfl | rfl | rfl
      · obtain ⟨cA, q⟩ := arr_i (ty := .int) (fun C z => by cases z) (h (.arrayClass .int) (by decide +kernel))
        exact ⟨cA, fun _ => q⟩
      · obtain ⟨cA, q⟩ := arr_i (ty := .long) (fun C z => by cases z) (h (.arrayClass .long) (by decide +kernel))
        exact ⟨cA, fun _ => q⟩
      · obtain ⟨cA, q⟩ := arr_o (h (.arrayOver (.object RX0)) (by decide +kernel))
        exact ⟨cA, fun _ => q⟩
      · obtain ⟨cA, q⟩ := arr_o (h (.arrayOver (.object RX1)) (by decide +kernel))
        exact ⟨cA, fun _ => q⟩
      · obtain ⟨cA, q⟩ := arr_o (h (.arrayOver (.object RX2)) (by decide +kernel))
        exact ⟨cA, fun _ => q⟩
      · obtain ⟨cA, q⟩ := arr_o (h (.arrayOver (.object RX4)) (by decide +kernel))
        exact ⟨cA, fun _ => q⟩
    · exact ⟨0, fun z => absurd z e⟩
  obtain ⟨f1, g1⟩ := Classical.axiomOfChoice h1
  obtain ⟨f2, g2⟩ := Classical.axiomOfChoice h2
  exact ⟨((fun ci => (f1 ci).1, fun ci => (f1 ci).2), f2, fun scr => s.isArrayOf scr .int), ⟨g1, g2, fun _ q => q⟩, rfl⟩
theorem KT.of {s : State} {a : Array Value} {A : Nat → Prop} (h : ∀ w ∈ lw_tbl, w.before a s = true) (hg : (Jvm.Cond.and given_1 narrow_1).before a s = true) (hA : ∀ q : Nat, q < s.heap.size → ¬ A q) : KT A s s.heap := by
  have hf := flat_of_before _ hg
  exact ⟨vx_Zqof (h (.laysStatic Bundle.tN "UNASSIGNED_STACK" Bundle.steD) (by decide +kernel)) (h (.initialized Bundle.tN) (by decide +kernel)) (hf (.isRef (.static Bundle.tN "UNASSIGNED_STACK" Bundle.steD)) (by decide +kernel)) hA, vx_Zqof (h (.laysStatic Bundle.tN "SUPPRESSED_SENTINEL" Bundle.listD) (by decide +kernel)) (h (.initialized Bundle.tN) (by decide +kernel)) (hf (.isRef (.static Bundle.tN "SUPPRESSED_SENTINEL" Bundle.listD)) (by decide +kernel)) hA⟩
theorem nC_of {s : State} {a : Array Value} (hg : (Jvm.Cond.and given_1 narrow_1).before a s = true) : ∀ C T, Cond.not (.castable C T) ∈ nC → va_Nc C T s := fun C T h => by
  have hf := flat_of_before _ hg
  have hn : ∀ w ∈ nC, w.before a s = true := fun w hw => hf w (by
    revert w
    decide +kernel)
  exact va_Nc.of (hn _ h)
