/-! THE LAW: a run that calls what catches; the world at its entry -/
abbrev WrF := Nat → Option (Spec × Nat × Nat × Nat)
def stW (E : Nat → Ent) (sp : Nat → CD) (wrr : WrF) (lim : Nat × Nat) (kr : Option AV → Sto → Nat × Nat → Prop) (k : KF) (pc : Nat) (L st : List AV) (S : Sto) (c : Nat × Nat) : Prop := match wrr pc with
  | some (spec, n, mc, ms) => argsK n [] st fun as r => shortK r ((c.1 + mc ≤ lim.1 ∧ c.2 + ms ≤ lim.2) ∧ spec as S (callK k (fun _ _ _ _ _ => False) pc (pc + 3) L r (c.1 + mc, c.2 + ms)))
  | none => st1 sp lim kr (fun _ _ _ => False) (fun _ _ _ _ _ => False) k pc (E pc) L st S c
def wpL (E : Nat → Ent) (sp : Nat → CD) (wrr : WrF) (lim : Nat × Nat) (kr : Option AV → Sto → Nat × Nat → Prop) (cut : CutF) (n : Nat) : Nat → KF
  | 0 => fun _ _ _ _ _ => False
  | f + 1 => fun pc L st S c => match cut pc with
    | some I => ∃ m, m < n ∧ I m L st S c
    | none => stW E sp wrr lim kr (wpL E sp wrr lim kr cut n f) pc L st S c
theorem wpL_sound {E : Nat → Ent} {sp : Nat → CD} {wrr : WrF} {lim : Nat × Nat} {kr : Option AV → Sto → Nat × Nat → Prop} {cut : CutF} {g : KF}
    (hs : ∀ pc L st S c (k : KF), (∀ pc' L' st' S' c', k pc' L' st' S' c' → g pc' L' st' S' c') → stW E sp wrr lim kr k pc L st S c → g pc L st S c)
    (hVC : ∀ pc I, cut pc = some I → ∀ n L st S c, I n L st S c → ∃ f, stW E sp wrr lim kr (wpL E sp wrr lim kr cut n f) pc L st S c) :
    ∀ n f pc L st S c, wpL E sp wrr lim kr cut n f pc L st S c → g pc L st S c := by
  intro n
  induction n using Nat.strongRecOn with
  | ind n ih =>
    intro f
    induction f with
    | zero => intro pc L st S c h; exact h.elim
    | succ f ihf =>
      intro pc L st S c h
      unfold wpL at h
      split at h
      · rename_i I hI
        obtain ⟨m, hm, h⟩ := h
        obtain ⟨f', h'⟩ := hVC pc I hI m L st S c h
        exact hs pc L st S c _ (ih m hm f') h'
      · exact hs pc L st S c _ ihf h
/-- what a wrapper's place in a method of the law wants -/
def wrOKc (cc : ByteArray) (own : String) (pc : Nat) (q : MD) (hh : List (Nat × Nat × Nat × Nat)) (n : Nat) : Prop := ∃ i, decode cc pc = .ok (.invokestatic i, 3) ∧ Cond.methodLink own i q.1 ∈ lw_tbl ∧ Cond.static q.1 ∈ lw_tbl ∧ mOKH q hh n
/-- a method that calls wrappers: its contract wants their words too -/
def SatN (q : MD) (spec : Spec) (mc ms d : Nat) : Prop := ∀ (l : Launch) (D : DD) (ad : Nat → Nat) (S : Sto) (as : List AV) (post : Res → Sto → Prop) (sz : Nat), l.stackTraces = false → CL S as → spec as S post →
  vx_Met l q.1 (Cond.code q.1 q.2.1 q.2.2.1 q.2.2.2 :: nC) (rmD mc ms d) (PcS D ad S sz as) (QcS D ad S sz post) (XcS D ad S sz post) mc ms (foot ad S sz)
section SNDN
variable {p : Program} {l : Launch} {e : Env} {R : Room} {s : State} {m : MethodId} {args : Array Value} {below : List Frame} {meth : Method} {c : Code} {Q : State → Prop} {D : DD} {ad0 : Nat → Nat} {S0 : Sto} {nL : Nat} {cc : ByteArray} {own : String} {L st r : List AV} {S : Sto} {cs : Nat × Nat} {pc : Nat}
theorem g_callSN {ini : Bool} (C : CX p l s m meth c D ad0 S0 nL cc own ini) (hno : ∀ C T, Cond.not (.castable C T) ∈ nC → va_Nc C T s) {q : MD} {spec : Spec} {i mc ms d n : Nat} {as rest : List AV} {k : KF} {kx : Nat → Nat → List AV → Sto → Nat × Nat → Prop} (hsat : SatN q spec mc ms d) (hm : mOK q n) (hl : Cond.methodLink own i q.1 ∈ lw_tbl) (hst : Cond.static q.1 ∈ lw_tbl) (hr : roomOK R d)
    (hd : decode cc pc = .ok (.invokestatic i, 3)) (hn : as.length = n) (hsm : small rest = true) (hc1 : cs.1 + mc ≤ R.cells) (hc2 : cs.2 + ms ≤ R.slots)
    (hsp : spec as S (fun o S' => match o with
      | .inl v => k (pc + 3) L (resK v rest) S' (cs.1 + mc, cs.2 + ms)
      | .inr ee => kx ee pc L S' (cs.1 + mc, cs.2 + ms)))
    (hk : ∀ st' S', k (pc + 3) L st' S' (cs.1 + mc, cs.2 + ms) → G p l e R s m args below meth c Q D ad0 S0 nL (pc + 3) L st' S' (cs.1 + mc, cs.2 + ms))
    (hkx : ∀ ee S', kx ee pc L S' (cs.1 + mc, cs.2 + ms) → GX p l e R s m args below meth c Q D ad0 S0 nL ee pc L S' (cs.1 + mc, cs.2 + ms)) :
    G p l e R s m args below meth c Q D ad0 S0 nL pc L (as.reverse ++ rest) S cs := by
  intro ad H locs ls hL hC hcl hR hE hS
  have C' := C
  obtain ⟨hx, hb, hml, hown, hV, -, htr⟩ := C
  have hcla : CL S as := fun a ha => hcl a (by simp [ha])
  have hclr : CL S rest := fun a ha => hcl a (by simp [ha])
  have hM := hsat l D ad S as _ H.size htr hcla hsp
  have hpre : PreS s H (PcS D ad S H.size as) (as.map (cv ad)) := ⟨PcS.blind, pcs_pre C' hR hE hS⟩
  have hstk : (as.reverse ++ rest).map (cv ad) = (as.map (cv ad)).reverse ++ rest.map (cv ad) := by simp
  rw [hstk]
  have hlen : (as.map (cv ad)).length = n := by simp [hn]
  have hfix : CallFix p m c cc nL s args [] own := ⟨hx, hb, hml, hown, fun w hw => by cases hw⟩
  obtain ⟨h1, h2, h3, h4, h5⟩ := hm
  have hCB : CallB R s args own i q.1 q.2.1 q.2.2.1 q.2.2.2 (Cond.code q.1 q.2.1 q.2.2.1 q.2.2.2 :: nC) (rmD mc ms d) mc ms n := by
    refine ⟨rfl, rfl, hr.1, Nat.le_trans (by show 8 + (q.2.2.1 + 11) + (300 + 60 * d) ≤ _; omega) hr.2, fun w hw a' U hW => ?_, List.mem_cons_self, hV.1 _ h1 rfl _, hV.1 _ h2 rfl _, h3, fun sig h => ?_, hV.1 _ hl rfl _⟩
    · rcases List.mem_cons.mp hw with rfl | hw
      · exact hV.1.warm hW _ h1 rfl _
      · exact nC_warm hno hW w hw
    · rw [h] at h4; exact (Option.some.inj h4).symm
  exact g_callK (vx_runS (g := F0 m pc ls _) hfix hM ⟨hCB, hV.1 _ hst rfl _⟩ hpre rfl hlen hL.1 rfl (lv_room (small_cat hsm)) hd ⟨hc1, hc2⟩) hk hkx hL hC hclr hR hE hS
end SNDN
def bodyW (E : Nat → Ent) (sp : Nat → CD) (wrr : WrF) (mc ms nL : Nat) (post : Res → Sto → Prop) (as : List AV) (S : Sto) : Prop :=
  argOK nL as = true ∧ ∃ (cut : CutF), (∀ pc I, cut pc = some I → ∀ n L st S c, I n L st S c → ∃ f, stW E sp wrr (mc, ms) (krP post mc ms) (wpL E sp wrr (mc, ms) (krP post mc ms) cut n f) pc L st S c) ∧
    ∃ n f, wpL E sp wrr (mc, ms) (krP post mc ms) cut n f 0 (entL nL as) [] S (0, 0)
theorem satN_of {q : MD} {spec : Spec} {mc ms d : Nat} {E : Nat → Ent} {sp : Nat → CD} {wrr : WrF} (hplain : plainName q.1.cls = true) (hent : ∀ pc, entOK q.1.cls false q.2.2.1 q.2.1 q.2.2.2 (fun i => (sp i).1) pc (E pc))
    (hsp : ∀ i, Sat (sp i).1 (sp i).2.1 (sp i).2.2.1 (sp i).2.2.2.1 (sp i).2.2.2.2 ∧ (sp i).2.2.2.2 < d) (hwr : ∀ pc w, wrr pc = some w → ∃ q' hh dw, SatH q' hh w.1 w.2.2.1 w.2.2.2 dw ∧ dw < d ∧ wrOKc q.2.1 q.1.cls pc q' hh w.2.1)
    (hvc : ∀ as S post, spec as S post → bodyW E sp wrr mc ms q.2.2.1 post as S) : SatN q spec mc ms d := by
  intro l D ad S as post sz htr hcl hspec
  obtain ⟨harg, cut, hVC, n, f, hwp⟩ := hvc as S post hspec
  refine vx_ofW (cc := q.2.1) (maxL := q.2.2.1) (ret := q.2.2.2) hplain rfl ?_
  intro p e s m args below meth c s₁ B hml hnoX hP
  obtain ⟨rfl, hsz, hR, hV⟩ := hP
  subst hsz
  have hlocks := B.notSynchronized
  have hown : s.vm.findClass q.1.cls = some m.cls := findClass_of_methodNamed B.named
  have C : CX p l s m meth c D ad S q.2.2.1 q.2.1 q.1.cls false := ⟨B.exec, B.bytes, hml, hown, hV, (fun h => by cases h), htr⟩
  have hr : meth.sig.returnType = q.2.2.2 := B.returns
  have hpre := atoms_spec (ws := Cond.code q.1 q.2.1 q.2.2.1 q.2.2.2 :: nC) B.pre
  have hno : ∀ C T, Cond.not (.castable C T) ∈ nC → va_Nc C T s := fun _ _ h => va_Nc.of (hpre _ (List.mem_cons_of_mem _ h))
  rw [lg_entry_eq]
  have key : ∀ n f pc L st S' c', wpL E sp wrr (mc, ms) (krP post mc ms) cut n f pc L st S' c' → G p l e (rmD mc ms d) s m (as.map (cv ad)).toArray below meth c (vx_MQ below (QcS D ad S s.heap.size post) (XcS D ad S s.heap.size post) (as.map (cv ad)).toArray s mc ms (foot ad S s.heap.size)) D ad S q.2.2.1 pc L st S' c' := by
    refine wpL_sound (fun pc L st S' c' k hk hst => ?_) hVC
    unfold stW at hst
    split at hst
    · rename_i spec2 n2 mc2 ms2 hw
      obtain ⟨q2, hh, dw, hsat, hdw, i, hd, hl, hs, hm⟩ := hwr _ _ hw
      obtain ⟨as2, r2, ha, rfl, h, -⟩ := argsK_e hst
      rw [List.append_nil] at h
      obtain ⟨hsm, ⟨h1, h2⟩, h⟩ := shortK_e h
      exact g_callSH (k := k) (kx := fun _ _ _ _ _ => False) (spec := spec2) (mc := mc2) (ms := ms2) C hno hsat hm hl hs ⟨by show 10 + _ + 1 ≤ 10 + d; omega, by show 8 + (40 + 11) + (300 + 60 * _) ≤ 300 + 60 * d; omega⟩ hd ha hsm h1 h2 h (fun st' S' q => hk _ _ _ _ _ q) (fun ee S' q => q.elim)
    · refine st1_sound C rfl (fun i => ⟨(hsp i).1, by
        have := (hsp i).2
        exact ⟨by show 10 + _ + 1 ≤ 10 + d; omega, by show 8 + (40 + 11) + (300 + 60 * _) ≤ 300 + 60 * d; omega⟩⟩) ⟨by show 1 ≤ 10 + d; omega, by show 20 ≤ 300 + 60 * d; omega⟩ (hent pc) hk (fun _ _ _ _ q => q.elim) (fun _ _ _ _ _ _ _ _ _ _ q => q.elim) (fun v L' st' S2 c2 hd h => ?_) hst
      refine g_ret C hlocks h.2.1 h.2.2 h.1 ?_
      rw [hr]
      exact hd
  exact key n f 0 _ _ _ _ hwp ad s.heap [] _ (ent_loc harg) (ent_cls hcl) (fun a ha => by cases ha) hR Ext.rf va_S.rf
theorem VKw.of {s : State} {a : Array Value} (h : ∀ w ∈ lw_tbl, w.before a s = true) : VKw s := by
  intro w hw ho A
  by_cases hg : goodWord w = true
  · exact word_at (State.WarmedH.refl s) (good_of_word hg) (h w hw)
  · have hh := h w hw
    cases w with
    | castable C T => exact va_Nw.use rfl (va_Nw.of rfl hh)
    | methodLinkNest a i x b => exact va_Nw.use rfl (va_Nw.of rfl hh)
    | declares x => exact hh
    | arrayOver ty => exact hh
    | _ => simp [okw, hg] at ho
theorem inst_C : ∀ ci, ci < 8 → Cond.instantiable (RC ci) (clN ci) ∈ lw_tbl := cl8 (by decide +kernel) (by decide +kernel) (by decide +kernel) (by decide +kernel) (by decide +kernel) (by decide +kernel) (by decide +kernel) (by decide +kernel)
theorem strs_c : ∀ w ∈ lw_tbl, (match w with
  | .stringRef c _ _ => decide (c = RX6)
  | _ => true) = true := by decide +kernel
theorem KS.of {s : State} {a : Array Value} (h : ∀ w ∈ lw_tbl, w.before a s = true) : KS s := by
  intro q hq
  obtain ⟨w, hw, e⟩ := List.mem_filterMap.mp hq
  have hc := strs_c w hw
  have hb := h w hw
  cases w <;> try (cases e; done)
  rename_i c k tx
  have e2 : (k, tx) = q := by simpa using e
  subst e2
  have hcc : c = RX6 := by simpa using hc
  subst hcc
  have hcur : ∃ cur, s.vm.findClass RX6 = some cur := by
    have h1 := hb
    simp only [Cond.before, Cond.holds, Cond.value] at h1
    cases hc : s.vm.findClass RX6 with
    | none => simp [hc] at h1
    | some cur => exact ⟨cur, rfl⟩
  obtain ⟨cur, hcur⟩ := hcur
  obtain ⟨-, -, -, sa, -, -, -, -, -, hev⟩ := Cond.stringRef_spec hcur hb
  exact ⟨sa, vk_R.of hb hev⟩
theorem arr_i {s : State} {a : Array Value} {ty : FieldType} (hne : ∀ C, ty ≠ .object C) (h : (Cond.arrayClass ty).before a s = true) : ∃ cA, ArrOfT s cA ty ∧ va_RA s cA ty := by
  obtain ⟨cA, kA, comp, h1, h2, h3⟩ := Cond.arrayClass_spec h
  refine ⟨cA, fun n z => ⟨fun k h => (by cases h), kA, h2, comp, h3⟩, ?_⟩
  cases ty <;> first | exact h1 | exact absurd rfl (hne _)
theorem arr_o {s : State} {a : Array Value} {C : String} (h : (Cond.arrayOver (.object C)).before a s = true) : ∃ cA, ArrOfT s cA (.object C) ∧ va_RA s cA (.object C) := by
  obtain ⟨comp, cA, kA, h1, h2, h3, h4, h5⟩ := Cond.arrayOver_spec h
  exact ⟨cA, fun n z => ⟨fun k h => (by cases h), kA, h3, comp, h4⟩, kA, comp, h3, h4, h1, h5⟩
theorem KC.of {s : State} {a : Array Value} (h : ∀ w ∈ lw_tbl, w.before a s = true) : ∃ D : DD, KC D s ∧ D.2.2 = fun scr => s.isArrayOf scr .int := by
  have h1 : ∀ ci, ∃ q : ClassId × (Nat → Nat), ci < 8 → u_Kn s (RC ci) (TC ci) (clN ci) q.1 q.2 := fun ci => by
    by_cases e : ci < 8
    · obtain ⟨cC, iS, hk⟩ := u_known (T := TC ci) (N := clN ci) h (in_C ci e) (h _ (inst_C ci e))
      exact ⟨(cC, iS), fun _ => hk⟩
    · exact ⟨(0, fun k => k), fun z => absurd z e⟩
  have h2 : ∀ cd, ∃ cA : ClassId, isA cd = true → ArrOfT s cA (aTy cd) ∧ va_RA s cA (aTy cd) := fun cd => by
    by_cases e : isA cd = true
    · have e' := e
      simp only [isA, Bool.or_eq_true, beq_iff_eq] at e'
      rcases (show cd = 100 ∨ cd = 110 ∨ cd = 111 ∨ cd = 112 ∨ cd = 114 by omega) with rfl | rfl | rfl | rfl | rfl
      · obtain ⟨cA, q⟩ := arr_i (ty := .int) (fun C z => by cases z) (h (.arrayClass .int) (by decide +kernel))
        exact ⟨cA, fun _ => q⟩
      · obtain ⟨cA, q⟩ := arr_o (h (.arrayOver (.object RX0)) (by decide +kernel))
        exact ⟨cA, fun _ => q⟩
      · obtain ⟨cA, q⟩ := arr_o (h (.arrayOver (.object RX1)) (by decide +kernel))
        exact ⟨cA, fun _ => q⟩
      · obtain ⟨cA, q⟩ := arr_o (h (.arrayOver (.object RX2)) (by decide +kernel))
        exact ⟨cA, fun _ => q⟩
      · obtain ⟨cA, q⟩ := arr_o (h (.arrayOver (.object RX4)) (by decide +kernel))
        exact ⟨cA, fun _ => q⟩
    · exact ⟨0, fun z => absurd z e⟩
  obtain ⟨f1, g1⟩ := Classical.axiomOfChoice h1
  obtain ⟨f2, g2⟩ := Classical.axiomOfChoice h2
  exact ⟨((fun ci => (f1 ci).1, fun ci => (f1 ci).2), f2, fun scr => s.isArrayOf scr .int), ⟨g1, g2, fun _ q => q⟩, rfl⟩
theorem KT.of {s : State} {a : Array Value} {A : Nat → Prop} (h : ∀ w ∈ lw_tbl, w.before a s = true) (hg : (Jvm.Cond.and given_1 narrow_1).before a s = true) (hA : ∀ q : Nat, q < s.heap.size → ¬ A q) : KT A s s.heap := by
  have hf := flat_of_before _ hg
  exact ⟨vx_Zqof (h (.laysStatic Bundle.tN "UNASSIGNED_STACK" Bundle.steD) (by decide +kernel)) (h (.initialized Bundle.tN) (by decide +kernel)) (hf (.isRef (.static Bundle.tN "UNASSIGNED_STACK" Bundle.steD)) (by decide +kernel)) hA, vx_Zqof (h (.laysStatic Bundle.tN "SUPPRESSED_SENTINEL" Bundle.listD) (by decide +kernel)) (h (.initialized Bundle.tN) (by decide +kernel)) (hf (.isRef (.static Bundle.tN "SUPPRESSED_SENTINEL" Bundle.listD)) (by decide +kernel)) hA⟩
theorem nC_of {s : State} {a : Array Value} (hg : (Jvm.Cond.and given_1 narrow_1).before a s = true) : ∀ C T, Cond.not (.castable C T) ∈ nC → va_Nc C T s := fun C T h => by
  have hf := flat_of_before _ hg
  have hn : ∀ w ∈ nC, w.before a s = true := fun w hw => hf w (by
    revert w
    decide +kernel)
  exact va_Nc.of (hn _ h)

