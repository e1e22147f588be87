/-! METHODS THAT CATCH: a contract of a method with a table of exceptions -/
def nCp : List (Nat × Nat) := []
def nC : List Cond := nCp.map fun q => Cond.not (.castable (exN q.1) (exN q.2))
theorem nc_before {C T : String} {U : State} {a : Array Value} (h : va_Nc C T U) : (Cond.not (.castable C T)).before a U = true := by
  obtain ⟨c, t, h1, h2, h3⟩ := h
  simp [Cond.before, Cond.holds, Cond.value, h1, h2, h3]
theorem nC_warm {s U : State} (h : ∀ C T, Cond.not (.castable C T) ∈ nC → va_Nc C T s) (hW : s.WarmedH U.vm) {a : Array Value} : ∀ w ∈ nC, w.before a U = true := fun w hw => by
  obtain ⟨q, hq, rfl⟩ := List.mem_map.mp hw
  exact nc_before ((h _ _ hw).moved hW.alike)
def SatH (q : MD) (hh : List (Nat × Nat × Nat × Nat)) (spec : Spec) (mc ms d : Nat) : Prop := ∀ (l : Launch) (D : DD) (ad : Nat → Nat) (S : Sto) (as : List AV) (post : Res → Sto → Prop) (sz : Nat), l.stackTraces = false → CL S as → spec as S post →
  vx_Met l q.1 (Cond.codeWith q.1 q.2.1 q.2.2.1 q.2.2.2 hh :: nC) (rmD mc ms d) (PcS D ad S sz as) (QcS D ad S sz post) (XcS D ad S sz post) mc ms (foot ad S sz)
/-- an exception at pc comes to a handler that answers z -/
def handAt (own : String) (cc : ByteArray) (nL : Nat) (hh : List (Nat × Nat × Nat × Nat)) (ee pc : Nat) (z : Int) : Prop :=
  ∃ (pre suf : List (Nat × Nat × Nat × Nat)) (x : Nat × Nat × Nat × Nat) (i len : Nat), hh = pre ++ x :: suf ∧
    (∀ w ∈ pre, w.2.2.2 ≠ 0 ∧ ∃ e', Cond.classLink own w.2.2.2 (exN e') ∈ lw_tbl ∧ Cond.not (.castable (exN ee) (exN e')) ∈ nC) ∧ (x.1 ≤ pc ∧ pc < x.2.1) ∧ x.2.2.2 ≠ 0 ∧ Cond.classLink own x.2.2.2 (exN ee) ∈ lw_tbl ∧ Cond.castable (exN ee) (exN ee) ∈ lw_tbl ∧
    ((decode cc x.2.2.1 = .ok (.astore i, 2) ∧ len = 2) ∨ (∃ k : Fin 4, decode cc x.2.2.1 = .ok (.astore_n k, 1) ∧ i = k.val ∧ len = 1)) ∧ i < nL ∧ (decode cc (x.2.2.1 + len) = .ok (.bipush z, 2) ∧ (Int8.ofInt z).toInt32 = Int32.ofInt z) ∧ decode cc (x.2.2.1 + len + 2) = .ok (.ireturn, 1)
section SNDH
variable {p : Program} {l : Launch} {e : Env} {R : Room} {s : State} {m : MethodId} {args : Array Value} {below : List Frame} {meth : Method} {c : Code} {Q : State → Prop} {D : DD} {ad0 : Nat → Nat} {S0 : Sto} {nL : Nat} {cc : ByteArray} {own : String} {L st r : List AV} {S : Sto} {cs : Nat × Nat} {pc : Nat}
theorem gx_catch {ini : Bool} {mc ms ee : Nat} {post : Res → Sto → Prop} {hh : List (Nat × Nat × Nat × Nat)} {z : Int} (C : CX p l s m meth c D ad0 S0 nL cc own ini) (htab : c.exceptionTable.toList = tableOf hh) (hno : ∀ C T, Cond.not (.castable C T) ∈ nC → va_Nc C T s) (hr : meth.sig.returnType = some .int) (hlocks : meth.locks = false) (hH : handAt own cc nL hh ee pc z) (hc1 : cs.1 ≤ mc) (hc2 : cs.2 ≤ ms) (hp : post (.inl (some (vI z))) S) :
    GX p l e R s m args below meth c (vx_MQ below (QcS D ad0 S0 s.heap.size post) (XcS D ad0 S0 s.heap.size post) args s mc ms (foot ad0 S0 s.heap.size)) D ad0 S0 nL ee pc L S cs := by
  intro ad H locs ls rest q ce hL hC hR hE hS hq hv hcl
  obtain ⟨hx, hb, hml, hown, hV, -, htr⟩ := C
  obtain ⟨pre, suf, x, i, len, e1, hpre, ⟨c1, c2⟩, h0, hl, hca, hst, hi, hd2, hd3⟩ := hH
  refine vx_catch (own := own) (name := exN ee) hown (tableOf pre) ⟨x.1, x.2.1, x.2.2.1, x.2.2.2⟩ (tableOf suf) (by rw [htab, e1]; simp [tableOf]) (fun w hw => ?_) (by simp [covers, c1, c2]) h0 (hV.1 _ hl rfl _) (hV.1 _ hca rfl _) hq hv hcl ?_
  · obtain ⟨w', hw', rfl⟩ := List.mem_map.mp hw
    obtain ⟨k0, e', k1, k2⟩ := hpre w' hw'
    exact Or.inr ⟨k0, exN e', hV.1 _ k1 rfl _, hno _ _ k2⟩
  · obtain ⟨ls', s1, hL'⟩ := hL.store (a := uu) (v := .ref q) hi rfl (fun h => by cases h)
    refine st_ref (x := some q) hx hb hst s1 ?_
    refine lv_bipush hx hb hd2.1 hd2.2 ?_
    refine W.widen hc1 hc2 (vx_ret ?_)
    have hq' : ∀ t : State, t.heap = H → s.WarmedH t.vm → QcS D ad0 S0 s.heap.size post args s (.returned ((some (vI z)).map (cv ad))) t := fun t ht _ =>
      ⟨⟨some (vI z), ad, S, rfl, hp, hE, by rw [ht]; exact hR, fun w hw => by cases hw; exact VOK.i⟩, hS.F ht⟩
    exact W.zret hx hb hr rfl hq' hS.2.2 hd3
/-- what a caller wants of the tables for such a callee -/
def mOKH (q : MD) (hh : List (Nat × Nat × Nat × Nat)) (n : Nat) : Prop := Cond.codeWith q.1 q.2.1 q.2.2.1 q.2.2.2 hh ∈ lw_tbl ∧ Cond.initialized q.1.cls ∈ lw_tbl ∧ (q.1.cls ≠ "java/lang/invoke/MethodHandle" ∧ q.1.cls ≠ "java/lang/invoke/VarHandle") ∧ (parseMethodDescriptor q.1.desc).map (fun d => d.parameters.length) = some n ∧ q.2.2.1 ≤ 40
theorem g_callSH {ini : Bool} (C : CX p l s m meth c D ad0 S0 nL cc own ini) (hno : ∀ C T, Cond.not (.castable C T) ∈ nC → va_Nc C T s) {q : MD} {hh : List (Nat × Nat × Nat × Nat)} {spec : Spec} {i mc ms d n : Nat} {as rest : List AV} {k : KF} {kx : Nat → Nat → List AV → Sto → Nat × Nat → Prop} (hsat : SatH q hh spec mc ms d) (hm : mOKH q hh n) (hl : Cond.methodLink own i q.1 ∈ lw_tbl) (hst : Cond.static q.1 ∈ lw_tbl) (hr : roomOK R d)
    (hd : decode cc pc = .ok (.invokestatic i, 3)) (hn : as.length = n) (hsm : small rest = true) (hc1 : cs.1 + mc ≤ R.cells) (hc2 : cs.2 + ms ≤ R.slots)
    (hsp : spec as S (fun o S' => match o with
      | .inl v => k (pc + 3) L (resK v rest) S' (cs.1 + mc, cs.2 + ms)
      | .inr ee => kx ee pc L S' (cs.1 + mc, cs.2 + ms)))
    (hk : ∀ st' S', k (pc + 3) L st' S' (cs.1 + mc, cs.2 + ms) → G p l e R s m args below meth c Q D ad0 S0 nL (pc + 3) L st' S' (cs.1 + mc, cs.2 + ms))
    (hkx : ∀ ee S', kx ee pc L S' (cs.1 + mc, cs.2 + ms) → GX p l e R s m args below meth c Q D ad0 S0 nL ee pc L S' (cs.1 + mc, cs.2 + ms)) :
    G p l e R s m args below meth c Q D ad0 S0 nL pc L (as.reverse ++ rest) S cs := by
  intro ad H locs ls hL hC hcl hR hE hS
  have C' := C
  obtain ⟨hx, hb, hml, hown, hV, -, htr⟩ := C
  obtain ⟨m1, m2, m3, m4, m5⟩ := hm
  have hcla : CL S as := fun a ha => hcl a (by simp [ha])
  have hclr : CL S rest := fun a ha => hcl a (by simp [ha])
  have hM := hsat l D ad S as _ H.size htr hcla hsp
  have hpre : PreS s H (PcS D ad S H.size as) (as.map (cv ad)) := ⟨PcS.blind, pcs_pre C' hR hE hS⟩
  have hstk : (as.reverse ++ rest).map (cv ad) = (as.map (cv ad)).reverse ++ rest.map (cv ad) := by simp
  rw [hstk]
  have hlen : (as.map (cv ad)).length = n := by simp [hn]
  have hfix : CallFix p m c cc nL s args [] own := ⟨hx, hb, hml, hown, fun w hw => by cases hw⟩
  refine g_callK (vx_runSX (g := F0 m pc ls _) (hh := hh) hfix hM ⟨⟨rfl, rfl, hr.1, Nat.le_trans (by show 8 + (q.2.2.1 + 11) + (300 + 60 * d) ≤ _; omega) hr.2, fun w hw a' U hW => ?_, List.mem_cons_self⟩, hV.1 _ m1 rfl _, hV.1 _ m2 rfl _, m3, fun sig h => ?_, hV.1 _ hl rfl _, hV.1 _ hst rfl _⟩ hpre rfl hlen hL.1 rfl (lv_room (small_cat hsm)) hd ⟨hc1, hc2⟩) hk hkx hL hC hclr hR hE hS
  · rcases List.mem_cons.mp hw with rfl | hw
    · exact hV.1.warm hW _ m1 rfl _
    · exact nC_warm hno hW w hw
  · rw [h] at m4; exact (Option.some.inj m4).symm
end SNDH
def kxH (hand : Nat → Nat → Option Int) (post : Res → Sto → Prop) (mc ms : Nat) : Nat → Nat → List AV → Sto → Nat × Nat → Prop := fun ee pc _ S c => ∃ z, hand ee pc = some z ∧ post (.inl (some (vI z))) S ∧ c.1 ≤ mc ∧ c.2 ≤ ms
def bodyH (E : Nat → Ent) (sp : Nat → CD) (hand : Nat → Nat → Option Int) (mc ms nL : Nat) (post : Res → Sto → Prop) (as : List AV) (S : Sto) : Prop :=
  argOK nL as = true ∧ ∃ f, wp E sp (mc, ms) (krP post mc ms) (fun _ _ _ => False) (kxH hand post mc ms) (fun _ => none) 1 f 0 (entL nL as) [] S (0, 0)
theorem satH_of {q : MD} {hh : List (Nat × Nat × Nat × Nat)} {spec : Spec} {mc ms d : Nat} {E : Nat → Ent} {sp : Nat → CD} {hand : Nat → Nat → Option Int} (hplain : plainName q.1.cls = true) (hint : q.2.2.2 = some .int) (hent : ∀ pc, entOK q.1.cls false q.2.2.1 q.2.1 q.2.2.2 (fun i => (sp i).1) pc (E pc))
    (hsp : ∀ i, Sat (sp i).1 (sp i).2.1 (sp i).2.2.1 (sp i).2.2.2.1 (sp i).2.2.2.2 ∧ (sp i).2.2.2.2 < d) (hand_ok : ∀ ee pc z, hand ee pc = some z → handAt q.1.cls q.2.1 q.2.2.1 hh ee pc z)
    (hvc : ∀ as S post, spec as S post → bodyH E sp hand mc ms q.2.2.1 post as S) : SatH q hh spec mc ms d := by
  intro l D ad S as post sz htr hcl hspec
  obtain ⟨harg, f, hwp⟩ := hvc as S post hspec
  refine vx_ofWH (cc := q.2.1) (maxL := q.2.2.1) (ret := q.2.2.2) (hh := hh) hplain rfl ?_
  intro p e s m args below meth c s₁ B hml hP
  obtain ⟨rfl, hsz, hR, hV⟩ := hP
  subst hsz
  have hlocks := B.notSynchronized
  have hown : s.vm.findClass q.1.cls = some m.cls := findClass_of_methodNamed B.named
  have C : CX p l s m meth c D ad S q.2.2.1 q.2.1 q.1.cls false := ⟨B.exec, B.bytes, hml, hown, hV, (fun h => by cases h), htr⟩
  have hr : meth.sig.returnType = q.2.2.2 := B.returns
  have hpre := atoms_spec (ws := Cond.codeWith q.1 q.2.1 q.2.2.1 q.2.2.2 hh :: nC) B.pre
  have htab := vx_table (x := q.1) B (hpre _ List.mem_cons_self)
  have hno : ∀ C T, Cond.not (.castable C T) ∈ nC → va_Nc C T s := fun _ _ h => va_Nc.of (hpre _ (List.mem_cons_of_mem _ h))
  rw [lg_entry_eq]
  have key : ∀ n f pc L st S' c', wp E sp (mc, ms) (krP post mc ms) (fun _ _ _ => False) (kxH hand post mc ms) (fun _ => none) n f pc L st S' c' → G p l e (rmD mc ms d) s m (as.map (cv ad)).toArray below meth c (vx_MQ below (QcS D ad S s.heap.size post) (XcS D ad S s.heap.size post) (as.map (cv ad)).toArray s mc ms (foot ad S s.heap.size)) D ad S q.2.2.1 pc L st S' c' := by
    refine wp_sound (fun pc L st S' c' k hk hst => ?_) (fun pc I h => by cases h)
    refine st1_sound C rfl (fun i => ⟨(hsp i).1, by
      have := (hsp i).2
      exact ⟨by show 10 + _ + 1 ≤ 10 + d; omega, by show 8 + (40 + 11) + (300 + 60 * _) ≤ 300 + 60 * d; omega⟩⟩) ⟨by show 1 ≤ 10 + d; omega, by show 20 ≤ 300 + 60 * d; omega⟩ (hent pc) hk ?_ ?_ ?_ hst
    · rintro ee L' S2 c2 ⟨z, hz, hp, h1, h2⟩
      exact gx_catch C htab hno (hr.trans hint) hlocks (hand_ok _ _ _ hz) h1 h2 hp
    · intro ee L' st' S2 c2 ho ht hsm h1 h2 h
      exact h.elim
    · intro v L' st' S2 c2 hd h
      refine g_ret C hlocks h.2.1 h.2.2 h.1 ?_
      rw [hr]
      exact hd
  exact key 1 f 0 _ _ _ _ hwp ad s.heap [] _ (ent_loc harg) (ent_cls hcl) (fun a ha => by cases ha) hR Ext.rf va_S.rf

