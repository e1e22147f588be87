section SNDC
variable {p : Program} {l : Launch} {e : Env} {R : Room} {s : State} {m : MethodId} {args : Array Value} {below : List Frame} {meth : Method} {c : Code} {Q : State → Prop} {D : DD} {ad0 : Nat → Nat} {S0 : Sto} {nL : Nat} {cc : ByteArray} {own : String} {L st r : List AV} {S : Sto} {cs : Nat × Nat} {pc : Nat}
/-- behind a call's run -/
theorem g_callK {mc ms : Nat} {ad : Nat → Nat} {H : Heap} {locs : List Loc} {ls : Array Slot} {st0 : List Value} {a0 : Array Value} {k : KF} {kx : Nat → Nat → List AV → Sto → Nat × Nat → Prop} {rest : List AV}
    (hr : vx_Run p l e R s m args below meth c H locs cs.1 cs.2 mc ms (F0 m pc ls st0) (rest.map (cv ad)) (QcS D ad S H.size (fun o S' => match o with
      | .inl v => k (pc + 3) L (resK v rest) S' (cs.1 + mc, cs.2 + ms)
      | .inr ee => kx ee pc L S' (cs.1 + mc, cs.2 + ms)) a0) (XcS D ad S H.size (fun o S' => match o with
      | .inl v => k (pc + 3) L (resK v rest) S' (cs.1 + mc, cs.2 + ms)
      | .inr ee => kx ee pc L S' (cs.1 + mc, cs.2 + ms))) (foot ad S H.size))
    (hk : ∀ st' S', k (pc + 3) L st' S' (cs.1 + mc, cs.2 + ms) → G p l e R s m args below meth c Q D ad0 S0 nL (pc + 3) L st' S' (cs.1 + mc, cs.2 + ms))
    (hkx : ∀ ee S', kx ee pc L S' (cs.1 + mc, cs.2 + ms) → GX p l e R s m args below meth c Q D ad0 S0 nL ee pc L S' (cs.1 + mc, cs.2 + ms))
    (hL : LocOK ad L ls nL) (hC : CLs S L) (hcl : CL S rest) (hR : Rep D ad S H) (hE : Ext ad0 S0 s.heap.size ad S) (hS : va_S (foot ad0 S0 s.heap.size) s.heap H locs) :
    W p l e R s m args below meth c H locs cs.1 cs.2 Q (F0 m pc ls st0) := by
  intro T hT X
  have hfoot := hE.foots hS.1
  rcases hr T hT X with ⟨v, st₀, t, T', L', h0, X', hL', e1, e2, ⟨⟨r9, ad', S', ho, hp, hE', hR', hv⟩, hF⟩, st⟩ | ⟨q, st₀, t, T', L', E, ce, h0, X', hL', e1, e2, ⟨⟨ee, ad', S', hE9, hp, hE', hR'⟩, hF⟩, hce, hcv, hcl9, st⟩
  · obtain ⟨k1, k2, k3⟩ := vx_keep h0 e1 hS (fun q _ h => hfoot q h) (fun q h => hfoot q h) hL' hF
    have hv9 : v = r9.map (cv ad') := by injection ho
    subst hv9
    have hz := hE.trans hS.1 hE'
    have hclr : CL S' (resK r9 rest) := by
      cases r9 with
      | none => exact hcl.ext hE'
      | some v => exact CL.cons (hv v rfl) (hcl.ext hE')
    have hg := hk _ _ hp ad' T'.heap (locs ++ L') ls (hL.ext hE' hC) (hC.ext hE') hclr (by rw [e1]; exact hR') hz k3
    have he : (Option.map (cv ad') r9).toList ++ rest.map (cv ad) = (resK r9 rest).map (cv ad') := by
      rw [← CL.map hE' hcl]
      cases r9 <;> rfl
    rw [← he] at hg
    obtain ⟨t2, a1, b1⟩ := hg T' rfl X'
    exact ⟨t2, st t2 a1, b1⟩
  · obtain ⟨k1, k2, k3⟩ := vx_keep h0 e1 hS (fun q _ h => hfoot q h) (fun q h => hfoot q h) hL' hF
    subst hE9
    have hz := hE.trans hS.1 hE'
    obtain ⟨t2, a1, b1⟩ := hkx _ _ hp ad' T'.heap (locs ++ L') ls (rest.map (cv ad)) q ce (hL.ext hE' hC) (hC.ext hE') (by rw [e1]; exact hR') hz k3 (by rw [e1]; exact hce) hcv hcl9 T' rfl X'
    exact ⟨t2, st.trans a1, b1⟩
/-- what a callee's contract wants of the room -/
def roomOK (R : Room) (d : Nat) : Prop := 10 + d + 1 ≤ R.frames ∧ 8 + (40 + 11) + (300 + 60 * d) ≤ R.locals
theorem pcs_pre {ini : Bool} (C : CX p l s m meth c D ad0 S0 nL cc own ini) {ad : Nat → Nat} {H : Heap} {locs : List Loc} {as : List AV} (hR : Rep D ad S H) (hE : Ext ad0 S0 s.heap.size ad S) (hS : va_S (foot ad0 S0 s.heap.size) s.heap H locs) : ∀ U : State, U.heap = H → s.WarmedH U.vm → PcS D ad S H.size as (as.map (cv ad)).toArray U := by
  intro U hU hW
  subst hU
  exact ⟨rfl, rfl, hR, C.2.2.2.2.1.warm hW hS (hE.foots hS.1)⟩
theorem callB_mk {ini : Bool} (C : CX p l s m meth c D ad0 S0 nL cc own ini) {q : MD} {i mc ms d n : Nat} (hm : mOK q n) (hl : Cond.methodLink own i q.1 ∈ lw_tbl) (hr : roomOK R d) : CallB R s args own i q.1 q.2.1 q.2.2.1 q.2.2.2 [Cond.code q.1 q.2.1 q.2.2.1 q.2.2.2] (rmD mc ms d) mc ms n := by
  obtain ⟨h1, h2, h3, h4, h5⟩ := hm
  have hV := C.2.2.2.2.1
  refine ⟨rfl, rfl, hr.1, Nat.le_trans (by show 8 + (q.2.2.1 + 11) + (300 + 60 * d) ≤ _; omega) hr.2, fun w hw a' U hW => ?_, List.mem_cons_self, hV.1 _ h1 rfl _, hV.1 _ h2 rfl _, h3, fun sig h => ?_, hV.1 _ hl rfl _⟩
  · rw [List.mem_singleton.mp hw]
    exact hV.1.warm hW _ h1 rfl _
  · rw [h] at h4; exact (Option.some.inj h4).symm
theorem callN_mk {ini : Bool} (C : CX p l s m meth c D ad0 S0 nL cc own ini) {q : MD} {i mc ms d n : Nat} {host : String} (hm : mOK q n) (hl : Cond.methodLinkNest own i q.1 host ∈ lw_tbl) (hr : roomOK R d) : va_CN R s args own i q.1 host q.2.1 q.2.2.1 q.2.2.2 [Cond.code q.1 q.2.1 q.2.2.1 q.2.2.2] (rmD mc ms d) mc ms n := by
  obtain ⟨h1, h2, h3, h4, h5⟩ := hm
  have hV := C.2.2.2.2.1
  refine ⟨⟨rfl, rfl, hr.1, Nat.le_trans (by show 8 + (q.2.2.1 + 11) + (300 + 60 * d) ≤ _; omega) hr.2, fun w hw a' U hW => ?_, List.mem_cons_self⟩, hV.1 _ h1 rfl _, hV.1 _ h2 rfl _, h3, fun sig h => ?_, hV.1 _ hl rfl _⟩
  · rw [List.mem_singleton.mp hw]
    exact hV.1.warm hW _ h1 rfl _
  · rw [h] at h4; exact (Option.some.inj h4).symm
theorem g_callS {ini : Bool} (C : CX p l s m meth c D ad0 S0 nL cc own ini) {q : MD} {spec : Spec} {i mc ms d n : Nat} {as rest : List AV} {k : KF} {kx : Nat → Nat → List AV → Sto → Nat × Nat → Prop} (hsat : Sat q spec mc ms d) (hm : mOK q n) (hl : Cond.methodLink own i q.1 ∈ lw_tbl ∨ ∃ host, Cond.methodLinkNest own i q.1 host ∈ lw_tbl) (hst : Cond.static q.1 ∈ lw_tbl) (hr : roomOK R d)
    (hd : decode cc pc = .ok (.invokestatic i, 3)) (hn : as.length = n) (hsm : small rest = true) (hc1 : cs.1 + mc ≤ R.cells) (hc2 : cs.2 + ms ≤ R.slots)
    (hsp : spec as S (fun o S' => match o with
      | .inl v => k (pc + 3) L (resK v rest) S' (cs.1 + mc, cs.2 + ms)
      | .inr ee => kx ee pc L S' (cs.1 + mc, cs.2 + ms)))
    (hk : ∀ st' S', k (pc + 3) L st' S' (cs.1 + mc, cs.2 + ms) → G p l e R s m args below meth c Q D ad0 S0 nL (pc + 3) L st' S' (cs.1 + mc, cs.2 + ms))
    (hkx : ∀ ee S', kx ee pc L S' (cs.1 + mc, cs.2 + ms) → GX p l e R s m args below meth c Q D ad0 S0 nL ee pc L S' (cs.1 + mc, cs.2 + ms)) :
    G p l e R s m args below meth c Q D ad0 S0 nL pc L (as.reverse ++ rest) S cs := by
  intro ad H locs ls hL hC hcl hR hE hS
  have C' := C
  obtain ⟨hx, hb, hml, hown, hV, -, htr⟩ := C
  have hcla : CL S as := fun a ha => hcl a (by simp [ha])
  have hclr : CL S rest := fun a ha => hcl a (by simp [ha])
  have hM := hsat l D ad S as _ H.size htr hcla hsp
  have hpre : PreS s H (PcS D ad S H.size as) (as.map (cv ad)) := ⟨PcS.blind, pcs_pre C' hR hE hS⟩
  have hstk : (as.reverse ++ rest).map (cv ad) = (as.map (cv ad)).reverse ++ rest.map (cv ad) := by simp
  rw [hstk]
  have hlen : (as.map (cv ad)).length = n := by simp [hn]
  have hfix : CallFix p m c cc nL s args [] own := ⟨hx, hb, hml, hown, fun w hw => by cases hw⟩
  rcases hl with hl | ⟨host, hl⟩
  · exact g_callK (vx_runS (g := F0 m pc ls _) hfix hM ⟨callB_mk C' hm hl hr, hV.1 _ hst rfl _⟩ hpre rfl hlen hL.1 rfl (lv_room (small_cat hsm)) hd ⟨hc1, hc2⟩) hk hkx hL hC hclr hR hE hS
  · exact g_callK (vx_runSN (g := F0 m pc ls _) hfix hM ⟨callN_mk C' hm hl hr, hV.1 _ hst rfl _, trivial⟩ hpre rfl hlen hL.1 rfl (lv_room (small_cat hsm)) hd ⟨hc1, hc2⟩) hk hkx hL hC hclr hR hE hS
theorem g_callI {ini : Bool} (C : CX p l s m meth c D ad0 S0 nL cc own ini) {q : MD} {spec : Spec} {i mc ms d n t : Nat} {as rest : List AV} {k : KF} {kx : Nat → Nat → List AV → Sto → Nat × Nat → Prop} (hsat : Sat q spec mc ms d) (hm : mOK q n) (hl : Cond.methodLink own i q.1 ∈ lw_tbl ∨ ∃ host, Cond.methodLinkNest own i q.1 host ∈ lw_tbl) (hst : Cond.instanceMethod q.1 ∈ lw_tbl) (hnm : q.1.name = "<init>") (hret : q.2.2.2 = none) (hr : roomOK R d)
    (hd : decode cc pc = .ok (.invokespecial i, 3)) (hn : as.length = n) (hsm : small rest = true) (hc1 : cs.1 + mc ≤ R.cells) (hc2 : cs.2 + ms ≤ R.slots)
    (hsp : spec (vT t :: as) S (fun o S' => match o with
      | .inl v => k (pc + 3) L (resK v rest) S' (cs.1 + mc, cs.2 + ms)
      | .inr ee => kx ee pc L S' (cs.1 + mc, cs.2 + ms)))
    (hk : ∀ st' S', k (pc + 3) L st' S' (cs.1 + mc, cs.2 + ms) → G p l e R s m args below meth c Q D ad0 S0 nL (pc + 3) L st' S' (cs.1 + mc, cs.2 + ms))
    (hkx : ∀ ee S', kx ee pc L S' (cs.1 + mc, cs.2 + ms) → GX p l e R s m args below meth c Q D ad0 S0 nL ee pc L S' (cs.1 + mc, cs.2 + ms)) :
    G p l e R s m args below meth c Q D ad0 S0 nL pc L ((vT t :: as).reverse ++ rest) S cs := by
  intro ad H locs ls hL hC hcl hR hE hS
  have C' := C
  obtain ⟨hx, hb, hml, hown, hV, -, htr⟩ := C
  have hcla : CL S (vT t :: as) := fun a ha => hcl a (List.mem_append_left _ (List.mem_reverse.mpr ha))
  have hclr : CL S rest := fun a ha => hcl a (List.mem_append_right _ ha)
  have hM := hsat l D ad S (vT t :: as) _ H.size htr hcla hsp
  have hpre : PreS s H (PcS D ad S H.size (vT t :: as)) (.ref (ad t) :: as.map (cv ad)) := ⟨PcS.blind, pcs_pre C' hR hE hS⟩
  have hstk : ((vT t :: as).reverse ++ rest).map (cv ad) = (as.map (cv ad)).reverse ++ .ref (ad t) :: rest.map (cv ad) := by simp [cv, va_rf]
  rw [hstk]
  have hlen : (as.map (cv ad)).length = n := by simp [hn]
  have hfix : CallFix p m c cc nL s args [] own := ⟨hx, hb, hml, hown, fun w hw => by cases hw⟩
  rcases hl with hl | ⟨host, hl⟩
  · have hcb := callB_mk (args := args) (mc := mc) (ms := ms) C' hm hl hr
    rw [hret] at hcb hM
    exact g_callK (vx_runI (g := F0 m pc ls _) hfix hM ⟨hcb, hnm, hV.1 _ hst rfl _⟩ hpre rfl hlen hL.1 rfl (lv_room (small_cat hsm)) hd ⟨hc1, hc2⟩) hk hkx hL hC hclr hR hE hS
  · have hcb := callN_mk (args := args) (mc := mc) (ms := ms) C' hm hl hr
    rw [hret] at hcb hM
    exact g_callK (vx_runIN (g := F0 m pc ls _) hfix hM ⟨hcb, hnm, hV.1 _ hst rfl _⟩ hpre rfl hlen hL.1 rfl (lv_room (small_cat hsm)) hd ⟨hc1, hc2⟩) hk hkx hL hC hclr hR hE hS
theorem g_callV {ini : Bool} (C : CX p l s m meth c D ad0 S0 nL cc own ini) {q : MD} {spec : Spec} {i mc ms d n t ci nn : Nat} {as rest : List AV} {k : KF} {kx : Nat → Nat → List AV → Sto → Nat × Nat → Prop} (hsat : Sat q spec mc ms d) (hm : mOK q n) (hl : Cond.methodLink own i q.1 ∈ lw_tbl) (hst : Cond.instanceMethod q.1 ∈ lw_tbl) (hsel : Cond.selects q.1.cls q.1 q.1 ∈ lw_tbl) (hci : ci < 8) (hcls : q.1.cls = RC ci) (ht : S.1 t = some (ci, nn)) (hr : roomOK R d)
    (hd : decode cc pc = .ok (.invokevirtual i, 3)) (hn : as.length = n) (hsm : small rest = true) (hc1 : cs.1 + mc ≤ R.cells) (hc2 : cs.2 + ms ≤ R.slots)
    (hsp : spec (vT t :: as) S (fun o S' => match o with
      | .inl v => k (pc + 3) L (resK v rest) S' (cs.1 + mc, cs.2 + ms)
      | .inr ee => kx ee pc L S' (cs.1 + mc, cs.2 + ms)))
    (hk : ∀ st' S', k (pc + 3) L st' S' (cs.1 + mc, cs.2 + ms) → G p l e R s m args below meth c Q D ad0 S0 nL (pc + 3) L st' S' (cs.1 + mc, cs.2 + ms))
    (hkx : ∀ ee S', kx ee pc L S' (cs.1 + mc, cs.2 + ms) → GX p l e R s m args below meth c Q D ad0 S0 nL ee pc L S' (cs.1 + mc, cs.2 + ms)) :
    G p l e R s m args below meth c Q D ad0 S0 nL pc L ((vT t :: as).reverse ++ rest) S cs := by
  intro ad H locs ls hL hC hcl hR hE hS
  have C' := C
  obtain ⟨hx, hb, hml, hown, hV, -, htr⟩ := C
  have hcla : CL S (vT t :: as) := fun a ha => hcl a (List.mem_append_left _ (List.mem_reverse.mpr ha))
  have hclr : CL S rest := fun a ha => hcl a (List.mem_append_right _ ha)
  have hM := hsat l D ad S (vT t :: as) _ H.size htr hcla hsp
  obtain ⟨-, cell, q1, q2, q3, -⟩ := rep_obj hR hci ht
  have hpre : PreV s H q.1.cls (ad t) (PcS D ad S H.size (vT t :: as)) (as.map (cv ad)) := ⟨PcS.blind, ⟨cell, q1, by rw [q3]; rfl, by rw [hcls, q2]; exact (hV.2.1.1 ci hci).2.1⟩, pcs_pre C' hR hE hS⟩
  have hstk : ((vT t :: as).reverse ++ rest).map (cv ad) = (as.map (cv ad)).reverse ++ .ref (ad t) :: rest.map (cv ad) := by simp [cv, va_rf]
  rw [hstk]
  have hlen : (as.map (cv ad)).length = n := by simp [hn]
  have hfix : CallFix p m c cc nL s args [] own := ⟨hx, hb, hml, hown, fun w hw => by cases hw⟩
  exact g_callK (vx_runV (g := F0 m pc ls _) hfix hM ⟨callB_mk C' hm hl hr, hV.1 _ hst rfl _, hV.1 _ hsel rfl _⟩ hpre rfl hlen hL.1 rfl (lv_room (small_cat hsm)) hd ⟨hc1, hc2⟩) hk hkx hL hC hclr hR hE hS
theorem oi_mem1 : Cond.instanceMethod Lib.objectInit ∈ lw_tbl := by decide +kernel
theorem oi_mem2 : Cond.code Lib.objectInit ⟨#[0xb1]⟩ 1 none ∈ lw_tbl := by decide +kernel
theorem g_obj {ini : Bool} (C : CX p l s m meth c D ad0 S0 nL cc own ini) {i t : Nat} {rest : List AV} (hl : Cond.methodLink own i Lib.objectInit ∈ lw_tbl) (hd : decode cc pc = .ok (.invokespecial i, 3)) (hsm : small rest = true) (hf : 1 ≤ R.frames) (hlo : 20 ≤ R.locals)
    (kk : G p l e R s m args below meth c Q D ad0 S0 nL (pc + 3) L rest S cs) : G p l e R s m args below meth c Q D ad0 S0 nL pc L (vT t :: rest) S cs := by
  intro ad H locs ls hL hC hcl hR hE hS
  obtain ⟨hx, hb, hml, hown, hV, -, htr⟩ := C
  have hq := small_cat (ad := ad) hsm
  exact W.objInit (g := F0 m pc ls _) hx hb hown (hV.1 _ hl rfl _) (hV.1 _ oi_mem1 rfl _) (hV.1 _ oi_mem2 rfl _) rfl (by rw [hml]; exact hL.1) rfl hd hf (Nat.le_trans (by show 2 * 0 + _ + 12 ≤ 20; omega) hlo) (kk ad H locs ls hL hC hcl.tl hR hE hS)
end SNDC
