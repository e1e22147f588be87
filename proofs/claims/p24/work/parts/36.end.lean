section SNDE
variable {p : Program} {l : Launch} {e : Env} {R : Room} {s : State} {m : MethodId} {args : Array Value} {below : List Frame} {meth : Method} {c : Code} {Q : State → Prop} {D : DD} {ad0 : Nat → Nat} {S0 : Sto} {nL : Nat} {cc : ByteArray} {own : String} {L st r : List AV} {S : Sto} {cs : Nat × Nat} {pc : Nat}
theorem Rep.grow {ad : Nat → Nat} {H H1 : Heap} (h : Rep D ad S H) (o : ∀ q : Nat, q < H.size → H1[q]? = H[q]?) : Rep D ad S H1 :=
  ⟨fun t x ht => ⟨(h.1 t x ht).1, (h.1 t x ht).2.kept rfl (o _ (h.1 t x ht).2.lt) rfl (fun _ => rfl)⟩, h.2.1, h.2.2⟩
def xNames : List String := ["java/lang/RuntimeException", "java/lang/Exception"]
theorem xfit : ∀ n ∈ xNames, Bundle.fit n = true := by decide +kernel
theorem xat (ee : Nat) : ((vx_atS RX6 (icN ee) (exN ee) xNames).all fun w => decide (w ∈ lw_tbl) && okw w) = true ∧ (vx_atS RX6 (icN ee) (exN ee) xNames).all vx_ot = true ∧ Bundle.fit (exN ee) = true ∧ Cond.initialized (exN ee) ∈ lw_tbl := by
  match ee with
  | 0 => exact ⟨by decide +kernel, by decide +kernel, by decide +kernel, by decide +kernel⟩
  | 1 => exact ⟨by decide +kernel, by decide +kernel, by decide +kernel, by decide +kernel⟩
  | n + 2 => exact ⟨by show ((vx_atS RX6 68 "java/lang/IllegalStateException" xNames).all fun w => decide (w ∈ lw_tbl) && okw w) = true; decide +kernel, by show (vx_atS RX6 68 "java/lang/IllegalStateException" xNames).all vx_ot = true; decide +kernel, by show Bundle.fit "java/lang/IllegalStateException" = true; decide +kernel, by show Cond.initialized "java/lang/IllegalStateException" ∈ lw_tbl; decide +kernel⟩
theorem g_throw {ini : Bool} {mc ms d ee : Nat} {post : Res → Sto → Prop} (C : CX p l s m meth c D ad0 S0 nL cc RX6 ini) (hT : thrOK cc pc ee) (hsm : small st = true) (hR9 : R = rmD mc ms d) (hc1 : cs.1 + 1 ≤ mc) (hc2 : cs.2 + 6 ≤ ms) (hp : post (.inr ee) S) (hno : ∀ x ∈ c.exceptionTable.toList, False) (hlocks : meth.locks = false) :
    G p l e R s m args below meth c (vx_MQ below (QcS D ad0 S0 s.heap.size post) (XcS D ad0 S0 s.heap.size post) args s mc ms (foot ad0 S0 s.heap.size)) D ad0 S0 nL pc L st S cs := by
  intro ad H locs ls hL hC hcl hR hE hS
  obtain ⟨hx, hb, hml, hown, hV, -, htr⟩ := C
  obtain ⟨ik, is, tx, ⟨d0, d3, hk, hs⟩, hd⟩ := hT
  obtain ⟨sa, hsa⟩ := hV.2.2.1 _ hs
  obtain ⟨x1, x2, x3, x4⟩ := xat ee
  have hat : ∀ w ∈ vx_atS RX6 (icN ee) (exN ee) xNames, w.before args s = true := fun w hw => by
    have := List.all_eq_true.mp x1 w hw
    simp only [Bool.and_eq_true, decide_eq_true_eq] at this
    exact hV.1 w this.1 this.2 _
  have hgood : ∀ w ∈ Cond.classLink RX6 ik (exN ee) :: Cond.initialized (exN ee) :: vx_atS RX6 (icN ee) (exN ee) xNames, vx_ot w = true := fun w hw => by
    rcases List.mem_cons.mp hw with rfl | hw
    · rfl
    · rcases List.mem_cons.mp hw with rfl | hw
      · rfl
      · exact List.all_eq_true.mp x2 w hw
  have hsum := small_cat (ad := ad) hsm
  have hX : ∀ t : State, s.vm.Alike t.vm → H.size ≤ t.heap.size → (∀ q : Nat, q < H.size → t.heap[q]? = H[q]?) → XcS D ad0 S0 s.heap.size post (exN ee) s t := fun t _ hz ho =>
    ⟨⟨ee, ad, S, rfl, hp, hE, hR.grow ho⟩, ⟨Nat.le_trans hS.1 hz, fun q h1 h2 => (ho q (Nat.lt_of_lt_of_le h1 hS.1)).trans (hS.2.1 q h1 h2)⟩⟩
  subst hR9
  rcases hd with ⟨d4, d6, d9⟩ | ⟨d4, d7, d10⟩
  · exact vx_throwS (names := xNames) hx hb htr hown x3 xfit (hV.1 _ hk rfl _) (hV.1 _ x4 rfl _) hsa hat hgood hV.2.2.2.1 hV.2.2.2.2 hS (hL.1.trans hml.symm) d0 d3 d4 d6 d9 (fun x hx => (hno x hx).elim) (by show 2 + 3 < 10 + d; omega) (by show _ + (13 * (2 + 1) + 43) ≤ 300 + 60 * d; omega) hc1 hc2 hlocks hX hS.2.2 hc1 hc2
  · exact vx_throwSW (names := xNames) hx hb htr hown x3 xfit (hV.1 _ hk rfl _) (hV.1 _ x4 rfl _) hsa hat hgood hV.2.2.2.1 hV.2.2.2.2 hS (hL.1.trans hml.symm) d0 d3 d4 d7 d10 (fun x hx => (hno x hx).elim) (by show 2 + 3 < 10 + d; omega) (by show _ + (13 * (2 + 1) + 43) ≤ 300 + 60 * d; omega) hc1 hc2 hlocks hX hS.2.2 hc1 hc2
/-- an exception of a callee goes through -/
theorem gx_out {ini : Bool} {mc ms ee : Nat} {post : Res → Sto → Prop} (hc1 : cs.1 ≤ mc) (hc2 : cs.2 ≤ ms) (hp : post (.inr ee) S) (hno : ∀ x ∈ c.exceptionTable.toList, False) (hlocks : meth.locks = false) :
    GX p l e R s m args below meth c (vx_MQ below (QcS D ad0 S0 s.heap.size post) (XcS D ad0 S0 s.heap.size post) args s mc ms (foot ad0 S0 s.heap.size)) D ad0 S0 nL ee pc L S cs := by
  intro ad H locs ls rest q ce hL hC hR hE hS hq hv hcl
  exact vx_out (fun x hx => (hno x hx).elim) hlocks hq hv hcl (fun t ht _ => ⟨⟨ee, ad, S, rfl, hp, hE, by rw [ht]; exact hR⟩, hS.F ht⟩) hS.2.2 hc1 hc2
theorem g_ret {ini : Bool} {mc ms : Nat} {post : Res → Sto → Prop} {v : Option AV} (C : CX p l s m meth c D ad0 S0 nL cc own ini) (hlocks : meth.locks = false) (hc1 : cs.1 ≤ mc) (hc2 : cs.2 ≤ ms) (hp : post (.inl v) S)
    (hd : (v = none ∧ st = [] ∧ decode cc pc = .ok (.return_, 1) ∧ meth.sig.returnType = none) ∨ (∃ z ty, v = some (vI z) ∧ st = [vI z] ∧ decode cc pc = .ok (.ireturn, 1) ∧ meth.sig.returnType = some ty ∧ narrow ty (.int (Int32.ofInt z)) = .int (Int32.ofInt z)) ∨ (∃ z ty, v = some (vR z) ∧ st = [vR z] ∧ decode cc pc = .ok (.areturn, 1) ∧ meth.sig.returnType = some ty ∧ isObjT ty = true)) :
    G p l e R s m args below meth c (vx_MQ below (QcS D ad0 S0 s.heap.size post) (XcS D ad0 S0 s.heap.size post) args s mc ms (foot ad0 S0 s.heap.size)) D ad0 S0 nL pc L st S cs := by
  intro ad H locs ls hL hC hcl hR hE hS
  obtain ⟨hx, hb, hml, hown, hV, -, htr⟩ := C
  refine W.widen hc1 hc2 (vx_ret ?_)
  have hq : ∀ t : State, t.heap = H → s.WarmedH t.vm → QcS D ad0 S0 s.heap.size post args s (.returned (v.map (cv ad))) t := fun t ht _ =>
    ⟨⟨v, ad, S, rfl, hp, hE, by rw [ht]; exact hR, fun w hw => by
      rcases hd with ⟨rfl, -⟩ | ⟨z, ty, rfl, rfl, -⟩ | ⟨z, ty, rfl, rfl, -⟩
      · cases hw
      · cases hw; exact hcl.hd
      · cases hw; exact hcl.hd⟩, hS.F ht⟩
  rcases hd with ⟨rfl, rfl, hd, hr⟩ | ⟨z, ty, rfl, rfl, hd, hr, hn⟩ | ⟨z, ty, rfl, rfl, hd, hr, ho⟩
  · exact W.vret hx hb hr hq hS.2.2 hd
  · exact W.zret hx hb hr hn hq hS.2.2 hd
  · refine W.aret (rt := ty) hx hb hr ?_ ?_ hq hS.2.2 hd
    · cases ty <;> first | (cases ho; done) | exact Or.inl ⟨_, rfl⟩ | exact Or.inr ⟨_, rfl⟩
    · cases z with
      | none => exact Or.inl rfl
      | some t => exact Or.inr ⟨_, rfl⟩
theorem or1 {z : Int} (h : z = 0 ∨ z = 1) : narrow .boolean (.int (Int32.ofInt z)) = .int (Int32.ofInt z) := by
  rcases h with rfl | rfl <;> rfl
end SNDE
