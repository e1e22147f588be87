section SNDN
variable {p : Program} {l : Launch} {e : Env} {R : Room} {s : State} {m : MethodId} {args : Array Value} {below : List Frame} {meth : Method} {c : Code} {Q : State → Prop} {D : DD} {ad0 : Nat → Nat} {S0 : Sto} {nL : Nat} {cc : ByteArray} {own : String} {L st r : List AV} {S : Sto} {cs : Nat × Nat} {pc : Nat}
theorem va_S.grow {A : Nat → Prop} {H0 H H1 : Heap} {locs : List Loc} (h : va_S A H0 H locs) (z : H1.size = H.size + 1) (o1 : ∀ q : Nat, q < H.size → H1[q]? = H[q]?) : va_S A H0 H1 locs :=
  ⟨Nat.le_trans h.1 (by omega), fun x h1 h2 => (o1 x (Nat.lt_of_lt_of_le h1 h.1)).trans (h.2.1 x h1 h2), h.2.2⟩
/-- behind a new cell: what stood goes on -/
theorem g_newK {ad : Nat → Nat} {H H1 : Heap} {locs : List Loc} {ls : Array Slot} {t len k n : Nat} {x : Nat × Nat} (hL : LocOK ad L ls nL) (hC : CLs S L) (hcl : CL S r) (hR : Rep D ad S H) (hE : Ext ad0 S0 s.heap.size ad S) (hS : va_S (foot ad0 S0 s.heap.size) s.heap H locs)
    (ht : S.1 t = none) (hx : okTy x = true) (hx2 : x.1 ≠ 102) (z1 : H1.size = H.size + 1) (o1 : ∀ q : Nat, q < H.size → H1[q]? = H[q]?) (hat : RepAt D (fun q => if q = t then H.size else ad q) (newS S t x) t x H1)
    (kk : G p l e R s m args below meth c Q D ad0 S0 nL (pc + len) L (vT t :: r) (newS S t x) (k, n)) : W p l e R s m args below meth c H1 locs k n Q (F0 m (pc + len) ls (.ref H.size :: r.map (cv ad))) := by
  have hE1 : Ext ad S H.size (fun q => if q = t then H.size else ad q) (newS S t x) := Ext.step ht hx2
  have h := kk _ H1 locs ls (hL.ext hE1 hC) (hC.ext hE1) (CL.cons (fun u hu => by
    have : t = u := by simpa using hu
    subst this
    simp [newS]) (hcl.ext hE1)) (hR.new ht hx hat o1) (hE.new ht hx2 hS.1) (hS.grow z1 o1)
  rw [List.map_cons, CL.map hE1 hcl] at h
  have e1 : cv (fun q => if q = t then H.size else ad q) (vT t) = .ref H.size := by simp [cv, va_rf]
  rw [e1] at h
  exact h
theorem g_new {ini : Bool} (C : CX p l s m meth c D ad0 S0 nL cc own ini) {i t ci k n : Nat} (hd : decode cc pc = .ok (.new i, 3)) (hci : ci < 8) (h1 : Cond.classLink own i (RC ci) ∈ lw_tbl) (h2 : Cond.instantiable (RC ci) (clN ci) ∈ lw_tbl) (h3 : Cond.initialized (RC ci) ∈ lw_tbl)
    (hk : cs.1 + 1 ≤ R.cells) (hn : cs.2 + clN ci ≤ R.slots) (ht : S.1 t = none)
    (kk : G p l e R s m args below meth c Q D ad0 S0 nL (pc + 3) L (vT t :: r) (newS S t (ci, clN ci)) (cs.1 + 1, cs.2 + clN ci)) : G p l e R s m args below meth c Q D ad0 S0 nL pc L r S cs := by
  intro ad H locs ls hL hC hcl hR hE hS
  obtain ⟨hx, hb, hml, hown, hV, -, -⟩ := C
  have hKn := hV.2.1.1 ci hci
  have hts : ∀ w ∈ u_ws (RC ci) (TC ci) (clN ci), w.before args s = true := fun w hw => hV.1 w (in_C ci hci w hw) (lay_ok w hw) args
  have hok : okTy (ci, clN ci) = true := by simp [okTy, hci]
  refine W.newcK hx hb hown (hV.1 _ h1 rfl _) (hV.1 _ h2 rfl _) (hV.1 _ h3 rfl _) rfl hd hk hn hKn.2.1 rfl fun H1 kC hkC e1 z1 o1 => ?_
  refine g_newK hL hC hcl hR hE hS ht hok (by show ci ≠ 102; omega) z1 o1 ?_ kk
  unfold RepAt
  rw [if_pos hci]
  simp only [if_pos]
  refine (u_born (tyC ci) hts (fun w hw => hw) hKn hkC e1 (ty_C ci hci)).to fun j hj => ?_
  have hq := kd_C ci hci j hj
  unfold oCell
  cases hr : isR ci j with
  | true =>
    have h9 := hq.1 hr
    rw [if_pos rfl]
    simp only [newS, if_pos]
    generalize tyC ci j = ty at h9
    cases ty <;> first | (cases h9; done) | rfl
  | false =>
    rw [hq.2 hr]
    simp only [newS, if_pos]
    rfl
theorem g_newa {ini : Bool} (C : CX p l s m meth c D ad0 S0 nL cc own ini) {t cd : Nat} {n : Int} {ty : ArrayType} (hd : decode cc pc = .ok (.newarray ty, 2)) (hty : ty = .int ∧ cd = 100 ∨ ty = .long ∧ cd = 101) (h1 : Cond.arrayClass (newarray.typeOf ty) ∈ lw_tbl)
    (hn0 : 0 ≤ n) (hn1 : n ≤ 100000) (hk : cs.1 + 1 ≤ R.cells) (hn : cs.2 + n.toNat ≤ R.slots) (ht : S.1 t = none)
    (kk : G p l e R s m args below meth c Q D ad0 S0 nL (pc + 2) L (vT t :: r) (newS S t (cd, n.toNat)) (cs.1 + 1, cs.2 + n.toNat)) : G p l e R s m args below meth c Q D ad0 S0 nL pc L (vI n :: r) S cs := by
  have hnl : ¬ Cond.arrayClass (newarray.typeOf .long) ∈ lw_tbl := by decide +kernel
  have hty : ty = .int ∧ cd = 100 := by
    rcases hty with q | ⟨rfl, -⟩
    · exact q
    · exact absurd h1 hnl
  intro ad H locs ls hL hC hcl hR hE hS
  obtain ⟨hx, hb, hml, hown, hV, -, -⟩ := C
  have hneg : ¬ Int32.ofInt n < 0 := by rw [oI_0, oI_lt ⟨by omega, by omega⟩ ⟨by omega, by omega⟩]; omega
  have hnat : (Int32.ofInt n).toNatClampNeg = n.toNat := oI_nat hn0 (by omega)
  refine va_newaK hx hb (hV.1 _ h1 rfl _) rfl hd rfl hneg hnat (by
    rcases hty with ⟨rfl, -⟩
    show n.toNat * 4 ≤ _; omega) hk hn rfl fun H1 cA e1 z1 o1 hAr hNm => ?_
  have hcd : isA cd = true := by rcases hty with ⟨-, rfl⟩; rfl
  have hok : okTy (cd, n.toNat) = true := by
    simp only [okTy, hcd, Bool.or_eq_true, Bool.and_eq_true, decide_eq_true_eq]
    right; exact ⟨Or.inl trivial, by omega⟩
  refine g_newK hL hC hcl.tl hR hE hS ht hok (by show cd ≠ 102; rcases hty with ⟨-, rfl⟩; decide) z1 o1 ?_ kk
  rw [repAt_a hcd]
  have hra := (hV.2.1.2.1 cd hcd).2
  have hcA : cA = D.2.1 cd := by
    rcases hty with ⟨rfl, rfl⟩; exact Option.some.inj (hNm.symm.trans hra)
  subst hcA
  simp only [if_pos]
  rw [e1]
  rcases hty with ⟨rfl, rfl⟩
  refine congrArg some ?_
  show _ = arrV _ _ (fun j => .int (Int32.ofInt ((newS S t (100, n.toNat)).2.1 t j)))
  congr 1
  funext j
  simp [newS]; rfl
theorem g_anew {ini : Bool} (C : CX p l s m meth c D ad0 S0 nL cc own ini) {i t ci : Nat} {n : Int} (hd : decode cc pc = .ok (.anewarray i, 3)) (hcd : isRA (110 + ci) = true) (h1 : Cond.classLink own i (RC ci) ∈ lw_tbl) (h2 : Cond.arrayOver (.object (RC ci)) ∈ lw_tbl)
    (hn0 : 0 ≤ n) (hn1 : n ≤ 100000) (hk : cs.1 + 1 ≤ R.cells) (hn : cs.2 + n.toNat ≤ R.slots) (ht : S.1 t = none)
    (kk : G p l e R s m args below meth c Q D ad0 S0 nL (pc + 3) L (vT t :: r) (newS S t (110 + ci, n.toNat)) (cs.1 + 1, cs.2 + n.toNat)) : G p l e R s m args below meth c Q D ad0 S0 nL pc L (vI n :: r) S cs := by
  intro ad H locs ls hL hC hcl hR hE hS
  obtain ⟨hx, hb, hml, hown, hV, -, -⟩ := C
  have hneg : ¬ Int32.ofInt n < 0 := by rw [oI_0, oI_lt ⟨by omega, by omega⟩ ⟨by omega, by omega⟩]; omega
  have hnat : (Int32.ofInt n).toNatClampNeg = n.toNat := oI_nat hn0 (by omega)
  refine W.anew hx hb hown (hV.1 _ h1 rfl _) (hV.1 _ h2 rfl _) rfl hd rfl hneg (by rw [hnat]; omega) hk (by rw [hnat]; exact hn) fun cA kA comp f1 f2 f3 f4 => ?_
  rw [hnat]
  generalize hH1 : H.push ({ cls := cA, slots := Array.replicate n.toNat .null, vm := .none } : Cell) = H1
  have z1 : H1.size = H.size + 1 := by rw [← hH1, Array.size_push]
  have e1 : H1[H.size]? = some (arrV cA n.toNat (fun _ => .null)) := by rw [← hH1, Array.getElem?_push_size, ← arrV_new]
  have o1 : ∀ q : Nat, q < H.size → H1[q]? = H[q]? := fun q hq => by rw [← hH1, Array.getElem?_push, if_neg (Nat.ne_of_lt hq)]
  have hA := (isRA_A hcd).1
  have hok : okTy (110 + ci, n.toNat) = true := by
    simp only [okTy, hA, Bool.or_eq_true, Bool.and_eq_true, decide_eq_true_eq]
    right; exact ⟨Or.inl trivial, by omega⟩
  refine g_newK hL hC hcl.tl hR hE hS ht hok (isRA_A hcd).2.2.2 z1 o1 ?_ kk
  rw [repAt_a hA, aCell_r hcd]
  have hra := (hV.2.1.2.1 (110 + ci) hA).2
  rw [(aTy_ra hcd).1] at hra
  obtain ⟨kA', comp', k1, k2, k3, k4⟩ := hra
  have hcA : cA = D.2.1 (110 + ci) := Option.some.inj (f1.symm.trans k4)
  subst hcA
  simp only [if_pos]
  rw [e1]
  refine congrArg some ?_
  congr 1
  funext j
  simp [newS, va_rf]
end SNDN
