section SNDP
variable {p : Program} {l : Launch} {e : Env} {R : Room} {s : State} {m : MethodId} {args : Array Value} {below : List Frame} {meth : Method} {c : Code} {Q : State → Prop} {D : DD} {ad0 : Nat → Nat} {S0 : Sto} {nL : Nat} {cc : ByteArray} {own : String} {L st r : List AV} {S : Sto} {cs : Nat × Nat} {pc : Nat}
theorem g_const (hx : p.tables.exec = Jvm.exec) (hb : c.code = cc) {z : Int} {len : Nat} (k : G p l e R s m args below meth c Q D ad0 S0 nL (pc + len) L (vI z :: st) S cs)
    (h : ∀ (H : Heap) (locs : List Loc) (ls : Array Slot) (rest : List Value), W p l e R s m args below meth c H locs cs.1 cs.2 Q (F0 m (pc + len) ls (.int (Int32.ofInt z) :: rest)) → W p l e R s m args below meth c H locs cs.1 cs.2 Q (F0 m pc ls rest)) : G p l e R s m args below meth c Q D ad0 S0 nL pc L st S cs := by
  intro ad H locs ls hL hC hcl hR hE hS
  exact h _ _ _ _ (k ad H locs ls hL hC (CL.cons VOK.i hcl) hR hE hS)
/-- two ints go, an int comes -/
theorem g_bin (hx : p.tables.exec = Jvm.exec) (hb : c.code = cc) {a b z : Int} (k : G p l e R s m args below meth c Q D ad0 S0 nL (pc + 1) L (vI z :: r) S cs)
    (h : ∀ (H : Heap) (locs : List Loc) (ls : Array Slot) (rest : List Value), W p l e R s m args below meth c H locs cs.1 cs.2 Q (F0 m (pc + 1) ls (.int (Int32.ofInt z) :: rest)) → W p l e R s m args below meth c H locs cs.1 cs.2 Q (F0 m pc ls (.int (Int32.ofInt b) :: .int (Int32.ofInt a) :: rest))) : G p l e R s m args below meth c Q D ad0 S0 nL pc L (vI b :: vI a :: r) S cs := by
  intro ad H locs ls hL hC hcl hR hE hS
  exact h _ _ _ _ (k ad H locs ls hL hC (CL.cons VOK.i hcl.tl.tl) hR hE hS)
theorem g_un (hx : p.tables.exec = Jvm.exec) (hb : c.code = cc) {a z : Int} (k : G p l e R s m args below meth c Q D ad0 S0 nL (pc + 1) L (vI z :: r) S cs)
    (h : ∀ (H : Heap) (locs : List Loc) (ls : Array Slot) (rest : List Value), W p l e R s m args below meth c H locs cs.1 cs.2 Q (F0 m (pc + 1) ls (.int (Int32.ofInt z) :: rest)) → W p l e R s m args below meth c H locs cs.1 cs.2 Q (F0 m pc ls (.int (Int32.ofInt a) :: rest))) : G p l e R s m args below meth c Q D ad0 S0 nL pc L (vI a :: r) S cs := by
  intro ad H locs ls hL hC hcl hR hE hS
  exact h _ _ _ _ (k ad H locs ls hL hC (CL.cons VOK.i hcl.tl) hR hE hS)
theorem g_load (hx : p.tables.exec = Jvm.exec) (hb : c.code = cc) {i len : Nat} {a : AV} (ha : nth L i = a) (hl : isLong a = false) (k : G p l e R s m args below meth c Q D ad0 S0 nL (pc + len) L (a :: st) S cs)
    (h : ∀ (ad : Nat → Nat) (H : Heap) (locs : List Loc) (ls : Array Slot) (rest : List Value), ls[i]? = some (.val (cv ad a)) → W p l e R s m args below meth c H locs cs.1 cs.2 Q (F0 m (pc + len) ls (cv ad a :: rest)) → W p l e R s m args below meth c H locs cs.1 cs.2 Q (F0 m pc ls rest)) : G p l e R s m args below meth c Q D ad0 S0 nL pc L st S cs := by
  intro ad H locs ls hL hC hcl hR hE hS
  exact h ad _ _ _ _ (hL.at ha hl) (k ad H locs ls hL hC (CL.cons (by rw [← ha]; exact hC i) hcl) hR hE hS)
theorem st_int (hx : p.tables.exec = Jvm.exec) (hb : c.code = cc) {i len : Nat} {x : Int32} {H : Heap} {locs : List Loc} {ls ls' : Array Slot} {rest : List Value} (hd : (decode cc pc = .ok (.istore i, 2) ∧ len = 2) ∨ (∃ k : Fin 4, decode cc pc = .ok (.istore_n k, 1) ∧ i = k.val ∧ len = 1))
    (hs : storeLocals ls i (.int x) = some ls') (k : W p l e R s m args below meth c H locs cs.1 cs.2 Q (F0 m (pc + len) ls' rest)) : W p l e R s m args below meth c H locs cs.1 cs.2 Q (F0 m pc ls (.int x :: rest)) := by
  rcases hd with ⟨hdg, rfl⟩ | ⟨q, hdg, rfl, rfl⟩
  · intro T hT X
    obtain ⟨t, a, b⟩ := k T hT X
    refine ⟨t, ?_, b⟩
    jvm_step X.here [X.here.top, hx, hb, hdg, hs]
    exact a
  · intro T hT X
    obtain ⟨t, a, b⟩ := k T hT X
    refine ⟨t, ?_, b⟩
    jvm_step X.here [X.here.top, hx, hb, hdg, hs]
    exact a
theorem st_ref (hx : p.tables.exec = Jvm.exec) (hb : c.code = cc) {i len : Nat} {x : Option Nat} {H : Heap} {locs : List Loc} {ls ls' : Array Slot} {rest : List Value} (hd : (decode cc pc = .ok (.astore i, 2) ∧ len = 2) ∨ (∃ k : Fin 4, decode cc pc = .ok (.astore_n k, 1) ∧ i = k.val ∧ len = 1))
    (hs : storeLocals ls i (va_rf x) = some ls') (k : W p l e R s m args below meth c H locs cs.1 cs.2 Q (F0 m (pc + len) ls' rest)) : W p l e R s m args below meth c H locs cs.1 cs.2 Q (F0 m pc ls (va_rf x :: rest)) := by
  cases x with
  | none =>
    change storeLocals ls i .null = some ls' at hs
    change W p l e R s m args below meth c H locs cs.1 cs.2 Q (F0 m pc ls (.null :: rest))
    rcases hd with ⟨hdg, rfl⟩ | ⟨q, hdg, rfl, rfl⟩
    · intro T hT X
      obtain ⟨t, a, b⟩ := k T hT X
      refine ⟨t, ?_, b⟩
      jvm_step X.here [X.here.top, hx, hb, hdg, hs, Value.isRef]
      exact a
    · intro T hT X
      obtain ⟨t, a, b⟩ := k T hT X
      refine ⟨t, ?_, b⟩
      jvm_step X.here [X.here.top, hx, hb, hdg, hs, Value.isRef]
      exact a
  | some x =>
    change storeLocals ls i (.ref x) = some ls' at hs
    change W p l e R s m args below meth c H locs cs.1 cs.2 Q (F0 m pc ls (.ref x :: rest))
    rcases hd with ⟨hdg, rfl⟩ | ⟨q, hdg, rfl, rfl⟩
    · intro T hT X
      obtain ⟨t, a, b⟩ := k T hT X
      refine ⟨t, ?_, b⟩
      jvm_step X.here [X.here.top, hx, hb, hdg, hs, Value.isRef]
      exact a
    · intro T hT X
      obtain ⟨t, a, b⟩ := k T hT X
      refine ⟨t, ?_, b⟩
      jvm_step X.here [X.here.top, hx, hb, hdg, hs, Value.isRef]
      exact a
theorem st_inc (hx : p.tables.exec = Jvm.exec) (hb : c.code = cc) {i : Nat} {n : Int} {x : Int32} {H : Heap} {locs : List Loc} {ls ls' : Array Slot} {rest : List Value} (hdg : decode cc pc = .ok (.iinc i n, 3)) (hl : ls[i]? = some (.val (.int x)))
    (hs : storeLocals ls i (.int (x + Int32.ofInt n)) = some ls') (k : W p l e R s m args below meth c H locs cs.1 cs.2 Q (F0 m (pc + 3) ls' rest)) : W p l e R s m args below meth c H locs cs.1 cs.2 Q (F0 m pc ls rest) := by
  intro T hT X
  obtain ⟨t, a, b⟩ := k T hT X
  refine ⟨t, ?_, b⟩
  jvm_step X.here [X.here.top, hx, hb, hdg, hl, hs]
  exact a
theorem g_store (hx : p.tables.exec = Jvm.exec) (hb : c.code = cc) {i len : Nat} {a : AV} (hi : i < nL) (hl : isLong a = false) (k : G p l e R s m args below meth c Q D ad0 S0 nL (pc + len) (setn L i a) r S cs)
    (h : ∀ (ad : Nat → Nat) (H : Heap) (locs : List Loc) (ls ls' : Array Slot) (rest : List Value), storeLocals ls i (cv ad a) = some ls' → W p l e R s m args below meth c H locs cs.1 cs.2 Q (F0 m (pc + len) ls' rest) → W p l e R s m args below meth c H locs cs.1 cs.2 Q (F0 m pc ls (cv ad a :: rest))) : G p l e R s m args below meth c Q D ad0 S0 nL pc L (a :: r) S cs := by
  intro ad H locs ls hL hC hcl hR hE hS
  obtain ⟨ls', e1, hL'⟩ := hL.store (a := a) hi (cv_cat hl) (fun _ => rfl)
  exact h ad _ _ _ _ _ e1 (k ad H locs ls' hL' (hC.set hcl.hd) hcl.tl hR hE hS)
theorem g_iinc (hx : p.tables.exec = Jvm.exec) (hb : c.code = cc) {i : Nat} {n z : Int} (hd : decode cc pc = .ok (.iinc i n, 3)) (hi : i < nL) (ha : nth L i = vI z) (k : G p l e R s m args below meth c Q D ad0 S0 nL (pc + 3) (setn L i (vI (z + n))) st S cs) : G p l e R s m args below meth c Q D ad0 S0 nL pc L st S cs := by
  intro ad H locs ls hL hC hcl hR hE hS
  obtain ⟨ls', e1, hL'⟩ := hL.store (a := vI (z + n)) (v := cv ad (vI (z + n))) hi rfl (fun _ => rfl)
  have e2 : ls[i]? = some (.val (.int (Int32.ofInt z))) := hL.at ha rfl
  exact st_inc hx hb hd e2 (by rw [oI_add]; exact e1) (k ad H locs ls' hL' (hC.set VOK.i) hcl hR hE hS)
theorem g_jump {tgt : Nat} (h : ∀ (H : Heap) (locs : List Loc) (ls : Array Slot) (rest : List Value), W p l e R s m args below meth c H locs cs.1 cs.2 Q (F0 m tgt ls rest) → W p l e R s m args below meth c H locs cs.1 cs.2 Q (F0 m pc ls rest)) (k : G p l e R s m args below meth c Q D ad0 S0 nL tgt L st S cs) : G p l e R s m args below meth c Q D ad0 S0 nL pc L st S cs := by
  intro ad H locs ls hL hC hcl hR hE hS
  exact h _ _ _ _ (k ad H locs ls hL hC hcl hR hE hS)
theorem g_if1 (hx : p.tables.exec = Jvm.exec) (hb : c.code = cc) {a : Int} {cd : ClassFile.Cond} {off : Int} {tgt : Nat} (hd : decode cc pc = .ok (.ifCond cd off, 3)) (ht : (pc : Int) + off = (tgt : Int)) (ha : InR a) (k1 : cmpB cd a 0 → G p l e R s m args below meth c Q D ad0 S0 nL tgt L r S cs) (k2 : ¬ cmpB cd a 0 → G p l e R s m args below meth c Q D ad0 S0 nL (pc + 3) L r S cs) : G p l e R s m args below meth c Q D ad0 S0 nL pc L (vI a :: r) S cs := by
  intro ad H locs ls hL hC hcl hR hE hS
  have h0 : InR 0 := ⟨by omega, by omega⟩
  have j1 := fun q => k1 q ad H locs ls hL hC hcl.tl hR hE hS
  have j2 := fun q => k2 q ad H locs ls hL hC hcl.tl hR hE hS
  cases cd with
  | eq => exact lv_if_eq hx hb hd ht (fun q => j1 ((oI_eq ha h0).mp q)) (fun q => j2 fun q2 => q ((oI_eq ha h0).mpr q2))
  | ne => exact lv_if_ne hx hb hd ht (fun q => j1 fun q2 => q ((oI_eq ha h0).mpr q2)) (fun q => j2 fun q2 => q2 ((oI_eq ha h0).mp q))
  | lt => exact lv_if_lt hx hb hd ht (fun q => j1 ((oI_lt ha h0).mp q)) (fun q => j2 fun q2 => q ((oI_lt ha h0).mpr q2))
  | ge => exact lv_if_ge hx hb hd ht (fun q => j1 ((oI_le h0 ha).mp q)) (fun q => j2 fun q2 => q ((oI_le h0 ha).mpr q2))
  | gt => exact lv_if_gt hx hb hd ht (fun q => j1 ((oI_lt h0 ha).mp q)) (fun q => j2 fun q2 => q ((oI_lt h0 ha).mpr q2))
  | le => exact lv_if_le hx hb hd ht (fun q => j1 ((oI_le ha h0).mp q)) (fun q => j2 fun q2 => q ((oI_le ha h0).mpr q2))
theorem g_if2 (hx : p.tables.exec = Jvm.exec) (hb : c.code = cc) {a b : Int} {cd : ClassFile.Cond} {off : Int} {tgt : Nat} (hd : decode cc pc = .ok (.if_icmp cd off, 3)) (ht : (pc : Int) + off = (tgt : Int)) (ha : InR a) (h0 : InR b) (k1 : cmpB cd a b → G p l e R s m args below meth c Q D ad0 S0 nL tgt L r S cs) (k2 : ¬ cmpB cd a b → G p l e R s m args below meth c Q D ad0 S0 nL (pc + 3) L r S cs) : G p l e R s m args below meth c Q D ad0 S0 nL pc L (vI b :: vI a :: r) S cs := by
  intro ad H locs ls hL hC hcl hR hE hS
  have j1 := fun q => k1 q ad H locs ls hL hC hcl.tl.tl hR hE hS
  have j2 := fun q => k2 q ad H locs ls hL hC hcl.tl.tl hR hE hS
  cases cd with
  | eq => exact lv_icmp_eq hx hb hd ht (fun q => j1 ((oI_eq ha h0).mp q)) (fun q => j2 fun q2 => q ((oI_eq ha h0).mpr q2))
  | ne => exact lv_icmp_ne hx hb hd ht (fun q => j1 fun q2 => q ((oI_eq ha h0).mpr q2)) (fun q => j2 fun q2 => q2 ((oI_eq ha h0).mp q))
  | lt => exact lv_icmp_lt hx hb hd ht (fun q => j1 ((oI_lt ha h0).mp q)) (fun q => j2 fun q2 => q ((oI_lt ha h0).mpr q2))
  | ge => exact lv_icmp_ge hx hb hd ht (fun q => j1 ((oI_le h0 ha).mp q)) (fun q => j2 fun q2 => q ((oI_le h0 ha).mpr q2))
  | gt => exact lv_icmp_gt hx hb hd ht (fun q => j1 ((oI_lt h0 ha).mp q)) (fun q => j2 fun q2 => q ((oI_lt h0 ha).mpr q2))
  | le => exact lv_icmp_le hx hb hd ht (fun q => j1 ((oI_le ha h0).mp q)) (fun q => j2 fun q2 => q ((oI_le ha h0).mpr q2))
theorem g_null (hx : p.tables.exec = Jvm.exec) (hb : c.code = cc) {a : Option Nat} {off : Int} {tgt t1 t2 : Nat} (hd : (decode cc pc = .ok (.ifnull off, 3) ∧ t1 = tgt ∧ t2 = pc + 3) ∨ (decode cc pc = .ok (.ifnonnull off, 3) ∧ t1 = pc + 3 ∧ t2 = tgt)) (ht : (pc : Int) + off = (tgt : Int)) (k1 : a = none → G p l e R s m args below meth c Q D ad0 S0 nL t1 L r S cs) (k2 : ∀ t, a = some t → G p l e R s m args below meth c Q D ad0 S0 nL t2 L r S cs) : G p l e R s m args below meth c Q D ad0 S0 nL pc L (vR a :: r) S cs := by
  intro ad H locs ls hL hC hcl hR hE hS
  cases a with
  | none =>
    have j := k1 rfl ad H locs ls hL hC hcl.tl hR hE hS
    rcases hd with ⟨hd, rfl, rfl⟩ | ⟨hd, rfl, rfl⟩
    · exact lv_ifnullN hx hb hd ht j
    · exact lv_ifnonnullN hx hb hd j
  | some t =>
    have j := k2 t rfl ad H locs ls hL hC hcl.tl hR hE hS
    rcases hd with ⟨hd, rfl, rfl⟩ | ⟨hd, rfl, rfl⟩
    · exact lv_ifnull hx hb hd j
    · exact lv_ifnonnull hx hb hd ht j
theorem g_switch (hx : p.tables.exec = Jvm.exec) (hb : c.code = cc) {a d lo hi : Int} {os : Array Int} {len : Nat} (hd : decode cc pc = .ok (.tableswitch d lo hi os, len)) (h1 : 0 ≤ (pc : Int) + d) (h2 : ∀ o ∈ os.toList, 0 ≤ (pc : Int) + o) (h3 : hi - lo + 1 = os.size) (ha : InR a)
    (k1 : swK pc a (fun q => G p l e R s m args below meth c Q D ad0 S0 nL q L r S cs) lo os.toList) (k2 : a < lo ∨ hi < a → G p l e R s m args below meth c Q D ad0 S0 nL ((pc : Int) + d).toNat L r S cs) : G p l e R s m args below meth c Q D ad0 S0 nL pc L (vI a :: r) S cs := by
  intro ad H locs ls hL hC hcl hR hE hS
  have e := oI_toInt ha
  by_cases q : a < lo ∨ hi < a
  · exact lv_tableOut hx hb hd (by rw [e]; exact q) (by omega) (k2 q ad H locs ls hL hC hcl.tl hR hE hS)
  · obtain ⟨j, hj⟩ : ∃ j : Nat, a = lo + j := ⟨(a - lo).toNat, by omega⟩
    have hlt : j < os.toList.length := by simp; omega
    have ho : os.toList[j]? = some os.toList[j] := List.getElem?_eq_getElem hlt
    have hn := h2 _ (List.getElem_mem hlt)
    refine lv_tableIn (off := os.toList[j]) (tgt := ((pc : Int) + os.toList[j]).toNat) hx hb hd (by rw [e]; omega) (by rw [e]; omega) ?_ (by omega) (swK_e k1 j _ ho hj ad H locs ls hL hC hcl.tl hR hE hS)
    rw [e, show (a - lo).toNat = j by omega]
    rw [← Array.getElem?_toList]; exact ho
end SNDP
