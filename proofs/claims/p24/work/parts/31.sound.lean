/-! SOUNDNESS of one step: what the abstract machine says of an instruction holds of the machine -/
def rmD (mc ms d : Nat) : Room := { frames := 10 + d, cells := mc, slots := ms, locals := 300 + 60 * d }
def PcS (D : DD) (ad : Nat → Nat) (S : Sto) (sz : Nat) (as : List AV) : Array Value → State → Prop := fun v U => v = (as.map (cv ad)).toArray ∧ U.heap.size = sz ∧ Rep D ad S U.heap ∧ VK D (foot ad S sz) U U.heap
def QcS (D : DD) (ad : Nat → Nat) (S : Sto) (sz : Nat) (post : Res → Sto → Prop) : Array Value → State → Outcome → State → Prop := fun _ st o t =>
  (∃ (r : Option AV) (ad' : Nat → Nat) (S' : Sto), o = .returned (r.map (cv ad')) ∧ post (.inl r) S' ∧ Ext ad S sz ad' S' ∧ Rep D ad' S' t.heap ∧ ∀ v, r = some v → VOK S' v) ∧ va_F (foot ad S sz) st t
def XcS (D : DD) (ad : Nat → Nat) (S : Sto) (sz : Nat) (post : Res → Sto → Prop) : String → State → State → Prop := fun E st t =>
  (∃ (ee : Nat) (ad' : Nat → Nat) (S' : Sto), E = exN ee ∧ post (.inr ee) S' ∧ Ext ad S sz ad' S' ∧ Rep D ad' S' t.heap) ∧ va_F (foot ad S sz) st t
/-- a method keeps its contract -/
def Sat (q : MD) (spec : Spec) (mc ms d : Nat) : Prop := ∀ (l : Launch) (D : DD) (ad : Nat → Nat) (S : Sto) (as : List AV) (post : Res → Sto → Prop) (sz : Nat), l.stackTraces = false → CL S as → spec as S post →
  vx_Met l q.1 [Cond.code q.1 q.2.1 q.2.2.1 q.2.2.2] (rmD mc ms d) (PcS D ad S sz as) (QcS D ad S sz post) (XcS D ad S sz post) mc ms (foot ad S sz)
theorem PcS.blind {D : DD} {ad : Nat → Nat} {S : Sto} {sz : Nat} {as : List AV} : FrameBlind (PcS D ad S sz as) := by
  intro a U g mk h
  obtain ⟨h1, h2, h3, h4, h5, h6, h7, h8⟩ := h
  have hv : (U.calling g mk a).vm = U.vm := rfl
  have hW : U.WarmedH (U.calling g mk a).vm := by rw [hv]; exact State.WarmedH.refl U
  refine ⟨h1, h2, h3, h4.warm hW, h5.warm (Vm.Alike.refl U.vm), h6.warm hW, vx_Zq.moved (Vm.Alike.refl U.vm) h7, vx_Zq.moved (Vm.Alike.refl U.vm) h8⟩
section SND
variable {p : Program} {l : Launch} {e : Env} {R : Room} {s : State} {m : MethodId} {args : Array Value} {below : List Frame} {meth : Method} {c : Code} {Q : State → Prop} {D : DD} {ad0 : Nat → Nat} {S0 : Sto} {nL : Nat} {cc : ByteArray} {own : String}
def G (p : Program) (l : Launch) (e : Env) (R : Room) (s : State) (m : MethodId) (args : Array Value) (below : List Frame) (meth : Method) (c : Code) (Q : State → Prop) (D : DD) (ad0 : Nat → Nat) (S0 : Sto) (nL : Nat) : KF := fun pc L st S cs =>
  ∀ (ad : Nat → Nat) (H : Heap) (locs : List Loc) (ls : Array Slot), LocOK ad L ls nL → CLs S L → CL S st → Rep D ad S H → Ext ad0 S0 s.heap.size ad S → va_S (foot ad0 S0 s.heap.size) s.heap H locs → W p l e R s m args below meth c H locs cs.1 cs.2 Q (F0 m pc ls (st.map (cv ad)))
def GX (p : Program) (l : Launch) (e : Env) (R : Room) (s : State) (m : MethodId) (args : Array Value) (below : List Frame) (meth : Method) (c : Code) (Q : State → Prop) (D : DD) (ad0 : Nat → Nat) (S0 : Sto) (nL : Nat) : Nat → Nat → List AV → Sto → Nat × Nat → Prop := fun ee pc L S cs =>
  ∀ (ad : Nat → Nat) (H : Heap) (locs : List Loc) (ls : Array Slot) (rest : List Value) (q : Nat) (ce : Cell), LocOK ad L ls nL → CLs S L → Rep D ad S H → Ext ad0 S0 s.heap.size ad S → va_S (foot ad0 S0 s.heap.size) s.heap H locs → H[q]? = some ce → ce.vm = .none → s.vm.findClass (exN ee) = some ce.cls → vx_W p l e R s m args below meth c H locs cs.1 cs.2 Q (F0 m pc ls rest) q
/-- what stands fixed while a method's body is walked -/
def CX (p : Program) (l : Launch) (s : State) (m : MethodId) (meth : Method) (c : Code) (D : DD) (ad0 : Nat → Nat) (S0 : Sto) (nL : Nat) (cc : ByteArray) (own : String) (ini : Bool) : Prop :=
  p.tables.exec = Jvm.exec ∧ c.code = cc ∧ c.maxLocals = nL ∧ s.vm.findClass own = some m.cls ∧ VK D (foot ad0 S0 s.heap.size) s s.heap ∧ (ini = true → meth.name = "<init>") ∧ l.stackTraces = false
theorem small_cat {ad : Nat → Nat} {r : List AV} (h : small r = true) : ((r.map (cv ad)).map fun v => v.category).sum ≤ 8 := by
  have h1 : ∀ a : AV, (cv ad a).category ≤ 2 := fun a => by
    rcases a with z | z | z
    · exact Nat.le_of_ble_eq_true rfl
    · exact Nat.le_of_ble_eq_true rfl
    · cases z <;> exact Nat.le_of_ble_eq_true rfl
  unfold small at h
  split at h
  · simp
  · rename_i a; have := h1 a; simp; omega
  · rename_i a b; have := h1 a; have := h1 b; simp; omega
  · rename_i a b d; have := h1 a; have := h1 b; have := h1 d; simp; omega
  · rename_i a b d f; have := h1 a; have := h1 b; have := h1 d; have := h1 f; simp; omega
  · cases h
theorem ok_const {own : String} {i : Nat} {z : Int32} : okw (Cond.constant own i z) = true := rfl
theorem swK_e {pc : Nat} {z : Int} {k : Nat → Prop} : ∀ {os : List Int} {lo : Int}, swK pc z k lo os → ∀ (j : Nat) (o : Int), os[j]? = some o → z = lo + j → k ((pc : Int) + o).toNat
  | [], lo, h, j, o, hj, hz => by simp at hj
  | o1 :: os, lo, h, 0, o, hj, hz => by
    have : o1 = o := by simpa using hj
    subst this
    exact h.1 (by simpa using hz)
  | o1 :: os, lo, h, j + 1, o, hj, hz => swK_e h.2 j o (by simpa using hj) (by rw [hz]; push_cast; omega)
theorem va_rf_cases {a : Option Nat} {ad : Nat → Nat} : (a = none ∧ va_rf (a.map ad) = .null) ∨ ∃ t, a = some t ∧ va_rf (a.map ad) = .ref (ad t) := by
  cases a with
  | none => exact Or.inl ⟨rfl, rfl⟩
  | some t => exact Or.inr ⟨t, rfl, rfl⟩
end SND
