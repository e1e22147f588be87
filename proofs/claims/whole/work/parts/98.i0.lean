def R_law : String := "ThreadneedleLaw"
def lw_P (b : Addr) (xs : List Int32) (args : Array Value) (s : State) : Prop := args = #[.ref b] ∧ s.IntsAt b xs ∧ xs.length ≤ 3584 ∧ (Jvm.Cond.and given_1 narrow_1).before args s = true
def lw_Q (_ : Array Value) (s : State) (o : Outcome) (t : State) : Prop := o = .returned (some (.int 1)) ∧ Framed s o t [] 601024 7293034
def lw_Z (below : List Frame) (a : Array Value) (s : State) : State → Prop := fun t => ∃ o, t.status = .running ∧ Ended t below o ∧ lw_Q a s o t
/-- the law's own end, with 1 on the stack, nothing written that was there before, its room as the claim has it -/
theorem lw_ret {p : Program} {l : Launch} {e : Env} {s : State} {m : MethodId} {below : List Frame} {meth : Method} {c : Code} {b : Nat} (hx : p.tables.exec = Jvm.exec) (hb : c.code = code) (hr : meth.sig.returnType = ret) (hlocks : meth.locks = false) {pc : Nat} {H : Heap} {ls : Array Slot} (hdg : decode code pc = .ok (.ireturn, 1)) : W p l e room_1 s m #[Value.ref b] below meth c H [] 601024 7293034 (lw_Z below #[Value.ref b] s) (F0 m pc ls [.int 1]) := by
  intro T hT X
  obtain ⟨fs, hret, hrun, hended, hW, hframe⟩ := X.leave (v := some (.int 1)) (hlocks := hlocks) (fun h => by rw [hr] at h; cases h)
  have hmeth' : T.vm.method? m = some meth := X.method'
  refine ⟨T.setFrames fs, ?_, .returned (some (.int 1)), hrun, hended, rfl, ⟨_, rfl⟩, hW, hframe⟩
  jvm_step X.here [X.here.top, hx, hb, hdg, hmeth', hr, ret, narrow_b1]
  (try refine ⟨rfl, ?_⟩); (try refine ⟨rfl, ?_⟩)
  first | (intro acts; rw [hret _ acts rfl rfl rfl]) | rw [hret _ _ rfl rfl rfl]
  exact Steps.refl _
/-- what holds at the law's entry: the machine, the code, the tables' words (any of lw_tbl by 'hts w (by decide +kernel)'), the script of L ints xs at the cell b, what the Statement gives of the start (any of its parts by flat_of_before) -/
def lw_At (p : Program) (s : State) (m : MethodId) (meth : Method) (c : Code) (b L : Nat) (xs : Nat → Int32) : Prop :=
  p.tables.exec = Jvm.exec ∧ c.code = code ∧ meth.sig.returnType = ret ∧ c.maxLocals = 7 ∧ s.vm.findClass R_law = some m.cls ∧ (∀ w ∈ lw_tbl, w.before #[Value.ref b] s = true) ∧ va_X b L xs s s.heap ∧ b < s.heap.size ∧ meth.locks = false ∧ (Jvm.Cond.and given_1 narrow_1).before #[Value.ref b] s = true
set_option maxRecDepth 100000 in
theorem law_vc {xs : Nat → Int} {Ln : Nat} (hLn : Ln ≤ 3584) (hxs : ∀ j, InR (xs j)) : ∀ q ∈ cutT xs Ln, ∀ n L st S c, q.2 n L st S c → stW eL_law spL_law wrL (601024, 7293034) krL (wpL eL_law spL_law wrL (601024, 7293034) krL (cutL (cutT xs Ln)) n 150) q.1 L st S c :=
  List.forall_mem_cons.mpr ⟨cs_head hLn hxs, List.forall_mem_cons.mpr ⟨cs_end hLn hxs, List.forall_mem_cons.mpr ⟨cs_shape hLn hxs, List.forall_mem_cons.mpr ⟨cs_wipe hLn hxs, List.forall_mem_cons.mpr ⟨cs_design hLn hxs, List.forall_mem_cons.mpr ⟨cs_machine hLn hxs, List.forall_mem_cons.mpr ⟨cs_stock hLn hxs, List.forall_mem_cons.mpr ⟨cs_order hLn hxs, List.forall_mem_cons.mpr ⟨cs_start hLn hxs, List.forall_mem_cons.mpr ⟨cs_run hLn hxs, List.forall_mem_cons.mpr ⟨cs_snap hLn hxs, List.forall_mem_cons.mpr ⟨cs_match hLn hxs, List.forall_mem_cons.mpr ⟨cs_cancel hLn hxs, List.forall_mem_cons.mpr ⟨cs_stitches hLn hxs, List.forall_mem_cons.mpr ⟨cs_stitch hLn hxs, List.forall_mem_cons.mpr ⟨cs_sequence hLn hxs, List.forall_mem_cons.mpr ⟨cs_changes hLn hxs, List.forall_mem_cons.mpr ⟨cs_changesAnew hLn hxs, List.forall_mem_cons.mpr ⟨cs_jumps hLn hxs, List.forall_mem_cons.mpr ⟨cs_ofOrder hLn hxs, List.forall_mem_cons.mpr ⟨cs_shadeOf hLn hxs, List.forall_mem_cons.mpr ⟨cs_ofMachine hLn hxs, List.forall_mem_cons.mpr ⟨cs_left hLn hxs, fun q hq => by cases hq⟩⟩⟩⟩⟩⟩⟩⟩⟩⟩⟩⟩⟩⟩⟩⟩⟩⟩⟩⟩⟩⟩⟩
set_option maxHeartbeats 8000000 in
set_option maxRecDepth 100000 in
theorem law_begin {xs : Nat → Int} {Ln : Nat} {S0 : Sto} (h10 : S0.1 10 = some (102, Ln) ∧ ∀ j, S0.2.1 10 j = xs j) (hS : ∀ t, t ≠ 10 → S0.1 t = none) : wpL eL_law spL_law wrL (601024, 7293034) krL (cutL (cutT xs Ln)) 3001 150 0 (entL 7 [vT 10]) [] S0 (0, 0) := by
  have s1 := hS 1 (by omega)
  have e1a : (spL_law 1).2.2.1 = 6 := rfl
  have e1b : (spL_law 1).2.2.2.1 = 56 := rfl
  have e2a : (spL_law 2).2.2.1 = 29 := rfl
  have e2b : (spL_law 2).2.2.2.1 = 15170 := rfl
  have e6 : clN 6 = 9 := rfl
  have e7 : clN 7 = 33 := rfl
  repeat' (first
    | ((with_reducible show wpL _ _ _ _ _ _ _ _ _ _ _ _ _); conv => whnf)
    | ((with_reducible show callK _ _ _ _ _ _ _ _ _); conv => whnf)
    | with_reducible apply And.intro
    | refine ⟨1, s1, ?_⟩
    | refine ⟨2, hI1.o2 (by omega), ?_⟩
    | refine ⟨3, hI2.1, ?_⟩
    | refine Exists.intro _ (And.intro rfl ?_)
    | (refine lw_ini1 s1 h10 hS ?_; intro S2 hI1)
    | (refine lw_ini2 hI1 ?_; intro S3 hI2)
    | exact ⟨3000, by omega, 0, _, _, rfl, rfl, ⟨by omega, by omega⟩, ⟨by omega, by omega⟩, hI2.2 _ rfl, rfl⟩
    | ((with_reducible show shortK _ _); conv => whnf)
    | omega
    | exact Nat.le_of_ble_eq_true rfl)
theorem law_G {p : Program} {l : Launch} {e : Env} {s : State} {m : MethodId} {below : List Frame} {meth : Method} {c : Code} {b : Nat} {D : DD} {ad0 : Nat → Nat} {S0 : Sto} {cut : CutF} (C : CX p l s m meth c D ad0 S0 7 code RL false) (hno : ∀ C T, Cond.not (.castable C T) ∈ nC → va_Nc C T s) (hr : meth.sig.returnType = ret) (hlocks : meth.locks = false) (hfoot : ∀ q, foot ad0 S0 s.heap.size q → s.heap.size ≤ q)
    (hVC : ∀ pc I, cut pc = some I → ∀ n L st S c, I n L st S c → ∃ f, stW eL_law spL_law wrL (601024, 7293034) krL (wpL eL_law spL_law wrL (601024, 7293034) krL cut n f) pc L st S c) :
    ∀ n f pc L st S cs, wpL eL_law spL_law wrL (601024, 7293034) krL cut n f pc L st S cs → G p l e room_1 s m #[Value.ref b] below meth c (lw_Z below #[Value.ref b] s) D ad0 S0 7 pc L st S cs := by
  refine wpL_sound (fun pc L st S cs k hk hst => ?_) hVC
  unfold stW at hst
  split at hst
  · rename_i spec n mc ms hw
    obtain ⟨q, hh, hsat, i, hd, hl, hs, hm⟩ := wrT_ok _ (lkW_e hw)
    obtain ⟨as, r, ha, rfl, h, -⟩ := argsK_e hst
    rw [List.append_nil] at h
    obtain ⟨hsm, ⟨h1, h2⟩, h⟩ := shortK_e h
    exact g_callSH (k := k) (kx := fun _ _ _ _ _ => False) (spec := spec) (mc := mc) (ms := ms) C hno hsat hm hl hs (rm1 (Nat.le_of_ble_eq_true rfl)) hd ha hsm h1 h2 h (fun st' S' q => hk _ _ _ _ _ q) (fun ee S' q => q.elim)
  · refine st1_sound C rfl satL_law ⟨by show 1 ≤ 2048; omega, by show 20 ≤ 84000; omega⟩ (okL_law pc) hk (fun _ _ _ _ q => q.elim) (fun _ _ _ _ _ _ _ _ _ _ q => q.elim) (fun v L' st' S' c' hd hkr => ?_) hst
    obtain ⟨hv, k1, k2⟩ := hkr
    intro ad H locs ls hL hC hcl hR hE hS
    rcases hd with ⟨e1, -⟩ | ⟨z, ty, e1, e2, e3, -⟩ | ⟨z, ty, e1, -⟩
    · rw [hv] at e1; cases e1
    · rw [hv] at e1
      cases e1
      subst e2
      refine va_forget (fun q hq => hfoot _ (hS.2.2 q hq)) ?_
      refine W.widen (k := 601024) (n := 7293034) k1 k2 ?_
      exact lw_ret C.1 C.2.1 hr hlocks e3
    · rw [hv] at e1; cases e1
/-- the law, from its entry, for every script -/
theorem whole_start {p : Program} {e : Env} {s : State} {m : MethodId} {below : List Frame} {meth : Method} {c : Code} (l : Launch) (hflags : l.flags = flags0) {b L : Nat} {xs : Nat → Int32} (hL : L ≤ 3584) (C0 : lw_At p s m meth c b L xs) : W p l e room_1 s m #[Value.ref b] below meth c s.heap [] 0 0 (lw_Z below #[Value.ref b] s) (entryFrame m ([Value.ref b] : List Value).toArray 7) := by
  obtain ⟨hx, hb, hr, hml, hown, hts, hX, hbl, hlocks, hgv⟩ := id C0
  obtain ⟨scr, x1, x2, x3, x4, x5⟩ := hX
  obtain ⟨D, hKC, hD2⟩ := KC.of hts
  obtain ⟨S0, hS0⟩ : ∃ S0 : Sto, S0 = (fun t => if t = 10 then some (102, L) else none, fun _ j => (xs j).toInt, fun _ _ => none) := ⟨_, rfl⟩
  have q1 : ∀ t, S0.1 t = if t = 10 then some (102, L) else none := fun t => by rw [hS0]
  have q2 : ∀ t j, S0.2.1 t j = (xs j).toInt := fun t j => by rw [hS0]
  have q3 : ∀ t j, S0.2.2 t j = none := fun t j => by rw [hS0]
  have qn : ∀ t, t ≠ 10 → S0.1 t = none := fun t ht => by rw [q1, if_neg ht]
  have qs : ∀ t x, S0.1 t = some x → t = 10 ∧ x = (102, L) := fun t x e => by
    by_cases z : t = 10
    · rw [q1, if_pos z] at e; exact ⟨z, (Option.some.inj e).symm⟩
    · rw [qn t z] at e; cases e
  have hRep : Rep D (fun _ => b) S0 s.heap := by
    refine ⟨fun t x e => ?_, fun t t' x x' e e' _ => (qs t x e).1.trans (qs t' x' e').1.symm, fun t x j t' _ e => by rw [q3] at e; cases e⟩
    obtain ⟨rfl, rfl⟩ := qs t x e
    refine ⟨by simp [okTy, isA]; omega, ?_⟩
    unfold RepAt
    rw [if_neg (show ¬ (102, L).1 < 8 by show ¬ 102 < 8; omega), if_pos rfl]
    refine ⟨scr, x1, by rw [hD2]; exact x2, x3, x4, fun j hj => ?_⟩
    rw [x5 j hj, q2, Int32.ofInt_toInt]
  have hfoot : ∀ q, foot (fun _ => b) S0 s.heap.size q → s.heap.size ≤ q := by
    rintro q (⟨t, x, e, hne, rfl⟩ | hq)
    · obtain ⟨-, rfl⟩ := qs t x e
      exact absurd rfl hne
    · exact hq
  have htr : l.stackTraces = false := by
    have := hflags
    simp [Launch.stackTraces, hflags, flags0]
  have C : CX p l s m meth c D (fun _ => b) S0 7 code RL false := ⟨hx, hb, hml, hown, ⟨VKw.of hts, hKC, KS.of hts, KT.of hts hgv (fun q hq hf => by have := hfoot q hf; omega)⟩, (fun h => by cases h), htr⟩
  have key := law_G (e := e) (below := below) (b := b) (cut := cutL (cutT (fun j => (xs j).toInt) L)) C (nC_of hgv) hr hlocks hfoot (fun pc I hI n L st S c hi => ⟨150, law_vc hL (fun j => ⟨Int32.le_toInt _, Int32.toInt_le _⟩) (pc, I) (cutL_e hI) n L st S c hi⟩)
  have hwp := law_begin (xs := fun j => (xs j).toInt) (Ln := L) (S0 := S0) ⟨by rw [q1, if_pos rfl], fun j => q2 10 j⟩ qn
  rw [lg_entry_eq]
  exact key 3001 150 0 _ _ _ _ hwp (fun _ => b) s.heap [] _ (ent_loc (as := [vT 10]) rfl) (ent_cls (fun a ha t e => by rw [List.mem_singleton.mp ha] at e; cases e; rw [q1, if_pos rfl]; exact fun z => by cases z)) (fun a ha => by cases ha) hRep Ext.rf va_S.rf
