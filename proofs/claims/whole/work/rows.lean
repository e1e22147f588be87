section
-- ===== PART A: goes FIRST, ahead of the names: the tables' words, and 'selects' of the private methods out of them =====
/-- a private method of a class that the tables say can be made, by its rows of tables_1 -/
def lw_okq (q : MethodName × Nat) : Prop := (q.1.cls ≠ "java/lang/invoke/MethodHandle" ∧ q.1.cls ≠ "java/lang/invoke/VarHandle") ∧ Cond.instantiable q.1.cls q.2 ∈ tables_1 ∧ Cond.privateMethod q.1 ∈ tables_1 ∧ Cond.instanceMethod q.1 ∈ tables_1
theorem lw_p0 : lw_okq (⟨"java/lang/Throwable", "fillInStackTrace", "(I)Ljava/lang/Throwable;"⟩, 6) := ⟨⟨by decide +kernel, by decide +kernel⟩, List.mem_of_getElem? (i := 128) (by decide +kernel), List.mem_of_getElem? (i := 126) (by decide +kernel), List.mem_of_getElem? (i := 127) (by decide +kernel)⟩
theorem lw_p1 : lw_okq (⟨"Threadneedle$Sequencer", "fewestByBegin", "()[I"⟩, 2) := ⟨⟨by decide +kernel, by decide +kernel⟩, List.mem_of_getElem? (i := 244) (by decide +kernel), List.mem_of_getElem? (i := 265) (by decide +kernel), List.mem_of_getElem? (i := 266) (by decide +kernel)⟩
theorem lw_p2 : lw_okq (⟨"Threadneedle$Sequencer", "bestNext", "(II[I)I"⟩, 2) := ⟨⟨by decide +kernel, by decide +kernel⟩, List.mem_of_getElem? (i := 244) (by decide +kernel), List.mem_of_getElem? (i := 269) (by decide +kernel), List.mem_of_getElem? (i := 270) (by decide +kernel)⟩
theorem lw_p3 : lw_okq (⟨"Threadneedle$Sequencer", "mayFollow", "(II)Z"⟩, 2) := ⟨⟨by decide +kernel, by decide +kernel⟩, List.mem_of_getElem? (i := 244) (by decide +kernel), List.mem_of_getElem? (i := 273) (by decide +kernel), List.mem_of_getElem? (i := 274) (by decide +kernel)⟩
theorem lw_p4 : lw_okq (⟨"Threadneedle$Sequencer", "changesBy", "(III[I)I"⟩, 2) := ⟨⟨by decide +kernel, by decide +kernel⟩, List.mem_of_getElem? (i := 244) (by decide +kernel), List.mem_of_getElem? (i := 277) (by decide +kernel), List.mem_of_getElem? (i := 278) (by decide +kernel)⟩
theorem lw_p5 : lw_okq (⟨"Threadneedle$Sequencer", "change", "(II)I"⟩, 2) := ⟨⟨by decide +kernel, by decide +kernel⟩, List.mem_of_getElem? (i := 244) (by decide +kernel), List.mem_of_getElem? (i := 281) (by decide +kernel), List.mem_of_getElem? (i := 282) (by decide +kernel)⟩
theorem lw_p6 : lw_okq (⟨"Threadneedle$Shape", "putStitch", "([III)V"⟩, 5) := ⟨⟨by decide +kernel, by decide +kernel⟩, List.mem_of_getElem? (i := 198) (by decide +kernel), List.mem_of_getElem? (i := 311) (by decide +kernel), List.mem_of_getElem? (i := 312) (by decide +kernel)⟩
theorem lw_p7 : lw_okq (⟨"Threadneedle", "designAt", "(I)LThreadneedle$Design;"⟩, 9) := ⟨⟨by decide +kernel, by decide +kernel⟩, List.mem_of_getElem? (i := 18) (by decide +kernel), List.mem_of_getElem? (i := 455) (by decide +kernel), List.mem_of_getElem? (i := 456) (by decide +kernel)⟩
theorem lw_p8 : lw_okq (⟨"Threadneedle", "orderAt", "(I)LThreadneedle$Order;"⟩, 9) := ⟨⟨by decide +kernel, by decide +kernel⟩, List.mem_of_getElem? (i := 18) (by decide +kernel), List.mem_of_getElem? (i := 509) (by decide +kernel), List.mem_of_getElem? (i := 510) (by decide +kernel)⟩
theorem lw_p9 : lw_okq (⟨"Threadneedle", "machineAt", "(I)LThreadneedle$Machine;"⟩, 9) := ⟨⟨by decide +kernel, by decide +kernel⟩, List.mem_of_getElem? (i := 18) (by decide +kernel), List.mem_of_getElem? (i := 514) (by decide +kernel), List.mem_of_getElem? (i := 515) (by decide +kernel)⟩
theorem lw_p10 : lw_okq (⟨"Threadneedle", "shadeFor", "(LThreadneedle$Order;I)I"⟩, 9) := ⟨⟨by decide +kernel, by decide +kernel⟩, List.mem_of_getElem? (i := 18) (by decide +kernel), List.mem_of_getElem? (i := 529) (by decide +kernel), List.mem_of_getElem? (i := 530) (by decide +kernel)⟩
theorem lw_p11 : lw_okq (⟨"Threadneedle", "sewStretch", "(LThreadneedle$Machine;I)I"⟩, 9) := ⟨⟨by decide +kernel, by decide +kernel⟩, List.mem_of_getElem? (i := 18) (by decide +kernel), List.mem_of_getElem? (i := 546) (by decide +kernel), List.mem_of_getElem? (i := 547) (by decide +kernel)⟩
theorem lw_p12 : lw_okq (⟨"Threadneedle$Machine", "load", "(I)V"⟩, 9) := ⟨⟨by decide +kernel, by decide +kernel⟩, List.mem_of_getElem? (i := 383) (by decide +kernel), List.mem_of_getElem? (i := 566) (by decide +kernel), List.mem_of_getElem? (i := 567) (by decide +kernel)⟩
theorem lw_p13 : lw_okq (⟨"Threadneedle$Machine", "longestAgo", "()I"⟩, 9) := ⟨⟨by decide +kernel, by decide +kernel⟩, List.mem_of_getElem? (i := 383) (by decide +kernel), List.mem_of_getElem? (i := 576) (by decide +kernel), List.mem_of_getElem? (i := 577) (by decide +kernel)⟩
theorem lw_p14 : lw_okq (⟨"ThreadneedleModel", "holds", "(I)Z"⟩, 33) := ⟨⟨by decide +kernel, by decide +kernel⟩, List.mem_of_getElem? (i := 704) (by decide +kernel), List.mem_of_getElem? (i := 824) (by decide +kernel), List.mem_of_getElem? (i := 825) (by decide +kernel)⟩
theorem lw_p15 : lw_okq (⟨"ThreadneedleModel", "laysSequence", "(I)V"⟩, 33) := ⟨⟨by decide +kernel, by decide +kernel⟩, List.mem_of_getElem? (i := 704) (by decide +kernel), List.mem_of_getElem? (i := 836) (by decide +kernel), List.mem_of_getElem? (i := 837) (by decide +kernel)⟩
def lw_privs_1 : List (MethodName × Nat) := [(⟨"java/lang/Throwable", "fillInStackTrace", "(I)Ljava/lang/Throwable;"⟩, 6), (⟨"Threadneedle$Sequencer", "fewestByBegin", "()[I"⟩, 2), (⟨"Threadneedle$Sequencer", "bestNext", "(II[I)I"⟩, 2), (⟨"Threadneedle$Sequencer", "mayFollow", "(II)Z"⟩, 2), (⟨"Threadneedle$Sequencer", "changesBy", "(III[I)I"⟩, 2), (⟨"Threadneedle$Sequencer", "change", "(II)I"⟩, 2), (⟨"Threadneedle$Shape", "putStitch", "([III)V"⟩, 5), (⟨"Threadneedle", "designAt", "(I)LThreadneedle$Design;"⟩, 9), (⟨"Threadneedle", "orderAt", "(I)LThreadneedle$Order;"⟩, 9), (⟨"Threadneedle", "machineAt", "(I)LThreadneedle$Machine;"⟩, 9), (⟨"Threadneedle", "shadeFor", "(LThreadneedle$Order;I)I"⟩, 9), (⟨"Threadneedle", "sewStretch", "(LThreadneedle$Machine;I)I"⟩, 9), (⟨"Threadneedle$Machine", "load", "(I)V"⟩, 9), (⟨"Threadneedle$Machine", "longestAgo", "()I"⟩, 9), (⟨"ThreadneedleModel", "holds", "(I)Z"⟩, 33), (⟨"ThreadneedleModel", "laysSequence", "(I)V"⟩, 33)]
theorem lw_r1 : ∀ q ∈ lw_privs_1, lw_okq q := List.forall_mem_cons.mpr ⟨lw_p0, List.forall_mem_cons.mpr ⟨lw_p1, List.forall_mem_cons.mpr ⟨lw_p2, List.forall_mem_cons.mpr ⟨lw_p3, List.forall_mem_cons.mpr ⟨lw_p4, List.forall_mem_cons.mpr ⟨lw_p5, List.forall_mem_cons.mpr ⟨lw_p6, List.forall_mem_cons.mpr ⟨lw_p7, List.forall_mem_cons.mpr ⟨lw_p8, List.forall_mem_cons.mpr ⟨lw_p9, List.forall_mem_cons.mpr ⟨lw_p10, List.forall_mem_cons.mpr ⟨lw_p11, List.forall_mem_cons.mpr ⟨lw_p12, List.forall_mem_cons.mpr ⟨lw_p13, List.forall_mem_cons.mpr ⟨lw_p14, List.forall_mem_cons.mpr ⟨lw_p15, fun _ h => absurd h List.not_mem_nil⟩⟩⟩⟩⟩⟩⟩⟩⟩⟩⟩⟩⟩⟩⟩⟩
theorem lw_p16 : lw_okq (⟨"ThreadneedleModel", "laysRest", "(I)V"⟩, 33) := ⟨⟨by decide +kernel, by decide +kernel⟩, List.mem_of_getElem? (i := 704) (by decide +kernel), List.mem_of_getElem? (i := 840) (by decide +kernel), List.mem_of_getElem? (i := 841) (by decide +kernel)⟩
theorem lw_p17 : lw_okq (⟨"ThreadneedleModel", "aheadOf", "(II)I"⟩, 33) := ⟨⟨by decide +kernel, by decide +kernel⟩, List.mem_of_getElem? (i := 704) (by decide +kernel), List.mem_of_getElem? (i := 844) (by decide +kernel), List.mem_of_getElem? (i := 845) (by decide +kernel)⟩
theorem lw_p18 : lw_okq (⟨"ThreadneedleModel", "areMet", "(II)Z"⟩, 33) := ⟨⟨by decide +kernel, by decide +kernel⟩, List.mem_of_getElem? (i := 704) (by decide +kernel), List.mem_of_getElem? (i := 848) (by decide +kernel), List.mem_of_getElem? (i := 849) (by decide +kernel)⟩
theorem lw_p19 : lw_okq (⟨"ThreadneedleModel", "has", "(III)Z"⟩, 33) := ⟨⟨by decide +kernel, by decide +kernel⟩, List.mem_of_getElem? (i := 704) (by decide +kernel), List.mem_of_getElem? (i := 852) (by decide +kernel), List.mem_of_getElem? (i := 853) (by decide +kernel)⟩
theorem lw_p20 : lw_okq (⟨"ThreadneedleModel", "wideAt", "(II)I"⟩, 33) := ⟨⟨by decide +kernel, by decide +kernel⟩, List.mem_of_getElem? (i := 704) (by decide +kernel), List.mem_of_getElem? (i := 856) (by decide +kernel), List.mem_of_getElem? (i := 857) (by decide +kernel)⟩
theorem lw_p21 : lw_okq (⟨"ThreadneedleModel", "change", "(III)I"⟩, 33) := ⟨⟨by decide +kernel, by decide +kernel⟩, List.mem_of_getElem? (i := 704) (by decide +kernel), List.mem_of_getElem? (i := 860) (by decide +kernel), List.mem_of_getElem? (i := 861) (by decide +kernel)⟩
theorem lw_p22 : lw_okq (⟨"ThreadneedleModel", "laysStitches", "(II)V"⟩, 33) := ⟨⟨by decide +kernel, by decide +kernel⟩, List.mem_of_getElem? (i := 704) (by decide +kernel), List.mem_of_getElem? (i := 864) (by decide +kernel), List.mem_of_getElem? (i := 865) (by decide +kernel)⟩
theorem lw_p23 : lw_okq (⟨"ThreadneedleModel", "sews", "(IIII)V"⟩, 33) := ⟨⟨by decide +kernel, by decide +kernel⟩, List.mem_of_getElem? (i := 704) (by decide +kernel), List.mem_of_getElem? (i := 868) (by decide +kernel), List.mem_of_getElem? (i := 869) (by decide +kernel)⟩
theorem lw_p24 : lw_okq (⟨"ThreadneedleModel", "isDesign", "(I)Z"⟩, 33) := ⟨⟨by decide +kernel, by decide +kernel⟩, List.mem_of_getElem? (i := 704) (by decide +kernel), List.mem_of_getElem? (i := 889) (by decide +kernel), List.mem_of_getElem? (i := 890) (by decide +kernel)⟩
theorem lw_p25 : lw_okq (⟨"ThreadneedleModel", "isOrder", "(I)Z"⟩, 33) := ⟨⟨by decide +kernel, by decide +kernel⟩, List.mem_of_getElem? (i := 704) (by decide +kernel), List.mem_of_getElem? (i := 897) (by decide +kernel), List.mem_of_getElem? (i := 898) (by decide +kernel)⟩
theorem lw_p26 : lw_okq (⟨"ThreadneedleModel", "isMachine", "(I)Z"⟩, 33) := ⟨⟨by decide +kernel, by decide +kernel⟩, List.mem_of_getElem? (i := 704) (by decide +kernel), List.mem_of_getElem? (i := 901) (by decide +kernel), List.mem_of_getElem? (i := 902) (by decide +kernel)⟩
theorem lw_p27 : lw_okq (⟨"ThreadneedleModel", "isFit", "(II)Z"⟩, 33) := ⟨⟨by decide +kernel, by decide +kernel⟩, List.mem_of_getElem? (i := 704) (by decide +kernel), List.mem_of_getElem? (i := 905) (by decide +kernel), List.mem_of_getElem? (i := 906) (by decide +kernel)⟩
theorem lw_p28 : lw_okq (⟨"ThreadneedleModel", "manyOf", "(II)I"⟩, 33) := ⟨⟨by decide +kernel, by decide +kernel⟩, List.mem_of_getElem? (i := 704) (by decide +kernel), List.mem_of_getElem? (i := 909) (by decide +kernel), List.mem_of_getElem? (i := 910) (by decide +kernel)⟩
theorem lw_p29 : lw_okq (⟨"ThreadneedleModel", "colourAt", "(II)I"⟩, 33) := ⟨⟨by decide +kernel, by decide +kernel⟩, List.mem_of_getElem? (i := 704) (by decide +kernel), List.mem_of_getElem? (i := 913) (by decide +kernel), List.mem_of_getElem? (i := 914) (by decide +kernel)⟩
theorem lw_p30 : lw_okq (⟨"ThreadneedleModel", "shadeFor", "(II)I"⟩, 33) := ⟨⟨by decide +kernel, by decide +kernel⟩, List.mem_of_getElem? (i := 704) (by decide +kernel), List.mem_of_getElem? (i := 917) (by decide +kernel), List.mem_of_getElem? (i := 918) (by decide +kernel)⟩
theorem lw_p31 : lw_okq (⟨"ThreadneedleModel", "sewsOne", "(I)Z"⟩, 33) := ⟨⟨by decide +kernel, by decide +kernel⟩, List.mem_of_getElem? (i := 704) (by decide +kernel), List.mem_of_getElem? (i := 925) (by decide +kernel), List.mem_of_getElem? (i := 926) (by decide +kernel)⟩
def lw_privs_2 : List (MethodName × Nat) := [(⟨"ThreadneedleModel", "laysRest", "(I)V"⟩, 33), (⟨"ThreadneedleModel", "aheadOf", "(II)I"⟩, 33), (⟨"ThreadneedleModel", "areMet", "(II)Z"⟩, 33), (⟨"ThreadneedleModel", "has", "(III)Z"⟩, 33), (⟨"ThreadneedleModel", "wideAt", "(II)I"⟩, 33), (⟨"ThreadneedleModel", "change", "(III)I"⟩, 33), (⟨"ThreadneedleModel", "laysStitches", "(II)V"⟩, 33), (⟨"ThreadneedleModel", "sews", "(IIII)V"⟩, 33), (⟨"ThreadneedleModel", "isDesign", "(I)Z"⟩, 33), (⟨"ThreadneedleModel", "isOrder", "(I)Z"⟩, 33), (⟨"ThreadneedleModel", "isMachine", "(I)Z"⟩, 33), (⟨"ThreadneedleModel", "isFit", "(II)Z"⟩, 33), (⟨"ThreadneedleModel", "manyOf", "(II)I"⟩, 33), (⟨"ThreadneedleModel", "colourAt", "(II)I"⟩, 33), (⟨"ThreadneedleModel", "shadeFor", "(II)I"⟩, 33), (⟨"ThreadneedleModel", "sewsOne", "(I)Z"⟩, 33)]
theorem lw_r2 : ∀ q ∈ lw_privs_2, lw_okq q := List.forall_mem_cons.mpr ⟨lw_p16, List.forall_mem_cons.mpr ⟨lw_p17, List.forall_mem_cons.mpr ⟨lw_p18, List.forall_mem_cons.mpr ⟨lw_p19, List.forall_mem_cons.mpr ⟨lw_p20, List.forall_mem_cons.mpr ⟨lw_p21, List.forall_mem_cons.mpr ⟨lw_p22, List.forall_mem_cons.mpr ⟨lw_p23, List.forall_mem_cons.mpr ⟨lw_p24, List.forall_mem_cons.mpr ⟨lw_p25, List.forall_mem_cons.mpr ⟨lw_p26, List.forall_mem_cons.mpr ⟨lw_p27, List.forall_mem_cons.mpr ⟨lw_p28, List.forall_mem_cons.mpr ⟨lw_p29, List.forall_mem_cons.mpr ⟨lw_p30, List.forall_mem_cons.mpr ⟨lw_p31, fun _ h => absurd h List.not_mem_nil⟩⟩⟩⟩⟩⟩⟩⟩⟩⟩⟩⟩⟩⟩⟩⟩
theorem lw_p32 : lw_okq (⟨"ThreadneedleModel", "head", "(II)I"⟩, 33) := ⟨⟨by decide +kernel, by decide +kernel⟩, List.mem_of_getElem? (i := 704) (by decide +kernel), List.mem_of_getElem? (i := 929) (by decide +kernel), List.mem_of_getElem? (i := 930) (by decide +kernel)⟩
theorem lw_p33 : lw_okq (⟨"ThreadneedleModel", "leaves", "(I)V"⟩, 33) := ⟨⟨by decide +kernel, by decide +kernel⟩, List.mem_of_getElem? (i := 704) (by decide +kernel), List.mem_of_getElem? (i := 933) (by decide +kernel), List.mem_of_getElem? (i := 934) (by decide +kernel)⟩
theorem lw_p34 : lw_okq (⟨"ThreadneedleModel", "wastes", "(I)I"⟩, 33) := ⟨⟨by decide +kernel, by decide +kernel⟩, List.mem_of_getElem? (i := 704) (by decide +kernel), List.mem_of_getElem? (i := 945) (by decide +kernel), List.mem_of_getElem? (i := 946) (by decide +kernel)⟩
theorem lw_p35 : lw_okq (⟨"ThreadneedleModel", "isCovered", "(IIII)Z"⟩, 33) := ⟨⟨by decide +kernel, by decide +kernel⟩, List.mem_of_getElem? (i := 704) (by decide +kernel), List.mem_of_getElem? (i := 981) (by decide +kernel), List.mem_of_getElem? (i := 982) (by decide +kernel)⟩
def lw_privs_3 : List (MethodName × Nat) := [(⟨"ThreadneedleModel", "head", "(II)I"⟩, 33), (⟨"ThreadneedleModel", "leaves", "(I)V"⟩, 33), (⟨"ThreadneedleModel", "wastes", "(I)I"⟩, 33), (⟨"ThreadneedleModel", "isCovered", "(IIII)Z"⟩, 33)]
theorem lw_r3 : ∀ q ∈ lw_privs_3, lw_okq q := List.forall_mem_cons.mpr ⟨lw_p32, List.forall_mem_cons.mpr ⟨lw_p33, List.forall_mem_cons.mpr ⟨lw_p34, List.forall_mem_cons.mpr ⟨lw_p35, fun _ h => absurd h List.not_mem_nil⟩⟩⟩⟩
def lw_privs : List (MethodName × Nat) := lw_privs_1 ++ (lw_privs_2 ++ (lw_privs_3))
def lw_tbl : List Cond := k2_sels lw_privs ++ tables_1
theorem lw_privs_ok : ∀ q ∈ lw_privs, lw_okq q := by
  show ∀ q ∈ lw_privs_1 ++ (lw_privs_2 ++ (lw_privs_3)), lw_okq q
  exact List.forall_mem_append.mpr ⟨lw_r1, List.forall_mem_append.mpr ⟨lw_r2, lw_r3⟩⟩
/-! ===== BEGIN words of one list among another's, by their places ===== -/
theorem goodIn_r {big : List Cond} (ws : List Cond) (ps : List Nat) (hp : ws = ps.filterMap (fun i => big[i]?)) (h : ws.all goodWord = true) : GoodIn big ws := by
  intro w hw
  have h1 := List.all_eq_true.mp h w hw
  rw [hp] at hw
  obtain ⟨i, -, hi⟩ := List.mem_filterMap.mp hw
  have hm : w ∈ big := by first | exact List.mem_of_getElem? hi | exact List.getElem?_mem hi
  exact ⟨hm, good_of_word h1⟩
theorem goodIn_app {big a b : List Cond} (ha : GoodIn big a) (hb : GoodIn big b) : GoodIn big (a ++ b) := fun w h => (List.mem_append.mp h).elim (ha w) (hb w)
theorem goodIn_ca {big a b : List Cond} {c : Cond} (ha : GoodIn big (c :: a)) (hb : GoodIn big b) : GoodIn big (c :: (a ++ b)) := fun w h => (List.mem_cons.mp h).elim (fun e => ha w (List.mem_cons.mpr (Or.inl e))) (fun h => (List.mem_append.mp h).elim (fun h => ha w (List.mem_cons.mpr (Or.inr h))) (hb w))
theorem goodIn_sub {big ws : List Cond} (hm : ∀ w ∈ ws, w ∈ big) (h : ws.all goodWord = true) : GoodIn big ws := fun w hw => ⟨hm w hw, good_of_word (List.all_eq_true.mp h w hw)⟩
/-! ===== END ===== -/
/-! ===== BEGIN exceptions that leave a method, and their catching by the caller (launches without stack traces) ===== -/
section VXA
/-! The laws vx_back, vx_callV, vx_callS, vx_callSW, vx_throw0, vx_throwS follow proofs of the library, with one case more: JvmDerived/Free/Laws.lean (Back.of_free), Shelf42/LK1.lean (callV, callS), Shelf/KitTraced.lean (throwNew0V, throwNewS). -/
/-- where a method has thrown q: the class by its name, the cell, what was written, the world -/
def vx_T (XC : String → State → State → Prop) (st : State) (q : Addr) (t : State) (mc ms : Nat) (free : Addr → Prop) : Prop :=
  ∃ (E : String) (ce : Cell) (L : List Loc), XC E st t ∧ t.heap[q]? = some ce ∧ ce.vm = .none ∧ st.vm.findClass E = some ce.cls ∧ st.WarmedH t.vm ∧ st.sameButNew ({ t with vm := st.vm } : State) L mc ms ∧ ∀ z ∈ L, free z.base
def vx_Q (Qc : Array Value → State → Outcome → State → Prop) (XC : String → State → State → Prop) (mc ms : Nat) (free : Addr → Prop) : Array Value → State → Outcome → State → Prop := fun a st o t =>
  (Qc a st o t ∧ ∃ L, FrameEnd st o t L mc ms ∧ ∀ q ∈ L, free q.base) ∨ ∃ q, o = .threw q ∧ vx_T XC st q t mc ms free
/-- a callee that returns or throws -/
def vx_Met (l : Launch) (y : MethodName) (ws : List Cond) (rm : Room) (Pc : Array Value → State → Prop) (Qc : Array Value → State → Outcome → State → Prop) (XC : String → State → State → Prop) (mc ms : Nat) (free : Addr → Prop) : Prop :=
  MetFree l y (headSpec ws rm) Pc (fun _ _ _ _ _ => True) (vx_Q Qc XC mc ms free)
def vx_Post (XC : String → State → State → Prop) (mc ms : Nat) (free : Addr → Prop) : Pt → Array Value → Addr → Pt → Prop := fun A a q B =>
  ∃ (g : JFrame) (mk : MethodId) (t : State) (L : List Loc) (E : String) (ce : Cell), B.U.heap = t.heap ∧ B.U.vm = t.vm ∧ XC E (A.U.calling g mk a) t ∧ t.heap[q]? = some ce ∧ ce.vm = .none ∧ A.U.vm.findClass E = some ce.cls ∧ B.locs = A.locs ++ L ∧ (∀ z ∈ L, free z.base) ∧ B.cells = A.cells + mc ∧ B.slots = A.slots + ms
def vx_Back (l : Launch) (R : Room) (p : Program) (e : Env) (below : List Frame) (s : State) (sargs : Array Value) (y : MethodName) (len W9 : Nat)
    (Pre : Pt → Array Value → Prop) (Post : Pt → Array Value → Option Value → Pt → Prop) (PostX : Pt → Array Value → Addr → Pt → Prop) : Prop :=
  ∀ (m : MethodId) (meth : Method) (c : Code) (A : Pt) (g : JFrame) (ig : Instr) (mk : MethodId) (a : Array Value),
    Stand p l e R s m sargs below meth c A.U A.locs A.cells A.slots → g.method = m → g.locals.size = c.maxLocals → decode c.code g.pc = .ok (ig, len) →
    2 * g.monitorRoom + (g.stack.map fun v => v.category).sum ≤ W9 → A.U.methodNamed? y = some mk → Pre A a →
    (∃ (v : Option Value) (B : Pt), Stand p l e R s m sargs below meth c B.U B.locs B.cells B.slots ∧ Post A a v B ∧
      Steps p.tables e below (doInvoke e (A.U.setTop g) [] mk a).1 (B.U.setTop { g with pc := g.pc + len, stack := v.toList ++ g.stack })) ∨
    (∃ (q : Addr) (B : Pt), Stand p l e R s m sargs below meth c B.U B.locs B.cells B.slots ∧ PostX A a q B ∧
      Steps p.tables e below (doInvoke e (A.U.setTop g) [] mk a).1 ((B.U.setTop g).pushFrame (.throwing q)))
section Payer
variable {l : Launch} {R : Room} {p : Program} {e : Env} {below : List Frame} {s : State} {sargs : Array Value} {y : MethodName} {len W9 : Nat}
theorem vx_back {ws : List Cond} {rm : Room} {Pc : Array Value → State → Prop} {Qc : Array Value → State → Outcome → State → Prop} {XC : String → State → State → Prop} {mc ms : Nat} {free : Addr → Prop} {bytes : ByteArray} {maxL : Nat} {ret : Option FieldType}
    (hM : vx_Met l y ws rm Pc Qc XC mc ms free) (hblind : FrameBlind Pc) (hrc : rm.cells = mc) (hrs : rm.slots = ms)
    (hframes : rm.frames + 1 ≤ R.frames) (hlocals : W9 + (maxL + 11) + rm.locals ≤ R.locals)
    (hws : ∀ w ∈ ws, ∀ a' U, s.WarmedH U.vm → w.before a' U = true) (hcode : Cond.code y bytes maxL ret ∈ ws) (hinit : ∀ a' U, s.WarmedH U.vm → (Cond.initialized y.cls).before a' U = true) :
    vx_Back l R p e below s sargs y len W9 (PreOf R mc ms Pc) (PostOf Qc mc ms free) (vx_Post XC mc ms free) := by
  intro m meth c A g ig mk a X hg hsize hdg hW hn hp
  have h1 : (headSpec ws rm).pre.before a A.U = true := atoms_intro fun w hw => hws w hw _ _ X.warmed
  have h2 : (Cond.code y bytes maxL ret).before a A.U = true := hws _ hcode _ _ X.warmed
  have h3 : (Cond.initialized y.cls).before a A.U = true := hinit _ _ X.warmed
  have h4 : A.cells + (headSpec ws rm).room.cells ≤ R.cells := by rw [show (headSpec ws rm).room.cells = mc from hrc]; exact hp.1
  have h5 : A.slots + (headSpec ws rm).room.slots ≤ R.slots := by rw [show (headSpec ws rm).room.slots = ms from hrs]; exact hp.2.1
  have hPc : Pc a (A.U.calling g mk a) := hblind _ _ _ _ hp.2.2
  obtain ⟨U, Ls, c0, s0⟩ := A
  dsimp only [Pt.U, Pt.locs, Pt.cells, Pt.slots] at h1 h2 h3 h4 h5 X hn hPc ⊢
  obtain ⟨methY, cY, hmY, hcY, -, hlY, -, -, -, -⟩ := Cond.code_spec hn h2
  obtain ⟨kY, hkY, -⟩ := className_of_methodNamed hn
  have hinitY : kY.init = .initialized := Cond.initialized_spec (findClass_of_methodNamed hn) hkY h3
  have h : At U g.method c below := by rw [hg]; exact X.here
  have hlocals9 : W9 + (maxL + 11) + (headSpec ws rm).room.locals ≤ R.locals := hlocals
  have happ : (headSpec ws rm).appliesLoose y e.platform (U.calling g mk a) = true :=
    Spec.appliesLoose_calling (g := g) h hdg hn hkY hinitY
      (X.room_calling (g := g) (R' := (headSpec ws rm).room) hsize hmY hcY hframes (by rw [hlY]; omega) h4 h5) h1
  obtain ⟨mid, hmid⟩ := h.above
  have hfr : (U.setTop g).frames = (.java g :: mid) ++ below := by rw [State.frames_setTop' g h.top, hmid]; rfl
  obtain ⟨o, s₂, hsteps, -, hend, hq⟩ := Steps.callFree hM p X.admits X.cas X.clock (acts := []) hfr happ hPc trivial
  have hq' : vx_Q Qc XC mc ms free a (U.calling g mk a) o s₂ := hq
  rw [State.frames_setTop' g h.top] at hend
  obtain ⟨g₀, hg0⟩ := Option.isSome_iff_exists.mp h.top
  obtain ⟨r, hr⟩ := State.topJava?_eq_some.mp hg0
  have hr' : (({ U with heap := s₂.heap, slotsUsed := s₂.slotsUsed } : State).setVm s₂.vm).frames = .java g₀ :: r := hr
  rcases hq' with ⟨hqc, L, hfe, hL⟩ | ⟨q, rfl, E, ce, L, hx, hce, hcv, hcl, hW₂, hsm, hL⟩
  · obtain ⟨⟨v, rfl⟩, hW₂, e2, q2, q3, q4, q5, q6⟩ := id hfe
    have e3 : s₂ = ({ (U.calling g mk a).setFrames s₂.frames with heap := s₂.heap, slotsUsed := s₂.slotsUsed } : State).setVm s₂.vm := by
      have : s₂ = ({ s₂ with vm := (U.calling g mk a).vm } : State).setVm s₂.vm := rfl
      rw [e2] at this
      exact this
    obtain ⟨c₂, i₂, len₂, hc₂, hd₂, hf₂⟩ := hend
    have hW' : U.WarmedH s₂.vm := hW₂
    have hcc : c₂ = c := by
      have h1 : s₂.code? g.method = U.code? g.method := by
        rw [State.code?_eq, State.code?_eq, hW'.alike.method?]
      exact Option.some.inj (hc₂.symm.trans (h1.trans h.code))
    subst hcc
    have hlen : len₂ = len := by rw [hdg] at hd₂; cases hd₂; rfl
    subst hlen
    have hs₂ : s₂ = (({ U with heap := s₂.heap, slotsUsed := s₂.slotsUsed } : State).setVm s₂.vm).setTop { g with pc := g.pc + len₂, stack := v.toList ++ g.stack } := by
      refine e3.trans ?_
      rw [hf₂, State.calling_eq h.top, State.setFrames_setFrames, State.setTop_of_frames _ hr', hr]
      rfl
    have hsame : U.sameButNew ({ U with heap := s₂.heap, slotsUsed := s₂.slotsUsed } : State) L mc ms := by
      refine ⟨?_, q2, q3, q4, q5, q6⟩
      obtain ⟨t, ht, -⟩ := State.frames_cons hr
      show ({ U with heap := s₂.heap, slotsUsed := s₂.slotsUsed } : State) = { U.setFrames U.frames with heap := s₂.heap, slotsUsed := s₂.slotsUsed }
      rw [State.setFrames_self ht]
    subst hg
    refine Or.inl ⟨v, ⟨(({ U with heap := s₂.heap, slotsUsed := s₂.slotsUsed } : State).setVm s₂.vm), Ls ++ L, c0 + mc, s0 + ms⟩,
      ⟨X.admits, X.cas, X.clock, X.frames, X.room, X.hears, X.method, X.code, (X.here.setHeapUsed s₂.heap s₂.slotsUsed).setVm hW'.alike, X.tail, State.WarmedH.trans X.warmed hW', X.limits, X.bytes, X.same.trans (hsame.setVm s.vm)⟩,
      ⟨g, mk, s₂, L, rfl, rfl, hqc, rfl, hL, rfl, rfl⟩, ?_⟩
    show Steps p.tables e below _ ((({ U with heap := s₂.heap, slotsUsed := s₂.slotsUsed } : State).setVm s₂.vm).setTop { g with pc := g.pc + len₂, stack := v.toList ++ g.stack })
    rw [← hs₂]
    exact hsteps
  · obtain ⟨e2, q2, q3, q4, q5, q6⟩ := id hsm
    have e3 : s₂ = ({ (U.calling g mk a).setFrames s₂.frames with heap := s₂.heap, slotsUsed := s₂.slotsUsed } : State).setVm s₂.vm := by
      have : s₂ = ({ s₂ with vm := (U.calling g mk a).vm } : State).setVm s₂.vm := rfl
      rw [e2] at this
      exact this
    have hf₂ : s₂.frames = .throwing q :: .java g :: U.frames.tail := hend
    have hW' : U.WarmedH s₂.vm := hW₂
    have hs₂ : s₂ = ((({ U with heap := s₂.heap, slotsUsed := s₂.slotsUsed } : State).setVm s₂.vm).setTop g).pushFrame (.throwing q) := by
      refine e3.trans ?_
      rw [hf₂, State.calling_eq h.top, State.setFrames_setFrames, State.pushFrame, State.frames_setTop _ hr', State.setTop_of_frames _ hr', State.setFrames_setFrames, hr]
      rfl
    have hsame : U.sameButNew ({ U with heap := s₂.heap, slotsUsed := s₂.slotsUsed } : State) L mc ms := by
      refine ⟨?_, q2, q3, q4, q5, q6⟩
      obtain ⟨t, ht, -⟩ := State.frames_cons hr
      show ({ U with heap := s₂.heap, slotsUsed := s₂.slotsUsed } : State) = { U.setFrames U.frames with heap := s₂.heap, slotsUsed := s₂.slotsUsed }
      rw [State.setFrames_self ht]
    subst hg
    refine Or.inr ⟨q, ⟨(({ U with heap := s₂.heap, slotsUsed := s₂.slotsUsed } : State).setVm s₂.vm), Ls ++ L, c0 + mc, s0 + ms⟩,
      ⟨X.admits, X.cas, X.clock, X.frames, X.room, X.hears, X.method, X.code, (X.here.setHeapUsed s₂.heap s₂.slotsUsed).setVm hW'.alike, X.tail, State.WarmedH.trans X.warmed hW', X.limits, X.bytes, X.same.trans (hsame.setVm s.vm)⟩,
      ⟨g, mk, s₂, L, E, ce, rfl, rfl, hx, hce, hcv, hcl, rfl, hL, rfl, rfl⟩, ?_⟩
    show Steps p.tables e below _ (((({ U with heap := s₂.heap, slotsUsed := s₂.slotsUsed } : State).setVm s₂.vm).setTop g).pushFrame (.throwing q))
    rw [← hs₂]
    exact hsteps
end Payer
section Calls
variable {p : Program} {l : Launch} {e : Env} {R : Room} {s : State} {m : MethodId} {args : Array Value} {below : List Frame} {meth : Method} {c : Code} {T : State} {locs : List Loc} {cells slots : Nat}
theorem vx_callV (X : Stand p l e R s m args below meth c T locs cells slots) (hexec : p.tables.exec = Jvm.exec) {own C : String} {index : Nat} {y : MethodName} {bytes : ByteArray} {maxL : Nat} {ret : Option FieldType}
    (hown : s.vm.findClass own = some m.cls) (hlink : (Cond.methodLink own index y).before args s = true) (hinst : (Cond.instanceMethod y).before args s = true) (hsel : (Cond.selects C y y).before args s = true)
    (hcode : (Cond.code y bytes maxL ret).before args s = true) (hy : y.cls ≠ "java/lang/invoke/MethodHandle" ∧ y.cls ≠ "java/lang/invoke/VarHandle")
    {W9 : Nat} {Pre : Pt → Array Value → Prop} {Post : Pt → Array Value → Option Value → Pt → Prop} {PostX : Pt → Array Value → Addr → Pt → Prop} (hK : vx_Back l R p e below s args y 3 W9 Pre Post PostX)
    {b : Addr} {cellB : Cell} (hcell : T.heap[b]? = some cellB) (hobj : cellB.vm.isStatics = false) (hcls : s.vm.findClass C = some cellB.cls)
    {g : JFrame} (hg : g.method = m) (hsize : g.locals.size = c.maxLocals) {argsL rest : List Value} (hlen : ∀ sig, parseMethodDescriptor y.desc = some sig → argsL.length = sig.parameters.length)
    (hstack : g.stack = argsL.reverse ++ .ref b :: rest) (hW : 2 * g.monitorRoom + (rest.map fun v => v.category).sum ≤ W9) (hdg : decode c.code g.pc = .ok (.invokevirtual index, 3))
    (hpre : ∀ vm₁, s.WarmedH vm₁ → Pre ⟨T.setVm vm₁, locs, cells, slots⟩ (Value.ref b :: argsL).toArray) :
    (∃ (v : Option Value) (vm₁ : Vm) (B : Pt), s.WarmedH vm₁ ∧ Stand p l e R s m args below meth c B.U B.locs B.cells B.slots ∧ Post ⟨T.setVm vm₁, locs, cells, slots⟩ (Value.ref b :: argsL).toArray v B ∧
      ∀ target, Steps p.tables e below (B.U.setTop { g with pc := g.pc + 3, stack := v.toList ++ rest }) target → Steps p.tables e below (T.setTop g) target) ∨
    (∃ (q : Addr) (vm₁ : Vm) (B : Pt), s.WarmedH vm₁ ∧ Stand p l e R s m args below meth c B.U B.locs B.cells B.slots ∧ PostX ⟨T.setVm vm₁, locs, cells, slots⟩ (Value.ref b :: argsL).toArray q B ∧
      Steps p.tables e below (T.setTop g) ((B.U.setTop { g with stack := rest }).pushFrame (.throwing q))) := by
  obtain ⟨mk, methM, hnamed, hmethM, hstM, habM⟩ := Cond.instanceMethod_spec hinst
  obtain ⟨methM', cM, hmethM', -, -, -, -, -, -, hsigM⟩ := Cond.code_spec hnamed hcode
  cases hmethM.symm.trans hmethM'
  obtain ⟨c2, r2, m2, q1, q2, q3, q4, kP, hkP, hkPi⟩ := Cond.selects_spec hsel
  cases hcls.symm.trans q1
  cases (State.methodFound?_of_named hnamed hy).symm.trans q2
  cases hnamed.symm.trans q3
  have hselP : selectMethod e.platform s.vm cellB.cls mk = .method mk := by rw [Launch.admits_selectMethod X.admits]; exact q4
  obtain ⟨vm₁, X₁, hstep₁⟩ := X.invokevirtual hexec hown hlink hnamed hmethM hstM hkP hkPi hy (a := b) (cell := cellB) hcell
    (fun z h => by rw [h] at hobj; cases hobj) hselP hmethM habM hkP hkPi (g := g) hg (argsL := argsL) (rest := rest) (hlen _ hsigM) hstack hdg
  rcases hK m meth c ⟨T.setVm vm₁, locs, cells, slots⟩ { g with stack := rest } (.invokevirtual index) mk (Value.ref b :: argsL).toArray X₁ hg hsize hdg hW (X₁.named hnamed) (hpre vm₁ X₁.warmed) with ⟨v, B, X', hpost, hsteps⟩ | ⟨q, B, X', hpost, hsteps⟩
  · exact Or.inl ⟨v, vm₁, B, X₁.warmed, X', hpost, fun target h => hstep₁ _ fun acts => by rw [doInvoke_state]; exact hsteps.trans h⟩
  · exact Or.inr ⟨q, vm₁, B, X₁.warmed, X', hpost, hstep₁ _ fun acts => by rw [doInvoke_state]; exact hsteps⟩
theorem vx_callS (X : Stand p l e R s m args below meth c T locs cells slots) (hexec : p.tables.exec = Jvm.exec) {own : String} {index : Nat} {y : MethodName} {bytes : ByteArray} {maxL : Nat} {ret : Option FieldType}
    (hown : s.vm.findClass own = some m.cls) (hlink : (Cond.methodLink own index y).before args s = true) (hstat : (Cond.static y).before args s = true) (hinit : (Cond.initialized y.cls).before args s = true)
    (hcode : (Cond.code y bytes maxL ret).before args s = true) (hy : y.cls ≠ "java/lang/invoke/MethodHandle" ∧ y.cls ≠ "java/lang/invoke/VarHandle")
    {W9 : Nat} {Pre : Pt → Array Value → Prop} {Post : Pt → Array Value → Option Value → Pt → Prop} {PostX : Pt → Array Value → Addr → Pt → Prop} (hK : vx_Back l R p e below s args y 3 W9 Pre Post PostX)
    {g : JFrame} (hg : g.method = m) (hsize : g.locals.size = c.maxLocals) {argsL rest : List Value} (hlen : ∀ sig, parseMethodDescriptor y.desc = some sig → argsL.length = sig.parameters.length)
    (hstack : g.stack = argsL.reverse ++ rest) (hW : 2 * g.monitorRoom + (rest.map fun v => v.category).sum ≤ W9) (hdg : decode c.code g.pc = .ok (.invokestatic index, 3))
    (hpre : ∀ vm₁, s.WarmedH vm₁ → Pre ⟨T.setVm vm₁, locs, cells, slots⟩ argsL.toArray) :
    (∃ (v : Option Value) (vm₁ : Vm) (B : Pt), s.WarmedH vm₁ ∧ Stand p l e R s m args below meth c B.U B.locs B.cells B.slots ∧ Post ⟨T.setVm vm₁, locs, cells, slots⟩ argsL.toArray v B ∧
      ∀ target, Steps p.tables e below (B.U.setTop { g with pc := g.pc + 3, stack := v.toList ++ rest }) target → Steps p.tables e below (T.setTop g) target) ∨
    (∃ (q : Addr) (vm₁ : Vm) (B : Pt), s.WarmedH vm₁ ∧ Stand p l e R s m args below meth c B.U B.locs B.cells B.slots ∧ PostX ⟨T.setVm vm₁, locs, cells, slots⟩ argsL.toArray q B ∧
      Steps p.tables e below (T.setTop g) ((B.U.setTop { g with stack := rest }).pushFrame (.throwing q))) := by
  obtain ⟨mk, hnamed⟩ := Cond.code_named hcode
  obtain ⟨methM, cM, hmethM, -, -, -, -, -, -, hsigM⟩ := Cond.code_spec hnamed hcode
  have hstatic : methM.isStatic = true := Cond.static_spec hnamed hmethM hstat
  obtain ⟨kP, hkP, -⟩ := className_of_methodNamed hnamed
  have hinitP : kP.init = .initialized := Cond.initialized_spec (findClass_of_methodNamed hnamed) hkP hinit
  obtain ⟨vm₁, X₁, hstep₁⟩ := X.invokestatic hexec hown hlink hnamed hmethM hstatic hkP hinitP hy (g := g) hg (argsL := argsL) (rest := rest) (hlen _ hsigM) hstack hdg
  rcases hK m meth c ⟨T.setVm vm₁, locs, cells, slots⟩ { g with stack := rest } (.invokestatic index) mk argsL.toArray X₁ hg hsize hdg hW (X₁.named hnamed) (hpre vm₁ X₁.warmed) with ⟨v, B, X', hpost, hsteps⟩ | ⟨q, B, X', hpost, hsteps⟩
  · exact Or.inl ⟨v, vm₁, B, X₁.warmed, X', hpost, fun target h => hstep₁ _ fun acts => by rw [doInvoke_state]; exact hsteps.trans h⟩
  · exact Or.inr ⟨q, vm₁, B, X₁.warmed, X', hpost, hstep₁ _ fun acts => by rw [doInvoke_state]; exact hsteps⟩
end Calls
theorem vx_cls {s : State} {T : State} {vm₁ : Vm} {E : String} {k : ClassId} (hW : s.WarmedH vm₁) (h : (T.setVm vm₁).vm.findClass E = some k) : s.vm.findClass E = some k := by
  have h1 : vm₁.findClass E = some k := h
  rw [hW.alike.findClass] at h1
  exact h1
/-- the method's frame g, with q thrown over it -/
def vx_W (p : Program) (l : Launch) (e : Env) (R : Room) (s : State) (m : MethodId) (args : Array Value) (below : List Frame) (meth : Method) (c : Code) (H : Heap) (locs : List Loc) (cells slots : Nat) (Q : State → Prop) (g : JFrame) (q : Addr) : Prop :=
  ∀ T : State, T.heap = H → Stand p l e R s m args below meth c T locs cells slots → ∃ t, Steps p.tables e below ((T.setTop g).pushFrame (.throwing q)) t ∧ Q t
def vx_Run (p : Program) (l : Launch) (e : Env) (R : Room) (s : State) (m : MethodId) (args : Array Value) (below : List Frame) (meth : Method) (c : Code) (H : Heap) (locs : List Loc) (cells slots mc ms : Nat) (g : JFrame) (rest : List Value) (Qa : State → Outcome → State → Prop) (XC : String → State → State → Prop) (free : Addr → Prop) : Prop :=
  ∀ T : State, T.heap = H → Stand p l e R s m args below meth c T locs cells slots →
    (∃ (v : Option Value) (st₀ t T' : State) (L : List Loc), st₀.heap = H ∧ Stand p l e R s m args below meth c T' (locs ++ L) (cells + mc) (slots + ms) ∧ (∀ q ∈ L, free q.base) ∧ T'.heap = t.heap ∧ T'.vm = t.vm ∧ Qa st₀ (.returned v) t ∧
      Goes p e below T g T' { g with pc := g.pc + 3, stack := v.toList ++ rest }) ∨
    (∃ (q : Addr) (st₀ t T' : State) (L : List Loc) (E : String) (ce : Cell), st₀.heap = H ∧ Stand p l e R s m args below meth c T' (locs ++ L) (cells + mc) (slots + ms) ∧ (∀ z ∈ L, free z.base) ∧ T'.heap = t.heap ∧ T'.vm = t.vm ∧ XC E st₀ t ∧ t.heap[q]? = some ce ∧ ce.vm = .none ∧ s.vm.findClass E = some ce.cls ∧
      Steps p.tables e below (T.setTop g) ((T'.setTop { g with stack := rest }).pushFrame (.throwing q)))
def vx_X {S : Type} (px : S → Prop) (B : String → S → State → Prop) (A : Nat → Prop) : String → State → State → Prop := fun E st t => ∃ u : S, px u ∧ B E u t ∧ va_F A st t
section Runs
variable {p : Program} {l : Launch} {e : Env} {R : Room} {s : State} {m : MethodId} {args : Array Value} {below : List Frame} {meth : Method} {c : Code} {H : Heap} {locs : List Loc} {cells slots : Nat}
variable {y : MethodName} {bytes cc : ByteArray} {maxL nL mc ms n index : Nat} {ret : Option FieldType} {ws : List Cond} {rm : Room} {Pc : Array Value → State → Prop} {Qc : Array Value → State → Outcome → State → Prop} {XC : String → State → State → Prop} {free : Addr → Prop} {Ts : List Cond} {own C : String} {b : Addr} {As rest : List Value} {g : JFrame}
theorem vx_callBack (cb : CallB R s args own index y bytes maxL ret ws rm mc ms n) (hM : vx_Met l y ws rm Pc Qc XC mc ms free) (hbl : FrameBlind Pc) : vx_Back l R p e below s args y 3 8 (PreOf R mc ms Pc) (PostOf Qc mc ms free) (vx_Post XC mc ms free) := by
  obtain ⟨hrc, hrs, hfr, hlo, hws, hcw, -, hini, -⟩ := cb
  exact vx_back (bytes := bytes) (maxL := maxL) (ret := ret) hM hbl hrc hrs hfr hlo hws hcw (fun a' U hW => word_at hW (Or.inl (by first | rfl | simp [Cond.onTables, Cond.keeps, Cond.steady])) hini)
theorem vx_runV (S : CallFix p m c cc nL s args Ts own) (hM : vx_Met l y ws rm Pc Qc XC mc ms free) (cw : CallW R s args own C index y bytes maxL ret ws rm mc ms n) (hp : PreV s H C b Pc As)
    (hg : g.method = m) (hn : As.length = n) (hsize : g.locals.size = nL) (hstack : g.stack = As.reverse ++ .ref b :: rest) (hW : 2 * g.monitorRoom + (rest.map fun v => v.category).sum ≤ 8) (hdg : decode cc g.pc = .ok (.invokevirtual index, 3)) (hf : cells + mc ≤ R.cells ∧ slots + ms ≤ R.slots) :
    vx_Run p l e R s m args below meth c H locs cells slots mc ms g rest (Qc (Value.ref b :: As).toArray) XC free := by
  have hK : vx_Back l R p e below s args y 3 8 (PreOf R mc ms Pc) (PostOf Qc mc ms free) (vx_Post XC mc ms free) := vx_callBack cw.1 hM hp.1
  obtain ⟨⟨-, -, -, -, -, -, hcode, -, hy, hlen, hl⟩, hin, hse⟩ := cw
  obtain ⟨hx, hb, hml, ho, -⟩ := S
  obtain ⟨-, ⟨cellB, hcB, hoB, hclB⟩, hPc⟩ := hp
  intro T hT X
  rcases vx_callV X hx (C := C) (bytes := bytes) (maxL := maxL) (ret := ret) ho hl hin hse hcode hy hK (by rw [hT]; exact hcB) hoB hclB hg (hsize.trans hml.symm) (argsL := As) (rest := rest) (fun sig h => hn.trans (hlen sig h)) hstack hW (by rw [hb]; exact hdg)
    (fun vm₁ hW₁ => ⟨hf.1, hf.2, hPc (T.setVm vm₁) hT hW₁⟩) with ⟨v, vm₁, ⟨U', l2, c2, s2⟩, hW₁, X', ⟨g', mk, t, L, e1, e2, hq, h1, hL, h2, h3⟩, st⟩ | ⟨q, vm₁, ⟨U', l2, c2, s2⟩, hW₁, X', ⟨g', mk, t, L, E, ce, e1, e2, hq, hce, hcv, hcl, h1, hL, h2, h3⟩, st⟩
  · dsimp only [Pt.U, Pt.locs, Pt.cells, Pt.slots] at X' e1 e2 h1 h2 h3 st
    subst h1; subst h2; subst h3
    exact Or.inl ⟨v, (T.setVm vm₁).calling g' mk (Value.ref b :: As).toArray, t, U', L, hT, X', hL, e1, e2, hq, st⟩
  · dsimp only [Pt.U, Pt.locs, Pt.cells, Pt.slots] at X' e1 e2 h1 h2 h3 st hcl
    subst h1; subst h2; subst h3
    exact Or.inr ⟨q, (T.setVm vm₁).calling g' mk (Value.ref b :: As).toArray, t, U', L, E, ce, hT, X', hL, e1, e2, hq, hce, hcv, vx_cls hW₁ hcl, st⟩
theorem vx_runS (S : CallFix p m c cc nL s args Ts own) (hM : vx_Met l y ws rm Pc Qc XC mc ms free) (cw : CallB R s args own index y bytes maxL ret ws rm mc ms n ∧ (Cond.static y).before args s = true) (hp : PreS s H Pc As)
    (hg : g.method = m) (hn : As.length = n) (hsize : g.locals.size = nL) (hstack : g.stack = As.reverse ++ rest) (hW : 2 * g.monitorRoom + (rest.map fun v => v.category).sum ≤ 8) (hdg : decode cc g.pc = .ok (.invokestatic index, 3)) (hf : cells + mc ≤ R.cells ∧ slots + ms ≤ R.slots) :
    vx_Run p l e R s m args below meth c H locs cells slots mc ms g rest (Qc As.toArray) XC free := by
  have hK : vx_Back l R p e below s args y 3 8 (PreOf R mc ms Pc) (PostOf Qc mc ms free) (vx_Post XC mc ms free) := vx_callBack cw.1 hM hp.1
  obtain ⟨⟨-, -, -, -, -, -, hcode, hini, hy, hlen, hl⟩, hstt⟩ := cw
  obtain ⟨hx, hb, hml, ho, -⟩ := S
  intro T hT X
  rcases vx_callS X hx (bytes := bytes) (maxL := maxL) (ret := ret) ho hl hstt hini hcode hy hK hg (hsize.trans hml.symm) (argsL := As) (rest := rest) (fun sig h => hn.trans (hlen sig h)) hstack hW (by rw [hb]; exact hdg)
    (fun vm₁ hW₁ => ⟨hf.1, hf.2, hp.2 (T.setVm vm₁) hT hW₁⟩) with ⟨v, vm₁, ⟨U', l2, c2, s2⟩, hW₁, X', ⟨g', mk, t, L, e1, e2, hq, h1, hL, h2, h3⟩, st⟩ | ⟨q, vm₁, ⟨U', l2, c2, s2⟩, hW₁, X', ⟨g', mk, t, L, E, ce, e1, e2, hq, hce, hcv, hcl, h1, hL, h2, h3⟩, st⟩
  · dsimp only [Pt.U, Pt.locs, Pt.cells, Pt.slots] at X' e1 e2 h1 h2 h3 st
    subst h1; subst h2; subst h3
    exact Or.inl ⟨v, (T.setVm vm₁).calling g' mk As.toArray, t, U', L, hT, X', hL, e1, e2, hq, st⟩
  · dsimp only [Pt.U, Pt.locs, Pt.cells, Pt.slots] at X' e1 e2 h1 h2 h3 st hcl
    subst h1; subst h2; subst h3
    exact Or.inr ⟨q, (T.setVm vm₁).calling g' mk As.toArray, t, U', L, E, ce, hT, X', hL, e1, e2, hq, hce, hcv, vx_cls hW₁ hcl, st⟩
end Runs
section Rows
variable {p : Program} {l : Launch} {e : Env} {R : Room} {s : State} {m : MethodId} {args : Array Value} {below : List Frame} {meth : Method} {c : Code} {H : Heap} {locs : List Loc} {cells slots : Nat} {Q : State → Prop}
variable {mc ms : Nat} {free : Addr → Prop} {A0 A1 : Nat → Prop} {H0 : Heap} {a : Array Value} {pc : Nat} {ls : Array Slot} {st0 rest : List Value}
theorem vx_keep {st₀ t T' : State} {L : List Loc} (h0 : st₀.heap = H) (e1 : T'.heap = t.heap) (hS : va_S A0 H0 H locs) (hA : ∀ q, q < H.size → A1 q → A0 q) (hf : ∀ q, free q → A0 q) (hL : ∀ q ∈ L, free q.base) (hF : va_F A1 st₀ t) :
    H.size ≤ T'.heap.size ∧ (∀ q : Nat, q < H.size → ¬ A1 q → T'.heap[q]? = H[q]?) ∧ va_S A0 H0 T'.heap (locs ++ L) := by
  obtain ⟨hz, hk⟩ := hF
  rw [h0] at hz hk
  exact ⟨by rw [e1]; exact hz, fun q h1 h2 => by rw [e1]; exact hk q h1 h2,
    ⟨Nat.le_trans hS.1 (by rw [e1]; exact hz), fun q h1 h2 => by rw [e1, hk q (Nat.lt_of_lt_of_le h1 hS.1) (fun z => h2 (hA q (Nat.lt_of_lt_of_le h1 hS.1) z))]; exact hS.2.1 q h1 h2, fun q hq => by
      rcases List.mem_append.mp hq with h | h
      · exact hS.2.2 q h
      · exact hf _ (hL q h)⟩⟩
theorem vx_calli {S SX : Type} {post : Int32 → S → Prop} {px : SX → Prop} {B : S → State → Prop} {BX : String → SX → State → Prop} {AX : Nat → Prop} (hr : vx_Run p l e R s m args below meth c H locs cells slots mc ms (F0 m pc ls st0) rest (va_Qi post B A1 a) (vx_X px BX AX) free) (hS : va_S A0 H0 H locs) (hA : ∀ q, q < H.size → A1 q → A0 q) (hf : ∀ q, free q → A0 q) (hAX : ∀ q, q < H.size → AX q → A0 q)
    (kx : ∀ (E : String) (ce : Cell) (q9 : Addr) (u : SX) (t : State) (H1 : Heap) (locs1 : List Loc), t.heap = H1 → s.vm.Alike t.vm → px u → BX E u t → H.size ≤ H1.size → (∀ q : Nat, q < H.size → ¬ AX q → H1[q]? = H[q]?) → va_S A0 H0 H1 locs1 → H1[q9]? = some ce → ce.vm = .none → s.vm.findClass E = some ce.cls → vx_W p l e R s m args below meth c H1 locs1 (cells + mc) (slots + ms) Q (F0 m pc ls rest) q9)
    (kk : ∀ (r : Int32) (u : S) (t : State) (H1 : Heap) (locs1 : List Loc), t.heap = H1 → s.vm.Alike t.vm → post r u → B u t → H.size ≤ H1.size → (∀ q : Nat, q < H.size → ¬ A1 q → H1[q]? = H[q]?) → va_S A0 H0 H1 locs1 → W p l e R s m args below meth c H1 locs1 (cells + mc) (slots + ms) Q (F0 m (pc + 3) ls (.int r :: rest))) : W p l e R s m args below meth c H locs cells slots Q (F0 m pc ls st0) := by
  intro T hT X
  rcases hr T hT X with ⟨v, st₀, t, T', L, h0, X', hL, e1, e2, ⟨⟨r, u, hv, hp, hb⟩, hF⟩, st⟩ | ⟨q, st₀, t, T', L, E, ce, h0, X', hL, e1, e2, ⟨u, hp, hb, hF⟩, hce, hcv, hcl, st⟩
  · cases hv
    obtain ⟨k1, k2, k3⟩ := vx_keep h0 e1 hS hA hf hL hF
    obtain ⟨t2, a1, b1⟩ := kk r u t T'.heap (locs ++ L) e1.symm (by rw [← e2]; exact X'.warmed.alike) hp hb k1 k2 k3 T' rfl X'
    exact ⟨t2, st t2 a1, b1⟩
  · obtain ⟨k1, k2, k3⟩ := vx_keep h0 e1 hS hAX hf hL hF
    obtain ⟨t2, a1, b1⟩ := kx E ce q u t T'.heap (locs ++ L) e1.symm (by rw [← e2]; exact X'.warmed.alike) hp hb k1 k2 k3 (by rw [e1]; exact hce) hcv hcl T' rfl X'
    exact ⟨t2, st.trans a1, b1⟩
theorem vx_calll {S SX : Type} {post : Int64 → S → Prop} {px : SX → Prop} {B : S → State → Prop} {BX : String → SX → State → Prop} {AX : Nat → Prop} (hr : vx_Run p l e R s m args below meth c H locs cells slots mc ms (F0 m pc ls st0) rest (va_Ql post B A1 a) (vx_X px BX AX) free) (hS : va_S A0 H0 H locs) (hA : ∀ q, q < H.size → A1 q → A0 q) (hf : ∀ q, free q → A0 q) (hAX : ∀ q, q < H.size → AX q → A0 q)
    (kx : ∀ (E : String) (ce : Cell) (q9 : Addr) (u : SX) (t : State) (H1 : Heap) (locs1 : List Loc), t.heap = H1 → s.vm.Alike t.vm → px u → BX E u t → H.size ≤ H1.size → (∀ q : Nat, q < H.size → ¬ AX q → H1[q]? = H[q]?) → va_S A0 H0 H1 locs1 → H1[q9]? = some ce → ce.vm = .none → s.vm.findClass E = some ce.cls → vx_W p l e R s m args below meth c H1 locs1 (cells + mc) (slots + ms) Q (F0 m pc ls rest) q9)
    (kk : ∀ (r : Int64) (u : S) (t : State) (H1 : Heap) (locs1 : List Loc), t.heap = H1 → s.vm.Alike t.vm → post r u → B u t → H.size ≤ H1.size → (∀ q : Nat, q < H.size → ¬ A1 q → H1[q]? = H[q]?) → va_S A0 H0 H1 locs1 → W p l e R s m args below meth c H1 locs1 (cells + mc) (slots + ms) Q (F0 m (pc + 3) ls (.long r :: rest))) : W p l e R s m args below meth c H locs cells slots Q (F0 m pc ls st0) := by
  intro T hT X
  rcases hr T hT X with ⟨v, st₀, t, T', L, h0, X', hL, e1, e2, ⟨⟨r, u, hv, hp, hb⟩, hF⟩, st⟩ | ⟨q, st₀, t, T', L, E, ce, h0, X', hL, e1, e2, ⟨u, hp, hb, hF⟩, hce, hcv, hcl, st⟩
  · cases hv
    obtain ⟨k1, k2, k3⟩ := vx_keep h0 e1 hS hA hf hL hF
    obtain ⟨t2, a1, b1⟩ := kk r u t T'.heap (locs ++ L) e1.symm (by rw [← e2]; exact X'.warmed.alike) hp hb k1 k2 k3 T' rfl X'
    exact ⟨t2, st t2 a1, b1⟩
  · obtain ⟨k1, k2, k3⟩ := vx_keep h0 e1 hS hAX hf hL hF
    obtain ⟨t2, a1, b1⟩ := kx E ce q u t T'.heap (locs ++ L) e1.symm (by rw [← e2]; exact X'.warmed.alike) hp hb k1 k2 k3 (by rw [e1]; exact hce) hcv hcl T' rfl X'
    exact ⟨t2, st.trans a1, b1⟩
theorem vx_callf {S SX : Type} {post : UInt32 → S → Prop} {px : SX → Prop} {B : S → State → Prop} {BX : String → SX → State → Prop} {AX : Nat → Prop} (hr : vx_Run p l e R s m args below meth c H locs cells slots mc ms (F0 m pc ls st0) rest (va_Qf post B A1 a) (vx_X px BX AX) free) (hS : va_S A0 H0 H locs) (hA : ∀ q, q < H.size → A1 q → A0 q) (hf : ∀ q, free q → A0 q) (hAX : ∀ q, q < H.size → AX q → A0 q)
    (kx : ∀ (E : String) (ce : Cell) (q9 : Addr) (u : SX) (t : State) (H1 : Heap) (locs1 : List Loc), t.heap = H1 → s.vm.Alike t.vm → px u → BX E u t → H.size ≤ H1.size → (∀ q : Nat, q < H.size → ¬ AX q → H1[q]? = H[q]?) → va_S A0 H0 H1 locs1 → H1[q9]? = some ce → ce.vm = .none → s.vm.findClass E = some ce.cls → vx_W p l e R s m args below meth c H1 locs1 (cells + mc) (slots + ms) Q (F0 m pc ls rest) q9)
    (kk : ∀ (r : UInt32) (u : S) (t : State) (H1 : Heap) (locs1 : List Loc), t.heap = H1 → s.vm.Alike t.vm → post r u → B u t → H.size ≤ H1.size → (∀ q : Nat, q < H.size → ¬ A1 q → H1[q]? = H[q]?) → va_S A0 H0 H1 locs1 → W p l e R s m args below meth c H1 locs1 (cells + mc) (slots + ms) Q (F0 m (pc + 3) ls (.float r :: rest))) : W p l e R s m args below meth c H locs cells slots Q (F0 m pc ls st0) := by
  intro T hT X
  rcases hr T hT X with ⟨v, st₀, t, T', L, h0, X', hL, e1, e2, ⟨⟨r, u, hv, hp, hb⟩, hF⟩, st⟩ | ⟨q, st₀, t, T', L, E, ce, h0, X', hL, e1, e2, ⟨u, hp, hb, hF⟩, hce, hcv, hcl, st⟩
  · cases hv
    obtain ⟨k1, k2, k3⟩ := vx_keep h0 e1 hS hA hf hL hF
    obtain ⟨t2, a1, b1⟩ := kk r u t T'.heap (locs ++ L) e1.symm (by rw [← e2]; exact X'.warmed.alike) hp hb k1 k2 k3 T' rfl X'
    exact ⟨t2, st t2 a1, b1⟩
  · obtain ⟨k1, k2, k3⟩ := vx_keep h0 e1 hS hAX hf hL hF
    obtain ⟨t2, a1, b1⟩ := kx E ce q u t T'.heap (locs ++ L) e1.symm (by rw [← e2]; exact X'.warmed.alike) hp hb k1 k2 k3 (by rw [e1]; exact hce) hcv hcl T' rfl X'
    exact ⟨t2, st.trans a1, b1⟩
theorem vx_calld {S SX : Type} {post : UInt64 → S → Prop} {px : SX → Prop} {B : S → State → Prop} {BX : String → SX → State → Prop} {AX : Nat → Prop} (hr : vx_Run p l e R s m args below meth c H locs cells slots mc ms (F0 m pc ls st0) rest (va_Qd post B A1 a) (vx_X px BX AX) free) (hS : va_S A0 H0 H locs) (hA : ∀ q, q < H.size → A1 q → A0 q) (hf : ∀ q, free q → A0 q) (hAX : ∀ q, q < H.size → AX q → A0 q)
    (kx : ∀ (E : String) (ce : Cell) (q9 : Addr) (u : SX) (t : State) (H1 : Heap) (locs1 : List Loc), t.heap = H1 → s.vm.Alike t.vm → px u → BX E u t → H.size ≤ H1.size → (∀ q : Nat, q < H.size → ¬ AX q → H1[q]? = H[q]?) → va_S A0 H0 H1 locs1 → H1[q9]? = some ce → ce.vm = .none → s.vm.findClass E = some ce.cls → vx_W p l e R s m args below meth c H1 locs1 (cells + mc) (slots + ms) Q (F0 m pc ls rest) q9)
    (kk : ∀ (r : UInt64) (u : S) (t : State) (H1 : Heap) (locs1 : List Loc), t.heap = H1 → s.vm.Alike t.vm → post r u → B u t → H.size ≤ H1.size → (∀ q : Nat, q < H.size → ¬ A1 q → H1[q]? = H[q]?) → va_S A0 H0 H1 locs1 → W p l e R s m args below meth c H1 locs1 (cells + mc) (slots + ms) Q (F0 m (pc + 3) ls (.double r :: rest))) : W p l e R s m args below meth c H locs cells slots Q (F0 m pc ls st0) := by
  intro T hT X
  rcases hr T hT X with ⟨v, st₀, t, T', L, h0, X', hL, e1, e2, ⟨⟨r, u, hv, hp, hb⟩, hF⟩, st⟩ | ⟨q, st₀, t, T', L, E, ce, h0, X', hL, e1, e2, ⟨u, hp, hb, hF⟩, hce, hcv, hcl, st⟩
  · cases hv
    obtain ⟨k1, k2, k3⟩ := vx_keep h0 e1 hS hA hf hL hF
    obtain ⟨t2, a1, b1⟩ := kk r u t T'.heap (locs ++ L) e1.symm (by rw [← e2]; exact X'.warmed.alike) hp hb k1 k2 k3 T' rfl X'
    exact ⟨t2, st t2 a1, b1⟩
  · obtain ⟨k1, k2, k3⟩ := vx_keep h0 e1 hS hAX hf hL hF
    obtain ⟨t2, a1, b1⟩ := kx E ce q u t T'.heap (locs ++ L) e1.symm (by rw [← e2]; exact X'.warmed.alike) hp hb k1 k2 k3 (by rw [e1]; exact hce) hcv hcl T' rfl X'
    exact ⟨t2, st.trans a1, b1⟩
theorem vx_callv {S SX : Type} {post : S → Prop} {px : SX → Prop} {B : S → State → Prop} {BX : String → SX → State → Prop} {AX : Nat → Prop} (hr : vx_Run p l e R s m args below meth c H locs cells slots mc ms (F0 m pc ls st0) rest (va_Qv post B A1 a) (vx_X px BX AX) free) (hS : va_S A0 H0 H locs) (hA : ∀ q, q < H.size → A1 q → A0 q) (hf : ∀ q, free q → A0 q) (hAX : ∀ q, q < H.size → AX q → A0 q)
    (kx : ∀ (E : String) (ce : Cell) (q9 : Addr) (u : SX) (t : State) (H1 : Heap) (locs1 : List Loc), t.heap = H1 → s.vm.Alike t.vm → px u → BX E u t → H.size ≤ H1.size → (∀ q : Nat, q < H.size → ¬ AX q → H1[q]? = H[q]?) → va_S A0 H0 H1 locs1 → H1[q9]? = some ce → ce.vm = .none → s.vm.findClass E = some ce.cls → vx_W p l e R s m args below meth c H1 locs1 (cells + mc) (slots + ms) Q (F0 m pc ls rest) q9)
    (kk : ∀ (u : S) (t : State) (H1 : Heap) (locs1 : List Loc), t.heap = H1 → s.vm.Alike t.vm → post u → B u t → H.size ≤ H1.size → (∀ q : Nat, q < H.size → ¬ A1 q → H1[q]? = H[q]?) → va_S A0 H0 H1 locs1 → W p l e R s m args below meth c H1 locs1 (cells + mc) (slots + ms) Q (F0 m (pc + 3) ls (rest))) : W p l e R s m args below meth c H locs cells slots Q (F0 m pc ls st0) := by
  intro T hT X
  rcases hr T hT X with ⟨v, st₀, t, T', L, h0, X', hL, e1, e2, ⟨⟨u, hv, hp, hb⟩, hF⟩, st⟩ | ⟨q, st₀, t, T', L, E, ce, h0, X', hL, e1, e2, ⟨u, hp, hb, hF⟩, hce, hcv, hcl, st⟩
  · cases hv
    obtain ⟨k1, k2, k3⟩ := vx_keep h0 e1 hS hA hf hL hF
    obtain ⟨t2, a1, b1⟩ := kk u t T'.heap (locs ++ L) e1.symm (by rw [← e2]; exact X'.warmed.alike) hp hb k1 k2 k3 T' rfl X'
    exact ⟨t2, st t2 a1, b1⟩
  · obtain ⟨k1, k2, k3⟩ := vx_keep h0 e1 hS hAX hf hL hF
    obtain ⟨t2, a1, b1⟩ := kx E ce q u t T'.heap (locs ++ L) e1.symm (by rw [← e2]; exact X'.warmed.alike) hp hb k1 k2 k3 (by rw [e1]; exact hce) hcv hcl T' rfl X'
    exact ⟨t2, st.trans a1, b1⟩
/-- caught by the row x of this method's table; the rows ahead don't take it -/
theorem vx_catch {own name : String} {E : String} {ce : Cell} {q : Addr} (hown : s.vm.findClass own = some m.cls) (pre : List ExceptionTableEntry) (x : ExceptionTableEntry) (suf : List ExceptionTableEntry) (hsplit : c.exceptionTable.toList = pre ++ x :: suf)
    (hpass : ∀ z ∈ pre, covers z pc = false ∨ (z.catchType ≠ 0 ∧ ∃ nm : String, (Cond.classLink own z.catchType nm).before args s = true ∧ va_Nc E nm s)) (hx : covers x pc = true) (h0 : x.catchType ≠ 0)
    (hlink : (Cond.classLink own x.catchType name).before args s = true) (hcast : (Cond.castable E name).before args s = true) (hcell : H[q]? = some ce) (hv : ce.vm = .none) (hcl : s.vm.findClass E = some ce.cls)
    (kk : W p l e R s m args below meth c H locs cells slots Q (F0 m x.handlerPc ls [.ref q])) : vx_W p l e R s m args below meth c H locs cells slots Q (F0 m pc ls rest) q := by
  intro T hT X
  have hpl : e.platform.magicAccessors = ({} : Platform).magicAccessors := by rw [X.admits.platform]
  obtain ⟨c3, c4, hc3, hc4, hasg⟩ := Cond.castable_spec hcast
  cases Option.some.inj (hc3.symm.trans hcl)
  obtain ⟨c5, hc5, hcl5⟩ := Cond.classLink_spec hown hlink e.platform hpl
  cases Option.some.inj (hc4.symm.trans hc5)
  obtain ⟨vm', X', st⟩ := X.thenCaughtThrough q (g := F0 m pc ls rest) rfl (Steps.refl _) (by rw [hT]; exact hcell) (by rw [hv]; rfl) (by obtain ⟨k9, h9, -⟩ := Vm.findClass_spec hcl; exact ⟨k9, h9⟩) pre x suf hsplit
    (fun z hz => by
      rcases hpass z hz with h | ⟨hz0, nm, hl1, hn1⟩
      · exact Or.inl h
      · obtain ⟨c6, hc6, hcl6⟩ := Cond.classLink_spec hown hl1 e.platform hpl
        obtain ⟨a8, b8, h1, h2, h3⟩ := hn1
        cases Option.some.inj (h1.symm.trans hcl)
        cases Option.some.inj (h2.symm.trans hc6)
        exact Or.inr ⟨hz0, _, hcl6, h3⟩) hx (Or.inr ⟨h0, c4, hcl5, hasg⟩)
  obtain ⟨t, a1, b1⟩ := kk (T.setVm vm') hT X'
  exact ⟨t, st.trans a1, b1⟩
end Rows
section Ends
variable {p : Program} {l : Launch} {e : Env} {R : Room} {s : State} {m : MethodId} {args : Array Value} {below : List Frame} {meth : Method} {c : Code} {H : Heap} {locs : List Loc} {cells slots : Nat} {Q : State → Prop}
variable {mc ms : Nat} {free : Addr → Prop} {A0 A1 : Nat → Prop} {H0 : Heap} {a : Array Value} {ls : Array Slot} {st0 rest : List Value}
variable {Qc : Array Value → State → Outcome → State → Prop} {XC : String → State → State → Prop}
/-- what a body that may throw owes at its end -/
def vx_MQ (below : List Frame) (Qc : Array Value → State → Outcome → State → Prop) (XC : String → State → State → Prop) (a : Array Value) (s : State) (mc ms : Nat) (free : Addr → Prop) : State → Prop := fun t =>
  ∃ o, t.status = .running ∧ Ended t below o ∧ vx_Q Qc XC mc ms free a s o t
theorem vx_ret {g : JFrame} {mc ms : Nat} (k : W p l e R s m args below meth c H locs cells slots (MQ below Qc args s mc ms free) g) : W p l e R s m args below meth c H locs cells slots (vx_MQ below Qc XC args s mc ms free) g := by
  intro T hT X
  obtain ⟨t, a1, o, b1, b2, b3, b4⟩ := k T hT X
  exact ⟨t, a1, o, b1, b2, Or.inl ⟨b3, b4⟩⟩
/-- not caught here: it goes on to the caller -/
theorem vx_widen {g : JFrame} {q : Addr} {k n : Nat} (h1 : cells ≤ k) (h2 : slots ≤ n) (kk : vx_W p l e R s m args below meth c H locs k n Q g q) : vx_W p l e R s m args below meth c H locs cells slots Q g q := fun T hT X => kk T hT (stand_widen X h1 h2)
theorem vx_out {pc : Nat} {E : String} {ce : Cell} {q : Addr} {mc ms : Nat} (hout : ∀ x ∈ c.exceptionTable.toList, covers x pc = false) (hlocks : meth.locks = false) (hcell : H[q]? = some ce) (hv : ce.vm = .none) (hcl : s.vm.findClass E = some ce.cls)
    (hx : ∀ t : State, t.heap = H → s.vm.Alike t.vm → XC E s t) (hf : ∀ z ∈ locs, free z.base) (hc : cells ≤ mc) (hs : slots ≤ ms) :
    vx_W p l e R s m args below meth c H locs cells slots (vx_MQ below Qc XC args s mc ms free) (F0 m pc ls rest) q := by
  intro T hT X
  obtain ⟨st1, hrun, hend, hW, hsm⟩ := X.leaveThrown q (g := F0 m pc ls rest) rfl rfl rfl hout hlocks
  have hcell9 : (T.setFrames (.throwing q :: below)).heap[q]? = some ce := by
    show T.heap[q]? = some ce
    rw [hT]; exact hcell
  exact ⟨_, st1, .threw q, hrun, hend, Or.inr ⟨q, rfl, E, ce, locs, hx _ hT hW.alike, hcell9, hv, hcl, hW, hsm.mono hc hs, hf⟩⟩
theorem vx_frame {U : State} {k n : Nat} (h : s.sameButNew ({ U with vm := s.vm } : State) locs k n) : s.heap.size ≤ U.heap.size ∧ ∀ q : Nat, q < s.heap.size → (∀ z ∈ locs, z.base ≠ q) → U.heap[q]? = s.heap[q]? := by
  obtain ⟨-, h2, -, -, -, h6⟩ := h
  refine ⟨h2, fun q hq hz => ?_⟩
  obtain ⟨c9, e1, e2, e3, e4⟩ := h6 q _ (Array.getElem?_eq_getElem hq)
  have hs : c9.slots = (s.heap[q]).slots := Array.ext_getElem? fun i => e4 i fun hm => hz _ hm rfl
  have h9 : c9 = s.heap[q] := by
    rw [hs] at e2
    exact e2
  have e5 : U.heap[q]? = some c9 := e1
  rw [e5, h9, Array.getElem?_eq_getElem hq]
/-- the words of a throw but the four that speak of the heap -/
def vx_no (w : Cond) : Bool := decide (w ≠ .isRef (.static Bundle.tN "UNASSIGNED_STACK" Bundle.steD)) && decide (w ≠ .isRef (.static Bundle.tN "SUPPRESSED_SENTINEL" Bundle.listD)) && decide (w ≠ .laysStatic Bundle.tN "UNASSIGNED_STACK" Bundle.steD) && decide (w ≠ .laysStatic Bundle.tN "SUPPRESSED_SENTINEL" Bundle.listD)
def vx_at0 (own : String) (ic : Nat) (X : String) (names : List String) : List Cond := (Bundle.ownAtoms0 own ic X names).filter vx_no
def vx_atS (own : String) (ic : Nat) (X : String) (names : List String) : List Cond := (Bundle.ownAtoms own ic X names).filter vx_no
/-- a word that the tables alone decide, or a good one -/
def vx_ot (w : Cond) : Bool := w.onTables || goodWord w
theorem vx_ot_at {args a' : Array Value} {s U : State} {w : Cond} (hW : s.WarmedH U.vm) (hvm : s.vm = U.vm) (hg : vx_ot w = true) (h : w.before args s = true) : w.before a' U = true := by
  simp only [vx_ot, Bool.or_eq_true] at hg
  rcases hg with hg | hg
  · exact va_tabs hg hvm h
  · exact word_at hW (good_of_word hg) h
/-- a list's words: the good ones out of the method's own list, the others by premises of their own -/
theorem vx_hat {args : Array Value} {s : State} {L B : List Cond} (h1 : ∀ w ∈ L.filter goodWord, w.before args s = true) (h2 : ∀ w ∈ L.filter (fun w => !goodWord w), w ∈ B) (h3 : ∀ w ∈ B, w.before args s = true) : ∀ w ∈ L, w.before args s = true := by
  intro w hw
  by_cases g : goodWord w = true
  · exact h1 w (List.mem_filter.mpr ⟨hw, g⟩)
  · refine h3 w (h2 w (List.mem_filter.mpr ⟨hw, ?_⟩))
    show (!goodWord w) = true
    cases hgw : goodWord w
    · rfl
    · exact absurd hgw g
theorem vx_c {args : Array Value} {s : State} {w : Cond} {B : List Cond} (h : w.before args s = true) (t : ∀ w ∈ B, w.before args s = true) : ∀ w' ∈ w :: B, w'.before args s = true := fun w' h' => (List.mem_cons.mp h').elim (fun e => by rw [e]; exact h) (t w')
theorem vx_n {args : Array Value} {s : State} : ∀ w ∈ ([] : List Cond), w.before args s = true := fun _ h => nomatch h
theorem vx_own {args : Array Value} {s : State} {L : List Cond} (h1 : ∀ w ∈ L.filter vx_no, w.before args s = true)
    (hU : (Cond.isRef (.static Bundle.tN "UNASSIGNED_STACK" Bundle.steD)).before args s = true) (hN : (Cond.isRef (.static Bundle.tN "SUPPRESSED_SENTINEL" Bundle.listD)).before args s = true)
    (lU : (Cond.laysStatic Bundle.tN "UNASSIGNED_STACK" Bundle.steD).before args s = true) (lN : (Cond.laysStatic Bundle.tN "SUPPRESSED_SENTINEL" Bundle.listD).before args s = true) : ∀ w ∈ L, w.before args s = true := by
  intro w hw
  by_cases e1 : w = .isRef (.static Bundle.tN "UNASSIGNED_STACK" Bundle.steD)
  · rw [e1]; exact hU
  · by_cases e2 : w = .isRef (.static Bundle.tN "SUPPRESSED_SENTINEL" Bundle.listD)
    · rw [e2]; exact hN
    · by_cases e3 : w = .laysStatic Bundle.tN "UNASSIGNED_STACK" Bundle.steD
      · rw [e3]; exact lU
      · by_cases e4 : w = .laysStatic Bundle.tN "SUPPRESSED_SENTINEL" Bundle.listD
        · rw [e4]; exact lN
        · exact h1 w (List.mem_filter.mpr ⟨hw, by unfold vx_no; rw [decide_eq_true e1, decide_eq_true e2, decide_eq_true e3, decide_eq_true e4]; rfl⟩)
/-- where a static field lies, its class's statics cell in H -/
def vx_L (C n d : String) (A : Nat → Prop) (U : State) (H : Heap) : Prop := ∃ (c : ClassId) (k : Class) (i : Nat) (f : Field) (a : Nat) (cell : Cell), U.vm.findClass C = some c ∧ U.fieldFound? C n d = some (c, k, i, f) ∧ f.isStatic = true ∧ k.statics = some a ∧ H[a]? = some cell ∧ cell.vm.isStatics = true ∧ cell.cls = c ∧ f.slot < cell.slots.size ∧ k.staticTypes[f.slot]? = some f.type ∧ ¬ A a
theorem vx_L.moved {C n d : String} {A : Nat → Prop} {u U : State} {H : Heap} (hvm : u.vm.Alike U.vm) (h : vx_L C n d A u H) : vx_L C n d A U H := by
  obtain ⟨c, k, i, f, a, cell, h1, h2, h3, h4, h5, h6, h7, h8, h9, h10⟩ := h
  obtain ⟨k', hi', he⟩ := State.fieldFound?_setVm hvm h2
  exact ⟨c, k', i, f, a, cell, by rw [hvm.findClass]; exact h1, hi', h3, by rw [he]; exact h4, h5, h6, h7, h8, by rw [he]; exact h9, h10⟩
theorem vx_L.kept {C n d : String} {A : Nat → Prop} {U : State} {H H1 : Heap} (h : vx_L C n d A U H) (hq : ∀ a : Nat, a < H.size → ¬ A a → H1[a]? = H[a]?) : vx_L C n d A U H1 := by
  obtain ⟨c, k, i, f, a, cell, h1, h2, h3, h4, h5, h6, h7, h8, h9, h10⟩ := h
  exact ⟨c, k, i, f, a, cell, h1, h2, h3, h4, by rw [hq a (Array.getElem?_eq_some_iff.mp h5).1 h10]; exact h5, h6, h7, h8, h9, h10⟩
theorem vx_L.narrow {C n d : String} {A B : Nat → Prop} {U : State} {H : Heap} (h : vx_L C n d A U H) (hAB : ∀ q, B q → A q) : vx_L C n d B U H := by
  obtain ⟨c, k, i, f, a, cell, h1, h2, h3, h4, h5, h6, h7, h8, h9, h10⟩ := h
  exact ⟨c, k, i, f, a, cell, h1, h2, h3, h4, h5, h6, h7, h8, h9, fun z => h10 (hAB _ z)⟩
theorem vx_L.word {C n d : String} {A : Nat → Prop} {s : State} {args : Array Value} (h : vx_L C n d A s s.heap) : (Cond.laysStatic C n d).before args s = true := by
  obtain ⟨c, k, i, f, a, cell, h1, h2, h3, h4, h5, h6, h7, h8, h9, -⟩ := h
  show (Cond.laysStatic C n d).holds args s none s [] = true
  exact Cond.laysStatic_of h1 h2 h3 h4 h5 h6 h7 h8 h9
/-- .. and what it holds: null or some reference -/
def vx_Zq (C n d : String) (A : Nat → Prop) (U : State) (H : Heap) : Prop := va_Zq C n d A U H ∧ vx_L C n d A U H
theorem vx_Zq.moved {C n d : String} {A : Nat → Prop} {u U : State} {H : Heap} (hvm : u.vm.Alike U.vm) (h : vx_Zq C n d A u H) : vx_Zq C n d A U H := ⟨va_Zq.moved hvm h.1, vx_L.moved hvm h.2⟩
theorem vx_Zq.kept {C n d : String} {A : Nat → Prop} {U : State} {H H1 : Heap} (h : vx_Zq C n d A U H) (hq : ∀ a : Nat, a < H.size → ¬ A a → H1[a]? = H[a]?) : vx_Zq C n d A U H1 := ⟨va_Zq.kept h.1 hq, vx_L.kept h.2 hq⟩
theorem vx_Zq.narrow {C n d : String} {A B : Nat → Prop} {U : State} {H : Heap} (h : vx_Zq C n d A U H) (hAB : ∀ q, B q → A q) : vx_Zq C n d B U H := ⟨va_Zq.narrow h.1 hAB, vx_L.narrow h.2 hAB⟩
theorem vx_Zqof {args : Array Value} {s : State} {C n d : String} {A : Nat → Prop} (hl : (Cond.laysStatic C n d).before args s = true) (hini : (Cond.initialized C).before args s = true) (h : (Cond.isRef (.static C n d)).before args s = true) (hA : ∀ a : Nat, a < s.heap.size → ¬ A a) : vx_Zq C n d A s s.heap := by
  refine ⟨va_Zqof hl hini h hA, ?_⟩
  obtain ⟨c, k, i, f, a, cell, h1, h2, h3, h4, h5, h6, h7, h8, h9⟩ := Cond.laysStatic_spec hl
  exact ⟨c, k, i, f, a, cell, h1, h2, h3, h4, h5, h6, h7, h8, h9, hA a (Array.getElem?_eq_some_iff.mp h5).1⟩
theorem vx_isRef {C n d : String} {v : Value} {A : Nat → Prop} {s : State} {args : Array Value} (h : va_Z C n d v A s s.heap) (hv : v.isRef = true) : (Cond.isRef (.static C n d)).before args s = true := by
  obtain ⟨cf, kf, fi, f, a, cell, h1, h2, h3, h4, h5, h6, h7, -⟩ := h
  have he : (Term.static C n d).eval args s none [] s = some v := by
    simp [Term.eval, State.fieldNamed?, h1, h2, h4, h5, h6, h7]
  simp only [Cond.before, Cond.holds, Cond.value, he]
  cases v <;> simp_all [Value.isRef]
theorem vx_isRefq {C n d : String} {A : Nat → Prop} {s : State} {args : Array Value} (h : va_Zq C n d A s s.heap) : (Cond.isRef (.static C n d)).before args s = true := by
  rcases h with h | ⟨t, h⟩
  · exact vx_isRef h rfl
  · exact vx_isRef h rfl
/-- the same frame, seen from here: as if the method were called anew in this heap -/
theorem vx_rebase {T : State} (X : Stand p l e R s m args below meth c T locs cells slots) {R' : Room} (hf : R'.frames ≤ R.frames) (hl : R'.locals ≤ R.locals) (hc : cells + R'.cells ≤ R.cells) (hs : slots + R'.slots ≤ R.slots) :
    Stand p l e R' ((T.setVm s.vm).setFrames (.invoking m args :: below)) m args below meth c T [] 0 0 := by
  have htop : (T.setVm s.vm).topJava?.isSome := X.here.top
  have hF : ((T.setVm s.vm).setFrames (.invoking m args :: below)).frames = .invoking m args :: below := State.frames_setFrames _ (State.cur_lt_of_top htop)
  obtain ⟨g₀, hg0⟩ := Option.isSome_iff_exists.mp htop
  obtain ⟨r, hr⟩ := State.topJava?_eq_some.mp hg0
  have hl9 : e.platform.stackLimits (T.setVm s.vm).me = e.platform.stackLimits s.me := X.limits
  have hb9 : (T.setVm s.vm).me.stackBytes = s.me.stackBytes := X.bytes
  refine ⟨X.admits, X.cas, X.clock, hF, ?_, X.hears, X.method, X.code, X.here, X.tail, X.warmed, ?_, ?_, ?_⟩
  · have h := X.room
    have hU : ((T.setVm s.vm).setFrames (.invoking m args :: below)).localsInUse = s.localsInUse := by
      rw [State.localsInUse_invoking hF (meth := meth) (c := c) X.method X.code, State.localsInUse_invoking X.frames X.method X.code]
    simp only [State.hasRoom, Bool.and_eq_true, decide_eq_true_eq] at h ⊢
    obtain ⟨⟨⟨⟨h1, h2, h3, h4, h5, h6⟩, h7⟩, h8⟩, h9⟩ := h
    rw [X.frames, List.length_cons] at h2 h3
    have q1 := X.heapSize
    have q2 := X.used
    simp only [hF, hU, List.length_cons, State.stackLimits_setFrames, State.stackBytes_setFrames, hl9, hb9]
    refine ⟨⟨⟨⟨by omega, by omega, by omega, by omega, by omega, h6⟩, ?_⟩, ?_⟩, X.book⟩
    · show T.heap.size + R'.cells ≤ e.platform.maxCells
      omega
    · show T.slotsUsed + R'.slots ≤ e.platform.maxSlots
      omega
  · rw [State.stackLimits_setFrames]; rfl
  · rw [State.stackBytes_setFrames]; rfl
  · refine ⟨?_, Nat.le_refl _, Nat.le_refl _, ?_, ?_, fun a c9 h9 => ⟨c9, h9, rfl, rfl, fun _ _ => rfl⟩⟩
    · obtain ⟨t, ht, -⟩ := State.frames_cons hr
      show T.setVm s.vm = { ((T.setVm s.vm).setFrames (.invoking m args :: below)).setFrames (T.setVm s.vm).frames with heap := T.heap, slotsUsed := T.slotsUsed }
      rw [State.setFrames_setFrames, State.setFrames_self ht]
      rfl
    · show T.slotsUsed = T.slotsUsed + ((T.heap.toList.drop T.heap.size).map (·.slots.size)).sum
      rw [List.drop_eq_nil_of_le (Nat.le_of_eq Array.length_toList)]
      rfl
    · show ((T.heap.toList.drop T.heap.size).map (·.slots.size)).sum ≤ 0
      rw [List.drop_eq_nil_of_le (Nat.le_of_eq Array.length_toList)]
      exact Nat.le_refl _
/-- 'throw new E()': new; dup; invokespecial; athrow -/
theorem vx_throw0 {cc : ByteArray} {pc : Nat} (hexec : p.tables.exec = Jvm.exec) (hb : c.code = cc) (hl : l.stackTraces = false) {own cls : String} {names : List String} {ik ic mc ms : Nat} {A : Nat → Prop}
    (hown : s.vm.findClass own = some m.cls) (hcls : Bundle.fit cls = true) (hnames : ∀ n ∈ names, Bundle.fit n = true)
    (hk : (Cond.classLink own ik cls).before args s = true) (hini : (Cond.initialized cls).before args s = true) (hat : ∀ w ∈ vx_at0 own ic cls names, w.before args s = true)
    (hgood : ∀ w ∈ Cond.classLink own ik cls :: Cond.initialized cls :: vx_at0 own ic cls names, vx_ot w = true)
    (hU : vx_Zq Bundle.tN "UNASSIGNED_STACK" Bundle.steD A s s.heap) (hN : vx_Zq Bundle.tN "SUPPRESSED_SENTINEL" Bundle.listD A s s.heap) (hS : va_S A s.heap H locs) (hsize : ls.size = c.maxLocals)
    (d0 : decode cc pc = .ok (.new ik, 3)) (d3 : decode cc (pc + 3) = .ok (.dup, 1)) (d4 : decode cc (pc + 4) = .ok (.invokespecial ic, 3)) (d7 : decode cc (pc + 7) = .ok (.athrow, 1))
    (hout : ∀ x ∈ c.exceptionTable.toList, covers x (pc + 7) = false)
    (hRframes : names.length + 3 < R.frames) (hRlocals : (rest.map fun v => v.category).sum + (13 * (names.length + 1) + 42) ≤ R.locals) (hRcells : cells + 1 ≤ R.cells) (hRslots : slots + 6 ≤ R.slots) (hlocks : meth.locks = false)
    (hx : ∀ t : State, s.vm.Alike t.vm → H.size ≤ t.heap.size → (∀ q : Nat, q < H.size → t.heap[q]? = H[q]?) → XC cls s t)
    (hf : ∀ z ∈ locs, free z.base) (hc : cells + 1 ≤ mc) (hs : slots + 6 ≤ ms) :
    W p l e R s m args below meth c H locs cells slots (vx_MQ below Qc XC args s mc ms free) (F0 m pc ls rest) := by
  intro T hT X
  have htr : e.platform.stackTraces = false := (show e.platform.stackTraces = l.stackTraces by rw [X.admits.platform]).trans hl
  have Y := vx_rebase X (R' := { frames := R.frames, locals := R.locals, cells := 1, slots := 6 }) (Nat.le_refl _) (Nat.le_refl _) hRcells hRslots
  obtain ⟨s', hA⟩ : ∃ z, z = (T.setVm s.vm).setFrames (.invoking m args :: below) := ⟨_, rfl⟩
  rw [← hA] at Y
  have hvm : s'.vm = s.vm := by rw [hA]; rfl
  have hhp : s'.heap = H := by rw [hA]; exact hT
  have hW0 : s.WarmedH s'.vm := by rw [hvm]; exact State.WarmedH.refl s
  have hat' : ∀ w ∈ vx_at0 own ic cls names, w.before args s' = true := fun w hw => vx_ot_at hW0 hvm.symm (hgood w (List.mem_cons_of_mem _ (List.mem_cons_of_mem _ hw))) (hat w hw)
  have hk' : (Cond.classLink own ik cls).before args s' = true := vx_ot_at hW0 hvm.symm (hgood _ List.mem_cons_self) hk
  have hini' : (Cond.initialized cls).before args s' = true := vx_ot_at hW0 hvm.symm (hgood _ (List.mem_cons_of_mem _ List.mem_cons_self)) hini
  have hU' : vx_Zq Bundle.tN "UNASSIGNED_STACK" Bundle.steD A s' s'.heap := by rw [hhp]; exact vx_Zq.moved hW0.alike (hU.kept hS.2.1)
  have hN' : vx_Zq Bundle.tN "SUPPRESSED_SENTINEL" Bundle.listD A s' s'.heap := by rw [hhp]; exact vx_Zq.moved hW0.alike (hN.kept hS.2.1)
  have h : ∀ w ∈ Bundle.ownAtoms0 own ic cls names, w.before args s' = true := vx_own hat' (vx_isRefq hU'.1) (vx_isRefq hN'.1) hU'.2.word hN'.2.word
  have hown' : s'.vm.findClass own = some m.cls := by rw [hvm]; exact hown
  have hins : (Cond.instantiable cls 6).before args s' = true := h _ (by simp [Bundle.ownAtoms0])
  obtain ⟨vm₁, cX, kX, hfX, hkX, -, -, X₁, st1⟩ := Y.newCold hexec (own := own) (C := cls) (index := ik) (n := 6) hown' hk' hins hini'
    (g := F0 m pc ls rest) rfl (by rw [hb]; exact d0) (Nat.le_refl _) (Nat.le_refl _)
  generalize hT1 : (T.setVm vm₁).pushCell { cls := cX, slots := kX.instanceTypes.map defaultValue, vm := .none } = T1 at X₁ st1
  have hcat : (Value.ref T.heap.size).category = 1 := rfl
  have hcellA : T1.heap[T.heap.size]? = some (freshCell cX kX) := by rw [← hT1]; exact State.heap_pushCell_size _ _
  have d3' : decode c.code (pc + 3) = .ok (.dup, 1) := by rw [hb]; exact d3
  obtain ⟨U, hsteps, hrun, hend, hW, hsame, ce, hce, hO⟩ := X₁.ctorThrow0 hexec htr (own := own) (cls := cls) (names := names) (ic := ic) hown' hcls hnames h (fun x hx => nomatch hx) hfX hkX hcellA (by rw [hhp, hT]; exact Nat.le_refl _)
    (g := { method := m, pc := pc + 4, locals := ls, stack := .ref T.heap.size :: .ref T.heap.size :: rest, locked := none }) rfl hsize rfl rfl (rest := rest) rfl
    (by rw [hb]; exact d4) (by rw [hb]; exact d7) hout hRframes (by simp only [List.map_cons, List.sum_cons, hcat]; omega) hlocks
  obtain ⟨f1, f2⟩ := vx_frame hsame
  rw [hhp] at f1 f2
  have hWs : s.WarmedH U.vm := State.WarmedH.trans hW0 hW
  have hcl : s.vm.findClass cls = some ce.cls := by
    have h9 := hO.cls
    rw [hvm] at h9
    exact h9
  have hall : s.sameButNew ({ U with vm := s.vm } : State) locs mc ms := by
    subst hA
    obtain ⟨e1, e2⟩ := hsame
    rw [State.setFrames_setFrames] at e1
    have h2 : (T.setVm s.vm).sameButNew ({ U with vm := s.vm } : State) [] (0 + 1) (0 + 6) := ⟨e1, e2⟩
    have h3 := X.same.trans h2
    rw [List.append_nil] at h3
    exact h3.mono hc hs
  refine ⟨U, ?_, .threw T.heap.size, hrun, hend, Or.inr ⟨T.heap.size, rfl, cls, ce, locs, hx U hWs.alike f1 (fun q hq => f2 q hq (fun z hz => nomatch hz)), hce, hO.vm, hcl, hWs, hall, hf⟩⟩
  refine st1 _ ?_
  show Steps p.tables e below (T1.setTop { method := m, pc := pc + 3, locals := ls, stack := .ref T.heap.size :: rest, locked := none }) _
  jvm_step X₁.here [X₁.here.top, hexec, d3', Value.category]
  exact hsteps
/-- 'throw new E("text")': new; dup; ldc; invokespecial; athrow -/
theorem vx_throwS {cc : ByteArray} {pc : Nat} (hexec : p.tables.exec = Jvm.exec) (hb : c.code = cc) (hl : l.stackTraces = false) {own cls text : String} {names : List String} {ik is ic mc ms sa : Nat} {A : Nat → Prop}
    (hown : s.vm.findClass own = some m.cls) (hcls : Bundle.fit cls = true) (hnames : ∀ n ∈ names, Bundle.fit n = true)
    (hk : (Cond.classLink own ik cls).before args s = true) (hini : (Cond.initialized cls).before args s = true) (hstr : vk_R own is text sa s) (hat : ∀ w ∈ vx_atS own ic cls names, w.before args s = true)
    (hgood : ∀ w ∈ Cond.classLink own ik cls :: Cond.initialized cls :: vx_atS own ic cls names, vx_ot w = true)
    (hU : vx_Zq Bundle.tN "UNASSIGNED_STACK" Bundle.steD A s s.heap) (hN : vx_Zq Bundle.tN "SUPPRESSED_SENTINEL" Bundle.listD A s s.heap) (hS : va_S A s.heap H locs) (hsize : ls.size = c.maxLocals)
    (d0 : decode cc pc = .ok (.new ik, 3)) (d3 : decode cc (pc + 3) = .ok (.dup, 1)) (d4 : decode cc (pc + 4) = .ok (.ldc is, 2)) (d6 : decode cc (pc + 6) = .ok (.invokespecial ic, 3)) (d9 : decode cc (pc + 9) = .ok (.athrow, 1))
    (hout : ∀ x ∈ c.exceptionTable.toList, covers x (pc + 9) = false)
    (hRframes : names.length + 3 < R.frames) (hRlocals : (rest.map fun v => v.category).sum + (13 * (names.length + 1) + 43) ≤ R.locals) (hRcells : cells + 1 ≤ R.cells) (hRslots : slots + 6 ≤ R.slots) (hlocks : meth.locks = false)
    (hx : ∀ t : State, s.vm.Alike t.vm → H.size ≤ t.heap.size → (∀ q : Nat, q < H.size → t.heap[q]? = H[q]?) → XC cls s t)
    (hf : ∀ z ∈ locs, free z.base) (hc : cells + 1 ≤ mc) (hs : slots + 6 ≤ ms) :
    W p l e R s m args below meth c H locs cells slots (vx_MQ below Qc XC args s mc ms free) (F0 m pc ls rest) := by
  intro T hT X
  have htr : e.platform.stackTraces = false := (show e.platform.stackTraces = l.stackTraces by rw [X.admits.platform]).trans hl
  have Y := vx_rebase X (R' := { frames := R.frames, locals := R.locals, cells := 1, slots := 6 }) (Nat.le_refl _) (Nat.le_refl _) hRcells hRslots
  obtain ⟨s', hA⟩ : ∃ z, z = (T.setVm s.vm).setFrames (.invoking m args :: below) := ⟨_, rfl⟩
  rw [← hA] at Y
  have hvm : s'.vm = s.vm := by rw [hA]; rfl
  have hhp : s'.heap = H := by rw [hA]; exact hT
  have hW0 : s.WarmedH s'.vm := by rw [hvm]; exact State.WarmedH.refl s
  have hat' : ∀ w ∈ vx_atS own ic cls names, w.before args s' = true := fun w hw => vx_ot_at hW0 hvm.symm (hgood w (List.mem_cons_of_mem _ (List.mem_cons_of_mem _ hw))) (hat w hw)
  have hk' : (Cond.classLink own ik cls).before args s' = true := vx_ot_at hW0 hvm.symm (hgood _ List.mem_cons_self) hk
  have hini' : (Cond.initialized cls).before args s' = true := vx_ot_at hW0 hvm.symm (hgood _ (List.mem_cons_of_mem _ List.mem_cons_self)) hini
  have hU' : vx_Zq Bundle.tN "UNASSIGNED_STACK" Bundle.steD A s' s'.heap := by rw [hhp]; exact vx_Zq.moved hW0.alike (hU.kept hS.2.1)
  have hN' : vx_Zq Bundle.tN "SUPPRESSED_SENTINEL" Bundle.listD A s' s'.heap := by rw [hhp]; exact vx_Zq.moved hW0.alike (hN.kept hS.2.1)
  have h : ∀ w ∈ Bundle.ownAtoms own ic cls names, w.before args s' = true := vx_own hat' (vx_isRefq hU'.1) (vx_isRefq hN'.1) hU'.2.word hN'.2.word
  have hown' : s'.vm.findClass own = some m.cls := by rw [hvm]; exact hown
  have hins : (Cond.instantiable cls 6).before args s' = true := h _ (by simp [Bundle.ownAtoms])
  obtain ⟨vm₁, cX, kX, hfX, hkX, -, -, X₁, st1⟩ := Y.newCold hexec (own := own) (C := cls) (index := ik) (n := 6) hown' hk' hins hini'
    (g := F0 m pc ls rest) rfl (by rw [hb]; exact d0) (Nat.le_refl _) (Nat.le_refl _)
  generalize hT1 : (T.setVm vm₁).pushCell { cls := cX, slots := kX.instanceTypes.map defaultValue, vm := .none } = T1 at X₁ st1
  have hcat : (Value.ref T.heap.size).category = 1 := rfl
  have hcellA : T1.heap[T.heap.size]? = some (freshCell cX kX) := by rw [← hT1]; exact State.heap_pushCell_size _ _
  have d3' : decode c.code (pc + 3) = .ok (.dup, 1) := by rw [hb]; exact d3
  have d4' : decode c.code (pc + 4) = .ok (.ldc is, 2) := by rw [hb]; exact d4
  have hstr' : vk_R own is text sa s' := vk_R.warm hW0 hstr
  obtain ⟨U, hsteps, hrun, hend, hW, hsame, ce, hce, hO⟩ := X₁.ctorThrowS hexec htr (own := own) (cls := cls) (names := names) (ic := ic) hown' hcls hnames h (fun x hx => nomatch hx) hfX hkX hcellA (by rw [hhp, hT]; exact Nat.le_refl _) (msg := .ref sa) rfl
    (g := { method := m, pc := pc + 6, locals := ls, stack := .ref sa :: .ref T.heap.size :: .ref T.heap.size :: rest, locked := none }) rfl hsize rfl rfl (rest := rest) rfl
    (by rw [hb]; exact d6) (by rw [hb]; exact d9) hout hRframes (by simp only [List.map_cons, List.sum_cons, hcat]; omega) hlocks
  obtain ⟨f1, f2⟩ := vx_frame hsame
  rw [hhp] at f1 f2
  have hWs : s.WarmedH U.vm := State.WarmedH.trans hW0 hW
  have hcl : s.vm.findClass cls = some ce.cls := by
    have h9 := hO.cls
    rw [hvm] at h9
    exact h9
  have hall : s.sameButNew ({ U with vm := s.vm } : State) locs mc ms := by
    subst hA
    obtain ⟨e1, e2⟩ := hsame
    rw [State.setFrames_setFrames] at e1
    have h2 : (T.setVm s.vm).sameButNew ({ U with vm := s.vm } : State) [] (0 + 1) (0 + 6) := ⟨e1, e2⟩
    have h3 := X.same.trans h2
    rw [List.append_nil] at h3
    exact h3.mono hc hs
  refine ⟨U, ?_, .threw T.heap.size, hrun, hend, Or.inr ⟨T.heap.size, rfl, cls, ce, locs, hx U hWs.alike f1 (fun q hq => f2 q hq (fun z hz => nomatch hz)), hce, hO.vm, hcl, hWs, hall, hf⟩⟩
  refine st1 _ ?_
  show Steps p.tables e below (T1.setTop { method := m, pc := pc + 3, locals := ls, stack := .ref T.heap.size :: rest, locked := none }) _
  jvm_step X₁.here [X₁.here.top, hexec, d3', Value.category]
  exact X₁.ldcString hexec (own := own) (text := text) (index := is) (a := sa) hown' hstr'.1 hstr'.2
    (g := { method := m, pc := pc + 4, locals := ls, stack := .ref T.heap.size :: .ref T.heap.size :: rest, locked := none }) rfl d4' _ hsteps
/-- 'throw new E("text")', the text by a wide index -/
theorem vx_throwSW {cc : ByteArray} {pc : Nat} (hexec : p.tables.exec = Jvm.exec) (hb : c.code = cc) (hl : l.stackTraces = false) {own cls text : String} {names : List String} {ik is ic mc ms sa : Nat} {A : Nat → Prop}
    (hown : s.vm.findClass own = some m.cls) (hcls : Bundle.fit cls = true) (hnames : ∀ n ∈ names, Bundle.fit n = true)
    (hk : (Cond.classLink own ik cls).before args s = true) (hini : (Cond.initialized cls).before args s = true) (hstr : vk_R own is text sa s) (hat : ∀ w ∈ vx_atS own ic cls names, w.before args s = true)
    (hgood : ∀ w ∈ Cond.classLink own ik cls :: Cond.initialized cls :: vx_atS own ic cls names, vx_ot w = true)
    (hU : vx_Zq Bundle.tN "UNASSIGNED_STACK" Bundle.steD A s s.heap) (hN : vx_Zq Bundle.tN "SUPPRESSED_SENTINEL" Bundle.listD A s s.heap) (hS : va_S A s.heap H locs) (hsize : ls.size = c.maxLocals)
    (d0 : decode cc pc = .ok (.new ik, 3)) (d3 : decode cc (pc + 3) = .ok (.dup, 1)) (d4 : decode cc (pc + 4) = .ok (.ldc_w is, 3)) (d7 : decode cc (pc + 7) = .ok (.invokespecial ic, 3)) (d10 : decode cc (pc + 10) = .ok (.athrow, 1))
    (hout : ∀ x ∈ c.exceptionTable.toList, covers x (pc + 10) = false)
    (hRframes : names.length + 3 < R.frames) (hRlocals : (rest.map fun v => v.category).sum + (13 * (names.length + 1) + 43) ≤ R.locals) (hRcells : cells + 1 ≤ R.cells) (hRslots : slots + 6 ≤ R.slots) (hlocks : meth.locks = false)
    (hx : ∀ t : State, s.vm.Alike t.vm → H.size ≤ t.heap.size → (∀ q : Nat, q < H.size → t.heap[q]? = H[q]?) → XC cls s t)
    (hf : ∀ z ∈ locs, free z.base) (hc : cells + 1 ≤ mc) (hs : slots + 6 ≤ ms) :
    W p l e R s m args below meth c H locs cells slots (vx_MQ below Qc XC args s mc ms free) (F0 m pc ls rest) := by
  intro T hT X
  have htr : e.platform.stackTraces = false := (show e.platform.stackTraces = l.stackTraces by rw [X.admits.platform]).trans hl
  have Y := vx_rebase X (R' := { frames := R.frames, locals := R.locals, cells := 1, slots := 6 }) (Nat.le_refl _) (Nat.le_refl _) hRcells hRslots
  obtain ⟨s', hA⟩ : ∃ z, z = (T.setVm s.vm).setFrames (.invoking m args :: below) := ⟨_, rfl⟩
  rw [← hA] at Y
  have hvm : s'.vm = s.vm := by rw [hA]; rfl
  have hhp : s'.heap = H := by rw [hA]; exact hT
  have hW0 : s.WarmedH s'.vm := by rw [hvm]; exact State.WarmedH.refl s
  have hat' : ∀ w ∈ vx_atS own ic cls names, w.before args s' = true := fun w hw => vx_ot_at hW0 hvm.symm (hgood w (List.mem_cons_of_mem _ (List.mem_cons_of_mem _ hw))) (hat w hw)
  have hk' : (Cond.classLink own ik cls).before args s' = true := vx_ot_at hW0 hvm.symm (hgood _ List.mem_cons_self) hk
  have hini' : (Cond.initialized cls).before args s' = true := vx_ot_at hW0 hvm.symm (hgood _ (List.mem_cons_of_mem _ List.mem_cons_self)) hini
  have hU' : vx_Zq Bundle.tN "UNASSIGNED_STACK" Bundle.steD A s' s'.heap := by rw [hhp]; exact vx_Zq.moved hW0.alike (hU.kept hS.2.1)
  have hN' : vx_Zq Bundle.tN "SUPPRESSED_SENTINEL" Bundle.listD A s' s'.heap := by rw [hhp]; exact vx_Zq.moved hW0.alike (hN.kept hS.2.1)
  have h : ∀ w ∈ Bundle.ownAtoms own ic cls names, w.before args s' = true := vx_own hat' (vx_isRefq hU'.1) (vx_isRefq hN'.1) hU'.2.word hN'.2.word
  have hown' : s'.vm.findClass own = some m.cls := by rw [hvm]; exact hown
  have hins : (Cond.instantiable cls 6).before args s' = true := h _ (by simp [Bundle.ownAtoms])
  obtain ⟨vm₁, cX, kX, hfX, hkX, -, -, X₁, st1⟩ := Y.newCold hexec (own := own) (C := cls) (index := ik) (n := 6) hown' hk' hins hini'
    (g := F0 m pc ls rest) rfl (by rw [hb]; exact d0) (Nat.le_refl _) (Nat.le_refl _)
  generalize hT1 : (T.setVm vm₁).pushCell { cls := cX, slots := kX.instanceTypes.map defaultValue, vm := .none } = T1 at X₁ st1
  have hcat : (Value.ref T.heap.size).category = 1 := rfl
  have hcellA : T1.heap[T.heap.size]? = some (freshCell cX kX) := by rw [← hT1]; exact State.heap_pushCell_size _ _
  have d3' : decode c.code (pc + 3) = .ok (.dup, 1) := by rw [hb]; exact d3
  have d4' : decode c.code (pc + 4) = .ok (.ldc_w is, 3) := by rw [hb]; exact d4
  have hstr' : vk_R own is text sa s' := vk_R.warm hW0 hstr
  obtain ⟨U, hsteps, hrun, hend, hW, hsame, ce, hce, hO⟩ := X₁.ctorThrowS hexec htr (own := own) (cls := cls) (names := names) (ic := ic) hown' hcls hnames h (fun x hx => nomatch hx) hfX hkX hcellA (by rw [hhp, hT]; exact Nat.le_refl _) (msg := .ref sa) rfl
    (g := { method := m, pc := pc + 7, locals := ls, stack := .ref sa :: .ref T.heap.size :: .ref T.heap.size :: rest, locked := none }) rfl hsize rfl rfl (rest := rest) rfl
    (by rw [hb]; exact d7) (by rw [hb]; exact d10) hout hRframes (by simp only [List.map_cons, List.sum_cons, hcat]; omega) hlocks
  obtain ⟨f1, f2⟩ := vx_frame hsame
  rw [hhp] at f1 f2
  have hWs : s.WarmedH U.vm := State.WarmedH.trans hW0 hW
  have hcl : s.vm.findClass cls = some ce.cls := by
    have h9 := hO.cls
    rw [hvm] at h9
    exact h9
  have hall : s.sameButNew ({ U with vm := s.vm } : State) locs mc ms := by
    subst hA
    obtain ⟨e1, e2⟩ := hsame
    rw [State.setFrames_setFrames] at e1
    have h2 : (T.setVm s.vm).sameButNew ({ U with vm := s.vm } : State) [] (0 + 1) (0 + 6) := ⟨e1, e2⟩
    have h3 := X.same.trans h2
    rw [List.append_nil] at h3
    exact h3.mono hc hs
  refine ⟨U, ?_, .threw T.heap.size, hrun, hend, Or.inr ⟨T.heap.size, rfl, cls, ce, locs, hx U hWs.alike f1 (fun q hq => f2 q hq (fun z hz => nomatch hz)), hce, hO.vm, hcl, hWs, hall, hf⟩⟩
  refine st1 _ ?_
  show Steps p.tables e below (T1.setTop { method := m, pc := pc + 3, locals := ls, stack := .ref T.heap.size :: rest, locked := none }) _
  jvm_step X₁.here [X₁.here.top, hexec, d3', Value.category]
  exact X₁.ldcStringW hexec (own := own) (text := text) (index := is) (a := sa) hown' hstr'.1 hstr'.2
    (g := { method := m, pc := pc + 4, locals := ls, stack := .ref T.heap.size :: .ref T.heap.size :: rest, locked := none }) rfl d4' _ hsteps
end Ends
section Bodies
variable {l : Launch}
theorem vx_ofW {y : MethodName} {ws ws' : List Cond} {rm : Room} {Pc : Array Value → State → Prop} {Qc : Array Value → State → Outcome → State → Prop} {XC : String → State → State → Prop} {mc ms : Nat} {free : Addr → Prop} {cc : ByteArray} {maxL : Nat} {ret : Option FieldType}
    (hy : plainName y.cls = true) (hw : ws = Cond.code y cc maxL ret :: ws')
    (body : ∀ p e s m args below meth c s₁, BodyLoose p l y (headSpec ws rm) cc maxL ret e s m args below meth c s₁ → c.maxLocals = maxL → (∀ x ∈ c.exceptionTable.toList, False) → Pc args s →
      W p l e (headSpec ws rm).room s m args below meth c s.heap [] 0 0 (vx_MQ below Qc XC args s mc ms free) (entryFrame m args maxL)) : vx_Met l y ws rm Pc Qc XC mc ms free := by
  refine MetFree.of_bodyS (code := cc) (maxLocals := maxL) (ret := ret) hy ?_ ?_
  · intro args s m h hn
    obtain ⟨meth, c, h1, h2, h3, h4, h5, h6, -, -⟩ := Cond.code_spec hn (atoms_spec (ws := ws) h _ (by rw [hw]; exact List.mem_cons_self))
    exact ⟨meth, c, h1, h2, h3, h4, h5, h6⟩
  · intro p e s m args below meth c s₁ B hml hP _
    have hh0 : s₁.heap = s.heap := by rw [B.state]; rfl
    have ht : ∀ x ∈ c.exceptionTable.toList, False := by
      obtain ⟨meth9, c9, h1, h2, -, -, -, -, h7, -⟩ := Cond.code_spec B.named (atoms_spec (ws := ws) B.pre _ (by rw [hw]; exact List.mem_cons_self))
      cases Option.some.inj (h1.symm.trans B.method)
      cases Option.some.inj (h2.symm.trans (Stand.of_body B).code)
      intro x hx
      rw [Array.isEmpty_iff.mp h7] at hx
      cases hx
    obtain ⟨t, a1, o, b1, b2, b3⟩ := body p e s m args below meth c s₁ B hml ht hP s₁ hh0 (Stand.of_body B)
    exact ⟨t, o, a1, b1, b2, b3⟩
/-- the table of a body with handlers -/
theorem vx_table {p : Program} {x y : MethodName} {S : Spec} {cc bytes : ByteArray} {maxL maxL' : Nat} {ret ret' : Option FieldType} {e : Env} {s s₁ : State} {m : MethodId} {args : Array Value} {below : List Frame} {meth : Method} {c : Code} {hh : List (Nat × Nat × Nat × Nat)}
    (B : BodyLoose p l y S cc maxL ret e s m args below meth c s₁) (h : (Cond.codeWith y bytes maxL' ret' hh).before args s = true) : c.exceptionTable.toList = tableOf hh := by
  obtain ⟨m9, meth9, c9, hn9, h1, h2, -, -, h6, -⟩ := Cond.codeWith_spec h
  cases Option.some.inj (hn9.symm.trans B.named)
  cases Option.some.inj (h1.symm.trans B.method)
  cases Option.some.inj (h2.symm.trans (Stand.of_body B).code)
  rw [← h6, table_eq]
end Bodies
end VXA
/-! ===== END ===== -/
/-! ===== BEGIN a static call of a method with an exception table ===== -/
section VXS
variable {p : Program} {l : Launch} {e : Env} {R : Room} {s : State} {m : MethodId} {args : Array Value} {below : List Frame} {meth : Method} {c : Code} {T : State} {H : Heap} {locs : List Loc} {cells slots : Nat}
abbrev vx_CSW (R : Room) (s : State) (args : Array Value) (own : String) (index : Nat) (y : MethodName) (bytes : ByteArray) (maxL : Nat) (ret : Option FieldType) (hh : List (Nat × Nat × Nat × Nat)) (ws : List Cond) (rm : Room) (mc ms n : Nat) : Prop :=
  (rm.cells = mc ∧ rm.slots = ms ∧ rm.frames + 1 ≤ R.frames ∧ 8 + (maxL + 11) + rm.locals ≤ R.locals ∧ (∀ w ∈ ws, ∀ (a' : Array Value) (U : State), s.WarmedH U.vm → w.before a' U = true) ∧ Cond.codeWith y bytes maxL ret hh ∈ ws) ∧
  (Cond.codeWith y bytes maxL ret hh).before args s = true ∧ (Cond.initialized y.cls).before args s = true ∧ (y.cls ≠ "java/lang/invoke/MethodHandle" ∧ y.cls ≠ "java/lang/invoke/VarHandle") ∧
  (∀ sig, parseMethodDescriptor y.desc = some sig → n = sig.parameters.length) ∧ (Cond.methodLink own index y).before args s = true ∧ (Cond.static y).before args s = true
theorem vx_cwSW {own : String} {index maxL mc ms : Nat} {y : MethodName} {bytes : ByteArray} {ret : Option FieldType} {hh : List (Nat × Nat × Nat × Nat)} {Ts ws ws' : List Cond} {rm : Room} (n : Nat) (ht : ∀ w ∈ Ts, w.before args s = true) (hT : GoodIn Ts (va_wsS own index y ws)) (hw : ws = Cond.codeWith y bytes maxL ret hh :: ws') (hrc : rm.cells = mc) (hrs : rm.slots = ms)
    (hd : y.cls ≠ "java/lang/invoke/MethodHandle" ∧ y.cls ≠ "java/lang/invoke/VarHandle" ∧ (parseMethodDescriptor y.desc).map (fun d => d.parameters.length) = some n) (hR : rm.frames + 1 ≤ R.frames ∧ 8 + (maxL + 11) + rm.locals ≤ R.locals) :
    vx_CSW R s args own index y bytes maxL ret hh ws rm mc ms n := by
  have ok : ∀ w ∈ va_wsS own index y ws, w.before args s = true := fun w h => ht w (hT w h).1
  have hG : GoodIn Ts ws := fun w h => hT w (by unfold va_wsS; exact List.mem_append_right _ h)
  have hc : Cond.codeWith y bytes maxL ret hh ∈ ws := by rw [hw]; exact List.mem_cons_self
  refine ⟨⟨hrc, hrs, hR.1, hR.2, pay_in ht hG, hc⟩, ht _ (hG _ hc).1, ok _ (by simp [va_wsS]), ⟨hd.1, hd.2.1⟩, fun sig h => ?_, ok _ (by simp [va_wsS]), ok _ (by simp [va_wsS])⟩
  have h2 := hd.2.2
  rw [h] at h2
  exact (Option.some.inj h2).symm
theorem vx_callSW (X : Stand p l e R s m args below meth c T locs cells slots) (hexec : p.tables.exec = Jvm.exec) {own : String} {index : Nat} {y : MethodName} {bytes : ByteArray} {maxL : Nat} {ret : Option FieldType} {hh : List (Nat × Nat × Nat × Nat)}
    (hown : s.vm.findClass own = some m.cls) (hlink : (Cond.methodLink own index y).before args s = true) (hstat : (Cond.static y).before args s = true) (hinit : (Cond.initialized y.cls).before args s = true)
    (hcode : (Cond.codeWith y bytes maxL ret hh).before args s = true) (hy : y.cls ≠ "java/lang/invoke/MethodHandle" ∧ y.cls ≠ "java/lang/invoke/VarHandle")
    {W9 : Nat} {Pre : Pt → Array Value → Prop} {Post : Pt → Array Value → Option Value → Pt → Prop} (hK : Back l R p e below s args y 3 W9 Pre Post)
    {g : JFrame} (hg : g.method = m) (hsize : g.locals.size = c.maxLocals) {argsL rest : List Value} (hlen : ∀ sig, parseMethodDescriptor y.desc = some sig → argsL.length = sig.parameters.length)
    (hstack : g.stack = argsL.reverse ++ rest) (hW : 2 * g.monitorRoom + (rest.map fun v => v.category).sum ≤ W9) (hdg : decode c.code g.pc = .ok (.invokestatic index, 3))
    (hpre : ∀ vm₁, s.WarmedH vm₁ → Pre ⟨T.setVm vm₁, locs, cells, slots⟩ argsL.toArray) :
    ∃ (v : Option Value) (vm₁ : Vm) (B : Pt), s.WarmedH vm₁ ∧ Stand p l e R s m args below meth c B.U B.locs B.cells B.slots ∧ Post ⟨T.setVm vm₁, locs, cells, slots⟩ argsL.toArray v B ∧
      ∀ target, Steps p.tables e below (B.U.setTop { g with pc := g.pc + 3, stack := v.toList ++ rest }) target → Steps p.tables e below (T.setTop g) target := by
  obtain ⟨mk, methM, cM, hnamed, hmethM, -, -, -, -, -, -, hsigM⟩ := Cond.codeWith_spec hcode
  have hstatic : methM.isStatic = true := Cond.static_spec hnamed hmethM hstat
  obtain ⟨kP, hkP, -⟩ := className_of_methodNamed hnamed
  have hinitP : kP.init = .initialized := Cond.initialized_spec (findClass_of_methodNamed hnamed) hkP hinit
  obtain ⟨vm₁, X₁, hstep₁⟩ := X.invokestatic hexec hown hlink hnamed hmethM hstatic hkP hinitP hy (g := g) hg (argsL := argsL) (rest := rest) (hlen _ hsigM) hstack hdg
  obtain ⟨v, B, X', hpost, hsteps⟩ := hK m meth c ⟨T.setVm vm₁, locs, cells, slots⟩ { g with stack := rest } (.invokestatic index) mk argsL.toArray X₁ hg hsize hdg hW (X₁.named hnamed) (hpre vm₁ X₁.warmed)
  exact ⟨v, vm₁, B, X₁.warmed, X', hpost, fun target h => hstep₁ _ fun acts => by rw [doInvoke_state]; exact hsteps.trans h⟩
theorem vx_runSW {y : MethodName} {bytes cc : ByteArray} {maxL nL mc ms n index : Nat} {ret : Option FieldType} {hh : List (Nat × Nat × Nat × Nat)} {ws : List Cond} {rm : Room} {Pc : Array Value → State → Prop} {Qc : Array Value → State → Outcome → State → Prop} {free : Addr → Prop} {Ts : List Cond} {own : String} {As rest : List Value} {g : JFrame}
    (S : CallFix p m c cc nL s args Ts own) (hM : Met l y ws rm Pc Qc mc ms free) (cw : vx_CSW R s args own index y bytes maxL ret hh ws rm mc ms n) (hp : PreS s H Pc As)
    (hg : g.method = m) (hn : As.length = n) (hsize : g.locals.size = nL) (hstack : g.stack = As.reverse ++ rest) (hW : 2 * g.monitorRoom + (rest.map fun v => v.category).sum ≤ 8) (hdg : decode cc g.pc = .ok (.invokestatic index, 3)) (hf : cells + mc ≤ R.cells ∧ slots + ms ≤ R.slots) :
    va_Run p l e R s m args below meth c H locs cells slots mc ms g rest (Qc As.toArray) (free) := by
  obtain ⟨⟨hrc, hrs, hfr, hlo, hws, hcw⟩, hcode, hini, hy, hlen, hl, hstt⟩ := cw
  have hK : Back l R p e below s args y 3 8 (PreOf R mc ms Pc) (PostOf Qc mc ms free) := va_backW (hh := hh) (bytes := bytes) (maxL := maxL) (ret := ret) hM hp.1 hrc hrs hfr hlo hws hcw (fun a' U hW => word_at hW (Or.inl (by first | rfl | simp [Cond.onTables, Cond.keeps, Cond.steady])) hini)
  obtain ⟨hx, hb, hml, ho, -⟩ := S
  intro T hT X
  obtain ⟨v, vm₁, ⟨U', l2, c2, s2⟩, hW₁, X', ⟨g', mk, t, L, e1, e2, hq, h1, hL, h2, h3⟩, st⟩ := vx_callSW X hx (hh := hh) (bytes := bytes) (maxL := maxL) (ret := ret) ho hl hstt hini hcode hy hK hg (hsize.trans hml.symm) (argsL := As) (rest := rest) (fun sig h => hn.trans (hlen sig h)) hstack hW (by rw [hb]; exact hdg)
    (fun vm₁ hW₁ => ⟨hf.1, hf.2, hp.2 (T.setVm vm₁) hT hW₁⟩)
  dsimp only [Pt.U, Pt.locs, Pt.cells, Pt.slots] at X' e1 e2 h1 h2 h3 st
  subst h1; subst h2; subst h3
  exact ⟨v, (T.setVm vm₁).calling g' mk As.toArray, t, U', L, hT, X', hL, e1, e2, hq, st⟩
/-- not caught here, past rows that name other classes: it goes on to the caller -/
theorem vx_outP {p : Program} {l : Launch} {e : Env} {R : Room} {s : State} {m : MethodId} {args : Array Value} {below : List Frame} {meth : Method} {c : Code} {H : Heap} {locs : List Loc} {cells slots : Nat} {free : Addr → Prop} {ls : Array Slot} {rest : List Value} {Qc : Array Value → State → Outcome → State → Prop} {XC : String → State → State → Prop}
    {pc : Nat} {own E : String} {ce : Cell} {q : Addr} {mc ms : Nat} (hown : s.vm.findClass own = some m.cls) (hlocks : meth.locks = false)
    (hpass : ∀ z ∈ c.exceptionTable.toList, covers z pc = false ∨ (z.catchType ≠ 0 ∧ ∃ nm : String, (Cond.classLink own z.catchType nm).before args s = true ∧ va_Nc E nm s)) (hcell : H[q]? = some ce) (hv : ce.vm = .none) (hcl : s.vm.findClass E = some ce.cls)
    (hx : ∀ t : State, t.heap = H → s.vm.Alike t.vm → XC E s t) (hf : ∀ z ∈ locs, free z.base) (hc : cells ≤ mc) (hs : slots ≤ ms) :
    vx_W p l e R s m args below meth c H locs cells slots (vx_MQ below Qc XC args s mc ms free) (F0 m pc ls rest) q := by
  intro T hT X
  have hpl : e.platform.magicAccessors = ({} : Platform).magicAccessors := by rw [X.admits.platform]
  obtain ⟨vm', hW', X', st⟩ := X.outThrough hlocks q (g := F0 m pc ls rest) rfl rfl rfl (cell := ce) (by rw [hT]; exact hcell) (by rw [hv]; rfl)
    (by obtain ⟨k9, h9, -⟩ := Vm.findClass_spec hcl; exact ⟨k9, h9⟩) (fun z hz => by
      rcases hpass z hz with h | ⟨hz0, nm, hl1, hn1⟩
      · exact Or.inl h
      · obtain ⟨c6, hc6, hcl6⟩ := Cond.classLink_spec hown hl1 e.platform hpl
        obtain ⟨a8, b8, h1, h2, h3⟩ := hn1
        cases Option.some.inj (h1.symm.trans hcl)
        cases Option.some.inj (h2.symm.trans hc6)
        exact Or.inr ⟨hz0, _, hcl6, h3⟩)
  obtain ⟨g₀, hfr⟩ := X'.frames_eq
  have hcell9 : ((T.setVm vm').setFrames (.throwing q :: below)).heap[q]? = some ce := by
    show T.heap[q]? = some ce
    rw [hT]; exact hcell
  have hend : Ended ((T.setVm vm').setFrames (.throwing q :: below)) below (.threw q) := State.frames_setFrames _ (State.cur_lt_of_frames hfr)
  refine ⟨(T.setVm vm').setFrames (.throwing q :: below), ?_, .threw q, X'.here.running, hend, Or.inr ⟨q, rfl, E, ce, locs, hx _ hT (X'.ends _).1.alike, hcell9, hv, hcl, (X'.ends _).1, (X'.ends _).2.mono hc hs, hf⟩⟩
  rw [X.pushThrowing_eq]
  exact st
/-- a thing of a world lies in the heap -/
theorem vx_lt {D : va_G} {cl : List vw_C} {ws : va_W} {H1 : Heap} (h : va_P D cl ws H1) {k : Nat} {q : Nat × va_E} (hk : ws[k]? = some q) : q.1 < H1.size := (h k q hk).lt
end VXS
/-! ===== END ===== -/
/-! ===== BEGIN methods with a table of their own: called by a name, returning or throwing ===== -/
section VXH
/-! vx_backW, vx_callVX, vx_callSX, vx_callVW, vx_runVW, vx_runVX, vx_runSX, vx_ofWH follow the same proofs as their sisters above (Free/Laws.lean, Shelf42/LK1.lean); vx_outP calls Shelf42/NT130.lean (outThrough). -/
section
variable {l : Launch} {R : Room} {p : Program} {e : Env} {below : List Frame} {s : State} {sargs : Array Value} {y : MethodName} {len W9 : Nat}
theorem vx_backW {ws : List Cond} {rm : Room} {Pc : Array Value → State → Prop} {Qc : Array Value → State → Outcome → State → Prop} {XC : String → State → State → Prop} {mc ms : Nat} {free : Addr → Prop} {bytes : ByteArray} {maxL : Nat} {ret : Option FieldType} {hh : List (Nat × Nat × Nat × Nat)}
    (hM : vx_Met l y ws rm Pc Qc XC mc ms free) (hblind : FrameBlind Pc) (hrc : rm.cells = mc) (hrs : rm.slots = ms)
    (hframes : rm.frames + 1 ≤ R.frames) (hlocals : W9 + (maxL + 11) + rm.locals ≤ R.locals)
    (hws : ∀ w ∈ ws, ∀ a' U, s.WarmedH U.vm → w.before a' U = true) (hcode : Cond.codeWith y bytes maxL ret hh ∈ ws) (hinit : ∀ a' U, s.WarmedH U.vm → (Cond.initialized y.cls).before a' U = true) :
    vx_Back l R p e below s sargs y len W9 (PreOf R mc ms Pc) (PostOf Qc mc ms free) (vx_Post XC mc ms free) := by
  intro m meth c A g ig mk a X hg hsize hdg hW hn hp
  have h1 : (headSpec ws rm).pre.before a A.U = true := atoms_intro fun w hw => hws w hw _ _ X.warmed
  have h2 : (Cond.codeWith y bytes maxL ret hh).before a A.U = true := hws _ hcode _ _ X.warmed
  have h3 : (Cond.initialized y.cls).before a A.U = true := hinit _ _ X.warmed
  have h4 : A.cells + (headSpec ws rm).room.cells ≤ R.cells := by rw [show (headSpec ws rm).room.cells = mc from hrc]; exact hp.1
  have h5 : A.slots + (headSpec ws rm).room.slots ≤ R.slots := by rw [show (headSpec ws rm).room.slots = ms from hrs]; exact hp.2.1
  have hPc : Pc a (A.U.calling g mk a) := hblind _ _ _ _ hp.2.2
  obtain ⟨U, Ls, c0, s0⟩ := A
  dsimp only [Pt.U, Pt.locs, Pt.cells, Pt.slots] at h1 h2 h3 h4 h5 X hn hPc ⊢
  obtain ⟨m9, methY, cY, hn9, hmY, hcY, -, hlY, -⟩ := Cond.codeWith_spec h2
  cases Option.some.inj (hn9.symm.trans hn)
  obtain ⟨kY, hkY, -⟩ := className_of_methodNamed hn
  have hinitY : kY.init = .initialized := Cond.initialized_spec (findClass_of_methodNamed hn) hkY h3
  have h : At U g.method c below := by rw [hg]; exact X.here
  have hlocals9 : W9 + (maxL + 11) + (headSpec ws rm).room.locals ≤ R.locals := hlocals
  have happ : (headSpec ws rm).appliesLoose y e.platform (U.calling g mk a) = true :=
    Spec.appliesLoose_calling (g := g) h hdg hn hkY hinitY
      (X.room_calling (g := g) (R' := (headSpec ws rm).room) hsize hmY hcY hframes (by rw [hlY]; omega) h4 h5) h1
  obtain ⟨mid, hmid⟩ := h.above
  have hfr : (U.setTop g).frames = (.java g :: mid) ++ below := by rw [State.frames_setTop' g h.top, hmid]; rfl
  obtain ⟨o, s₂, hsteps, -, hend, hq⟩ := Steps.callFree hM p X.admits X.cas X.clock (acts := []) hfr happ hPc trivial
  have hq' : vx_Q Qc XC mc ms free a (U.calling g mk a) o s₂ := hq
  rw [State.frames_setTop' g h.top] at hend
  obtain ⟨g₀, hg0⟩ := Option.isSome_iff_exists.mp h.top
  obtain ⟨r, hr⟩ := State.topJava?_eq_some.mp hg0
  have hr' : (({ U with heap := s₂.heap, slotsUsed := s₂.slotsUsed } : State).setVm s₂.vm).frames = .java g₀ :: r := hr
  rcases hq' with ⟨hqc, L, hfe, hL⟩ | ⟨q, rfl, E, ce, L, hx, hce, hcv, hcl, hW₂, hsm, hL⟩
  · obtain ⟨⟨v, rfl⟩, hW₂, e2, q2, q3, q4, q5, q6⟩ := id hfe
    have e3 : s₂ = ({ (U.calling g mk a).setFrames s₂.frames with heap := s₂.heap, slotsUsed := s₂.slotsUsed } : State).setVm s₂.vm := by
      have : s₂ = ({ s₂ with vm := (U.calling g mk a).vm } : State).setVm s₂.vm := rfl
      rw [e2] at this
      exact this
    obtain ⟨c₂, i₂, len₂, hc₂, hd₂, hf₂⟩ := hend
    have hW' : U.WarmedH s₂.vm := hW₂
    have hcc : c₂ = c := by
      have h1 : s₂.code? g.method = U.code? g.method := by
        rw [State.code?_eq, State.code?_eq, hW'.alike.method?]
      exact Option.some.inj (hc₂.symm.trans (h1.trans h.code))
    subst hcc
    have hlen : len₂ = len := by rw [hdg] at hd₂; cases hd₂; rfl
    subst hlen
    have hs₂ : s₂ = (({ U with heap := s₂.heap, slotsUsed := s₂.slotsUsed } : State).setVm s₂.vm).setTop { g with pc := g.pc + len₂, stack := v.toList ++ g.stack } := by
      refine e3.trans ?_
      rw [hf₂, State.calling_eq h.top, State.setFrames_setFrames, State.setTop_of_frames _ hr', hr]
      rfl
    have hsame : U.sameButNew ({ U with heap := s₂.heap, slotsUsed := s₂.slotsUsed } : State) L mc ms := by
      refine ⟨?_, q2, q3, q4, q5, q6⟩
      obtain ⟨t, ht, -⟩ := State.frames_cons hr
      show ({ U with heap := s₂.heap, slotsUsed := s₂.slotsUsed } : State) = { U.setFrames U.frames with heap := s₂.heap, slotsUsed := s₂.slotsUsed }
      rw [State.setFrames_self ht]
    subst hg
    refine Or.inl ⟨v, ⟨(({ U with heap := s₂.heap, slotsUsed := s₂.slotsUsed } : State).setVm s₂.vm), Ls ++ L, c0 + mc, s0 + ms⟩,
      ⟨X.admits, X.cas, X.clock, X.frames, X.room, X.hears, X.method, X.code, (X.here.setHeapUsed s₂.heap s₂.slotsUsed).setVm hW'.alike, X.tail, State.WarmedH.trans X.warmed hW', X.limits, X.bytes, X.same.trans (hsame.setVm s.vm)⟩,
      ⟨g, mk, s₂, L, rfl, rfl, hqc, rfl, hL, rfl, rfl⟩, ?_⟩
    show Steps p.tables e below _ ((({ U with heap := s₂.heap, slotsUsed := s₂.slotsUsed } : State).setVm s₂.vm).setTop { g with pc := g.pc + len₂, stack := v.toList ++ g.stack })
    rw [← hs₂]
    exact hsteps
  · obtain ⟨e2, q2, q3, q4, q5, q6⟩ := id hsm
    have e3 : s₂ = ({ (U.calling g mk a).setFrames s₂.frames with heap := s₂.heap, slotsUsed := s₂.slotsUsed } : State).setVm s₂.vm := by
      have : s₂ = ({ s₂ with vm := (U.calling g mk a).vm } : State).setVm s₂.vm := rfl
      rw [e2] at this
      exact this
    have hf₂ : s₂.frames = .throwing q :: .java g :: U.frames.tail := hend
    have hW' : U.WarmedH s₂.vm := hW₂
    have hs₂ : s₂ = ((({ U with heap := s₂.heap, slotsUsed := s₂.slotsUsed } : State).setVm s₂.vm).setTop g).pushFrame (.throwing q) := by
      refine e3.trans ?_
      rw [hf₂, State.calling_eq h.top, State.setFrames_setFrames, State.pushFrame, State.frames_setTop _ hr', State.setTop_of_frames _ hr', State.setFrames_setFrames, hr]
      rfl
    have hsame : U.sameButNew ({ U with heap := s₂.heap, slotsUsed := s₂.slotsUsed } : State) L mc ms := by
      refine ⟨?_, q2, q3, q4, q5, q6⟩
      obtain ⟨t, ht, -⟩ := State.frames_cons hr
      show ({ U with heap := s₂.heap, slotsUsed := s₂.slotsUsed } : State) = { U.setFrames U.frames with heap := s₂.heap, slotsUsed := s₂.slotsUsed }
      rw [State.setFrames_self ht]
    subst hg
    refine Or.inr ⟨q, ⟨(({ U with heap := s₂.heap, slotsUsed := s₂.slotsUsed } : State).setVm s₂.vm), Ls ++ L, c0 + mc, s0 + ms⟩,
      ⟨X.admits, X.cas, X.clock, X.frames, X.room, X.hears, X.method, X.code, (X.here.setHeapUsed s₂.heap s₂.slotsUsed).setVm hW'.alike, X.tail, State.WarmedH.trans X.warmed hW', X.limits, X.bytes, X.same.trans (hsame.setVm s.vm)⟩,
      ⟨g, mk, s₂, L, E, ce, rfl, rfl, hx, hce, hcv, hcl, rfl, hL, rfl, rfl⟩, ?_⟩
    show Steps p.tables e below _ (((({ U with heap := s₂.heap, slotsUsed := s₂.slotsUsed } : State).setVm s₂.vm).setTop g).pushFrame (.throwing q))
    rw [← hs₂]
    exact hsteps
end
variable {p : Program} {l : Launch} {e : Env} {R : Room} {s : State} {m : MethodId} {args : Array Value} {below : List Frame} {meth : Method} {c : Code} {T : State} {H : Heap} {locs : List Loc} {cells slots : Nat}
theorem vx_callVX (X : Stand p l e R s m args below meth c T locs cells slots) (hexec : p.tables.exec = Jvm.exec) {own C : String} {index : Nat} {y : MethodName} {bytes : ByteArray} {maxL : Nat} {ret : Option FieldType} {hh : List (Nat × Nat × Nat × Nat)}
    (hown : s.vm.findClass own = some m.cls) (hlink : (Cond.methodLink own index y).before args s = true) (hinst : (Cond.instanceMethod y).before args s = true) (hsel : (Cond.selects C y y).before args s = true)
    (hcode : (Cond.codeWith y bytes maxL ret hh).before args s = true) (hy : y.cls ≠ "java/lang/invoke/MethodHandle" ∧ y.cls ≠ "java/lang/invoke/VarHandle")
    {W9 : Nat} {Pre : Pt → Array Value → Prop} {Post : Pt → Array Value → Option Value → Pt → Prop} {PostX : Pt → Array Value → Addr → Pt → Prop} (hK : vx_Back l R p e below s args y 3 W9 Pre Post PostX)
    {b : Addr} {cellB : Cell} (hcell : T.heap[b]? = some cellB) (hobj : cellB.vm.isStatics = false) (hcls : s.vm.findClass C = some cellB.cls)
    {g : JFrame} (hg : g.method = m) (hsize : g.locals.size = c.maxLocals) {argsL rest : List Value} (hlen : ∀ sig, parseMethodDescriptor y.desc = some sig → argsL.length = sig.parameters.length)
    (hstack : g.stack = argsL.reverse ++ .ref b :: rest) (hW : 2 * g.monitorRoom + (rest.map fun v => v.category).sum ≤ W9) (hdg : decode c.code g.pc = .ok (.invokevirtual index, 3))
    (hpre : ∀ vm₁, s.WarmedH vm₁ → Pre ⟨T.setVm vm₁, locs, cells, slots⟩ (Value.ref b :: argsL).toArray) :
    (∃ (v : Option Value) (vm₁ : Vm) (B : Pt), s.WarmedH vm₁ ∧ Stand p l e R s m args below meth c B.U B.locs B.cells B.slots ∧ Post ⟨T.setVm vm₁, locs, cells, slots⟩ (Value.ref b :: argsL).toArray v B ∧
      ∀ target, Steps p.tables e below (B.U.setTop { g with pc := g.pc + 3, stack := v.toList ++ rest }) target → Steps p.tables e below (T.setTop g) target) ∨
    (∃ (q : Addr) (vm₁ : Vm) (B : Pt), s.WarmedH vm₁ ∧ Stand p l e R s m args below meth c B.U B.locs B.cells B.slots ∧ PostX ⟨T.setVm vm₁, locs, cells, slots⟩ (Value.ref b :: argsL).toArray q B ∧
      Steps p.tables e below (T.setTop g) ((B.U.setTop { g with stack := rest }).pushFrame (.throwing q))) := by
  obtain ⟨mk, methM, hnamed, hmethM, hstM, habM⟩ := Cond.instanceMethod_spec hinst
  obtain ⟨m8, methM', cM, hn8, hmethM', -, -, -, -, -, -, hsigM⟩ := Cond.codeWith_spec hcode
  cases Option.some.inj (hn8.symm.trans hnamed)
  cases hmethM.symm.trans hmethM'
  obtain ⟨c2, r2, m2, q1, q2, q3, q4, kP, hkP, hkPi⟩ := Cond.selects_spec hsel
  cases hcls.symm.trans q1
  cases (State.methodFound?_of_named hnamed hy).symm.trans q2
  cases hnamed.symm.trans q3
  have hselP : selectMethod e.platform s.vm cellB.cls mk = .method mk := by rw [Launch.admits_selectMethod X.admits]; exact q4
  obtain ⟨vm₁, X₁, hstep₁⟩ := X.invokevirtual hexec hown hlink hnamed hmethM hstM hkP hkPi hy (a := b) (cell := cellB) hcell
    (fun z h => by rw [h] at hobj; cases hobj) hselP hmethM habM hkP hkPi (g := g) hg (argsL := argsL) (rest := rest) (hlen _ hsigM) hstack hdg
  rcases hK m meth c ⟨T.setVm vm₁, locs, cells, slots⟩ { g with stack := rest } (.invokevirtual index) mk (Value.ref b :: argsL).toArray X₁ hg hsize hdg hW (X₁.named hnamed) (hpre vm₁ X₁.warmed) with ⟨v, B, X', hpost, hsteps⟩ | ⟨q, B, X', hpost, hsteps⟩
  · exact Or.inl ⟨v, vm₁, B, X₁.warmed, X', hpost, fun target h => hstep₁ _ fun acts => by rw [doInvoke_state]; exact hsteps.trans h⟩
  · exact Or.inr ⟨q, vm₁, B, X₁.warmed, X', hpost, hstep₁ _ fun acts => by rw [doInvoke_state]; exact hsteps⟩
theorem vx_callSX (X : Stand p l e R s m args below meth c T locs cells slots) (hexec : p.tables.exec = Jvm.exec) {own : String} {index : Nat} {y : MethodName} {bytes : ByteArray} {maxL : Nat} {ret : Option FieldType} {hh : List (Nat × Nat × Nat × Nat)}
    (hown : s.vm.findClass own = some m.cls) (hlink : (Cond.methodLink own index y).before args s = true) (hstat : (Cond.static y).before args s = true) (hinit : (Cond.initialized y.cls).before args s = true)
    (hcode : (Cond.codeWith y bytes maxL ret hh).before args s = true) (hy : y.cls ≠ "java/lang/invoke/MethodHandle" ∧ y.cls ≠ "java/lang/invoke/VarHandle")
    {W9 : Nat} {Pre : Pt → Array Value → Prop} {Post : Pt → Array Value → Option Value → Pt → Prop} {PostX : Pt → Array Value → Addr → Pt → Prop} (hK : vx_Back l R p e below s args y 3 W9 Pre Post PostX)
    {g : JFrame} (hg : g.method = m) (hsize : g.locals.size = c.maxLocals) {argsL rest : List Value} (hlen : ∀ sig, parseMethodDescriptor y.desc = some sig → argsL.length = sig.parameters.length)
    (hstack : g.stack = argsL.reverse ++ rest) (hW : 2 * g.monitorRoom + (rest.map fun v => v.category).sum ≤ W9) (hdg : decode c.code g.pc = .ok (.invokestatic index, 3))
    (hpre : ∀ vm₁, s.WarmedH vm₁ → Pre ⟨T.setVm vm₁, locs, cells, slots⟩ argsL.toArray) :
    (∃ (v : Option Value) (vm₁ : Vm) (B : Pt), s.WarmedH vm₁ ∧ Stand p l e R s m args below meth c B.U B.locs B.cells B.slots ∧ Post ⟨T.setVm vm₁, locs, cells, slots⟩ argsL.toArray v B ∧
      ∀ target, Steps p.tables e below (B.U.setTop { g with pc := g.pc + 3, stack := v.toList ++ rest }) target → Steps p.tables e below (T.setTop g) target) ∨
    (∃ (q : Addr) (vm₁ : Vm) (B : Pt), s.WarmedH vm₁ ∧ Stand p l e R s m args below meth c B.U B.locs B.cells B.slots ∧ PostX ⟨T.setVm vm₁, locs, cells, slots⟩ argsL.toArray q B ∧
      Steps p.tables e below (T.setTop g) ((B.U.setTop { g with stack := rest }).pushFrame (.throwing q))) := by
  obtain ⟨mk, methM, cM, hnamed, hmethM, -, -, -, -, -, -, hsigM⟩ := Cond.codeWith_spec hcode
  have hstatic : methM.isStatic = true := Cond.static_spec hnamed hmethM hstat
  obtain ⟨kP, hkP, -⟩ := className_of_methodNamed hnamed
  have hinitP : kP.init = .initialized := Cond.initialized_spec (findClass_of_methodNamed hnamed) hkP hinit
  obtain ⟨vm₁, X₁, hstep₁⟩ := X.invokestatic hexec hown hlink hnamed hmethM hstatic hkP hinitP hy (g := g) hg (argsL := argsL) (rest := rest) (hlen _ hsigM) hstack hdg
  rcases hK m meth c ⟨T.setVm vm₁, locs, cells, slots⟩ { g with stack := rest } (.invokestatic index) mk argsL.toArray X₁ hg hsize hdg hW (X₁.named hnamed) (hpre vm₁ X₁.warmed) with ⟨v, B, X', hpost, hsteps⟩ | ⟨q, B, X', hpost, hsteps⟩
  · exact Or.inl ⟨v, vm₁, B, X₁.warmed, X', hpost, fun target h => hstep₁ _ fun acts => by rw [doInvoke_state]; exact hsteps.trans h⟩
  · exact Or.inr ⟨q, vm₁, B, X₁.warmed, X', hpost, hstep₁ _ fun acts => by rw [doInvoke_state]; exact hsteps⟩
theorem vx_callVW (X : Stand p l e R s m args below meth c T locs cells slots) (hexec : p.tables.exec = Jvm.exec) {own C : String} {index : Nat} {y : MethodName} {bytes : ByteArray} {maxL : Nat} {ret : Option FieldType} {hh : List (Nat × Nat × Nat × Nat)}
    (hown : s.vm.findClass own = some m.cls) (hlink : (Cond.methodLink own index y).before args s = true) (hinst : (Cond.instanceMethod y).before args s = true) (hsel : (Cond.selects C y y).before args s = true)
    (hcode : (Cond.codeWith y bytes maxL ret hh).before args s = true) (hy : y.cls ≠ "java/lang/invoke/MethodHandle" ∧ y.cls ≠ "java/lang/invoke/VarHandle")
    {W9 : Nat} {Pre : Pt → Array Value → Prop} {Post : Pt → Array Value → Option Value → Pt → Prop} (hK : Back l R p e below s args y 3 W9 Pre Post)
    {b : Addr} {cellB : Cell} (hcell : T.heap[b]? = some cellB) (hobj : cellB.vm.isStatics = false) (hcls : s.vm.findClass C = some cellB.cls)
    {g : JFrame} (hg : g.method = m) (hsize : g.locals.size = c.maxLocals) {argsL rest : List Value} (hlen : ∀ sig, parseMethodDescriptor y.desc = some sig → argsL.length = sig.parameters.length)
    (hstack : g.stack = argsL.reverse ++ .ref b :: rest) (hW : 2 * g.monitorRoom + (rest.map fun v => v.category).sum ≤ W9) (hdg : decode c.code g.pc = .ok (.invokevirtual index, 3))
    (hpre : ∀ vm₁, s.WarmedH vm₁ → Pre ⟨T.setVm vm₁, locs, cells, slots⟩ (Value.ref b :: argsL).toArray) :
    ∃ (v : Option Value) (vm₁ : Vm) (B : Pt), s.WarmedH vm₁ ∧ Stand p l e R s m args below meth c B.U B.locs B.cells B.slots ∧ Post ⟨T.setVm vm₁, locs, cells, slots⟩ (Value.ref b :: argsL).toArray v B ∧
      ∀ target, Steps p.tables e below (B.U.setTop { g with pc := g.pc + 3, stack := v.toList ++ rest }) target → Steps p.tables e below (T.setTop g) target := by
  obtain ⟨mk, methM, hnamed, hmethM, hstM, habM⟩ := Cond.instanceMethod_spec hinst
  obtain ⟨m8, methM', cM, hn8, hmethM', -, -, -, -, -, -, hsigM⟩ := Cond.codeWith_spec hcode
  cases Option.some.inj (hn8.symm.trans hnamed)
  cases hmethM.symm.trans hmethM'
  obtain ⟨c2, r2, m2, q1, q2, q3, q4, kP, hkP, hkPi⟩ := Cond.selects_spec hsel
  cases hcls.symm.trans q1
  cases (State.methodFound?_of_named hnamed hy).symm.trans q2
  cases hnamed.symm.trans q3
  have hselP : selectMethod e.platform s.vm cellB.cls mk = .method mk := by rw [Launch.admits_selectMethod X.admits]; exact q4
  obtain ⟨vm₁, X₁, hstep₁⟩ := X.invokevirtual hexec hown hlink hnamed hmethM hstM hkP hkPi hy (a := b) (cell := cellB) hcell
    (fun z h => by rw [h] at hobj; cases hobj) hselP hmethM habM hkP hkPi (g := g) hg (argsL := argsL) (rest := rest) (hlen _ hsigM) hstack hdg
  obtain ⟨v, B, X', hpost, hsteps⟩ := hK m meth c ⟨T.setVm vm₁, locs, cells, slots⟩ { g with stack := rest } (.invokevirtual index) mk (Value.ref b :: argsL).toArray X₁ hg hsize hdg hW (X₁.named hnamed) (hpre vm₁ X₁.warmed)
  exact ⟨v, vm₁, B, X₁.warmed, X', hpost, fun target h => hstep₁ _ fun acts => by rw [doInvoke_state]; exact hsteps.trans h⟩
abbrev vx_CVW (R : Room) (s : State) (args : Array Value) (own C : String) (index : Nat) (y : MethodName) (bytes : ByteArray) (maxL : Nat) (ret : Option FieldType) (hh : List (Nat × Nat × Nat × Nat)) (ws : List Cond) (rm : Room) (mc ms n : Nat) : Prop :=
  (rm.cells = mc ∧ rm.slots = ms ∧ rm.frames + 1 ≤ R.frames ∧ 8 + (maxL + 11) + rm.locals ≤ R.locals ∧ (∀ w ∈ ws, ∀ (a' : Array Value) (U : State), s.WarmedH U.vm → w.before a' U = true) ∧ Cond.codeWith y bytes maxL ret hh ∈ ws) ∧
  (Cond.codeWith y bytes maxL ret hh).before args s = true ∧ (Cond.initialized y.cls).before args s = true ∧ (y.cls ≠ "java/lang/invoke/MethodHandle" ∧ y.cls ≠ "java/lang/invoke/VarHandle") ∧
  (∀ sig, parseMethodDescriptor y.desc = some sig → n = sig.parameters.length) ∧ (Cond.methodLink own index y).before args s = true ∧ (Cond.instanceMethod y).before args s = true ∧ (Cond.selects C y y).before args s = true
theorem vx_cwVW {own C : String} {index maxL mc ms : Nat} {y : MethodName} {bytes : ByteArray} {ret : Option FieldType} {hh : List (Nat × Nat × Nat × Nat)} {Ts ws ws' : List Cond} {rm : Room} (n : Nat) (ht : ∀ w ∈ Ts, w.before args s = true) (hT : GoodIn Ts (wsV own index C y ws)) (hw : ws = Cond.codeWith y bytes maxL ret hh :: ws') (hrc : rm.cells = mc) (hrs : rm.slots = ms)
    (hd : y.cls = C ∧ y.cls ≠ "java/lang/invoke/MethodHandle" ∧ y.cls ≠ "java/lang/invoke/VarHandle" ∧ (parseMethodDescriptor y.desc).map (fun d => d.parameters.length) = some n) (hR : rm.frames + 1 ≤ R.frames ∧ 8 + (maxL + 11) + rm.locals ≤ R.locals) :
    vx_CVW R s args own C index y bytes maxL ret hh ws rm mc ms n := by
  obtain ⟨hC, hd⟩ := hd
  subst hC
  have ok : ∀ w ∈ wsV own index y.cls y ws, w.before args s = true := fun w h => ht w (hT w h).1
  have hG : GoodIn Ts ws := fun w h => hT w (by unfold wsV; exact List.mem_append_right _ h)
  have hc : Cond.codeWith y bytes maxL ret hh ∈ ws := by rw [hw]; exact List.mem_cons_self
  refine ⟨⟨hrc, hrs, hR.1, hR.2, pay_in ht hG, hc⟩, ht _ (hG _ hc).1, ok _ (by simp [wsV]), ⟨hd.1, hd.2.1⟩, fun sig h => ?_, ok _ (by simp [wsV]), ok _ (by simp [wsV]), ok _ (by simp [wsV])⟩
  have h2 := hd.2.2
  rw [h] at h2
  exact (Option.some.inj h2).symm
theorem vx_runVW {y : MethodName} {bytes cc : ByteArray} {maxL nL mc ms n index : Nat} {ret : Option FieldType} {hh : List (Nat × Nat × Nat × Nat)} {ws : List Cond} {rm : Room} {Pc : Array Value → State → Prop} {Qc : Array Value → State → Outcome → State → Prop} {free : Addr → Prop} {Ts : List Cond} {own C : String} {b : Addr} {As rest : List Value} {g : JFrame}
    (S : CallFix p m c cc nL s args Ts own) (hM : Met l y ws rm Pc Qc mc ms free) (cw : vx_CVW R s args own C index y bytes maxL ret hh ws rm mc ms n) (hp : PreV s H C b Pc As)
    (hg : g.method = m) (hn : As.length = n) (hsize : g.locals.size = nL) (hstack : g.stack = As.reverse ++ .ref b :: rest) (hW : 2 * g.monitorRoom + (rest.map fun v => v.category).sum ≤ 8) (hdg : decode cc g.pc = .ok (.invokevirtual index, 3)) (hf : cells + mc ≤ R.cells ∧ slots + ms ≤ R.slots) :
    va_Run p l e R s m args below meth c H locs cells slots mc ms g rest (Qc (Value.ref b :: As).toArray) free := by
  obtain ⟨⟨hrc, hrs, hfr, hlo, hws, hcw⟩, hcode, hini, hy, hlen, hl, hin, hse⟩ := cw
  have hK : Back l R p e below s args y 3 8 (PreOf R mc ms Pc) (PostOf Qc mc ms free) := va_backW (hh := hh) (bytes := bytes) (maxL := maxL) (ret := ret) hM hp.1 hrc hrs hfr hlo hws hcw (fun a' U hW => word_at hW (Or.inl (by first | rfl | simp [Cond.onTables, Cond.keeps, Cond.steady])) hini)
  obtain ⟨hx, hb, hml, ho, -⟩ := S
  obtain ⟨-, ⟨cellB, hcB, hoB, hclB⟩, hPc⟩ := hp
  intro T hT X
  obtain ⟨v, vm₁, ⟨U', l2, c2, s2⟩, hW₁, X', ⟨g', mk, t, L, e1, e2, hq, h1, hL, h2, h3⟩, st⟩ := vx_callVW X hx (C := C) (hh := hh) (bytes := bytes) (maxL := maxL) (ret := ret) ho hl hin hse hcode hy hK (by rw [hT]; exact hcB) hoB hclB hg (hsize.trans hml.symm) (argsL := As) (rest := rest) (fun sig h => hn.trans (hlen sig h)) hstack hW (by rw [hb]; exact hdg)
    (fun vm₁ hW₁ => ⟨hf.1, hf.2, hPc (T.setVm vm₁) hT hW₁⟩)
  dsimp only [Pt.U, Pt.locs, Pt.cells, Pt.slots] at X' e1 e2 h1 h2 h3 st
  subst h1; subst h2; subst h3
  exact ⟨v, (T.setVm vm₁).calling g' mk (Value.ref b :: As).toArray, t, U', L, hT, X', hL, e1, e2, hq, st⟩
section
variable {y : MethodName} {bytes cc : ByteArray} {maxL nL mc ms n index : Nat} {ret : Option FieldType} {ws : List Cond} {rm : Room} {Pc : Array Value → State → Prop} {Qc : Array Value → State → Outcome → State → Prop} {XC : String → State → State → Prop} {free : Addr → Prop} {Ts : List Cond} {own C : String} {b : Addr} {As rest : List Value} {g : JFrame}
theorem vx_runVX {hh : List (Nat × Nat × Nat × Nat)} (S : CallFix p m c cc nL s args Ts own) (hM : vx_Met l y ws rm Pc Qc XC mc ms free) (cw : vx_CVW R s args own C index y bytes maxL ret hh ws rm mc ms n) (hp : PreV s H C b Pc As)
    (hg : g.method = m) (hn : As.length = n) (hsize : g.locals.size = nL) (hstack : g.stack = As.reverse ++ .ref b :: rest) (hW : 2 * g.monitorRoom + (rest.map fun v => v.category).sum ≤ 8) (hdg : decode cc g.pc = .ok (.invokevirtual index, 3)) (hf : cells + mc ≤ R.cells ∧ slots + ms ≤ R.slots) :
    vx_Run p l e R s m args below meth c H locs cells slots mc ms g rest (Qc (Value.ref b :: As).toArray) XC free := by
  obtain ⟨⟨hrc, hrs, hfr, hlo, hws, hcw⟩, hcode, hini, hy, hlen, hl, hin, hse⟩ := cw
  have hK : vx_Back l R p e below s args y 3 8 (PreOf R mc ms Pc) (PostOf Qc mc ms free) (vx_Post XC mc ms free) := vx_backW (hh := hh) (bytes := bytes) (maxL := maxL) (ret := ret) hM hp.1 hrc hrs hfr hlo hws hcw (fun a' U hW => word_at hW (Or.inl (by first | rfl | simp [Cond.onTables, Cond.keeps, Cond.steady])) hini)
  obtain ⟨hx, hb, hml, ho, -⟩ := S
  obtain ⟨-, ⟨cellB, hcB, hoB, hclB⟩, hPc⟩ := hp
  intro T hT X
  rcases vx_callVX X hx (C := C) (hh := hh) (bytes := bytes) (maxL := maxL) (ret := ret) ho hl hin hse hcode hy hK (by rw [hT]; exact hcB) hoB hclB hg (hsize.trans hml.symm) (argsL := As) (rest := rest) (fun sig h => hn.trans (hlen sig h)) hstack hW (by rw [hb]; exact hdg)
    (fun vm₁ hW₁ => ⟨hf.1, hf.2, hPc (T.setVm vm₁) hT hW₁⟩) with ⟨v, vm₁, ⟨U', l2, c2, s2⟩, hW₁, X', ⟨g', mk, t, L, e1, e2, hq, h1, hL, h2, h3⟩, st⟩ | ⟨q, vm₁, ⟨U', l2, c2, s2⟩, hW₁, X', ⟨g', mk, t, L, E, ce, e1, e2, hq, hce, hcv, hcl, h1, hL, h2, h3⟩, st⟩
  · dsimp only [Pt.U, Pt.locs, Pt.cells, Pt.slots] at X' e1 e2 h1 h2 h3 st
    subst h1; subst h2; subst h3
    exact Or.inl ⟨v, (T.setVm vm₁).calling g' mk (Value.ref b :: As).toArray, t, U', L, hT, X', hL, e1, e2, hq, st⟩
  · dsimp only [Pt.U, Pt.locs, Pt.cells, Pt.slots] at X' e1 e2 h1 h2 h3 st hcl
    subst h1; subst h2; subst h3
    exact Or.inr ⟨q, (T.setVm vm₁).calling g' mk (Value.ref b :: As).toArray, t, U', L, E, ce, hT, X', hL, e1, e2, hq, hce, hcv, vx_cls hW₁ hcl, st⟩
theorem vx_runSX {hh : List (Nat × Nat × Nat × Nat)} (S : CallFix p m c cc nL s args Ts own) (hM : vx_Met l y ws rm Pc Qc XC mc ms free) (cw : vx_CSW R s args own index y bytes maxL ret hh ws rm mc ms n) (hp : PreS s H Pc As)
    (hg : g.method = m) (hn : As.length = n) (hsize : g.locals.size = nL) (hstack : g.stack = As.reverse ++ rest) (hW : 2 * g.monitorRoom + (rest.map fun v => v.category).sum ≤ 8) (hdg : decode cc g.pc = .ok (.invokestatic index, 3)) (hf : cells + mc ≤ R.cells ∧ slots + ms ≤ R.slots) :
    vx_Run p l e R s m args below meth c H locs cells slots mc ms g rest (Qc As.toArray) XC free := by
  obtain ⟨⟨hrc, hrs, hfr, hlo, hws, hcw⟩, hcode, hini, hy, hlen, hl, hstt⟩ := cw
  have hK : vx_Back l R p e below s args y 3 8 (PreOf R mc ms Pc) (PostOf Qc mc ms free) (vx_Post XC mc ms free) := vx_backW (hh := hh) (bytes := bytes) (maxL := maxL) (ret := ret) hM hp.1 hrc hrs hfr hlo hws hcw (fun a' U hW => word_at hW (Or.inl (by first | rfl | simp [Cond.onTables, Cond.keeps, Cond.steady])) hini)
  obtain ⟨hx, hb, hml, ho, -⟩ := S
  intro T hT X
  rcases vx_callSX X hx (hh := hh) (bytes := bytes) (maxL := maxL) (ret := ret) ho hl hstt hini hcode hy hK hg (hsize.trans hml.symm) (argsL := As) (rest := rest) (fun sig h => hn.trans (hlen sig h)) hstack hW (by rw [hb]; exact hdg)
    (fun vm₁ hW₁ => ⟨hf.1, hf.2, hp.2 (T.setVm vm₁) hT hW₁⟩) with ⟨v, vm₁, ⟨U', l2, c2, s2⟩, hW₁, X', ⟨g', mk, t, L, e1, e2, hq, h1, hL, h2, h3⟩, st⟩ | ⟨q, vm₁, ⟨U', l2, c2, s2⟩, hW₁, X', ⟨g', mk, t, L, E, ce, e1, e2, hq, hce, hcv, hcl, h1, hL, h2, h3⟩, st⟩
  · dsimp only [Pt.U, Pt.locs, Pt.cells, Pt.slots] at X' e1 e2 h1 h2 h3 st
    subst h1; subst h2; subst h3
    exact Or.inl ⟨v, (T.setVm vm₁).calling g' mk As.toArray, t, U', L, hT, X', hL, e1, e2, hq, st⟩
  · dsimp only [Pt.U, Pt.locs, Pt.cells, Pt.slots] at X' e1 e2 h1 h2 h3 st hcl
    subst h1; subst h2; subst h3
    exact Or.inr ⟨q, (T.setVm vm₁).calling g' mk As.toArray, t, U', L, E, ce, hT, X', hL, e1, e2, hq, hce, hcv, vx_cls hW₁ hcl, st⟩
end
end VXH
theorem vx_ofWH {l : Launch} {y : MethodName} {ws ws' : List Cond} {rm : Room} {Pc : Array Value → State → Prop} {Qc : Array Value → State → Outcome → State → Prop} {XC : String → State → State → Prop} {mc ms : Nat} {free : Addr → Prop} {cc : ByteArray} {maxL : Nat} {ret : Option FieldType} {hh : List (Nat × Nat × Nat × Nat)}
    (hy : plainName y.cls = true) (hw : ws = Cond.codeWith y cc maxL ret hh :: ws')
    (body : ∀ p e s m args below meth c s₁, BodyLoose p l y (headSpec ws rm) cc maxL ret e s m args below meth c s₁ → c.maxLocals = maxL → Pc args s →
      W p l e (headSpec ws rm).room s m args below meth c s.heap [] 0 0 (vx_MQ below Qc XC args s mc ms free) (entryFrame m args maxL)) : vx_Met l y ws rm Pc Qc XC mc ms free := by
  refine MetFree.of_bodyS (code := cc) (maxLocals := maxL) (ret := ret) hy ?_ ?_
  · intro args s m h hn
    obtain ⟨m9, meth, c, hn9, h1, h2, h3, h4, -, h5, h6, -⟩ := Cond.codeWith_spec (atoms_spec (ws := ws) h _ (by rw [hw]; exact List.mem_cons_self))
    cases hn.symm.trans hn9
    exact ⟨meth, c, h1, h2, h3, h4, h5, h6⟩
  · intro p e s m args below meth c s₁ B hml hP _
    have hh0 : s₁.heap = s.heap := by rw [B.state]; rfl
    obtain ⟨t, a1, o, b1, b2, b3⟩ := body p e s m args below meth c s₁ B hml hP s₁ hh0 (Stand.of_body B)
    exact ⟨t, o, a1, b1, b2, b3⟩
/-! ===== END ===== -/
/-! ===== BEGIN a constructor that throws (launches without stack traces) ===== -/
section VXIA
variable {p : Program} {l : Launch} {e : Env} {R : Room} {s : State} {m : MethodId} {args : Array Value} {below : List Frame} {meth : Method} {c : Code} {T : State} {locs : List Loc} {cells slots : Nat}
theorem vx_callI (X : Stand p l e R s m args below meth c T locs cells slots) (hexec : p.tables.exec = Jvm.exec) {own : String} {index : Nat} {y : MethodName} {bytes : ByteArray} {maxL : Nat}
    (hown : s.vm.findClass own = some m.cls) (hy1 : y.name = "<init>") (hlink : (Cond.methodLink own index y).before args s = true) (hinst : (Cond.instanceMethod y).before args s = true)
    (hcode : (Cond.code y bytes maxL none).before args s = true) (hy : y.cls ≠ "java/lang/invoke/MethodHandle" ∧ y.cls ≠ "java/lang/invoke/VarHandle")
    {W9 : Nat} {Pre : Pt → Array Value → Prop} {Post : Pt → Array Value → Option Value → Pt → Prop} {PostX : Pt → Array Value → Addr → Pt → Prop} (hK : vx_Back l R p e below s args y 3 W9 Pre Post PostX)
    {g : JFrame} (hg : g.method = m) (hsize : g.locals.size = c.maxLocals) {a : Addr} {argsL rest : List Value} (hlen : ∀ sig, parseMethodDescriptor y.desc = some sig → argsL.length = sig.parameters.length)
    (hstack : g.stack = argsL.reverse ++ .ref a :: rest) (hW : 2 * g.monitorRoom + (rest.map fun v => v.category).sum ≤ W9) (hdg : decode c.code g.pc = .ok (.invokespecial index, 3))
    (hpre : ∀ vm₁, s.WarmedH vm₁ → Pre ⟨T.setVm vm₁, locs, cells, slots⟩ (Value.ref a :: argsL).toArray) :
    (∃ (v : Option Value) (vm₁ : Vm) (B : Pt), s.WarmedH vm₁ ∧ Stand p l e R s m args below meth c B.U B.locs B.cells B.slots ∧ Post ⟨T.setVm vm₁, locs, cells, slots⟩ (Value.ref a :: argsL).toArray v B ∧
      ∀ target, Steps p.tables e below (B.U.setTop { g with pc := g.pc + 3, stack := v.toList ++ rest }) target → Steps p.tables e below (T.setTop g) target) ∨
    (∃ (q : Addr) (vm₁ : Vm) (B : Pt), s.WarmedH vm₁ ∧ Stand p l e R s m args below meth c B.U B.locs B.cells B.slots ∧ PostX ⟨T.setVm vm₁, locs, cells, slots⟩ (Value.ref a :: argsL).toArray q B ∧
      Steps p.tables e below (T.setTop g) ((B.U.setTop { g with stack := rest }).pushFrame (.throwing q))) := by
  subst hg
  have hpl : e.platform.magicAccessors = ({} : Platform).magicAccessors := by rw [X.admits.platform]
  obtain ⟨mk, methM, cM, kP, vm₁, hnamed, hmethM, hcodeM, -, hlocalsM, -, hkP, -, hW₁, hstep₁⟩ := Steps.initColdArgs (e := e) X.here hexec X.warmed hpl hown hy1 hy hlink hinst hcode (f := g) rfl hlen hstack hdg
  have X₁ := X.noted hW₁
  rcases hK g.method meth c ⟨T.setVm vm₁, locs, cells, slots⟩ { g with stack := rest } (.invokespecial index) mk (Value.ref a :: argsL).toArray X₁ rfl hsize hdg hW (X₁.named hnamed) (hpre vm₁ X₁.warmed) with ⟨v, B, X', hpost, hsteps⟩ | ⟨q, B, X', hpost, hsteps⟩
  · exact Or.inl ⟨v, vm₁, B, X₁.warmed, X', hpost, fun target h => hstep₁ _ fun acts => by rw [doInvoke_state]; exact hsteps.trans h⟩
  · exact Or.inr ⟨q, vm₁, B, X₁.warmed, X', hpost, hstep₁ _ fun acts => by rw [doInvoke_state]; exact hsteps⟩
end VXIA
section VXIB
variable {p : Program} {l : Launch} {e : Env} {R : Room} {s : State} {m : MethodId} {args : Array Value} {below : List Frame} {meth : Method} {c : Code} {H : Heap} {locs : List Loc} {cells slots : Nat}
variable {y : MethodName} {bytes cc : ByteArray} {maxL nL mc ms n index : Nat} {ret : Option FieldType} {ws : List Cond} {rm : Room} {Pc : Array Value → State → Prop} {Qc : Array Value → State → Outcome → State → Prop} {XC : String → State → State → Prop} {free : Addr → Prop} {Ts : List Cond} {own C : String} {b : Addr} {As rest : List Value} {g : JFrame}
theorem vx_runI (S : CallFix p m c cc nL s args Ts own) (hM : vx_Met l y ws rm Pc Qc XC mc ms free) (cw : CallB R s args own index y bytes maxL none ws rm mc ms n ∧ y.name = "<init>" ∧ (Cond.instanceMethod y).before args s = true) (hp : PreS s H Pc (.ref b :: As))
    (hg : g.method = m) (hn : As.length = n) (hsize : g.locals.size = nL) (hstack : g.stack = As.reverse ++ .ref b :: rest) (hW : 2 * g.monitorRoom + (rest.map fun v => v.category).sum ≤ 8) (hdg : decode cc g.pc = .ok (.invokespecial index, 3)) (hf : cells + mc ≤ R.cells ∧ slots + ms ≤ R.slots) :
    vx_Run p l e R s m args below meth c H locs cells slots mc ms g rest (Qc (Value.ref b :: As).toArray) XC free := by
  have hK : vx_Back l R p e below s args y 3 8 (PreOf R mc ms Pc) (PostOf Qc mc ms free) (vx_Post XC mc ms free) := vx_callBack cw.1 hM hp.1
  obtain ⟨⟨-, -, -, -, -, -, hcode, -, hy, hlen, hl⟩, hy1, hin⟩ := cw
  obtain ⟨hx, hb, hml, ho, -⟩ := S
  have hPc := hp.2
  intro T hT X
  rcases vx_callI X hx (bytes := bytes) (maxL := maxL) ho hy1 hl hin hcode hy hK hg (hsize.trans hml.symm) (a := b) (argsL := As) (rest := rest) (fun sig h => hn.trans (hlen sig h)) hstack hW (by rw [hb]; exact hdg)
    (fun vm₁ hW₁ => ⟨hf.1, hf.2, hPc (T.setVm vm₁) hT hW₁⟩) with ⟨v, vm₁, ⟨U', l2, c2, s2⟩, hW₁, X', ⟨g', mk, t, L, e1, e2, hq, h1, hL, h2, h3⟩, st⟩ | ⟨q, vm₁, ⟨U', l2, c2, s2⟩, hW₁, X', ⟨g', mk, t, L, E, ce, e1, e2, hq, hce, hcv, hcl, h1, hL, h2, h3⟩, st⟩
  · dsimp only [Pt.U, Pt.locs, Pt.cells, Pt.slots] at X' e1 e2 h1 h2 h3 st
    subst h1; subst h2; subst h3
    exact Or.inl ⟨v, (T.setVm vm₁).calling g' mk (Value.ref b :: As).toArray, t, U', L, hT, X', hL, e1, e2, hq, st⟩
  · dsimp only [Pt.U, Pt.locs, Pt.cells, Pt.slots] at X' e1 e2 h1 h2 h3 st hcl
    subst h1; subst h2; subst h3
    exact Or.inr ⟨q, (T.setVm vm₁).calling g' mk (Value.ref b :: As).toArray, t, U', L, E, ce, hT, X', hL, e1, e2, hq, hce, hcv, vx_cls hW₁ hcl, st⟩
end VXIB
/-! ===== END ===== -/
/-! ===== BEGIN a private constructor of a nest mate that throws ===== -/
section VXIC
variable {p : Program} {l : Launch} {e : Env} {R : Room} {s : State} {m : MethodId} {args : Array Value} {below : List Frame} {meth : Method} {c : Code} {T : State} {locs : List Loc} {cells slots : Nat}
theorem vx_callIN (X : Stand p l e R s m args below meth c T locs cells slots) (hexec : p.tables.exec = Jvm.exec) {own : String} {index : Nat} {host : String} {y : MethodName} {bytes : ByteArray} {maxL : Nat}
    (hown : s.vm.findClass own = some m.cls) (hy1 : y.name = "<init>") (hlink : (Cond.methodLinkNest own index y host).before args s = true) (hinst : (Cond.instanceMethod y).before args s = true)
    (hcode : (Cond.code y bytes maxL none).before args s = true) (hy : y.cls ≠ "java/lang/invoke/MethodHandle" ∧ y.cls ≠ "java/lang/invoke/VarHandle")
    {W9 : Nat} {Pre : Pt → Array Value → Prop} {Post : Pt → Array Value → Option Value → Pt → Prop} {PostX : Pt → Array Value → Addr → Pt → Prop} (hK : vx_Back l R p e below s args y 3 W9 Pre Post PostX)
    {g : JFrame} (hg : g.method = m) (hsize : g.locals.size = c.maxLocals) {a : Addr} {argsL rest : List Value} (hlen : ∀ sig, parseMethodDescriptor y.desc = some sig → argsL.length = sig.parameters.length)
    (hstack : g.stack = argsL.reverse ++ .ref a :: rest) (hW : 2 * g.monitorRoom + (rest.map fun v => v.category).sum ≤ W9) (hdg : decode c.code g.pc = .ok (.invokespecial index, 3))
    (hpre : ∀ vm₁, s.WarmedH vm₁ → Pre ⟨T.setVm vm₁, locs, cells, slots⟩ (Value.ref a :: argsL).toArray) :
    (∃ (v : Option Value) (vm₁ : Vm) (B : Pt), s.WarmedH vm₁ ∧ Stand p l e R s m args below meth c B.U B.locs B.cells B.slots ∧ Post ⟨T.setVm vm₁, locs, cells, slots⟩ (Value.ref a :: argsL).toArray v B ∧
      ∀ target, Steps p.tables e below (B.U.setTop { g with pc := g.pc + 3, stack := v.toList ++ rest }) target → Steps p.tables e below (T.setTop g) target) ∨
    (∃ (q : Addr) (vm₁ : Vm) (B : Pt), s.WarmedH vm₁ ∧ Stand p l e R s m args below meth c B.U B.locs B.cells B.slots ∧ PostX ⟨T.setVm vm₁, locs, cells, slots⟩ (Value.ref a :: argsL).toArray q B ∧
      Steps p.tables e below (T.setTop g) ((B.U.setTop { g with stack := rest }).pushFrame (.throwing q))) := by
  subst hg
  have hpl : e.platform.magicAccessors = ({} : Platform).magicAccessors := by rw [X.admits.platform]
  obtain ⟨mk, methM, cM, kP, vm₁, hnamed, hmethM, hcodeM, -, hlocalsM, -, hkP, -, hW₁, hstep₁⟩ := Steps.initColdArgsNest (e := e) X.here hexec X.warmed hpl hown hy1 hy hlink hinst hcode (f := g) rfl hlen hstack hdg
  have X₁ := X.noted hW₁
  rcases hK g.method meth c ⟨T.setVm vm₁, locs, cells, slots⟩ { g with stack := rest } (.invokespecial index) mk (Value.ref a :: argsL).toArray X₁ rfl hsize hdg hW (X₁.named hnamed) (hpre vm₁ X₁.warmed) with ⟨v, B, X', hpost, hsteps⟩ | ⟨q, B, X', hpost, hsteps⟩
  · exact Or.inl ⟨v, vm₁, B, X₁.warmed, X', hpost, fun target h => hstep₁ _ fun acts => by rw [doInvoke_state]; exact hsteps.trans h⟩
  · exact Or.inr ⟨q, vm₁, B, X₁.warmed, X', hpost, hstep₁ _ fun acts => by rw [doInvoke_state]; exact hsteps⟩
end VXIC
section VXID
variable {p : Program} {l : Launch} {e : Env} {R : Room} {s : State} {m : MethodId} {args : Array Value} {below : List Frame} {meth : Method} {c : Code} {H : Heap} {locs : List Loc} {cells slots : Nat}
theorem vx_runIN {y : MethodName} {bytes cc : ByteArray} {maxL nL mc ms n index : Nat} {ws : List Cond} {rm : Room} {Pc : Array Value → State → Prop} {Qc : Array Value → State → Outcome → State → Prop} {XC : String → State → State → Prop} {free : Addr → Prop} {Ts : List Cond} {own host : String} {b : Addr} {As rest : List Value} {g : JFrame}
    (S : CallFix p m c cc nL s args Ts own) (hM : vx_Met l y ws rm Pc Qc XC mc ms free) (cw : va_CN R s args own index y host bytes maxL none ws rm mc ms n ∧ y.name = "<init>" ∧ (Cond.instanceMethod y).before args s = true) (hp : PreS s H Pc (.ref b :: As))
    (hg : g.method = m) (hn : As.length = n) (hsize : g.locals.size = nL) (hstack : g.stack = As.reverse ++ .ref b :: rest) (hW : 2 * g.monitorRoom + (rest.map fun v => v.category).sum ≤ 8) (hdg : decode cc g.pc = .ok (.invokespecial index, 3)) (hf : cells + mc ≤ R.cells ∧ slots + ms ≤ R.slots) :
    vx_Run p l e R s m args below meth c H locs cells slots mc ms g rest (Qc (Value.ref b :: As).toArray) XC free := by
  obtain ⟨⟨⟨hrc, hrs, hfr, hlo, hws, hcw⟩, hcode, hini, hy, hlen, hl⟩, hx1, hx2⟩ := cw
  have hK : vx_Back l R p e below s args y 3 8 (PreOf R mc ms Pc) (PostOf Qc mc ms free) (vx_Post XC mc ms free) := vx_back (bytes := bytes) (maxL := maxL) (ret := none) hM hp.1 hrc hrs hfr hlo hws hcw (fun a' U hW => word_at hW (Or.inl (by first | rfl | simp [Cond.onTables, Cond.keeps, Cond.steady])) hini)
  obtain ⟨hx, hb, hml, ho, -⟩ := S
  have hPc := hp.2
  intro T hT X
  rcases vx_callIN X hx (bytes := bytes) (maxL := maxL) ho hx1 hl hx2 hcode hy hK hg (hsize.trans hml.symm) (a := b) (argsL := As) (rest := rest) (fun sig h => hn.trans (hlen sig h)) hstack hW (by rw [hb]; exact hdg)
    (fun vm₁ hW₁ => ⟨hf.1, hf.2, hPc (T.setVm vm₁) hT hW₁⟩) with ⟨v, vm₁, ⟨U', l2, c2, s2⟩, hW₁, X', ⟨g', mk, t, L, e1, e2, hq, h1, hL, h2, h3⟩, st⟩ | ⟨q, vm₁, ⟨U', l2, c2, s2⟩, hW₁, X', ⟨g', mk, t, L, E, ce, e1, e2, hq, hce, hcv, hcl, h1, hL, h2, h3⟩, st⟩
  · dsimp only [Pt.U, Pt.locs, Pt.cells, Pt.slots] at X' e1 e2 h1 h2 h3 st
    subst h1; subst h2; subst h3
    exact Or.inl ⟨v, (T.setVm vm₁).calling g' mk (Value.ref b :: As).toArray, t, U', L, hT, X', hL, e1, e2, hq, st⟩
  · dsimp only [Pt.U, Pt.locs, Pt.cells, Pt.slots] at X' e1 e2 h1 h2 h3 st hcl
    subst h1; subst h2; subst h3
    exact Or.inr ⟨q, (T.setVm vm₁).calling g' mk (Value.ref b :: As).toArray, t, U', L, E, ce, hT, X', hL, e1, e2, hq, hce, hcv, vx_cls hW₁ hcl, st⟩
end VXID
/-! ===== END ===== -/
/-! ===== BEGIN a private method of a nest mate that may throw (follows va_callVN, va_callSN, va_runVN, va_runSN) ===== -/
section
variable {p : Program} {l : Launch} {e : Env} {R : Room} {s : State} {m : MethodId} {args : Array Value} {below : List Frame} {meth : Method} {c : Code} {H : Heap} {locs : List Loc} {cells slots : Nat}
variable {T : State}
theorem vx_callVN (X : Stand p l e R s m args below meth c T locs cells slots) (hexec : p.tables.exec = Jvm.exec) {own C : String} {index : Nat} {host : String} {y : MethodName} {bytes : ByteArray} {maxL : Nat} {ret : Option FieldType}
    (hown : s.vm.findClass own = some m.cls) (hlink : (Cond.methodLinkNest own index y host).before args s = true) (hinst : (Cond.instanceMethod y).before args s = true) (hsel : (Cond.selects C y y).before args s = true)
    (hcode : (Cond.code y bytes maxL ret).before args s = true) (hy : y.cls ≠ "java/lang/invoke/MethodHandle" ∧ y.cls ≠ "java/lang/invoke/VarHandle")
    {W : Nat} {Pre : Pt → Array Value → Prop} {Post : Pt → Array Value → Option Value → Pt → Prop} {PostX : Pt → Array Value → Addr → Pt → Prop} (hK : vx_Back l R p e below s args y 3 W Pre Post PostX)
    {b : Addr} {cellB : Cell} (hcell : T.heap[b]? = some cellB) (hobj : cellB.vm.isStatics = false) (hcls : s.vm.findClass C = some cellB.cls)
    {g : JFrame} (hg : g.method = m) (hsize : g.locals.size = c.maxLocals) {argsL rest : List Value} (hlen : ∀ sig, parseMethodDescriptor y.desc = some sig → argsL.length = sig.parameters.length)
    (hstack : g.stack = argsL.reverse ++ .ref b :: rest) (hW : 2 * g.monitorRoom + (rest.map fun v => v.category).sum ≤ W) (hdg : decode c.code g.pc = .ok (.invokevirtual index, 3))
    (hpre : ∀ vm₁, s.WarmedH vm₁ → Pre ⟨T.setVm vm₁, locs, cells, slots⟩ (Value.ref b :: argsL).toArray) :
    (∃ (v : Option Value) (vm₁ : Vm) (B : Pt), s.WarmedH vm₁ ∧ Stand p l e R s m args below meth c B.U B.locs B.cells B.slots ∧ Post ⟨T.setVm vm₁, locs, cells, slots⟩ (Value.ref b :: argsL).toArray v B ∧
      ∀ target, Steps p.tables e below (B.U.setTop { g with pc := g.pc + 3, stack := v.toList ++ rest }) target → Steps p.tables e below (T.setTop g) target) ∨
    (∃ (q : Addr) (vm₁ : Vm) (B : Pt), s.WarmedH vm₁ ∧ Stand p l e R s m args below meth c B.U B.locs B.cells B.slots ∧ PostX ⟨T.setVm vm₁, locs, cells, slots⟩ (Value.ref b :: argsL).toArray q B ∧
      Steps p.tables e below (T.setTop g) ((B.U.setTop { g with stack := rest }).pushFrame (.throwing q))) := by
  obtain ⟨mk, methM, hnamed, hmethM, hstM, habM⟩ := Cond.instanceMethod_spec hinst
  obtain ⟨methM', cM, hmethM', -, -, -, -, -, -, hsigM⟩ := Cond.code_spec hnamed hcode
  cases hmethM.symm.trans hmethM'
  obtain ⟨c2, r2, m2, q1, q2, q3, q4, kP, hkP, hkPi⟩ := Cond.selects_spec hsel
  cases hcls.symm.trans q1
  cases (State.methodFound?_of_named hnamed hy).symm.trans q2
  cases hnamed.symm.trans q3
  have hselP : selectMethod e.platform s.vm cellB.cls mk = .method mk := by rw [Launch.admits_selectMethod X.admits]; exact q4
  obtain ⟨vm₁, X₁, hstep₁⟩ := X.invokevirtualNest hexec hown hlink hnamed hmethM hstM hkP hkPi hy (a := b) (cell := cellB) hcell
    (fun z h => by rw [h] at hobj; cases hobj) hselP hmethM habM hkP hkPi (g := g) hg (argsL := argsL) (rest := rest) (hlen _ hsigM) hstack hdg
  rcases hK m meth c ⟨T.setVm vm₁, locs, cells, slots⟩ { g with stack := rest } (.invokevirtual index) mk (Value.ref b :: argsL).toArray X₁ hg hsize hdg hW (X₁.named hnamed) (hpre vm₁ X₁.warmed) with ⟨v, B, X', hpost, hsteps⟩ | ⟨q, B, X', hpost, hsteps⟩
  · exact Or.inl ⟨v, vm₁, B, X₁.warmed, X', hpost, fun target h => hstep₁ _ fun acts => by rw [doInvoke_state]; exact hsteps.trans h⟩
  · exact Or.inr ⟨q, vm₁, B, X₁.warmed, X', hpost, hstep₁ _ fun acts => by rw [doInvoke_state]; exact hsteps⟩
theorem vx_callSN (X : Stand p l e R s m args below meth c T locs cells slots) (hexec : p.tables.exec = Jvm.exec) {own : String} {index : Nat} {host : String} {y : MethodName} {bytes : ByteArray} {maxL : Nat} {ret : Option FieldType}
    (hown : s.vm.findClass own = some m.cls) (hlink : (Cond.methodLinkNest own index y host).before args s = true) (hstat : (Cond.static y).before args s = true) (hinit : (Cond.initialized y.cls).before args s = true)
    (hcode : (Cond.code y bytes maxL ret).before args s = true) (hy : y.cls ≠ "java/lang/invoke/MethodHandle" ∧ y.cls ≠ "java/lang/invoke/VarHandle")
    {W : Nat} {Pre : Pt → Array Value → Prop} {Post : Pt → Array Value → Option Value → Pt → Prop} {PostX : Pt → Array Value → Addr → Pt → Prop} (hK : vx_Back l R p e below s args y 3 W Pre Post PostX)
    {g : JFrame} (hg : g.method = m) (hsize : g.locals.size = c.maxLocals) {argsL rest : List Value} (hlen : ∀ sig, parseMethodDescriptor y.desc = some sig → argsL.length = sig.parameters.length)
    (hstack : g.stack = argsL.reverse ++ rest) (hW : 2 * g.monitorRoom + (rest.map fun v => v.category).sum ≤ W) (hdg : decode c.code g.pc = .ok (.invokestatic index, 3))
    (hpre : ∀ vm₁, s.WarmedH vm₁ → Pre ⟨T.setVm vm₁, locs, cells, slots⟩ argsL.toArray) :
    (∃ (v : Option Value) (vm₁ : Vm) (B : Pt), s.WarmedH vm₁ ∧ Stand p l e R s m args below meth c B.U B.locs B.cells B.slots ∧ Post ⟨T.setVm vm₁, locs, cells, slots⟩ argsL.toArray v B ∧
      ∀ target, Steps p.tables e below (B.U.setTop { g with pc := g.pc + 3, stack := v.toList ++ rest }) target → Steps p.tables e below (T.setTop g) target) ∨
    (∃ (q : Addr) (vm₁ : Vm) (B : Pt), s.WarmedH vm₁ ∧ Stand p l e R s m args below meth c B.U B.locs B.cells B.slots ∧ PostX ⟨T.setVm vm₁, locs, cells, slots⟩ argsL.toArray q B ∧
      Steps p.tables e below (T.setTop g) ((B.U.setTop { g with stack := rest }).pushFrame (.throwing q))) := by
  obtain ⟨mk, hnamed⟩ := Cond.code_named hcode
  obtain ⟨methM, cM, hmethM, -, -, -, -, -, -, hsigM⟩ := Cond.code_spec hnamed hcode
  have hstatic : methM.isStatic = true := Cond.static_spec hnamed hmethM hstat
  obtain ⟨kP, hkP, -⟩ := className_of_methodNamed hnamed
  have hinitP : kP.init = .initialized := Cond.initialized_spec (findClass_of_methodNamed hnamed) hkP hinit
  obtain ⟨vm₁, X₁, hstep₁⟩ := X.invokestaticNest hexec hown hlink hnamed hmethM hstatic hkP hinitP hy (g := g) hg (argsL := argsL) (rest := rest) (hlen _ hsigM) hstack hdg
  rcases hK m meth c ⟨T.setVm vm₁, locs, cells, slots⟩ { g with stack := rest } (.invokestatic index) mk argsL.toArray X₁ hg hsize hdg hW (X₁.named hnamed) (hpre vm₁ X₁.warmed) with ⟨v, B, X', hpost, hsteps⟩ | ⟨q, B, X', hpost, hsteps⟩
  · exact Or.inl ⟨v, vm₁, B, X₁.warmed, X', hpost, fun target h => hstep₁ _ fun acts => by rw [doInvoke_state]; exact hsteps.trans h⟩
  · exact Or.inr ⟨q, vm₁, B, X₁.warmed, X', hpost, hstep₁ _ fun acts => by rw [doInvoke_state]; exact hsteps⟩
theorem vx_runVN {y : MethodName} {bytes cc : ByteArray} {maxL nL mc ms n index : Nat} {ret : Option FieldType} {ws : List Cond} {rm : Room} {Pc : Array Value → State → Prop} {Qc : Array Value → State → Outcome → State → Prop} {XC : String → State → State → Prop} {free : Addr → Prop} {Ts : List Cond} {own C host : String} {b : Addr} {As rest : List Value} {g : JFrame}
    (S : CallFix p m c cc nL s args Ts own) (hM : vx_Met l y ws rm Pc Qc XC mc ms free) (cw : va_CN R s args own index y host bytes maxL ret ws rm mc ms n ∧ (Cond.instanceMethod y).before args s = true ∧ (Cond.selects C y y).before args s = true) (hp : PreV s H C b Pc As)
    (hg : g.method = m) (hn : As.length = n) (hsize : g.locals.size = nL) (hstack : g.stack = As.reverse ++ .ref b :: rest) (hW : 2 * g.monitorRoom + (rest.map fun v => v.category).sum ≤ 8) (hdg : decode cc g.pc = .ok (.invokevirtual index, 3)) (hf : cells + mc ≤ R.cells ∧ slots + ms ≤ R.slots) :
    vx_Run p l e R s m args below meth c H locs cells slots mc ms g rest (Qc (Value.ref b :: As).toArray) XC free := by
  obtain ⟨⟨⟨hrc, hrs, hfr, hlo, hws, hcw⟩, hcode, hini, hy, hlen, hl⟩, hx1, hx2⟩ := cw
  have hK : vx_Back l R p e below s args y 3 8 (PreOf R mc ms Pc) (PostOf Qc mc ms free) (vx_Post XC mc ms free) := vx_back (bytes := bytes) (maxL := maxL) (ret := ret) hM hp.1 hrc hrs hfr hlo hws hcw (fun a' U hW => word_at hW (Or.inl (by first | rfl | simp [Cond.onTables, Cond.keeps, Cond.steady])) hini)
  obtain ⟨hx, hb, hml, ho, -⟩ := S
  obtain ⟨-, ⟨cellB, hcB, hoB, hclB⟩, hPc⟩ := hp
  intro T hT X
  rcases vx_callVN X hx (C := C) (bytes := bytes) (maxL := maxL) (ret := ret) ho hl hx1 hx2 hcode hy hK (by rw [hT]; exact hcB) hoB hclB hg (hsize.trans hml.symm) (argsL := As) (rest := rest) (fun sig h => hn.trans (hlen sig h)) hstack hW (by rw [hb]; exact hdg)
    (fun vm₁ hW₁ => ⟨hf.1, hf.2, hPc (T.setVm vm₁) hT hW₁⟩) with ⟨v, vm₁, ⟨U', l2, c2, s2⟩, hW₁, X', ⟨g', mk, t, L, e1, e2, hq, h1, hL, h2, h3⟩, st⟩ | ⟨q, vm₁, ⟨U', l2, c2, s2⟩, hW₁, X', ⟨g', mk, t, L, E, ce, e1, e2, hq, hce, hcv, hcl, h1, hL, h2, h3⟩, st⟩
  · dsimp only [Pt.U, Pt.locs, Pt.cells, Pt.slots] at X' e1 e2 h1 h2 h3 st
    subst h1; subst h2; subst h3
    exact Or.inl ⟨v, (T.setVm vm₁).calling g' mk (Value.ref b :: As).toArray, t, U', L, hT, X', hL, e1, e2, hq, st⟩
  · dsimp only [Pt.U, Pt.locs, Pt.cells, Pt.slots] at X' e1 e2 h1 h2 h3 st hcl
    subst h1; subst h2; subst h3
    exact Or.inr ⟨q, (T.setVm vm₁).calling g' mk (Value.ref b :: As).toArray, t, U', L, E, ce, hT, X', hL, e1, e2, hq, hce, hcv, vx_cls hW₁ hcl, st⟩
theorem vx_runSN {y : MethodName} {bytes cc : ByteArray} {maxL nL mc ms n index : Nat} {ret : Option FieldType} {ws : List Cond} {rm : Room} {Pc : Array Value → State → Prop} {Qc : Array Value → State → Outcome → State → Prop} {XC : String → State → State → Prop} {free : Addr → Prop} {Ts : List Cond} {own host : String} {As rest : List Value} {g : JFrame}
    (S : CallFix p m c cc nL s args Ts own) (hM : vx_Met l y ws rm Pc Qc XC mc ms free) (cw : va_CN R s args own index y host bytes maxL ret ws rm mc ms n ∧ (Cond.static y).before args s = true ∧ True) (hp : PreS s H Pc As)
    (hg : g.method = m) (hn : As.length = n) (hsize : g.locals.size = nL) (hstack : g.stack = As.reverse ++ rest) (hW : 2 * g.monitorRoom + (rest.map fun v => v.category).sum ≤ 8) (hdg : decode cc g.pc = .ok (.invokestatic index, 3)) (hf : cells + mc ≤ R.cells ∧ slots + ms ≤ R.slots) :
    vx_Run p l e R s m args below meth c H locs cells slots mc ms g rest (Qc As.toArray) XC free := by
  obtain ⟨⟨⟨hrc, hrs, hfr, hlo, hws, hcw⟩, hcode, hini, hy, hlen, hl⟩, hx1, hx2⟩ := cw
  have hK : vx_Back l R p e below s args y 3 8 (PreOf R mc ms Pc) (PostOf Qc mc ms free) (vx_Post XC mc ms free) := vx_back (bytes := bytes) (maxL := maxL) (ret := ret) hM hp.1 hrc hrs hfr hlo hws hcw (fun a' U hW => word_at hW (Or.inl (by first | rfl | simp [Cond.onTables, Cond.keeps, Cond.steady])) hini)
  obtain ⟨hx, hb, hml, ho, -⟩ := S
  have hPc := hp.2
  intro T hT X
  rcases vx_callSN X hx (bytes := bytes) (maxL := maxL) (ret := ret) ho hl hx1 hini hcode hy hK hg (hsize.trans hml.symm) (argsL := As) (rest := rest) (fun sig h => hn.trans (hlen sig h)) hstack hW (by rw [hb]; exact hdg)
    (fun vm₁ hW₁ => ⟨hf.1, hf.2, hPc (T.setVm vm₁) hT hW₁⟩) with ⟨v, vm₁, ⟨U', l2, c2, s2⟩, hW₁, X', ⟨g', mk, t, L, e1, e2, hq, h1, hL, h2, h3⟩, st⟩ | ⟨q, vm₁, ⟨U', l2, c2, s2⟩, hW₁, X', ⟨g', mk, t, L, E, ce, e1, e2, hq, hce, hcv, hcl, h1, hL, h2, h3⟩, st⟩
  · dsimp only [Pt.U, Pt.locs, Pt.cells, Pt.slots] at X' e1 e2 h1 h2 h3 st
    subst h1; subst h2; subst h3
    exact Or.inl ⟨v, (T.setVm vm₁).calling g' mk As.toArray, t, U', L, hT, X', hL, e1, e2, hq, st⟩
  · dsimp only [Pt.U, Pt.locs, Pt.cells, Pt.slots] at X' e1 e2 h1 h2 h3 st hcl
    subst h1; subst h2; subst h3
    exact Or.inr ⟨q, (T.setVm vm₁).calling g' mk As.toArray, t, U', L, E, ce, hT, X', hL, e1, e2, hq, hce, hcv, vx_cls hW₁ hcl, st⟩
end
/-! ===== END ===== -/
end
section
def RX0 : String := "Threadneedle$Design"
def TX0 : u_T := fun k => match k with
  | 0 => ("Threadneedle$Design", "number", "I", true)
  | 1 => ("Threadneedle$Design", "sequencer", "LThreadneedle$Sequencer;", true)
  | 2 => ("Threadneedle$Design", "sequence", "[LThreadneedle$Shape;", true)
  | 3 => ("Threadneedle$Design", "cells", "[I", true)
  | 4 => ("Threadneedle$Design", "changes", "I", true)
  | 5 => ("Threadneedle$Design", "openJumps", "I", true)
  | 6 => ("Threadneedle$Design", "hiddenJumps", "I", true)
  | 7 => ("Threadneedle$Design", "width", "I", true)
  | _ => ("Threadneedle$Design", "height", "I", true)
def tyX0 : Nat → FieldType := fun k => match k with
  | 0 => .int
  | 1 => .object "Threadneedle$Sequencer"
  | 2 => .array (.object "Threadneedle$Shape")
  | 3 => .array .int
  | 4 => .int
  | 5 => .int
  | 6 => .int
  | 7 => .int
  | _ => .int
theorem inX0 : ∀ w ∈ u_ws RX0 TX0 9, w ∈ lw_tbl := by decide +kernel
theorem nmX0 : ∀ a, a < 9 → ∀ b, b < 9 → a ≠ b → (TX0 a).2.1 ≠ (TX0 b).2.1 := by decide +kernel
theorem tyX0_ok : ∀ k, k < 9 → parseFieldDescriptor (TX0 k).2.2.1 = some (tyX0 k) := by decide +kernel
abbrev cX0_init : ByteArray := prog_2_method_1_code
def yX0_init : MethodName := ⟨RX0, "<init>", "(I[LThreadneedle$Shape;)V"⟩
abbrev cX0_shapeOf : ByteArray := prog_2_method_2_code
def yX0_shapeOf : MethodName := ⟨RX0, "shapeOf", "(I)LThreadneedle$Shape;"⟩
abbrev cX0_need : ByteArray := prog_2_method_3_code
def yX0_need : MethodName := ⟨RX0, "need", "(I)I"⟩
abbrev cX0_cellsOf : ByteArray := prog_2_method_4_code
def yX0_cellsOf : MethodName := ⟨RX0, "cellsOf", "([LThreadneedle$Shape;)[I"⟩
abbrev cX0_placeOf : ByteArray := prog_2_method_5_code
def yX0_placeOf : MethodName := ⟨RX0, "placeOf", "([LThreadneedle$Shape;I)I"⟩
abbrev cX0_countChanges : ByteArray := prog_2_method_6_code
def yX0_countChanges : MethodName := ⟨RX0, "countChanges", "([LThreadneedle$Shape;)I"⟩
abbrev cX0_countJumps : ByteArray := prog_2_method_7_code
def yX0_countJumps : MethodName := ⟨RX0, "countJumps", "([LThreadneedle$Shape;[IZ)I"⟩
abbrev cX0_isFar : ByteArray := prog_2_method_8_code
def yX0_isFar : MethodName := ⟨RX0, "isFar", "(II)Z"⟩
abbrev cX0_isHiddenJump : ByteArray := prog_2_method_9_code
def yX0_isHiddenJump : MethodName := ⟨RX0, "isHiddenJump", "([LThreadneedle$Shape;III)Z"⟩
def RX1 : String := "Threadneedle$Machine"
def TX1 : u_T := fun k => match k with
  | 0 => ("Threadneedle$Machine", "number", "I", true)
  | 1 => ("Threadneedle$Machine", "heads", "I", true)
  | 2 => ("Threadneedle$Machine", "width", "I", true)
  | 3 => ("Threadneedle$Machine", "height", "I", true)
  | 4 => ("Threadneedle$Machine", "order", "LThreadneedle$Order;", false)
  | 5 => ("Threadneedle$Machine", "loads", "I", false)
  | 6 => ("Threadneedle$Machine", "held", "I", false)
  | 7 => ("Threadneedle$Machine", "sewn", "I", false)
  | _ => ("Threadneedle$Machine", "latest", "[I", true)
def tyX1 : Nat → FieldType := fun k => match k with
  | 0 => .int
  | 1 => .int
  | 2 => .int
  | 3 => .int
  | 4 => .object "Threadneedle$Order"
  | 5 => .int
  | 6 => .int
  | 7 => .int
  | _ => .array .int
theorem inX1 : ∀ w ∈ u_ws RX1 TX1 9, w ∈ lw_tbl := by decide +kernel
theorem nmX1 : ∀ a, a < 9 → ∀ b, b < 9 → a ≠ b → (TX1 a).2.1 ≠ (TX1 b).2.1 := by decide +kernel
theorem tyX1_ok : ∀ k, k < 9 → parseFieldDescriptor (TX1 k).2.2.1 = some (tyX1 k) := by decide +kernel
abbrev cX1_init : ByteArray := prog_3_method_1_code
def yX1_init : MethodName := ⟨RX1, "<init>", "(IIII)V"⟩
abbrev cX1_sew : ByteArray := prog_3_method_2_code
def yX1_sew : MethodName := ⟨RX1, "sew", "(II)V"⟩
abbrev cX1_load : ByteArray := prog_3_method_3_code
def yX1_load : MethodName := ⟨RX1, "load", "(I)V"⟩
abbrev cX1_longestAgo : ByteArray := prog_3_method_4_code
def yX1_longestAgo : MethodName := ⟨RX1, "longestAgo", "()I"⟩
def RX2 : String := "Threadneedle$Order"
def TX2 : u_T := fun k => match k with
  | 0 => ("Threadneedle$Order", "number", "I", true)
  | 1 => ("Threadneedle$Order", "design", "LThreadneedle$Design;", true)
  | 2 => ("Threadneedle$Order", "pieces", "I", true)
  | 3 => ("Threadneedle$Order", "shades", "[I", true)
  | 4 => ("Threadneedle$Order", "state", "I", false)
  | 5 => ("Threadneedle$Order", "whole", "I", false)
  | 6 => ("Threadneedle$Order", "begun", "I", false)
  | 7 => ("Threadneedle$Order", "waste", "I", false)
  | _ => ("Threadneedle$Order", "machine", "LThreadneedle$Machine;", false)
def tyX2 : Nat → FieldType := fun k => match k with
  | 0 => .int
  | 1 => .object "Threadneedle$Design"
  | 2 => .int
  | 3 => .array .int
  | 4 => .int
  | 5 => .int
  | 6 => .int
  | 7 => .int
  | _ => .object "Threadneedle$Machine"
theorem inX2 : ∀ w ∈ u_ws RX2 TX2 9, w ∈ lw_tbl := by decide +kernel
theorem nmX2 : ∀ a, a < 9 → ∀ b, b < 9 → a ≠ b → (TX2 a).2.1 ≠ (TX2 b).2.1 := by decide +kernel
theorem tyX2_ok : ∀ k, k < 9 → parseFieldDescriptor (TX2 k).2.2.1 = some (tyX2 k) := by decide +kernel
abbrev cX2_init : ByteArray := prog_4_method_1_code
def yX2_init : MethodName := ⟨RX2, "<init>", "(ILThreadneedle$Design;I)V"⟩
abbrev cX2_need : ByteArray := prog_4_method_2_code
def yX2_need : MethodName := ⟨RX2, "need", "(I)I"⟩
abbrev cX2_shade : ByteArray := prog_4_method_3_code
def yX2_shade : MethodName := ⟨RX2, "shade", "(I)I"⟩
abbrev cX2_setShade : ByteArray := prog_4_method_4_code
def yX2_setShade : MethodName := ⟨RX2, "setShade", "(II)V"⟩
abbrev cX2_sew : ByteArray := prog_4_method_5_code
def yX2_sew : MethodName := ⟨RX2, "sew", "(I)V"⟩
abbrev cX2_hasSewn : ByteArray := prog_4_method_6_code
def yX2_hasSewn : MethodName := ⟨RX2, "hasSewn", "(I)Z"⟩
abbrev cX2_wasteAll : ByteArray := prog_4_method_7_code
def yX2_wasteAll : MethodName := ⟨RX2, "wasteAll", "()I"⟩
def RX3 : String := "Threadneedle$Sequencer"
def TX3 : u_T := fun k => match k with
  | 0 => ("Threadneedle$Sequencer", "shapes", "[LThreadneedle$Shape;", true)
  | _ => ("Threadneedle$Sequencer", "ahead", "[I", true)
def tyX3 : Nat → FieldType := fun k => match k with
  | 0 => .array (.object "Threadneedle$Shape")
  | _ => .array .int
theorem inX3 : ∀ w ∈ u_ws RX3 TX3 2, w ∈ lw_tbl := by decide +kernel
theorem nmX3 : ∀ a, a < 2 → ∀ b, b < 2 → a ≠ b → (TX3 a).2.1 ≠ (TX3 b).2.1 := by decide +kernel
theorem tyX3_ok : ∀ k, k < 2 → parseFieldDescriptor (TX3 k).2.2.1 = some (tyX3 k) := by decide +kernel
abbrev cX3_init : ByteArray := prog_5_method_1_code
def yX3_init : MethodName := ⟨RX3, "<init>", "([LThreadneedle$Shape;)V"⟩
abbrev cX3_bestOrder : ByteArray := prog_5_method_2_code
def yX3_bestOrder : MethodName := ⟨RX3, "bestOrder", "()[LThreadneedle$Shape;"⟩
abbrev cX3_fewestOfAllOrders : ByteArray := prog_5_method_3_code
def yX3_fewestOfAllOrders : MethodName := ⟨RX3, "fewestOfAllOrders", "()I"⟩
abbrev cX3_tryOrders : ByteArray := prog_5_method_4_code
def yX3_tryOrders : MethodName := ⟨RX3, "tryOrders", "(LThreadneedle$Sequencer;III)I"⟩
abbrev cX3_fewestByBegin : ByteArray := prog_5_method_5_code
def yX3_fewestByBegin : MethodName := ⟨RX3, "fewestByBegin", "()[I"⟩
abbrev cX3_bestNext : ByteArray := prog_5_method_6_code
def yX3_bestNext : MethodName := ⟨RX3, "bestNext", "(II[I)I"⟩
abbrev cX3_changesBy : ByteArray := prog_5_method_7_code
def yX3_changesBy : MethodName := ⟨RX3, "changesBy", "(III[I)I"⟩
abbrev cX3_mayFollow : ByteArray := prog_5_method_8_code
def yX3_mayFollow : MethodName := ⟨RX3, "mayFollow", "(II)Z"⟩
abbrev cX3_change : ByteArray := prog_5_method_9_code
def yX3_change : MethodName := ⟨RX3, "change", "(II)I"⟩
def RX4 : String := "Threadneedle$Shape"
def TX4 : u_T := fun k => match k with
  | 0 => ("Threadneedle$Shape", "number", "I", true)
  | 1 => ("Threadneedle$Shape", "colour", "I", true)
  | 2 => ("Threadneedle$Shape", "rows", "[I", true)
  | 3 => ("Threadneedle$Shape", "begin", "I", false)
  | _ => ("Threadneedle$Shape", "end", "I", false)
def tyX4 : Nat → FieldType := fun k => match k with
  | 0 => .int
  | 1 => .int
  | 2 => .array .int
  | 3 => .int
  | _ => .int
theorem inX4 : ∀ w ∈ u_ws RX4 TX4 5, w ∈ lw_tbl := by decide +kernel
theorem nmX4 : ∀ a, a < 5 → ∀ b, b < 5 → a ≠ b → (TX4 a).2.1 ≠ (TX4 b).2.1 := by decide +kernel
theorem tyX4_ok : ∀ k, k < 5 → parseFieldDescriptor (TX4 k).2.2.1 = some (tyX4 k) := by decide +kernel
abbrev cX4_init : ByteArray := prog_6_method_1_code
def yX4_init : MethodName := ⟨RX4, "<init>", "(II[I)V"⟩
abbrev cX4_hasCell : ByteArray := prog_6_method_2_code
def yX4_hasCell : MethodName := ⟨RX4, "hasCell", "(II)Z"⟩
abbrev cX4_isEdge : ByteArray := prog_6_method_3_code
def yX4_isEdge : MethodName := ⟨RX4, "isEdge", "(II)Z"⟩
abbrev cX4_meets : ByteArray := prog_6_method_4_code
def yX4_meets : MethodName := ⟨RX4, "meets", "(LThreadneedle$Shape;)Z"⟩
abbrev cX4_stitchCount : ByteArray := prog_6_method_5_code
def yX4_stitchCount : MethodName := ⟨RX4, "stitchCount", "()I"⟩
abbrev cX4_putStitches : ByteArray := prog_6_method_6_code
def yX4_putStitches : MethodName := ⟨RX4, "putStitches", "([II)V"⟩
abbrev cX4_putStitch : ByteArray := prog_6_method_7_code
def yX4_putStitch : MethodName := ⟨RX4, "putStitch", "([III)V"⟩
def RX5 : String := "Threadneedle$Spools"
def TX5 : u_T := fun k => match k with
  | _ => ("Threadneedle$Spools", "counts", "[I", true)
def tyX5 : Nat → FieldType := fun k => match k with
  | _ => .array .int
theorem inX5 : ∀ w ∈ u_ws RX5 TX5 1, w ∈ lw_tbl := by decide +kernel
theorem nmX5 : ∀ a, a < 1 → ∀ b, b < 1 → a ≠ b → (TX5 a).2.1 ≠ (TX5 b).2.1 := by decide +kernel
theorem tyX5_ok : ∀ k, k < 1 → parseFieldDescriptor (TX5 k).2.2.1 = some (tyX5 k) := by decide +kernel
abbrev cX5_init : ByteArray := prog_7_method_1_code
def yX5_init : MethodName := ⟨RX5, "<init>", "()V"⟩
abbrev cX5_count : ByteArray := prog_7_method_2_code
def yX5_count : MethodName := ⟨RX5, "count", "(II)I"⟩
abbrev cX5_add : ByteArray := prog_7_method_3_code
def yX5_add : MethodName := ⟨RX5, "add", "(III)V"⟩
def RX6 : String := "Threadneedle"
def TX6 : u_T := fun k => match k with
  | 0 => ("Threadneedle", "draft", "[LThreadneedle$Shape;", true)
  | 1 => ("Threadneedle", "drafted", "I", false)
  | 2 => ("Threadneedle", "designs", "[LThreadneedle$Design;", true)
  | 3 => ("Threadneedle", "designCount", "I", false)
  | 4 => ("Threadneedle", "machines", "[LThreadneedle$Machine;", true)
  | 5 => ("Threadneedle", "machineCount", "I", false)
  | 6 => ("Threadneedle", "orders", "[LThreadneedle$Order;", true)
  | 7 => ("Threadneedle", "orderCount", "I", false)
  | _ => ("Threadneedle", "spools", "LThreadneedle$Spools;", true)
def tyX6 : Nat → FieldType := fun k => match k with
  | 0 => .array (.object "Threadneedle$Shape")
  | 1 => .int
  | 2 => .array (.object "Threadneedle$Design")
  | 3 => .int
  | 4 => .array (.object "Threadneedle$Machine")
  | 5 => .int
  | 6 => .array (.object "Threadneedle$Order")
  | 7 => .int
  | _ => .object "Threadneedle$Spools"
theorem inX6 : ∀ w ∈ u_ws RX6 TX6 9, w ∈ lw_tbl := by decide +kernel
theorem nmX6 : ∀ a, a < 9 → ∀ b, b < 9 → a ≠ b → (TX6 a).2.1 ≠ (TX6 b).2.1 := by decide +kernel
theorem tyX6_ok : ∀ k, k < 9 → parseFieldDescriptor (TX6 k).2.2.1 = some (tyX6 k) := by decide +kernel
abbrev cX6_init : ByteArray := prog_1_method_1_code
def yX6_init : MethodName := ⟨RX6, "<init>", "()V"⟩
abbrev cX6_shape : ByteArray := prog_1_method_2_code
def yX6_shape : MethodName := ⟨RX6, "shape", "(IIIIII)I"⟩
abbrev cX6_wipe : ByteArray := prog_1_method_3_code
def yX6_wipe : MethodName := ⟨RX6, "wipe", "()I"⟩
abbrev cX6_design : ByteArray := prog_1_method_4_code
def yX6_design : MethodName := ⟨RX6, "design", "()I"⟩
abbrev cX6_machine : ByteArray := prog_1_method_5_code
def yX6_machine : MethodName := ⟨RX6, "machine", "(III)I"⟩
abbrev cX6_stock : ByteArray := prog_1_method_6_code
def yX6_stock : MethodName := ⟨RX6, "stock", "(III)I"⟩
abbrev cX6_order : ByteArray := prog_1_method_7_code
def yX6_order : MethodName := ⟨RX6, "order", "(II)I"⟩
abbrev cX6_start : ByteArray := prog_1_method_8_code
def yX6_start : MethodName := ⟨RX6, "start", "(II)V"⟩
abbrev cX6_run : ByteArray := prog_1_method_9_code
def yX6_run : MethodName := ⟨RX6, "run", "(II)I"⟩
abbrev cX6_snap : ByteArray := prog_1_method_10_code
def yX6_snap : MethodName := ⟨RX6, "snap", "(I)I"⟩
abbrev cX6_match : ByteArray := prog_1_method_11_code
def yX6_match : MethodName := ⟨RX6, "match", "(III)I"⟩
abbrev cX6_cancel : ByteArray := prog_1_method_12_code
def yX6_cancel : MethodName := ⟨RX6, "cancel", "(I)I"⟩
abbrev cX6_stitches : ByteArray := prog_1_method_13_code
def yX6_stitches : MethodName := ⟨RX6, "stitches", "(II)I"⟩
abbrev cX6_stitch : ByteArray := prog_1_method_14_code
def yX6_stitch : MethodName := ⟨RX6, "stitch", "(III)I"⟩
abbrev cX6_sequence : ByteArray := prog_1_method_15_code
def yX6_sequence : MethodName := ⟨RX6, "sequence", "(II)I"⟩
abbrev cX6_changes : ByteArray := prog_1_method_16_code
def yX6_changes : MethodName := ⟨RX6, "changes", "(I)I"⟩
abbrev cX6_changesAnew : ByteArray := prog_1_method_17_code
def yX6_changesAnew : MethodName := ⟨RX6, "changesAnew", "(I)I"⟩
abbrev cX6_jumps : ByteArray := prog_1_method_18_code
def yX6_jumps : MethodName := ⟨RX6, "jumps", "(IZ)I"⟩
abbrev cX6_ofOrder : ByteArray := prog_1_method_19_code
def yX6_ofOrder : MethodName := ⟨RX6, "ofOrder", "(II)I"⟩
abbrev cX6_shadeOf : ByteArray := prog_1_method_20_code
def yX6_shadeOf : MethodName := ⟨RX6, "shadeOf", "(II)I"⟩
abbrev cX6_ofMachine : ByteArray := prog_1_method_21_code
def yX6_ofMachine : MethodName := ⟨RX6, "ofMachine", "(II)I"⟩
abbrev cX6_left : ByteArray := prog_1_method_22_code
def yX6_left : MethodName := ⟨RX6, "left", "(II)I"⟩
abbrev cX6_isColour : ByteArray := prog_1_method_23_code
def yX6_isColour : MethodName := ⟨RX6, "isColour", "(I)Z"⟩
abbrev cX6_isShade : ByteArray := prog_1_method_24_code
def yX6_isShade : MethodName := ⟨RX6, "isShade", "(I)Z"⟩
abbrev cX6_isFrom1To : ByteArray := prog_1_method_25_code
def yX6_isFrom1To : MethodName := ⟨RX6, "isFrom1To", "(II)Z"⟩
abbrev cX6_isSpan : ByteArray := prog_1_method_26_code
def yX6_isSpan : MethodName := ⟨RX6, "isSpan", "(II)Z"⟩
abbrev cX6_xOf : ByteArray := prog_1_method_27_code
def yX6_xOf : MethodName := ⟨RX6, "xOf", "(I)I"⟩
abbrev cX6_yOf : ByteArray := prog_1_method_28_code
def yX6_yOf : MethodName := ⟨RX6, "yOf", "(I)I"⟩
abbrev cX6_designAt : ByteArray := prog_1_method_29_code
def yX6_designAt : MethodName := ⟨RX6, "designAt", "(I)LThreadneedle$Design;"⟩
abbrev cX6_machineAt : ByteArray := prog_1_method_30_code
def yX6_machineAt : MethodName := ⟨RX6, "machineAt", "(I)LThreadneedle$Machine;"⟩
abbrev cX6_orderAt : ByteArray := prog_1_method_31_code
def yX6_orderAt : MethodName := ⟨RX6, "orderAt", "(I)LThreadneedle$Order;"⟩
abbrev cX6_shadeFor : ByteArray := prog_1_method_32_code
def yX6_shadeFor : MethodName := ⟨RX6, "shadeFor", "(LThreadneedle$Order;I)I"⟩
abbrev cX6_sewStretch : ByteArray := prog_1_method_33_code
def yX6_sewStretch : MethodName := ⟨RX6, "sewStretch", "(LThreadneedle$Machine;I)I"⟩
abbrev cX6_end : ByteArray := prog_1_method_34_code
def yX6_end : MethodName := ⟨RX6, "end", "(LThreadneedle$Order;I)V"⟩
def RX7 : String := "ThreadneedleModel"
def TX7 : u_T := fun k => match k with
  | 0 => ("ThreadneedleModel", "thrown", "I", false)
  | 1 => ("ThreadneedleModel", "shapes", "[I", true)
  | 2 => ("ThreadneedleModel", "kind", "[I", true)
  | 3 => ("ThreadneedleModel", "colour", "[I", true)
  | 4 => ("ThreadneedleModel", "left", "[I", true)
  | 5 => ("ThreadneedleModel", "top", "[I", true)
  | 6 => ("ThreadneedleModel", "width", "[I", true)
  | 7 => ("ThreadneedleModel", "height", "[I", true)
  | 8 => ("ThreadneedleModel", "designs", "I", false)
  | 9 => ("ThreadneedleModel", "sequence", "[I", true)
  | 10 => ("ThreadneedleModel", "many", "[I", true)
  | 11 => ("ThreadneedleModel", "stitch", "[I", true)
  | 12 => ("ThreadneedleModel", "rest", "[I", true)
  | 13 => ("ThreadneedleModel", "machines", "I", false)
  | 14 => ("ThreadneedleModel", "heads", "[I", true)
  | 15 => ("ThreadneedleModel", "hoopWide", "[I", true)
  | 16 => ("ThreadneedleModel", "hoopHigh", "[I", true)
  | 17 => ("ThreadneedleModel", "job", "[I", true)
  | 18 => ("ThreadneedleModel", "loads", "[I", true)
  | 19 => ("ThreadneedleModel", "sewn", "[I", true)
  | 20 => ("ThreadneedleModel", "holds", "[I", true)
  | 21 => ("ThreadneedleModel", "latest", "[I", true)
  | 22 => ("ThreadneedleModel", "stock", "[I", true)
  | 23 => ("ThreadneedleModel", "orders", "I", false)
  | 24 => ("ThreadneedleModel", "designOf", "[I", true)
  | 25 => ("ThreadneedleModel", "pieces", "[I", true)
  | 26 => ("ThreadneedleModel", "state", "[I", true)
  | 27 => ("ThreadneedleModel", "machineOf", "[I", true)
  | 28 => ("ThreadneedleModel", "whole", "[I", true)
  | 29 => ("ThreadneedleModel", "part", "[I", true)
  | 30 => ("ThreadneedleModel", "waste", "[I", true)
  | 31 => ("ThreadneedleModel", "shade", "[I", true)
  | _ => ("ThreadneedleModel", "needs", "[I", true)
def tyX7 : Nat → FieldType := fun k => match k with
  | 0 => .int
  | 1 => .array .int
  | 2 => .array .int
  | 3 => .array .int
  | 4 => .array .int
  | 5 => .array .int
  | 6 => .array .int
  | 7 => .array .int
  | 8 => .int
  | 9 => .array .int
  | 10 => .array .int
  | 11 => .array .int
  | 12 => .array .int
  | 13 => .int
  | 14 => .array .int
  | 15 => .array .int
  | 16 => .array .int
  | 17 => .array .int
  | 18 => .array .int
  | 19 => .array .int
  | 20 => .array .int
  | 21 => .array .int
  | 22 => .array .int
  | 23 => .int
  | 24 => .array .int
  | 25 => .array .int
  | 26 => .array .int
  | 27 => .array .int
  | 28 => .array .int
  | 29 => .array .int
  | 30 => .array .int
  | 31 => .array .int
  | _ => .array .int
theorem inX7 : ∀ w ∈ u_ws RX7 TX7 33, w ∈ lw_tbl := by decide +kernel
theorem nmX7 : ∀ a, a < 33 → ∀ b, b < 33 → a ≠ b → (TX7 a).2.1 ≠ (TX7 b).2.1 := by decide +kernel
theorem tyX7_ok : ∀ k, k < 33 → parseFieldDescriptor (TX7 k).2.2.1 = some (tyX7 k) := by decide +kernel
abbrev cX7_init : ByteArray := prog_9_method_1_code
def yX7_init : MethodName := ⟨RX7, "<init>", "()V"⟩
abbrev cX7_thrown : ByteArray := prog_9_method_2_code
def yX7_thrown : MethodName := ⟨RX7, "thrown", "()I"⟩
abbrev cX7_holds : ByteArray := prog_9_method_3_code
def yX7_holds : MethodName := ⟨RX7, "holds", "(I)Z"⟩
abbrev cX7_isIn : ByteArray := prog_9_method_4_code
def yX7_isIn : MethodName := ⟨RX7, "isIn", "(III)Z"⟩
abbrev cX7_isColour : ByteArray := prog_9_method_5_code
def yX7_isColour : MethodName := ⟨RX7, "isColour", "(I)Z"⟩
abbrev cX7_isShade : ByteArray := prog_9_method_6_code
def yX7_isShade : MethodName := ⟨RX7, "isShade", "(I)Z"⟩
abbrev cX7_isDesign : ByteArray := prog_9_method_7_code
def yX7_isDesign : MethodName := ⟨RX7, "isDesign", "(I)Z"⟩
abbrev cX7_isMachine : ByteArray := prog_9_method_8_code
def yX7_isMachine : MethodName := ⟨RX7, "isMachine", "(I)Z"⟩
abbrev cX7_isOrder : ByteArray := prog_9_method_9_code
def yX7_isOrder : MethodName := ⟨RX7, "isOrder", "(I)Z"⟩
abbrev cX7_shape : ByteArray := prog_9_method_10_code
def yX7_shape : MethodName := ⟨RX7, "shape", "(IIIIII)I"⟩
abbrev cX7_wipe : ByteArray := prog_9_method_11_code
def yX7_wipe : MethodName := ⟨RX7, "wipe", "()I"⟩
abbrev cX7_wideAt : ByteArray := prog_9_method_12_code
def yX7_wideAt : MethodName := ⟨RX7, "wideAt", "(II)I"⟩
abbrev cX7_has : ByteArray := prog_9_method_13_code
def yX7_has : MethodName := ⟨RX7, "has", "(III)Z"⟩
abbrev cX7_areMet : ByteArray := prog_9_method_14_code
def yX7_areMet : MethodName := ⟨RX7, "areMet", "(II)Z"⟩
abbrev cX7_aheadOf : ByteArray := prog_9_method_15_code
def yX7_aheadOf : MethodName := ⟨RX7, "aheadOf", "(II)I"⟩
abbrev cX7_change : ByteArray := prog_9_method_16_code
def yX7_change : MethodName := ⟨RX7, "change", "(III)I"⟩
abbrev cX7_laysRest : ByteArray := prog_9_method_17_code
def yX7_laysRest : MethodName := ⟨RX7, "laysRest", "(I)V"⟩
abbrev cX7_laysSequence : ByteArray := prog_9_method_18_code
def yX7_laysSequence : MethodName := ⟨RX7, "laysSequence", "(I)V"⟩
abbrev cX7_sews : ByteArray := prog_9_method_19_code
def yX7_sews : MethodName := ⟨RX7, "sews", "(IIII)V"⟩
abbrev cX7_laysStitches : ByteArray := prog_9_method_20_code
def yX7_laysStitches : MethodName := ⟨RX7, "laysStitches", "(II)V"⟩
abbrev cX7_design : ByteArray := prog_9_method_21_code
def yX7_design : MethodName := ⟨RX7, "design", "()I"⟩
abbrev cX7_machine : ByteArray := prog_9_method_22_code
def yX7_machine : MethodName := ⟨RX7, "machine", "(III)I"⟩
abbrev cX7_stock : ByteArray := prog_9_method_23_code
def yX7_stock : MethodName := ⟨RX7, "stock", "(III)I"⟩
abbrev cX7_order : ByteArray := prog_9_method_24_code
def yX7_order : MethodName := ⟨RX7, "order", "(II)I"⟩
abbrev cX7_colourAt : ByteArray := prog_9_method_25_code
def yX7_colourAt : MethodName := ⟨RX7, "colourAt", "(II)I"⟩
abbrev cX7_manyOf : ByteArray := prog_9_method_26_code
def yX7_manyOf : MethodName := ⟨RX7, "manyOf", "(II)I"⟩
abbrev cX7_shadeFor : ByteArray := prog_9_method_27_code
def yX7_shadeFor : MethodName := ⟨RX7, "shadeFor", "(II)I"⟩
abbrev cX7_isFit : ByteArray := prog_9_method_28_code
def yX7_isFit : MethodName := ⟨RX7, "isFit", "(II)Z"⟩
abbrev cX7_start : ByteArray := prog_9_method_29_code
def yX7_start : MethodName := ⟨RX7, "start", "(II)V"⟩
abbrev cX7_head : ByteArray := prog_9_method_30_code
def yX7_head : MethodName := ⟨RX7, "head", "(II)I"⟩
abbrev cX7_leaves : ByteArray := prog_9_method_31_code
def yX7_leaves : MethodName := ⟨RX7, "leaves", "(I)V"⟩
abbrev cX7_sewsOne : ByteArray := prog_9_method_32_code
def yX7_sewsOne : MethodName := ⟨RX7, "sewsOne", "(I)Z"⟩
abbrev cX7_run : ByteArray := prog_9_method_33_code
def yX7_run : MethodName := ⟨RX7, "run", "(II)I"⟩
abbrev cX7_snap : ByteArray := prog_9_method_34_code
def yX7_snap : MethodName := ⟨RX7, "snap", "(I)I"⟩
abbrev cX7_wastes : ByteArray := prog_9_method_35_code
def yX7_wastes : MethodName := ⟨RX7, "wastes", "(I)I"⟩
abbrev cX7_match : ByteArray := prog_9_method_36_code
def yX7_match : MethodName := ⟨RX7, "match", "(III)I"⟩
abbrev cX7_cancel : ByteArray := prog_9_method_37_code
def yX7_cancel : MethodName := ⟨RX7, "cancel", "(I)I"⟩
abbrev cX7_stitches : ByteArray := prog_9_method_38_code
def yX7_stitches : MethodName := ⟨RX7, "stitches", "(II)I"⟩
abbrev cX7_stitch : ByteArray := prog_9_method_39_code
def yX7_stitch : MethodName := ⟨RX7, "stitch", "(III)I"⟩
abbrev cX7_sequence : ByteArray := prog_9_method_40_code
def yX7_sequence : MethodName := ⟨RX7, "sequence", "(II)I"⟩
abbrev cX7_changes : ByteArray := prog_9_method_41_code
def yX7_changes : MethodName := ⟨RX7, "changes", "(I)I"⟩
abbrev cX7_changesAnew : ByteArray := prog_9_method_42_code
def yX7_changesAnew : MethodName := ⟨RX7, "changesAnew", "(I)I"⟩
abbrev cX7_isOff : ByteArray := prog_9_method_43_code
def yX7_isOff : MethodName := ⟨RX7, "isOff", "(II)Z"⟩
abbrev cX7_isCovered : ByteArray := prog_9_method_44_code
def yX7_isCovered : MethodName := ⟨RX7, "isCovered", "(IIII)Z"⟩
abbrev cX7_jumps : ByteArray := prog_9_method_45_code
def yX7_jumps : MethodName := ⟨RX7, "jumps", "(IZ)I"⟩
abbrev cX7_ofOrder : ByteArray := prog_9_method_46_code
def yX7_ofOrder : MethodName := ⟨RX7, "ofOrder", "(II)I"⟩
abbrev cX7_shadeOf : ByteArray := prog_9_method_47_code
def yX7_shadeOf : MethodName := ⟨RX7, "shadeOf", "(II)I"⟩
abbrev cX7_ofMachine : ByteArray := prog_9_method_48_code
def yX7_ofMachine : MethodName := ⟨RX7, "ofMachine", "(II)I"⟩
abbrev cX7_left : ByteArray := prog_9_method_49_code
def yX7_left : MethodName := ⟨RX7, "left", "(II)I"⟩
def RJ6 : String := "java/lang/Integer"
abbrev cJ6_bitCount_0f7a4 : ByteArray := prog_14_method_49_code
def yJ6_bitCount_0f7a4 : MethodName := ⟨RJ6, "bitCount", "(I)I"⟩
def RJ9 : String := "java/lang/Math"
abbrev cJ9_abs_0f7a4 : ByteArray := prog_15_method_59_code
def yJ9_abs_0f7a4 : MethodName := ⟨RJ9, "abs", "(I)I"⟩
abbrev cJ9_max_7cf53 : ByteArray := prog_15_method_65_code
def yJ9_max_7cf53 : MethodName := ⟨RJ9, "max", "(II)I"⟩
abbrev cJ9_min_7cf53 : ByteArray := prog_15_method_69_code
def yJ9_min_7cf53 : MethodName := ⟨RJ9, "min", "(II)I"⟩
def RJ0 : String := "java/lang/String"
def RL : String := "ThreadneedleLaw"
abbrev cL_shape : ByteArray := method_3_code
def yL_shape : MethodName := ⟨RL, "shape", "(LThreadneedle;IIIIII[J)I"⟩
abbrev cL_design : ByteArray := method_4_code
def yL_design : MethodName := ⟨RL, "design", "(LThreadneedle;[J)I"⟩
abbrev cL_machine : ByteArray := method_5_code
def yL_machine : MethodName := ⟨RL, "machine", "(LThreadneedle;III[J)I"⟩
abbrev cL_stock : ByteArray := method_6_code
def yL_stock : MethodName := ⟨RL, "stock", "(LThreadneedle;III[J)I"⟩
abbrev cL_order : ByteArray := method_7_code
def yL_order : MethodName := ⟨RL, "order", "(LThreadneedle;II[J)I"⟩
abbrev cL_start : ByteArray := method_8_code
def yL_start : MethodName := ⟨RL, "start", "(LThreadneedle;II)I"⟩
abbrev cL_run : ByteArray := method_9_code
def yL_run : MethodName := ⟨RL, "run", "(LThreadneedle;II[J)I"⟩
abbrev cL_snap : ByteArray := method_10_code
def yL_snap : MethodName := ⟨RL, "snap", "(LThreadneedle;I[J)I"⟩
abbrev cL_match : ByteArray := method_11_code
def yL_match : MethodName := ⟨RL, "match", "(LThreadneedle;III[J)I"⟩
abbrev cL_cancel : ByteArray := method_12_code
def yL_cancel : MethodName := ⟨RL, "cancel", "(LThreadneedle;I[J)I"⟩
abbrev cL_stitches : ByteArray := method_13_code
def yL_stitches : MethodName := ⟨RL, "stitches", "(LThreadneedle;II[J)I"⟩
abbrev cL_stitch : ByteArray := method_14_code
def yL_stitch : MethodName := ⟨RL, "stitch", "(LThreadneedle;III[J)I"⟩
abbrev cL_sequence : ByteArray := method_15_code
def yL_sequence : MethodName := ⟨RL, "sequence", "(LThreadneedle;II[J)I"⟩
abbrev cL_changes : ByteArray := method_16_code
def yL_changes : MethodName := ⟨RL, "changes", "(LThreadneedle;I[J)I"⟩
abbrev cL_changesAnew : ByteArray := method_17_code
def yL_changesAnew : MethodName := ⟨RL, "changesAnew", "(LThreadneedle;I[J)I"⟩
abbrev cL_jumps : ByteArray := method_18_code
def yL_jumps : MethodName := ⟨RL, "jumps", "(LThreadneedle;IZ[J)I"⟩
abbrev cL_ofOrder : ByteArray := method_19_code
def yL_ofOrder : MethodName := ⟨RL, "ofOrder", "(LThreadneedle;II[J)I"⟩
abbrev cL_shadeOf : ByteArray := method_20_code
def yL_shadeOf : MethodName := ⟨RL, "shadeOf", "(LThreadneedle;II[J)I"⟩
abbrev cL_ofMachine : ByteArray := method_21_code
def yL_ofMachine : MethodName := ⟨RL, "ofMachine", "(LThreadneedle;II[J)I"⟩
abbrev cL_left : ByteArray := method_22_code
def yL_left : MethodName := ⟨RL, "left", "(LThreadneedle;II[J)I"⟩
abbrev cL_law : ByteArray := code
def yL_law : MethodName := ⟨RL, "law", "([I)Z"⟩
abbrev vwCl : List vw_C := [(RX0, TX0, 9), (RX1, TX1, 9), (RX2, TX2, 9), (RX3, TX3, 2), (RX4, TX4, 5), (RX5, TX5, 1), (RX6, TX6, 9), (RX7, TX7, 33)]
end
section
/-! THE ABSTRACT MACHINE: values are mathematical integers and tags, the store is a memory of ints and one of references over tags (a ghost map gives each tag its address). -/
abbrev AV := Int ⊕ (Int ⊕ Option Nat)
abbrev Sto := (Nat → Option (Nat × Nat)) × (Nat → Nat → Int) × (Nat → Nat → Option Nat)
abbrev Res := Option AV ⊕ Nat
abbrev Spec := List AV → Sto → (Res → Sto → Prop) → Prop
abbrev vI (z : Int) : AV := .inl z
abbrev vL (z : Int) : AV := .inr (.inl z)
abbrev vR (r : Option Nat) : AV := .inr (.inr r)
abbrev vT (t : Nat) : AV := .inr (.inr (some t))
/-- a local of which nothing is known -/
abbrev uu : AV := .inr (.inl 0)
abbrev InR (z : Int) : Prop := -2147483648 ≤ z ∧ z ≤ 2147483647
def bAnd (a b : Int) : Int := (Int32.ofInt a &&& Int32.ofInt b).toInt
def bOr (a b : Int) : Int := (Int32.ofInt a ||| Int32.ofInt b).toInt
def bXor (a b : Int) : Int := (Int32.ofInt a ^^^ Int32.ofInt b).toInt
def bShl (a b : Int) : Int := (Int32.ofInt a <<< (Int32.ofInt b &&& 31)).toInt
def bShr (a b : Int) : Int := (Int32.ofInt a >>> (Int32.ofInt b &&& 31)).toInt
def bUshr (a b : Int) : Int := (((Int32.ofInt a).toUInt32 >>> ((Int32.ofInt b).toUInt32 &&& Int32.toUInt32 31)).toInt32).toInt
theorem oI_add (a b : Int) : Int32.ofInt a + Int32.ofInt b = Int32.ofInt (a + b) := (Int32.toBitVec.inj (by simp [BitVec.ofInt_add]))
theorem oI_neg (a : Int) : - Int32.ofInt a = Int32.ofInt (-a) := Int32.neg_ofInt
theorem oI_sub (a b : Int) : Int32.ofInt a - Int32.ofInt b = Int32.ofInt (a - b) := by rw [Int32.sub_eq_add_neg, oI_neg, oI_add, Int.sub_eq_add_neg]
theorem oI_mul (a b : Int) : Int32.ofInt a * Int32.ofInt b = Int32.ofInt (a * b) := (Int32.toBitVec.inj (by simp [BitVec.ofInt_mul]))
theorem oI_toInt {a : Int} (h : InR a) : (Int32.ofInt a).toInt = a := Int32.toInt_ofInt_of_le (by have := h.1; omega) (by have := h.2; omega)
theorem oI_lt {a b : Int} (ha : InR a) (hb : InR b) : Int32.ofInt a < Int32.ofInt b ↔ a < b := by rw [Int32.lt_iff_toInt_lt, oI_toInt ha, oI_toInt hb]
theorem oI_le {a b : Int} (ha : InR a) (hb : InR b) : Int32.ofInt a ≤ Int32.ofInt b ↔ a ≤ b := by rw [Int32.le_iff_toInt_le, oI_toInt ha, oI_toInt hb]
theorem oI_eq {a b : Int} (ha : InR a) (hb : InR b) : Int32.ofInt a = Int32.ofInt b ↔ a = b := by rw [← Int32.toInt_inj, oI_toInt ha, oI_toInt hb]
theorem oI_0 : (0 : Int32) = Int32.ofInt 0 := rfl
theorem oI_nat {a : Int} (h0 : 0 ≤ a) (h : a ≤ 2147483647) : (Int32.ofInt a).toNatClampNeg = a.toNat := Int32.toNatClampNeg_ofInt_of_le (by omega) (by omega)
theorem oI_div {a b : Int} (h0 : 0 ≤ a) (ha : a ≤ 2147483647) (hb0 : 0 < b) (hb : b ≤ 2147483647) : Int32.ofInt a / Int32.ofInt b = Int32.ofInt (a / b) := by
  have hq : 0 ≤ a / b := Int.ediv_nonneg h0 (by omega)
  have hq2 : a / b ≤ a := Int.ediv_le_self b h0
  rw [← Int32.toInt_inj, Int32.toInt_div_of_ne_left, oI_toInt ⟨by omega, ha⟩, oI_toInt ⟨by omega, hb⟩, oI_toInt ⟨by omega, by omega⟩, Int.tdiv_eq_ediv_of_nonneg h0]
  intro e
  have e2 := congrArg Int32.toInt e
  rw [oI_toInt ⟨by omega, ha⟩] at e2
  have e3 : (Int32.minValue).toInt = -2147483648 := by decide
  omega
theorem oI_rem {a b : Int} (h0 : 0 ≤ a) (ha : a ≤ 2147483647) (hb0 : 0 < b) (hb : b ≤ 2147483647) : Int32.ofInt a - Int32.ofInt a / Int32.ofInt b * Int32.ofInt b = Int32.ofInt (a % b) := by
  rw [oI_div h0 ha hb0 hb, oI_mul, oI_sub, Int.emod_def, Int.mul_comm]
theorem oI_ne0 {b : Int} (hb0 : 0 < b) (hb : b ≤ 2147483647) : ¬ Int32.ofInt b = 0 := by
  rw [oI_0, oI_eq ⟨by omega, hb⟩ ⟨by omega, by omega⟩]; omega
theorem oL_toInt {a : Int} (h : InR a) : (Int64.ofInt a).toInt = a := Int64.toInt_ofInt_of_le (by have := h.1; omega) (by have := h.2; omega)
theorem oI_l {a : Int} (h : InR a) : (Int32.ofInt a).toInt64 = Int64.ofInt a := by rw [← Int64.toInt_inj, Int32.toInt_toInt64, oI_toInt h, oL_toInt h]
theorem oL_lt {a b : Int} (ha : InR a) (hb : InR b) : Int64.ofInt a < Int64.ofInt b ↔ a < b := by rw [Int64.lt_iff_toInt_lt, oL_toInt ha, oL_toInt hb]
theorem oL_eq {a b : Int} (ha : InR a) (hb : InR b) : Int64.ofInt a = Int64.ofInt b ↔ a = b := by rw [← Int64.toInt_inj, oL_toInt ha, oL_toInt hb]
def nth : List AV → Nat → AV
  | [], _ => uu
  | a :: _, 0 => a
  | _ :: l, n + 1 => nth l n
def setn : List AV → Nat → AV → List AV
  | [], _, _ => []
  | _ :: l, 0, x => x :: l
  | a :: l, n + 1, x => a :: setn l n x
def isLong : AV → Bool
  | .inr (.inl _) => true
  | _ => false
theorem nth_setn (l : List AV) (i : Nat) (x : AV) (j : Nat) : nth (setn l i x) j = nth l j ∨ (j = i ∧ nth (setn l i x) j = x) := by
  induction l generalizing i j with
  | nil => exact Or.inl rfl
  | cons a l ih =>
    cases i with
    | zero => cases j with
      | zero => exact Or.inr ⟨rfl, rfl⟩
      | succ j => exact Or.inl rfl
    | succ i => cases j with
      | zero => exact Or.inl rfl
      | succ j =>
        rcases ih i j with h | ⟨h1, h2⟩
        · exact Or.inl h
        · exact Or.inr ⟨by rw [h1], h2⟩
theorem nth_setn_ne {l : List AV} {i j : Nat} {x : AV} (h : j ≠ i) : nth (setn l i x) j = nth l j := by
  rcases nth_setn l i x j with q | ⟨q, -⟩
  · exact q
  · exact absurd q h
theorem nth_setn_eq (l : List AV) (i : Nat) (x : AV) : nth (setn l i x) i = x ∨ nth (setn l i x) i = uu := by
  induction l generalizing i with
  | nil => exact Or.inr rfl
  | cons a l ih => cases i with
    | zero => exact Or.inl rfl
    | succ i => exact ih i
/-- what a value is in the machine -/
def cv (ad : Nat → Nat) : AV → Value
  | .inl z => .int (Int32.ofInt z)
  | .inr (.inl z) => .long (Int64.ofInt z)
  | .inr (.inr r) => va_rf (r.map ad)
theorem cv_cat {ad : Nat → Nat} {a : AV} (h : isLong a = false) : (cv ad a).category = 1 := by
  rcases a with z | z | r
  · rfl
  · cases h
  · cases r <;> rfl
def LocOK (ad : Nat → Nat) (L : List AV) (ls : Array Slot) (nL : Nat) : Prop := ls.size = nL ∧ lv_wf ls ∧ ∀ i : Nat, isLong (nth L i) = false → ls[i]? = some (.val (cv ad (nth L i)))
theorem LocOK.at {ad : Nat → Nat} {L : List AV} {ls : Array Slot} {nL i : Nat} {a : AV} (h : LocOK ad L ls nL) (e : nth L i = a) (ha : isLong a = false) : ls[i]? = some (.val (cv ad a)) := by
  rw [← e] at ha ⊢; exact h.2.2 i ha
theorem LocOK.store {ad : Nat → Nat} {L : List AV} {ls : Array Slot} {nL i : Nat} {v : Value} {a : AV} (h : LocOK ad L ls nL) (hi : i < nL) (hc : v.category = 1) (hv : isLong a = false → v = cv ad a) :
    ∃ ls', storeLocals ls i v = some ls' ∧ LocOK ad (setn L i a) ls' nL := by
  obtain ⟨hs, hw, hl⟩ := h
  obtain ⟨ls', e, h1, h2, h3⟩ := lv_store1 (l := []) (i := i) (v := v) ⟨hs, hw, fun q hq => by cases hq⟩ hi hc
  refine ⟨ls', e, h1, h2, fun j hj => ?_⟩
  by_cases hji : j = i
  · subst hji
    rcases nth_setn_eq L j a with q | q
    · rw [q] at hj ⊢
      rw [← hv hj]
      exact h3 (j, v) (by simp)
    · rw [q] at hj; cases hj
  · rw [nth_setn_ne hji] at hj ⊢
    obtain ⟨ls2, e2, -, -, h5⟩ := lv_store1 (l := [(j, cv ad (nth L j))]) (i := i) (v := v) ⟨hs, hw, fun q hq => by rw [List.mem_singleton.mp hq]; exact hl j hj⟩ hi hc
    cases Option.some.inj (e.symm.trans e2)
    exact h5 (j, cv ad (nth L j)) (List.mem_cons_of_mem _ (List.mem_filter.mpr ⟨List.mem_singleton.mpr rfl, by simp [hji, cv_cat hj]⟩))
end
section
/-! THE WORLD: what the store is in the machine's heap; what the tables give. -/
def RC : Nat → String
  | 0 => RX0 | 1 => RX1 | 2 => RX2 | 3 => RX3 | 4 => RX4 | 5 => RX5 | 6 => RX6 | _ => RX7
def TC : Nat → u_T
  | 0 => TX0 | 1 => TX1 | 2 => TX2 | 3 => TX3 | 4 => TX4 | 5 => TX5 | 6 => TX6 | _ => TX7
def tyC : Nat → Nat → FieldType
  | 0 => tyX0 | 1 => tyX1 | 2 => tyX2 | 3 => tyX3 | 4 => tyX4 | 5 => tyX5 | 6 => tyX6 | _ => tyX7
def clN : Nat → Nat
  | 0 => 9 | 1 => 9 | 2 => 9 | 3 => 2 | 4 => 5 | 5 => 1 | 6 => 9 | _ => 33
def isR : Nat → Nat → Bool
  | 0, k => k == 1 || k == 2 || k == 3
  | 1, k => k == 4 || k == 8
  | 2, k => k == 1 || k == 3 || k == 8
  | 3, _ => true
  | 4, k => k == 2
  | 5, _ => true
  | 6, k => k % 2 == 0
  | _, k => !(k == 0 || k == 8 || k == 13 || k == 23)
def aTy : Nat → FieldType
  | 101 => .long | 110 => .object RX0 | 111 => .object RX1 | 112 => .object RX2 | 114 => .object RX4 | _ => .int
def isA (cd : Nat) : Bool := cd == 100 || cd == 101 || cd == 110 || cd == 111 || cd == 112 || cd == 114
def isRA (cd : Nat) : Bool := cd == 110 || cd == 111 || cd == 112 || cd == 114
def okTy (x : Nat × Nat) : Bool := (decide (x.1 < 8) && x.2 == clN x.1) || ((isA x.1 || x.1 == 102) && decide (x.2 ≤ 100000))
theorem cl8 {P : Nat → Prop} (h0 : P 0) (h1 : P 1) (h2 : P 2) (h3 : P 3) (h4 : P 4) (h5 : P 5) (h6 : P 6) (h7 : P 7) : ∀ ci, ci < 8 → P ci := by
  intro ci h
  rcases (show ci = 0 ∨ ci = 1 ∨ ci = 2 ∨ ci = 3 ∨ ci = 4 ∨ ci = 5 ∨ ci = 6 ∨ ci = 7 by omega) with rfl | rfl | rfl | rfl | rfl | rfl | rfl | rfl <;> assumption
theorem in_C : ∀ ci, ci < 8 → ∀ w ∈ u_ws (RC ci) (TC ci) (clN ci), w ∈ lw_tbl := cl8 inX0 inX1 inX2 inX3 inX4 inX5 inX6 inX7
theorem ty_C : ∀ ci, ci < 8 → ∀ k, k < clN ci → parseFieldDescriptor (TC ci k).2.2.1 = some (tyC ci k) := cl8 tyX0_ok tyX1_ok tyX2_ok tyX3_ok tyX4_ok tyX5_ok tyX6_ok tyX7_ok
theorem nm_C : ∀ ci, ci < 8 → ∀ a, a < clN ci → ∀ b, b < clN ci → a ≠ b → (TC ci a).2.1 ≠ (TC ci b).2.1 := cl8 nmX0 nmX1 nmX2 nmX3 nmX4 nmX5 nmX6 nmX7
def isObjT : FieldType → Bool
  | .object _ => true
  | .array _ => true
  | _ => false
theorem kd_C : ∀ ci, ci < 8 → ∀ k, k < clN ci → (isR ci k = true → isObjT (tyC ci k) = true) ∧ (isR ci k = false → tyC ci k = .int) := cl8 (by decide +kernel) (by decide +kernel) (by decide +kernel) (by decide +kernel) (by decide +kernel) (by decide +kernel) (by decide +kernel) (by decide +kernel)
abbrev DD := va_G × (Nat → ClassId) × (Cell → Prop)
def aCell (ad : Nat → Nat) (S : Sto) (t : Nat) (x : Nat × Nat) : vp_A :=
  (x.2, if x.1 = 100 then .inl fun j => Int32.ofInt (S.2.1 t j) else if x.1 = 101 then .inr (.inl fun j => Int64.ofInt (S.2.1 t j)) else .inr (.inr (.inr (.inr fun j => (S.2.2 t j).map ad))))
def oCell (ad : Nat → Nat) (S : Sto) (t ci : Nat) : Nat → Value := fun j => if isR ci j = true then va_rf ((S.2.2 t j).map ad) else .int (Int32.ofInt (S.2.1 t j))
def RepAt (D : DD) (ad : Nat → Nat) (S : Sto) (t : Nat) (x : Nat × Nat) (H : Heap) : Prop :=
  if x.1 < 8 then t_OB (ad t) (D.1.1 x.1) x.2 (D.1.2 x.1) H (oCell ad S t x.1)
  else if x.1 = 102 then ∃ scr : Cell, H[ad t]? = some scr ∧ D.2.2 scr ∧ scr.vm ≠ .unknown ∧ scr.slots.size = x.2 ∧ ∀ j : Nat, j < x.2 → scr.slots[j]? = some (.int (Int32.ofInt (S.2.1 t j)))
  else H[ad t]? = some (vp_cell (D.2.1 x.1) (aCell ad S t x))
def VOK (S : Sto) (a : AV) : Prop := ∀ t, a = vT t → S.1 t ≠ none
def CL (S : Sto) (st : List AV) : Prop := ∀ a ∈ st, VOK S a
def CLs (S : Sto) (L : List AV) : Prop := ∀ i, VOK S (nth L i)
def Rep (D : DD) (ad : Nat → Nat) (S : Sto) (H : Heap) : Prop :=
  (∀ t x, S.1 t = some x → okTy x = true ∧ RepAt D ad S t x H) ∧ (∀ t t' x x', S.1 t = some x → S.1 t' = some x' → ad t = ad t' → t = t') ∧
  ∀ t x j t', S.1 t = some x → S.2.2 t j = some t' → S.1 t' ≠ none
def Ext (ad0 : Nat → Nat) (S0 : Sto) (sz : Nat) (ad : Nat → Nat) (S : Sto) : Prop :=
  (∀ t x, S0.1 t = some x → S.1 t = some x ∧ ad t = ad0 t) ∧ ∀ t x, S.1 t = some x → S0.1 t = none → sz ≤ ad t ∧ x.1 ≠ 102
def foot (ad0 : Nat → Nat) (S0 : Sto) (sz : Nat) : Nat → Prop := fun q => (∃ t x, S0.1 t = some x ∧ x.1 ≠ 102 ∧ ad0 t = q) ∨ sz ≤ q
theorem Ext.rf {ad : Nat → Nat} {S : Sto} {sz : Nat} : Ext ad S sz ad S := ⟨fun _ _ h => ⟨h, rfl⟩, fun t x h h0 => by rw [h0] at h; cases h⟩
theorem Ext.trans {ad0 ad1 ad2 : Nat → Nat} {S0 S1 S2 : Sto} {z0 z1 : Nat} (hz : z0 ≤ z1) (h : Ext ad0 S0 z0 ad1 S1) (h2 : Ext ad1 S1 z1 ad2 S2) : Ext ad0 S0 z0 ad2 S2 := by
  refine ⟨fun t x e => ?_, fun t x e e0 => ?_⟩
  · obtain ⟨a, b⟩ := h.1 t x e
    obtain ⟨a2, b2⟩ := h2.1 t x a
    exact ⟨a2, b2.trans b⟩
  · cases e1 : S1.1 t with
    | none => exact ⟨Nat.le_trans hz (h2.2 t x e e1).1, (h2.2 t x e e1).2⟩
    | some y =>
      obtain ⟨a2, b2⟩ := h2.1 t y e1
      obtain ⟨a, b⟩ := h.2 t y e1 e0
      rw [e] at a2; cases a2
      exact ⟨by rw [b2]; exact a, b⟩
theorem Ext.inF {ad0 ad : Nat → Nat} {S0 S : Sto} {sz : Nat} (h : Ext ad0 S0 sz ad S) {t : Nat} {x : Nat × Nat} (e : S.1 t = some x) (hx : x.1 ≠ 102) : foot ad0 S0 sz (ad t) := by
  cases e0 : S0.1 t with
  | none => exact Or.inr (h.2 t x e e0).1
  | some y =>
    obtain ⟨a, b⟩ := h.1 t y e0
    rw [e] at a; cases a
    exact Or.inl ⟨t, x, e0, hx, b.symm⟩
theorem Ext.foots {ad0 ad : Nat → Nat} {S0 S : Sto} {z0 z1 : Nat} (hz : z0 ≤ z1) (h : Ext ad0 S0 z0 ad S) : ∀ q, foot ad S z1 q → foot ad0 S0 z0 q := by
  rintro q (⟨t, x, e, hx, rfl⟩ | hq)
  · exact h.inF e hx
  · exact Or.inr (Nat.le_trans hz hq)
theorem VOK.ext {ad0 ad : Nat → Nat} {S0 S : Sto} {z : Nat} (h : Ext ad0 S0 z ad S) {a : AV} (ha : VOK S0 a) : VOK S a := by
  intro t e
  cases e0 : S0.1 t with
  | none => exact absurd e0 (ha t e)
  | some y => rw [(h.1 t y e0).1]; exact fun q => by cases q
theorem VOK.cv {ad0 ad : Nat → Nat} {S0 S : Sto} {z : Nat} (h : Ext ad0 S0 z ad S) {a : AV} (ha : VOK S0 a) : cv ad a = cv ad0 a := by
  rcases a with z | z | r
  · rfl
  · rfl
  · cases r with
    | none => rfl
    | some t =>
      cases e0 : S0.1 t with
      | none => exact absurd e0 (ha t rfl)
      | some y =>
        show va_rf (some (ad t)) = va_rf (some (ad0 t))
        rw [(h.1 t y e0).2]
theorem CL.cons {S : Sto} {a : AV} {st : List AV} (h : VOK S a) (h2 : CL S st) : CL S (a :: st) := fun b hb => (List.mem_cons.mp hb).elim (fun e => by rw [e]; exact h) (h2 b)
theorem CL.hd {S : Sto} {a : AV} {st : List AV} (h : CL S (a :: st)) : VOK S a := h a List.mem_cons_self
theorem CL.tl {S : Sto} {a : AV} {st : List AV} (h : CL S (a :: st)) : CL S st := fun b hb => h b (List.mem_cons_of_mem _ hb)
theorem CL.ext {ad0 ad : Nat → Nat} {S0 S : Sto} {z : Nat} (h : Ext ad0 S0 z ad S) {st : List AV} (ha : CL S0 st) : CL S st := fun a hm => (ha a hm).ext h
theorem CL.map {ad0 ad : Nat → Nat} {S0 S : Sto} {z : Nat} (h : Ext ad0 S0 z ad S) {st : List AV} (ha : CL S0 st) : st.map (cv ad) = st.map (cv ad0) := List.map_congr_left fun a hm => (ha a hm).cv h
theorem VOK.i {S : Sto} {z : Int} : VOK S (vI z) := fun t e => by cases e
theorem VOK.l {S : Sto} {z : Int} : VOK S (vL z) := fun t e => by cases e
theorem VOK.n {S : Sto} : VOK S (vR none) := fun t e => by cases e
theorem CLs.set {S : Sto} {L : List AV} {i : Nat} {a : AV} (h : CLs S L) (ha : VOK S a) : CLs S (setn L i a) := by
  intro j
  rcases nth_setn L i a j with e | ⟨-, e⟩
  · rw [e]; exact h j
  · rw [e]; exact ha
theorem CLs.ext {ad0 ad : Nat → Nat} {S0 S : Sto} {z : Nat} (h : Ext ad0 S0 z ad S) {L : List AV} (ha : CLs S0 L) : CLs S L := fun i => (ha i).ext h
theorem LocOK.ext {ad0 ad : Nat → Nat} {S0 S : Sto} {z nL : Nat} {ls : Array Slot} (h : Ext ad0 S0 z ad S) {L : List AV} (ha : CLs S0 L) (hl : LocOK ad0 L ls nL) : LocOK ad L ls nL :=
  ⟨hl.1, hl.2.1, fun i hi => by rw [(ha i).cv h]; exact hl.2.2 i hi⟩
def updI (S : Sto) (t k : Nat) (v : Int) : Sto := (S.1, fun t' j => if t' = t ∧ j = k then v else S.2.1 t' j, S.2.2)
def updR (S : Sto) (t k : Nat) (v : Option Nat) : Sto := (S.1, S.2.1, fun t' j => if t' = t ∧ j = k then v else S.2.2 t' j)
def newS (S : Sto) (t : Nat) (x : Nat × Nat) : Sto := (fun t' => if t' = t then some x else S.1 t', fun t' j => if t' = t then 0 else S.2.1 t' j, fun t' j => if t' = t then none else S.2.2 t' j)
theorem okTy_cases {x : Nat × Nat} (h : okTy x = true) : (x.1 < 8 ∧ x.2 = clN x.1) ∨ (¬ x.1 < 8 ∧ (isA x.1 = true ∨ x.1 = 102) ∧ x.2 ≤ 100000) := by
  simp only [okTy, isA, Bool.or_eq_true, Bool.and_eq_true, decide_eq_true_eq, beq_iff_eq] at h ⊢
  omega
theorem RepAt.lt {D : DD} {ad : Nat → Nat} {S : Sto} {t : Nat} {x : Nat × Nat} {H : Heap} (h : RepAt D ad S t x H) : ad t < H.size := by
  unfold RepAt at h
  split at h
  · obtain ⟨cell, q, -⟩ := h
    exact (Array.getElem?_eq_some_iff.mp q).1
  · split at h
    · obtain ⟨scr, q, -⟩ := h
      exact (Array.getElem?_eq_some_iff.mp q).1
    · exact (Array.getElem?_eq_some_iff.mp h).1
theorem RepAt.kept {D : DD} {ad ad' : Nat → Nat} {S S' : Sto} {t : Nat} {x : Nat × Nat} {H H1 : Heap} (h : RepAt D ad S t x H) (ha : ad' t = ad t) (hH : H1[ad t]? = H[ad t]?) (hI : S'.2.1 t = S.2.1 t) (hR : ∀ j, (S'.2.2 t j).map ad' = (S.2.2 t j).map ad) : RepAt D ad' S' t x H1 := by
  unfold RepAt oCell aCell at h ⊢
  simp only [hI, hR, ha]
  split
  · rw [if_pos (by assumption)] at h
    exact h.kept hH
  · rw [if_neg (by assumption)] at h
    split
    · rw [if_pos (by assumption)] at h
      rw [hH]; exact h
    · rw [if_neg (by assumption)] at h
      rw [hH]; exact h
/-- one cell is written -/
theorem Rep.put {D : DD} {ad : Nat → Nat} {S S' : Sto} {H H1 : Heap} {t : Nat} {x : Nat × Nat} (h : Rep D ad S H) (e : S.1 t = some x) (h0 : S'.1 = S.1) (hI : ∀ t', t' ≠ t → S'.2.1 t' = S.2.1 t') (hR : ∀ t', t' ≠ t → S'.2.2 t' = S.2.2 t')
    (hc : ∀ j t', S'.2.2 t j = some t' → S.1 t' ≠ none) (hat : RepAt D ad S' t x H1) (oq : ∀ q : Nat, q ≠ ad t → H1[q]? = H[q]?) : Rep D ad S' H1 := by
  obtain ⟨h1, h2, h3⟩ := h
  refine ⟨fun u y hy => ?_, fun u u' y y' hy hy' => ?_, fun u y j u' hy hu => ?_⟩
  · rw [h0] at hy
    refine ⟨(h1 u y hy).1, ?_⟩
    by_cases hu : u = t
    · subst hu
      rw [e] at hy; cases hy
      exact hat
    · exact (h1 u y hy).2.kept rfl (oq _ fun q => hu (h2 u t y x hy e q)) (hI u hu) (fun j => by rw [hR u hu])
  · rw [h0] at hy hy'
    exact h2 u u' y y' hy hy'
  · rw [h0] at hy ⊢
    by_cases hut : u = t
    · subst hut; exact hc j u' hu
    · rw [hR u hut] at hu
      exact h3 u y j u' hy hu
theorem Ext.put {ad0 ad : Nat → Nat} {S0 S S' : Sto} {z : Nat} (h : Ext ad0 S0 z ad S) (h0 : S'.1 = S.1) : Ext ad0 S0 z ad S' := by
  unfold Ext; rw [h0]; exact h
/-- a new cell -/
theorem Rep.new {D : DD} {ad : Nat → Nat} {S : Sto} {H H1 : Heap} {t : Nat} {x : Nat × Nat} (h : Rep D ad S H) (e : S.1 t = none) (hx : okTy x = true) (hat : RepAt D (fun q => if q = t then H.size else ad q) (newS S t x) t x H1) (o1 : ∀ q : Nat, q < H.size → H1[q]? = H[q]?) :
    Rep D (fun q => if q = t then H.size else ad q) (newS S t x) H1 := by
  obtain ⟨h1, h2, h3⟩ := h
  have hne : ∀ u y, S.1 u = some y → u ≠ t := fun u y hy q => by rw [q, e] at hy; cases hy
  have hold : ∀ u y, (newS S t x).1 u = some y → u ≠ t → S.1 u = some y := fun u y hy hu => by
    simpa [newS, hu] using hy
  refine ⟨fun u y hy => ?_, fun u u' y y' hy hy' hq => ?_, fun u y j u' hy hu => ?_⟩
  · by_cases hu : u = t
    · subst hu
      have : y = x := by simpa [newS] using hy.symm
      subst this
      exact ⟨hx, hat⟩
    · have hy := hold u y hy hu
      refine ⟨(h1 u y hy).1, (h1 u y hy).2.kept (by simp [hu]) (o1 _ (h1 u y hy).2.lt) (by funext j; simp [newS, hu]) (fun j => ?_)⟩
      simp only [newS, if_neg hu]
      cases hr : S.2.2 u j with
      | none => rfl
      | some v =>
        have : v ≠ t := fun q => h3 u y j v hy hr (by rw [q]; exact e)
        simp [this]
  · by_cases hu : u = t
    · by_cases hu' : u' = t
      · rw [hu, hu']
      · have hy' := hold u' y' hy' hu'
        simp only [if_pos hu, if_neg hu'] at hq
        have := (h1 u' y' hy').2.lt
        omega
    · have hy := hold u y hy hu
      by_cases hu' : u' = t
      · simp only [if_neg hu, if_pos hu'] at hq
        have := (h1 u y hy).2.lt
        omega
      · simp only [if_neg hu, if_neg hu'] at hq
        exact h2 u u' y y' hy (hold u' y' hy' hu') hq
  · by_cases hu0 : u = t
    · simp [newS, hu0] at hu
    · have hy := hold u y hy hu0
      simp only [newS, if_neg hu0] at hu ⊢
      have := h3 u y j u' hy hu
      split
      · exact fun q => by cases q
      · exact this
theorem Ext.new {ad0 ad : Nat → Nat} {S0 S : Sto} {z n : Nat} {t : Nat} {x : Nat × Nat} (h : Ext ad0 S0 z ad S) (e : S.1 t = none) (hx : x.1 ≠ 102) (hz : z ≤ n) : Ext ad0 S0 z (fun q => if q = t then n else ad q) (newS S t x) := by
  refine ⟨fun u y hy => ?_, fun u y hy h0 => ?_⟩
  · obtain ⟨a, b⟩ := h.1 u y hy
    have hu : u ≠ t := fun q => by rw [q, e] at a; cases a
    exact ⟨by simp [newS, hu, a], by simp [hu, b]⟩
  · by_cases hu : u = t
    · simp [newS, hu] at hy
      subst hy
      exact ⟨by simp [hu, hz], hx⟩
    · simp [newS, hu] at hy
      simpa [hu] using h.2 u y hy h0
theorem Ext.step {ad : Nat → Nat} {S : Sto} {n : Nat} {t : Nat} {x : Nat × Nat} (e : S.1 t = none) (hx : x.1 ≠ 102) : Ext ad S n (fun q => if q = t then n else ad q) (newS S t x) := Ext.rf.new e hx (Nat.le_refl n)
/-! the tables -/
def okw (w : Cond) : Bool := goodWord w || match w with
  | .castable _ _ => true
  | .methodLinkNest _ _ _ _ => true
  | .arrayOver _ => true
  | .declares _ => true
  | _ => false
def VKw (U : State) : Prop := ∀ w ∈ lw_tbl, okw w = true → ∀ A : Array Value, w.before A U = true
def KC (D : DD) (U : State) : Prop := (∀ ci, ci < 8 → u_Kn U (RC ci) (TC ci) (clN ci) (D.1.1 ci) (D.1.2 ci)) ∧ (∀ cd, isA cd = true → ArrOfT U (D.2.1 cd) (aTy cd) ∧ va_RA U (D.2.1 cd) (aTy cd)) ∧ ∀ scr, D.2.2 scr → U.isArrayOf scr .int
def strs : List (Nat × String) := lw_tbl.filterMap fun w => match w with
  | .stringRef _ k tx => some (k, tx)
  | _ => none
def KS (U : State) : Prop := ∀ q ∈ strs, ∃ sa, vk_R RX6 q.1 q.2 sa U
def KT (A : Nat → Prop) (U : State) (H : Heap) : Prop := vx_Zq Bundle.tN "UNASSIGNED_STACK" Bundle.steD A U H ∧ vx_Zq Bundle.tN "SUPPRESSED_SENTINEL" Bundle.listD A U H
def VK (D : DD) (A : Nat → Prop) (U : State) (H : Heap) : Prop := VKw U ∧ KC D U ∧ KS U ∧ KT A U H
theorem VKw.warm {s U : State} (hW : s.WarmedH U.vm) (h : VKw s) : VKw U := by
  intro w hw ho A
  by_cases hg : goodWord w = true
  · exact word_at hW (good_of_word hg) (h w hw ho #[])
  · have hh := h w hw ho
    cases w with
    | castable C T => exact va_Nw.use rfl (va_Nw.warmC hW (va_Nw.of rfl (hh #[])))
    | methodLinkNest a i x b => exact va_Nw.use rfl (va_Nw.warmM hW (va_Nw.of rfl (hh #[])))
    | declares x =>
      have h2 : (Cond.declares x).before A (s.setVm U.vm) = true := by rw [Cond.declares_setVm hW.alike]; exact hh A
      exact va_tabs rfl (rfl : (s.setVm U.vm).vm = U.vm) h2
    | arrayOver ty =>
      have h2 : ∃ C, ty = .object C := by
        revert hw
        have : ∀ w ∈ lw_tbl, (match w with | .arrayOver (.object _) => true | .arrayOver _ => false | _ => true) = true := by decide +kernel
        intro hw
        have h3 := this _ hw
        cases ty <;> first | exact ⟨_, rfl⟩ | (cases h3)
      obtain ⟨C, rfl⟩ := h2
      exact va_AO.use (va_AO.moved hW.alike (va_AO.of (hh #[])))
    | _ => simp [okw, hg] at ho
theorem KC.warm {D : DD} {s U : State} (hvm : s.vm.Alike U.vm) (h : KC D s) : KC D U :=
  ⟨fun ci hc => u_Kn_moved hvm (h.1 ci hc), fun cd hc => ⟨arrOfT_moved hvm (h.2.1 cd hc).1, va_RA.moved hvm (h.2.1 cd hc).2⟩, fun scr hs => State.isArrayOf_alike hvm (h.2.2 scr hs)⟩
theorem KS.warm {s U : State} (hW : s.WarmedH U.vm) (h : KS s) : KS U := fun q hq => by
  obtain ⟨sa, h1⟩ := h q hq
  exact ⟨sa, h1.warm hW⟩
theorem VK.warm {D : DD} {A B : Nat → Prop} {s U : State} {H0 H : Heap} {locs : List Loc} (hW : s.WarmedH U.vm) (hS : va_S A H0 H locs) (hAB : ∀ q, B q → A q) (h : VK D A s H0) : VK D B U H :=
  ⟨h.1.warm hW, h.2.1.warm hW.alike, h.2.2.1.warm hW, vx_Zq.narrow (vx_Zq.moved hW.alike (h.2.2.2.1.kept hS.2.1)) hAB, vx_Zq.narrow (vx_Zq.moved hW.alike (h.2.2.2.2.kept hS.2.1)) hAB⟩
theorem VKw.at {s : State} (h : VKw s) (i : Nat) {w : Cond} (hi : lw_tbl[i]? = some w) (ho : okw w = true) {A : Array Value} : w.before A s = true := h w (List.mem_of_getElem? hi) ho A
end
section
/-! ONE STEP of the abstract machine, as a predicate transformer -/
abbrev MD := MethodName × ByteArray × Nat × Option FieldType
abbrev Ent := Instr × Nat × Nat × Nat × Int
abbrev CD := MD × Spec × Nat × Nat × Nat
abbrev KF := Nat → List AV → List AV → Sto → Nat × Nat → Prop
def popI : List AV → (Int → List AV → Prop) → Prop
  | .inl z :: r, f => f z r
  | _, _ => False
def popL : List AV → (Int → List AV → Prop) → Prop
  | .inr (.inl z) :: r, f => f z r
  | _, _ => False
def popR : List AV → (Option Nat → List AV → Prop) → Prop
  | .inr (.inr z) :: r, f => f z r
  | _, _ => False
def popA : List AV → (AV → List AV → Prop) → Prop
  | a :: r, f => (match isLong a with | true => False | false => f a r)
  | _, _ => False
def onR : Option Nat → (Nat → Prop) → Prop
  | some t, f => f t
  | none, _ => False
def asI : AV → (Int → Prop) → Prop
  | .inl z, f => f z
  | _, _ => False
def asR : AV → (Option Nat → Prop) → Prop
  | .inr (.inr z), f => f z
  | _, _ => False
def getF (S : Sto) (ci t k : Nat) : AV := match isR ci k with
  | true => vR (S.2.2 t k)
  | false => vI (S.2.1 t k)
def cmpB : ClassFile.Cond → Int → Int → Prop
  | .eq, a, b => a = b
  | .ne, a, b => a ≠ b
  | .lt, a, b => a < b
  | .ge, a, b => b ≤ a
  | .gt, a, b => b < a
  | .le, a, b => a ≤ b
def swK (pc : Nat) (z : Int) (k : Nat → Prop) : Int → List Int → Prop
  | _, [] => True
  | lo, o :: os => (z = lo → k ((pc : Int) + o).toNat) ∧ swK pc z k (lo + 1) os
def argsK : Nat → List AV → List AV → (List AV → List AV → Prop) → Prop
  | 0, acc, st, f => f acc st
  | n + 1, acc, st, f => popA st fun a r => argsK n (a :: acc) r f
def small : List AV → Bool
  | [] => true
  | [_] => true
  | [_, _] => true
  | [_, _, _] => true
  | [_, _, _, _] => true
  | _ => false
def shortK (st : List AV) (P : Prop) : Prop := match small st with
  | true => P
  | false => False
def resK (r : Option AV) (rest : List AV) : List AV := match r with
  | some v => v :: rest
  | none => rest
def putK (b : Bool) (st : List AV) (f1 : Option Nat → List AV → Prop) (f2 : Int → List AV → Prop) : Prop := match b with
  | true => popR st f1
  | false => popI st f2
def st1 (sp : Nat → CD) (lim : Nat × Nat) (kr : Option AV → Sto → Nat × Nat → Prop) (kt : Nat → Sto → Nat × Nat → Prop) (kx : Nat → Nat → List AV → Sto → Nat × Nat → Prop) (k : KF)
    (pc : Nat) (x : Ent) (L st : List AV) (S : Sto) (c : Nat × Nat) : Prop :=
  match x.1 with
  | .iconst n => k (pc + 1) L (vI n :: st) S c
  | .bipush n => k (pc + 2) L (vI n :: st) S c
  | .sipush n => k (pc + 3) L (vI n :: st) S c
  | .ldc _ => k (pc + 2) L (vI x.2.2.2.2 :: st) S c
  | .ldc_w _ => k (pc + 3) L (vI x.2.2.2.2 :: st) S c
  | .aconst_null => k (pc + 1) L (vR none :: st) S c
  | .iload i => asI (nth L i) fun z => k (pc + 2) L (vI z :: st) S c
  | .iload_n i => asI (nth L i) fun z => k (pc + 1) L (vI z :: st) S c
  | .aload i => asR (nth L i) fun z => k (pc + 2) L (vR z :: st) S c
  | .aload_n i => asR (nth L i) fun z => k (pc + 1) L (vR z :: st) S c
  | .istore i => popI st fun z r => k (pc + 2) (setn L i (vI z)) r S c
  | .istore_n i => popI st fun z r => k (pc + 1) (setn L i (vI z)) r S c
  | .astore i => popR st fun z r => k (pc + 2) (setn L i (vR z)) r S c
  | .astore_n i => popR st fun z r => k (pc + 1) (setn L i (vR z)) r S c
  | .iinc i n => asI (nth L i) fun z => k (pc + 3) (setn L i (vI (z + n))) st S c
  | .iadd => popI st fun b r => popI r fun a r => k (pc + 1) L (vI (a + b) :: r) S c
  | .isub => popI st fun b r => popI r fun a r => k (pc + 1) L (vI (a - b) :: r) S c
  | .imul => popI st fun b r => popI r fun a r => k (pc + 1) L (vI (a * b) :: r) S c
  | .idiv => popI st fun b r => popI r fun a r => (0 ≤ a ∧ a ≤ 2147483647 ∧ 0 < b ∧ b ≤ 2147483647) ∧ k (pc + 1) L (vI (a / b) :: r) S c
  | .irem => popI st fun b r => popI r fun a r => (0 ≤ a ∧ a ≤ 2147483647 ∧ 0 < b ∧ b ≤ 2147483647) ∧ k (pc + 1) L (vI (a % b) :: r) S c
  | .ineg => popI st fun a r => k (pc + 1) L (vI (-a) :: r) S c
  | .iand => popI st fun b r => popI r fun a r => k (pc + 1) L (vI (bAnd a b) :: r) S c
  | .ior => popI st fun b r => popI r fun a r => k (pc + 1) L (vI (bOr a b) :: r) S c
  | .ixor => popI st fun b r => popI r fun a r => k (pc + 1) L (vI (bXor a b) :: r) S c
  | .ishl => popI st fun b r => popI r fun a r => k (pc + 1) L (vI (bShl a b) :: r) S c
  | .ishr => popI st fun b r => popI r fun a r => k (pc + 1) L (vI (bShr a b) :: r) S c
  | .iushr => popI st fun b r => popI r fun a r => k (pc + 1) L (vI (bUshr a b) :: r) S c
  | .i2l => popI st fun a r => InR a ∧ k (pc + 1) L (vL a :: r) S c
  | .lcmp => popL st fun b r => popL r fun a r => InR a ∧ InR b ∧ ∀ z : Int, (z = 0 ↔ a = b) → InR z → k (pc + 1) L (vI z :: r) S c
  | .dup => popA st fun a r => k (pc + 1) L (a :: a :: r) S c
  | .dup_x1 => popA st fun a r => popA r fun b r => k (pc + 1) L (a :: b :: a :: r) S c
  | .dup2 => popA st fun a r => popA r fun b r => k (pc + 1) L (a :: b :: a :: b :: r) S c
  | .pop => popA st fun _ r => k (pc + 1) L r S c
  | .goto _ => k x.2.2.1 L st S c
  | .ifCond cd _ => popI st fun a r => InR a ∧ (cmpB cd a 0 → k x.2.2.1 L r S c) ∧ (¬ cmpB cd a 0 → k (pc + 3) L r S c)
  | .if_icmp cd _ => popI st fun b r => popI r fun a r => InR a ∧ InR b ∧ (cmpB cd a b → k x.2.2.1 L r S c) ∧ (¬ cmpB cd a b → k (pc + 3) L r S c)
  | .ifnull _ => popR st fun a r => (a = none → k x.2.2.1 L r S c) ∧ (∀ t, a = some t → k (pc + 3) L r S c)
  | .ifnonnull _ => popR st fun a r => (a = none → k (pc + 3) L r S c) ∧ (∀ t, a = some t → k x.2.2.1 L r S c)
  | .tableswitch d lo hi os => popI st fun a r => InR a ∧ swK pc a (fun p => k p L r S c) lo os.toList ∧ (a < lo ∨ hi < a → k ((pc : Int) + d).toNat L r S c)
  | .getfield _ => popR st fun a r => onR a fun t => (∃ n, S.1 t = some (x.2.2.1, n)) ∧ k (pc + 3) L (getF S x.2.2.1 t x.2.2.2.1 :: r) S c
  | .putfield _ => putK (isR x.2.2.1 x.2.2.2.1) st
      (fun v r => popR r fun a r => onR a fun t => (∃ n, S.1 t = some (x.2.2.1, n)) ∧ k (pc + 3) L r (updR S t x.2.2.2.1 v) c)
      (fun v r => popR r fun a r => onR a fun t => (∃ n, S.1 t = some (x.2.2.1, n)) ∧ k (pc + 3) L r (updI S t x.2.2.2.1 v) c)
  | .iaload => popI st fun i r => popR r fun a r => onR a fun t => (∃ cd n, S.1 t = some (cd, n) ∧ (cd = 100 ∨ cd = 102) ∧ 0 ≤ i ∧ i < n) ∧ k (pc + 1) L (vI (S.2.1 t i.toNat) :: r) S c
  | .laload => popI st fun i r => popR r fun a r => onR a fun t => (∃ n, S.1 t = some (101, n) ∧ 0 ≤ i ∧ i < n) ∧ k (pc + 1) L (vL (S.2.1 t i.toNat) :: r) S c
  | .aaload => popI st fun i r => popR r fun a r => onR a fun t => (∃ cd n, S.1 t = some (cd, n) ∧ isRA cd = true ∧ 0 ≤ i ∧ i < n) ∧ k (pc + 1) L (vR (S.2.2 t i.toNat) :: r) S c
  | .iastore => popI st fun v r => popI r fun i r => popR r fun a r => onR a fun t => (∃ n, S.1 t = some (100, n) ∧ 0 ≤ i ∧ i < n) ∧ k (pc + 1) L r (updI S t i.toNat v) c
  | .lastore => popL st fun v r => popI r fun i r => popR r fun a r => onR a fun t => (∃ n, S.1 t = some (101, n) ∧ 0 ≤ i ∧ i < n) ∧ k (pc + 1) L r (updI S t i.toNat v) c
  | .aastore => popR st fun v r => onR v fun u => popI r fun i r => popR r fun a r => onR a fun t => (∃ ci n n', S.1 t = some (110 + ci, n) ∧ isRA (110 + ci) = true ∧ S.1 u = some (ci, n') ∧ 0 ≤ i ∧ i < n) ∧ k (pc + 1) L r (updR S t i.toNat (some u)) c
  | .arraylength => popR st fun a r => onR a fun t => ∃ cd n, S.1 t = some (cd, n) ∧ 100 ≤ cd ∧ k (pc + 1) L (vI n :: r) S c
  | .newarray _ => popI st fun n r => (0 ≤ n ∧ n ≤ 100000 ∧ c.1 + 1 ≤ lim.1 ∧ c.2 + n.toNat ≤ lim.2) ∧ ∃ t, S.1 t = none ∧ k (pc + 2) L (vT t :: r) (newS S t (x.2.2.1, n.toNat)) (c.1 + 1, c.2 + n.toNat)
  | .anewarray _ => popI st fun n r => (0 ≤ n ∧ n ≤ 100000 ∧ c.1 + 1 ≤ lim.1 ∧ c.2 + n.toNat ≤ lim.2) ∧ ∃ t, S.1 t = none ∧ k (pc + 3) L (vT t :: r) (newS S t (110 + x.2.2.1, n.toNat)) (c.1 + 1, c.2 + n.toNat)
  | .new _ => (match x.2.2.2.1 with
    | 0 => (c.1 + 1 ≤ lim.1 ∧ c.2 + clN x.2.2.1 ≤ lim.2) ∧ ∃ t, S.1 t = none ∧ k (pc + 3) L (vT t :: st) (newS S t (x.2.2.1, clN x.2.2.1)) (c.1 + 1, c.2 + clN x.2.2.1)
    | _ => shortK st ((c.1 + 1 ≤ lim.1 ∧ c.2 + 6 ≤ lim.2) ∧ kt x.2.2.1 S (c.1 + 1, c.2 + 6)))
  | .invokevirtual _ => argsK x.2.2.2.1 [] st fun as r => popR as fun a _ => onR a fun t => (∃ n, S.1 t = some (x.2.2.2.2.toNat, n)) ∧ shortK r ((c.1 + (sp x.2.2.1).2.2.1 ≤ lim.1 ∧ c.2 + (sp x.2.2.1).2.2.2.1 ≤ lim.2) ∧ (sp x.2.2.1).2.1 as S fun o S' => match o with
      | .inl v => k (pc + 3) L (resK v r) S' (c.1 + (sp x.2.2.1).2.2.1, c.2 + (sp x.2.2.1).2.2.2.1)
      | .inr e => kx e pc L S' (c.1 + (sp x.2.2.1).2.2.1, c.2 + (sp x.2.2.1).2.2.2.1))
  | .invokestatic _ => argsK x.2.2.2.1 [] st fun as r => shortK r ((c.1 + (sp x.2.2.1).2.2.1 ≤ lim.1 ∧ c.2 + (sp x.2.2.1).2.2.2.1 ≤ lim.2) ∧ (sp x.2.2.1).2.1 as S fun o S' => match o with
      | .inl v => k (pc + 3) L (resK v r) S' (c.1 + (sp x.2.2.1).2.2.1, c.2 + (sp x.2.2.1).2.2.2.1)
      | .inr e => kx e pc L S' (c.1 + (sp x.2.2.1).2.2.1, c.2 + (sp x.2.2.1).2.2.2.1))
  | .invokespecial _ => (match x.2.2.1 with
    | 0 => popR st fun a r => shortK r (onR a fun _ => k (pc + 3) L r S c)
    | _ => argsK x.2.2.2.1 [] st fun as r => popR as fun a _ => onR a fun _ => shortK r ((c.1 + (sp x.2.2.1).2.2.1 ≤ lim.1 ∧ c.2 + (sp x.2.2.1).2.2.2.1 ≤ lim.2) ∧ (sp x.2.2.1).2.1 as S fun o S' => match o with
      | .inl v => k (pc + 3) L (resK v r) S' (c.1 + (sp x.2.2.1).2.2.1, c.2 + (sp x.2.2.1).2.2.2.1)
      | .inr e => kx e pc L S' (c.1 + (sp x.2.2.1).2.2.1, c.2 + (sp x.2.2.1).2.2.2.1)))
  | .ireturn => (match st with
    | [.inl z] => (match x.2.2.1 with
      | 0 => kr (some (vI z)) S c
      | _ => (z = 0 ∨ z = 1) ∧ kr (some (vI z)) S c)
    | _ => False)
  | .areturn => (match st with
    | [.inr (.inr z)] => kr (some (vR z)) S c
    | _ => False)
  | .return_ => (match st with
    | [] => kr none S c
    | _ => False)
  | _ => False
theorem popI_e {st : List AV} {f : Int → List AV → Prop} (h : popI st f) : ∃ z r, st = vI z :: r ∧ f z r := by
  unfold popI at h
  split at h
  · exact ⟨_, _, rfl, h⟩
  · exact h.elim
theorem popL_e {st : List AV} {f : Int → List AV → Prop} (h : popL st f) : ∃ z r, st = vL z :: r ∧ f z r := by
  unfold popL at h
  split at h
  · exact ⟨_, _, rfl, h⟩
  · exact h.elim
theorem popR_e {st : List AV} {f : Option Nat → List AV → Prop} (h : popR st f) : ∃ z r, st = vR z :: r ∧ f z r := by
  unfold popR at h
  split at h
  · exact ⟨_, _, rfl, h⟩
  · exact h.elim
theorem popA_e {st : List AV} {f : AV → List AV → Prop} (h : popA st f) : ∃ a r, st = a :: r ∧ isLong a = false ∧ f a r := by
  unfold popA at h
  split at h
  · split at h
    · exact h.elim
    · exact ⟨_, _, rfl, by assumption, h⟩
  · exact h.elim
theorem onR_e {a : Option Nat} {f : Nat → Prop} (h : onR a f) : ∃ t, a = some t ∧ f t := by
  unfold onR at h
  split at h
  · exact ⟨_, rfl, h⟩
  · exact h.elim
theorem asI_e {a : AV} {f : Int → Prop} (h : asI a f) : ∃ z, a = vI z ∧ f z := by
  unfold asI at h
  split at h
  · exact ⟨_, rfl, h⟩
  · exact h.elim
theorem asR_e {a : AV} {f : Option Nat → Prop} (h : asR a f) : ∃ z, a = vR z ∧ f z := by
  unfold asR at h
  split at h
  · exact ⟨_, rfl, h⟩
  · exact h.elim
theorem putK_e {b : Bool} {st : List AV} {f1 : Option Nat → List AV → Prop} {f2 : Int → List AV → Prop} (h : putK b st f1 f2) : (b = true ∧ popR st f1) ∨ (b = false ∧ popI st f2) := by
  cases b
  · exact Or.inr ⟨rfl, h⟩
  · exact Or.inl ⟨rfl, h⟩
theorem shortK_e {st : List AV} {P : Prop} (h : shortK st P) : small st = true ∧ P := by
  unfold shortK at h
  split at h
  · exact ⟨by assumption, h⟩
  · exact h.elim
theorem argsK_e {n : Nat} {acc st : List AV} {f : List AV → List AV → Prop} (h : argsK n acc st f) : ∃ as r, as.length = n ∧ st = as.reverse ++ r ∧ f (as ++ acc) r ∧ ∀ a ∈ as, isLong a = false := by
  induction n generalizing acc st with
  | zero => exact ⟨[], st, rfl, rfl, h, fun a ha => by cases ha⟩
  | succ n ih =>
    obtain ⟨a, r, rfl, ha, h⟩ := popA_e h
    obtain ⟨as, r, h1, rfl, h3, h4⟩ := ih h
    refine ⟨as ++ [a], r, by simp [h1], by simp, by simpa using h3, fun b hb => ?_⟩
    rcases List.mem_append.mp hb with q | q
    · exact h4 b q
    · rw [List.mem_singleton.mp q]; exact ha
end
section
/-! SOUNDNESS of one step: what the abstract machine says of an instruction holds of the machine -/
def exN : Nat → String
  | 0 => "java/lang/IndexOutOfBoundsException"
  | 1 => "java/lang/IllegalArgumentException"
  | _ => "java/lang/IllegalStateException"
def rmD (mc ms d : Nat) : Room := { frames := 10 + d, cells := mc, slots := ms, locals := 300 + 60 * d }
def PcS (D : DD) (ad : Nat → Nat) (S : Sto) (sz : Nat) (as : List AV) : Array Value → State → Prop := fun v U => v = (as.map (cv ad)).toArray ∧ U.heap.size = sz ∧ Rep D ad S U.heap ∧ VK D (foot ad S sz) U U.heap
def QcS (D : DD) (ad : Nat → Nat) (S : Sto) (sz : Nat) (post : Res → Sto → Prop) : Array Value → State → Outcome → State → Prop := fun _ st o t =>
  (∃ (r : Option AV) (ad' : Nat → Nat) (S' : Sto), o = .returned (r.map (cv ad')) ∧ post (.inl r) S' ∧ Ext ad S sz ad' S' ∧ Rep D ad' S' t.heap ∧ ∀ v, r = some v → VOK S' v) ∧ va_F (foot ad S sz) st t
def XcS (D : DD) (ad : Nat → Nat) (S : Sto) (sz : Nat) (post : Res → Sto → Prop) : String → State → State → Prop := fun E st t =>
  (∃ (ee : Nat) (ad' : Nat → Nat) (S' : Sto), E = exN ee ∧ post (.inr ee) S' ∧ Ext ad S sz ad' S' ∧ Rep D ad' S' t.heap) ∧ va_F (foot ad S sz) st t
/-- a method keeps its contract -/
def Sat (q : MD) (spec : Spec) (mc ms d : Nat) : Prop := ∀ (l : Launch) (D : DD) (ad : Nat → Nat) (S : Sto) (as : List AV) (post : Res → Sto → Prop) (sz : Nat), l.stackTraces = false → CL S as → spec as S post →
  vx_Met l q.1 [Cond.code q.1 q.2.1 q.2.2.1 q.2.2.2] (rmD mc ms d) (PcS D ad S sz as) (QcS D ad S sz post) (XcS D ad S sz post) mc ms (foot ad S sz)
theorem PcS.blind {D : DD} {ad : Nat → Nat} {S : Sto} {sz : Nat} {as : List AV} : FrameBlind (PcS D ad S sz as) := by
  intro a U g mk h
  obtain ⟨h1, h2, h3, h4, h5, h6, h7, h8⟩ := h
  have hv : (U.calling g mk a).vm = U.vm := rfl
  have hW : U.WarmedH (U.calling g mk a).vm := by rw [hv]; exact State.WarmedH.refl U
  refine ⟨h1, h2, h3, h4.warm hW, h5.warm (Vm.Alike.refl U.vm), h6.warm hW, vx_Zq.moved (Vm.Alike.refl U.vm) h7, vx_Zq.moved (Vm.Alike.refl U.vm) h8⟩
section SND
variable {p : Program} {l : Launch} {e : Env} {R : Room} {s : State} {m : MethodId} {args : Array Value} {below : List Frame} {meth : Method} {c : Code} {Q : State → Prop} {D : DD} {ad0 : Nat → Nat} {S0 : Sto} {nL : Nat} {cc : ByteArray} {own : String}
def G (p : Program) (l : Launch) (e : Env) (R : Room) (s : State) (m : MethodId) (args : Array Value) (below : List Frame) (meth : Method) (c : Code) (Q : State → Prop) (D : DD) (ad0 : Nat → Nat) (S0 : Sto) (nL : Nat) : KF := fun pc L st S cs =>
  ∀ (ad : Nat → Nat) (H : Heap) (locs : List Loc) (ls : Array Slot), LocOK ad L ls nL → CLs S L → CL S st → Rep D ad S H → Ext ad0 S0 s.heap.size ad S → va_S (foot ad0 S0 s.heap.size) s.heap H locs → W p l e R s m args below meth c H locs cs.1 cs.2 Q (F0 m pc ls (st.map (cv ad)))
def GX (p : Program) (l : Launch) (e : Env) (R : Room) (s : State) (m : MethodId) (args : Array Value) (below : List Frame) (meth : Method) (c : Code) (Q : State → Prop) (D : DD) (ad0 : Nat → Nat) (S0 : Sto) (nL : Nat) : Nat → Nat → List AV → Sto → Nat × Nat → Prop := fun ee pc L S cs =>
  ∀ (ad : Nat → Nat) (H : Heap) (locs : List Loc) (ls : Array Slot) (rest : List Value) (q : Nat) (ce : Cell), LocOK ad L ls nL → CLs S L → Rep D ad S H → Ext ad0 S0 s.heap.size ad S → va_S (foot ad0 S0 s.heap.size) s.heap H locs → H[q]? = some ce → ce.vm = .none → s.vm.findClass (exN ee) = some ce.cls → vx_W p l e R s m args below meth c H locs cs.1 cs.2 Q (F0 m pc ls rest) q
/-- what stands fixed while a method's body is walked -/
def CX (p : Program) (l : Launch) (s : State) (m : MethodId) (meth : Method) (c : Code) (D : DD) (ad0 : Nat → Nat) (S0 : Sto) (nL : Nat) (cc : ByteArray) (own : String) (ini : Bool) : Prop :=
  p.tables.exec = Jvm.exec ∧ c.code = cc ∧ c.maxLocals = nL ∧ s.vm.findClass own = some m.cls ∧ VK D (foot ad0 S0 s.heap.size) s s.heap ∧ (ini = true → meth.name = "<init>") ∧ l.stackTraces = false
/-- what a callee's name and code want of the tables -/
def mOK (q : MD) (n : Nat) : Prop := Cond.code q.1 q.2.1 q.2.2.1 q.2.2.2 ∈ lw_tbl ∧ Cond.initialized q.1.cls ∈ lw_tbl ∧ (q.1.cls ≠ "java/lang/invoke/MethodHandle" ∧ q.1.cls ≠ "java/lang/invoke/VarHandle") ∧ (parseMethodDescriptor q.1.desc).map (fun d => d.parameters.length) = some n ∧ q.2.2.1 ≤ 40
theorem small_cat {ad : Nat → Nat} {r : List AV} (h : small r = true) : ((r.map (cv ad)).map fun v => v.category).sum ≤ 8 := by
  have h1 : ∀ a : AV, (cv ad a).category ≤ 2 := fun a => by
    rcases a with z | z | z
    · exact Nat.le_of_ble_eq_true rfl
    · exact Nat.le_of_ble_eq_true rfl
    · cases z <;> exact Nat.le_of_ble_eq_true rfl
  unfold small at h
  split at h
  · simp
  · rename_i a; have := h1 a; simp; omega
  · rename_i a b; have := h1 a; have := h1 b; simp; omega
  · rename_i a b d; have := h1 a; have := h1 b; have := h1 d; simp; omega
  · rename_i a b d f; have := h1 a; have := h1 b; have := h1 d; have := h1 f; simp; omega
  · cases h
theorem ok_const {own : String} {i : Nat} {z : Int32} : okw (Cond.constant own i z) = true := rfl
theorem swK_e {pc : Nat} {z : Int} {k : Nat → Prop} : ∀ {os : List Int} {lo : Int}, swK pc z k lo os → ∀ (j : Nat) (o : Int), os[j]? = some o → z = lo + j → k ((pc : Int) + o).toNat
  | [], lo, h, j, o, hj, hz => by simp at hj
  | o1 :: os, lo, h, 0, o, hj, hz => by
    have : o1 = o := by simpa using hj
    subst this
    exact h.1 (by simpa using hz)
  | o1 :: os, lo, h, j + 1, o, hj, hz => swK_e h.2 j o (by simpa using hj) (by rw [hz]; push_cast; omega)
theorem va_rf_cases {a : Option Nat} {ad : Nat → Nat} : (a = none ∧ va_rf (a.map ad) = .null) ∨ ∃ t, a = some t ∧ va_rf (a.map ad) = .ref (ad t) := by
  cases a with
  | none => exact Or.inl ⟨rfl, rfl⟩
  | some t => exact Or.inr ⟨t, rfl, rfl⟩
end SND
end
section
section SNDP
variable {p : Program} {l : Launch} {e : Env} {R : Room} {s : State} {m : MethodId} {args : Array Value} {below : List Frame} {meth : Method} {c : Code} {Q : State → Prop} {D : DD} {ad0 : Nat → Nat} {S0 : Sto} {nL : Nat} {cc : ByteArray} {own : String} {L st r : List AV} {S : Sto} {cs : Nat × Nat} {pc : Nat}
theorem g_const (hx : p.tables.exec = Jvm.exec) (hb : c.code = cc) {z : Int} {len : Nat} (k : G p l e R s m args below meth c Q D ad0 S0 nL (pc + len) L (vI z :: st) S cs)
    (h : ∀ (H : Heap) (locs : List Loc) (ls : Array Slot) (rest : List Value), W p l e R s m args below meth c H locs cs.1 cs.2 Q (F0 m (pc + len) ls (.int (Int32.ofInt z) :: rest)) → W p l e R s m args below meth c H locs cs.1 cs.2 Q (F0 m pc ls rest)) : G p l e R s m args below meth c Q D ad0 S0 nL pc L st S cs := by
  intro ad H locs ls hL hC hcl hR hE hS
  exact h _ _ _ _ (k ad H locs ls hL hC (CL.cons VOK.i hcl) hR hE hS)
/-- two ints go, an int comes -/
theorem g_bin (hx : p.tables.exec = Jvm.exec) (hb : c.code = cc) {a b z : Int} (k : G p l e R s m args below meth c Q D ad0 S0 nL (pc + 1) L (vI z :: r) S cs)
    (h : ∀ (H : Heap) (locs : List Loc) (ls : Array Slot) (rest : List Value), W p l e R s m args below meth c H locs cs.1 cs.2 Q (F0 m (pc + 1) ls (.int (Int32.ofInt z) :: rest)) → W p l e R s m args below meth c H locs cs.1 cs.2 Q (F0 m pc ls (.int (Int32.ofInt b) :: .int (Int32.ofInt a) :: rest))) : G p l e R s m args below meth c Q D ad0 S0 nL pc L (vI b :: vI a :: r) S cs := by
  intro ad H locs ls hL hC hcl hR hE hS
  exact h _ _ _ _ (k ad H locs ls hL hC (CL.cons VOK.i hcl.tl.tl) hR hE hS)
theorem g_un (hx : p.tables.exec = Jvm.exec) (hb : c.code = cc) {a z : Int} (k : G p l e R s m args below meth c Q D ad0 S0 nL (pc + 1) L (vI z :: r) S cs)
    (h : ∀ (H : Heap) (locs : List Loc) (ls : Array Slot) (rest : List Value), W p l e R s m args below meth c H locs cs.1 cs.2 Q (F0 m (pc + 1) ls (.int (Int32.ofInt z) :: rest)) → W p l e R s m args below meth c H locs cs.1 cs.2 Q (F0 m pc ls (.int (Int32.ofInt a) :: rest))) : G p l e R s m args below meth c Q D ad0 S0 nL pc L (vI a :: r) S cs := by
  intro ad H locs ls hL hC hcl hR hE hS
  exact h _ _ _ _ (k ad H locs ls hL hC (CL.cons VOK.i hcl.tl) hR hE hS)
theorem g_load (hx : p.tables.exec = Jvm.exec) (hb : c.code = cc) {i len : Nat} {a : AV} (ha : nth L i = a) (hl : isLong a = false) (k : G p l e R s m args below meth c Q D ad0 S0 nL (pc + len) L (a :: st) S cs)
    (h : ∀ (ad : Nat → Nat) (H : Heap) (locs : List Loc) (ls : Array Slot) (rest : List Value), ls[i]? = some (.val (cv ad a)) → W p l e R s m args below meth c H locs cs.1 cs.2 Q (F0 m (pc + len) ls (cv ad a :: rest)) → W p l e R s m args below meth c H locs cs.1 cs.2 Q (F0 m pc ls rest)) : G p l e R s m args below meth c Q D ad0 S0 nL pc L st S cs := by
  intro ad H locs ls hL hC hcl hR hE hS
  exact h ad _ _ _ _ (hL.at ha hl) (k ad H locs ls hL hC (CL.cons (by rw [← ha]; exact hC i) hcl) hR hE hS)
theorem st_int (hx : p.tables.exec = Jvm.exec) (hb : c.code = cc) {i len : Nat} {x : Int32} {H : Heap} {locs : List Loc} {ls ls' : Array Slot} {rest : List Value} (hd : (decode cc pc = .ok (.istore i, 2) ∧ len = 2) ∨ (∃ k : Fin 4, decode cc pc = .ok (.istore_n k, 1) ∧ i = k.val ∧ len = 1))
    (hs : storeLocals ls i (.int x) = some ls') (k : W p l e R s m args below meth c H locs cs.1 cs.2 Q (F0 m (pc + len) ls' rest)) : W p l e R s m args below meth c H locs cs.1 cs.2 Q (F0 m pc ls (.int x :: rest)) := by
  rcases hd with ⟨hdg, rfl⟩ | ⟨q, hdg, rfl, rfl⟩
  · intro T hT X
    obtain ⟨t, a, b⟩ := k T hT X
    refine ⟨t, ?_, b⟩
    jvm_step X.here [X.here.top, hx, hb, hdg, hs]
    exact a
  · intro T hT X
    obtain ⟨t, a, b⟩ := k T hT X
    refine ⟨t, ?_, b⟩
    jvm_step X.here [X.here.top, hx, hb, hdg, hs]
    exact a
theorem st_ref (hx : p.tables.exec = Jvm.exec) (hb : c.code = cc) {i len : Nat} {x : Option Nat} {H : Heap} {locs : List Loc} {ls ls' : Array Slot} {rest : List Value} (hd : (decode cc pc = .ok (.astore i, 2) ∧ len = 2) ∨ (∃ k : Fin 4, decode cc pc = .ok (.astore_n k, 1) ∧ i = k.val ∧ len = 1))
    (hs : storeLocals ls i (va_rf x) = some ls') (k : W p l e R s m args below meth c H locs cs.1 cs.2 Q (F0 m (pc + len) ls' rest)) : W p l e R s m args below meth c H locs cs.1 cs.2 Q (F0 m pc ls (va_rf x :: rest)) := by
  cases x with
  | none =>
    change storeLocals ls i .null = some ls' at hs
    change W p l e R s m args below meth c H locs cs.1 cs.2 Q (F0 m pc ls (.null :: rest))
    rcases hd with ⟨hdg, rfl⟩ | ⟨q, hdg, rfl, rfl⟩
    · intro T hT X
      obtain ⟨t, a, b⟩ := k T hT X
      refine ⟨t, ?_, b⟩
      jvm_step X.here [X.here.top, hx, hb, hdg, hs, Value.isRef]
      exact a
    · intro T hT X
      obtain ⟨t, a, b⟩ := k T hT X
      refine ⟨t, ?_, b⟩
      jvm_step X.here [X.here.top, hx, hb, hdg, hs, Value.isRef]
      exact a
  | some x =>
    change storeLocals ls i (.ref x) = some ls' at hs
    change W p l e R s m args below meth c H locs cs.1 cs.2 Q (F0 m pc ls (.ref x :: rest))
    rcases hd with ⟨hdg, rfl⟩ | ⟨q, hdg, rfl, rfl⟩
    · intro T hT X
      obtain ⟨t, a, b⟩ := k T hT X
      refine ⟨t, ?_, b⟩
      jvm_step X.here [X.here.top, hx, hb, hdg, hs, Value.isRef]
      exact a
    · intro T hT X
      obtain ⟨t, a, b⟩ := k T hT X
      refine ⟨t, ?_, b⟩
      jvm_step X.here [X.here.top, hx, hb, hdg, hs, Value.isRef]
      exact a
theorem st_inc (hx : p.tables.exec = Jvm.exec) (hb : c.code = cc) {i : Nat} {n : Int} {x : Int32} {H : Heap} {locs : List Loc} {ls ls' : Array Slot} {rest : List Value} (hdg : decode cc pc = .ok (.iinc i n, 3)) (hl : ls[i]? = some (.val (.int x)))
    (hs : storeLocals ls i (.int (x + Int32.ofInt n)) = some ls') (k : W p l e R s m args below meth c H locs cs.1 cs.2 Q (F0 m (pc + 3) ls' rest)) : W p l e R s m args below meth c H locs cs.1 cs.2 Q (F0 m pc ls rest) := by
  intro T hT X
  obtain ⟨t, a, b⟩ := k T hT X
  refine ⟨t, ?_, b⟩
  jvm_step X.here [X.here.top, hx, hb, hdg, hl, hs]
  exact a
theorem g_store (hx : p.tables.exec = Jvm.exec) (hb : c.code = cc) {i len : Nat} {a : AV} (hi : i < nL) (hl : isLong a = false) (k : G p l e R s m args below meth c Q D ad0 S0 nL (pc + len) (setn L i a) r S cs)
    (h : ∀ (ad : Nat → Nat) (H : Heap) (locs : List Loc) (ls ls' : Array Slot) (rest : List Value), storeLocals ls i (cv ad a) = some ls' → W p l e R s m args below meth c H locs cs.1 cs.2 Q (F0 m (pc + len) ls' rest) → W p l e R s m args below meth c H locs cs.1 cs.2 Q (F0 m pc ls (cv ad a :: rest))) : G p l e R s m args below meth c Q D ad0 S0 nL pc L (a :: r) S cs := by
  intro ad H locs ls hL hC hcl hR hE hS
  obtain ⟨ls', e1, hL'⟩ := hL.store (a := a) hi (cv_cat hl) (fun _ => rfl)
  exact h ad _ _ _ _ _ e1 (k ad H locs ls' hL' (hC.set hcl.hd) hcl.tl hR hE hS)
theorem g_iinc (hx : p.tables.exec = Jvm.exec) (hb : c.code = cc) {i : Nat} {n z : Int} (hd : decode cc pc = .ok (.iinc i n, 3)) (hi : i < nL) (ha : nth L i = vI z) (k : G p l e R s m args below meth c Q D ad0 S0 nL (pc + 3) (setn L i (vI (z + n))) st S cs) : G p l e R s m args below meth c Q D ad0 S0 nL pc L st S cs := by
  intro ad H locs ls hL hC hcl hR hE hS
  obtain ⟨ls', e1, hL'⟩ := hL.store (a := vI (z + n)) (v := cv ad (vI (z + n))) hi rfl (fun _ => rfl)
  have e2 : ls[i]? = some (.val (.int (Int32.ofInt z))) := hL.at ha rfl
  exact st_inc hx hb hd e2 (by rw [oI_add]; exact e1) (k ad H locs ls' hL' (hC.set VOK.i) hcl hR hE hS)
theorem g_jump {tgt : Nat} (h : ∀ (H : Heap) (locs : List Loc) (ls : Array Slot) (rest : List Value), W p l e R s m args below meth c H locs cs.1 cs.2 Q (F0 m tgt ls rest) → W p l e R s m args below meth c H locs cs.1 cs.2 Q (F0 m pc ls rest)) (k : G p l e R s m args below meth c Q D ad0 S0 nL tgt L st S cs) : G p l e R s m args below meth c Q D ad0 S0 nL pc L st S cs := by
  intro ad H locs ls hL hC hcl hR hE hS
  exact h _ _ _ _ (k ad H locs ls hL hC hcl hR hE hS)
theorem g_if1 (hx : p.tables.exec = Jvm.exec) (hb : c.code = cc) {a : Int} {cd : ClassFile.Cond} {off : Int} {tgt : Nat} (hd : decode cc pc = .ok (.ifCond cd off, 3)) (ht : (pc : Int) + off = (tgt : Int)) (ha : InR a) (k1 : cmpB cd a 0 → G p l e R s m args below meth c Q D ad0 S0 nL tgt L r S cs) (k2 : ¬ cmpB cd a 0 → G p l e R s m args below meth c Q D ad0 S0 nL (pc + 3) L r S cs) : G p l e R s m args below meth c Q D ad0 S0 nL pc L (vI a :: r) S cs := by
  intro ad H locs ls hL hC hcl hR hE hS
  have h0 : InR 0 := ⟨by omega, by omega⟩
  have j1 := fun q => k1 q ad H locs ls hL hC hcl.tl hR hE hS
  have j2 := fun q => k2 q ad H locs ls hL hC hcl.tl hR hE hS
  cases cd with
  | eq => exact lv_if_eq hx hb hd ht (fun q => j1 ((oI_eq ha h0).mp q)) (fun q => j2 fun q2 => q ((oI_eq ha h0).mpr q2))
  | ne => exact lv_if_ne hx hb hd ht (fun q => j1 fun q2 => q ((oI_eq ha h0).mpr q2)) (fun q => j2 fun q2 => q2 ((oI_eq ha h0).mp q))
  | lt => exact lv_if_lt hx hb hd ht (fun q => j1 ((oI_lt ha h0).mp q)) (fun q => j2 fun q2 => q ((oI_lt ha h0).mpr q2))
  | ge => exact lv_if_ge hx hb hd ht (fun q => j1 ((oI_le h0 ha).mp q)) (fun q => j2 fun q2 => q ((oI_le h0 ha).mpr q2))
  | gt => exact lv_if_gt hx hb hd ht (fun q => j1 ((oI_lt h0 ha).mp q)) (fun q => j2 fun q2 => q ((oI_lt h0 ha).mpr q2))
  | le => exact lv_if_le hx hb hd ht (fun q => j1 ((oI_le ha h0).mp q)) (fun q => j2 fun q2 => q ((oI_le ha h0).mpr q2))
theorem g_if2 (hx : p.tables.exec = Jvm.exec) (hb : c.code = cc) {a b : Int} {cd : ClassFile.Cond} {off : Int} {tgt : Nat} (hd : decode cc pc = .ok (.if_icmp cd off, 3)) (ht : (pc : Int) + off = (tgt : Int)) (ha : InR a) (h0 : InR b) (k1 : cmpB cd a b → G p l e R s m args below meth c Q D ad0 S0 nL tgt L r S cs) (k2 : ¬ cmpB cd a b → G p l e R s m args below meth c Q D ad0 S0 nL (pc + 3) L r S cs) : G p l e R s m args below meth c Q D ad0 S0 nL pc L (vI b :: vI a :: r) S cs := by
  intro ad H locs ls hL hC hcl hR hE hS
  have j1 := fun q => k1 q ad H locs ls hL hC hcl.tl.tl hR hE hS
  have j2 := fun q => k2 q ad H locs ls hL hC hcl.tl.tl hR hE hS
  cases cd with
  | eq => exact lv_icmp_eq hx hb hd ht (fun q => j1 ((oI_eq ha h0).mp q)) (fun q => j2 fun q2 => q ((oI_eq ha h0).mpr q2))
  | ne => exact lv_icmp_ne hx hb hd ht (fun q => j1 fun q2 => q ((oI_eq ha h0).mpr q2)) (fun q => j2 fun q2 => q2 ((oI_eq ha h0).mp q))
  | lt => exact lv_icmp_lt hx hb hd ht (fun q => j1 ((oI_lt ha h0).mp q)) (fun q => j2 fun q2 => q ((oI_lt ha h0).mpr q2))
  | ge => exact lv_icmp_ge hx hb hd ht (fun q => j1 ((oI_le h0 ha).mp q)) (fun q => j2 fun q2 => q ((oI_le h0 ha).mpr q2))
  | gt => exact lv_icmp_gt hx hb hd ht (fun q => j1 ((oI_lt h0 ha).mp q)) (fun q => j2 fun q2 => q ((oI_lt h0 ha).mpr q2))
  | le => exact lv_icmp_le hx hb hd ht (fun q => j1 ((oI_le ha h0).mp q)) (fun q => j2 fun q2 => q ((oI_le ha h0).mpr q2))
theorem g_null (hx : p.tables.exec = Jvm.exec) (hb : c.code = cc) {a : Option Nat} {off : Int} {tgt t1 t2 : Nat} (hd : (decode cc pc = .ok (.ifnull off, 3) ∧ t1 = tgt ∧ t2 = pc + 3) ∨ (decode cc pc = .ok (.ifnonnull off, 3) ∧ t1 = pc + 3 ∧ t2 = tgt)) (ht : (pc : Int) + off = (tgt : Int)) (k1 : a = none → G p l e R s m args below meth c Q D ad0 S0 nL t1 L r S cs) (k2 : ∀ t, a = some t → G p l e R s m args below meth c Q D ad0 S0 nL t2 L r S cs) : G p l e R s m args below meth c Q D ad0 S0 nL pc L (vR a :: r) S cs := by
  intro ad H locs ls hL hC hcl hR hE hS
  cases a with
  | none =>
    have j := k1 rfl ad H locs ls hL hC hcl.tl hR hE hS
    rcases hd with ⟨hd, rfl, rfl⟩ | ⟨hd, rfl, rfl⟩
    · exact lv_ifnullN hx hb hd ht j
    · exact lv_ifnonnullN hx hb hd j
  | some t =>
    have j := k2 t rfl ad H locs ls hL hC hcl.tl hR hE hS
    rcases hd with ⟨hd, rfl, rfl⟩ | ⟨hd, rfl, rfl⟩
    · exact lv_ifnull hx hb hd j
    · exact lv_ifnonnull hx hb hd ht j
theorem g_switch (hx : p.tables.exec = Jvm.exec) (hb : c.code = cc) {a d lo hi : Int} {os : Array Int} {len : Nat} (hd : decode cc pc = .ok (.tableswitch d lo hi os, len)) (h1 : 0 ≤ (pc : Int) + d) (h2 : ∀ o ∈ os.toList, 0 ≤ (pc : Int) + o) (h3 : hi - lo + 1 = os.size) (ha : InR a)
    (k1 : swK pc a (fun q => G p l e R s m args below meth c Q D ad0 S0 nL q L r S cs) lo os.toList) (k2 : a < lo ∨ hi < a → G p l e R s m args below meth c Q D ad0 S0 nL ((pc : Int) + d).toNat L r S cs) : G p l e R s m args below meth c Q D ad0 S0 nL pc L (vI a :: r) S cs := by
  intro ad H locs ls hL hC hcl hR hE hS
  have e := oI_toInt ha
  by_cases q : a < lo ∨ hi < a
  · exact lv_tableOut hx hb hd (by rw [e]; exact q) (by omega) (k2 q ad H locs ls hL hC hcl.tl hR hE hS)
  · obtain ⟨j, hj⟩ : ∃ j : Nat, a = lo + j := ⟨(a - lo).toNat, by omega⟩
    have hlt : j < os.toList.length := by simp; omega
    have ho : os.toList[j]? = some os.toList[j] := List.getElem?_eq_getElem hlt
    have hn := h2 _ (List.getElem_mem hlt)
    refine lv_tableIn (off := os.toList[j]) (tgt := ((pc : Int) + os.toList[j]).toNat) hx hb hd (by rw [e]; omega) (by rw [e]; omega) ?_ (by omega) (swK_e k1 j _ ho hj ad H locs ls hL hC hcl.tl hR hE hS)
    rw [e, show (a - lo).toNat = j by omega]
    rw [← Array.getElem?_toList]; exact ho
end SNDP
end
section
section SNDH
variable {p : Program} {l : Launch} {e : Env} {R : Room} {s : State} {m : MethodId} {args : Array Value} {below : List Frame} {meth : Method} {c : Code} {Q : State → Prop} {D : DD} {ad0 : Nat → Nat} {S0 : Sto} {nL : Nat} {cc : ByteArray} {own : String} {L st r : List AV} {S : Sto} {cs : Nat × Nat} {pc : Nat}
theorem rep_obj {ad : Nat → Nat} {H : Heap} {t ci n : Nat} (hR : Rep D ad S H) (hci : ci < 8) (ht : S.1 t = some (ci, n)) : n = clN ci ∧ t_OB (ad t) (D.1.1 ci) (clN ci) (D.1.2 ci) H (oCell ad S t ci) := by
  obtain ⟨h1, h2⟩ := hR.1 t _ ht
  unfold RepAt at h2
  rcases okTy_cases h1 with ⟨-, q⟩ | ⟨q, -⟩
  · have q : n = clN ci := q
    subst q
    rw [if_pos hci] at h2
    exact ⟨rfl, h2⟩
  · exact absurd hci q
theorem rep_arr {ad : Nat → Nat} {H : Heap} {t cd n : Nat} (hR : Rep D ad S H) (hcd : isA cd = true) (ht : S.1 t = some (cd, n)) : n ≤ 100000 ∧ H[ad t]? = some (vp_cell (D.2.1 cd) (aCell ad S t (cd, n))) := by
  obtain ⟨h1, h2⟩ := hR.1 t _ ht
  unfold RepAt at h2
  have hn8 : ¬ cd < 8 := by
    simp only [isA, Bool.or_eq_true, beq_iff_eq] at hcd; omega
  have hn2 : ¬ cd = 102 := by
    simp only [isA, Bool.or_eq_true, beq_iff_eq] at hcd; omega
  rcases okTy_cases h1 with ⟨q, -⟩ | ⟨-, -, q⟩
  · exact absurd q hn8
  · rw [if_neg hn8, if_neg hn2] at h2
    exact ⟨q, h2⟩
theorem repAt_a {ad : Nat → Nat} {H : Heap} {t cd n : Nat} (hcd : isA cd = true) : RepAt D ad S t (cd, n) H = (H[ad t]? = some (vp_cell (D.2.1 cd) (aCell ad S t (cd, n)))) := by
  have hn8 : ¬ cd < 8 := by
    simp only [isA, Bool.or_eq_true, beq_iff_eq] at hcd; omega
  have hn2 : ¬ cd = 102 := by
    simp only [isA, Bool.or_eq_true, beq_iff_eq] at hcd; omega
  unfold RepAt
  rw [if_neg hn8, if_neg hn2]
theorem aCell_v {ad : Nat → Nat} {t cd n : Nat} {cA : ClassId} : ∃ f, vp_cell cA (aCell ad S t (cd, n)) = arrV cA n f := by
  unfold aCell
  split
  · exact ⟨fun j => .int (Int32.ofInt (S.2.1 t j)), rfl⟩
  · split
    · exact ⟨fun j => .long (Int64.ofInt (S.2.1 t j)), rfl⟩
    · exact ⟨fun j => va_rf ((S.2.2 t j).map ad), rfl⟩
theorem oCell_cv {ad : Nat → Nat} {t ci k : Nat} : oCell ad S t ci k = cv ad (getF S ci t k) := by
  unfold oCell getF
  cases isR ci k <;> rfl
theorem getF_vok {ad : Nat → Nat} {H : Heap} {t ci k n : Nat} (hR : Rep D ad S H) (ht : S.1 t = some (ci, n)) : VOK S (getF S ci t k) := by
  unfold getF
  cases isR ci k
  · exact VOK.i
  · intro u hu
    have : S.2.2 t k = some u := by simpa using hu
    exact hR.2.2 t _ k u ht this
theorem g_getf {ini : Bool} (C : CX p l s m meth c D ad0 S0 nL cc own ini) {i t ci k n : Nat} (hd : decode cc pc = .ok (.getfield i, 3)) (hci : ci < 8) (hk : k < clN ci) (hl : Cond.fieldLink own i (TC ci k).1 (TC ci k).2.1 (TC ci k).2.2.1 ∈ lw_tbl) (ht : S.1 t = some (ci, n))
    (kk : G p l e R s m args below meth c Q D ad0 S0 nL (pc + 3) L (getF S ci t k :: r) S cs) : G p l e R s m args below meth c Q D ad0 S0 nL pc L (vT t :: r) S cs := by
  intro ad H locs ls hL hC hcl hR hE hS
  obtain ⟨hx, hb, hml, hown, hV, -, -⟩ := C
  obtain ⟨rfl, cell, q1, q2, q3, q4⟩ := rep_obj hR hci ht
  obtain ⟨hSl, hfc, kC, hkC, hkind⟩ := hV.2.1.1 ci hci
  obtain ⟨cf, kf, fi, f, hi, hsl⟩ := hSl k hk
  refine W.getf hx hb hown (hV.1 _ hl rfl _) hi (u_facts hfc hkC (u_lays (fun w hw => hV.1 w (in_C ci hci w hw) (by
    obtain ⟨j, -, rfl⟩ := List.mem_map.mp hw
    unfold u_lay; split <;> rfl) args) (fun w hw => hw) hk) hi).1 q1 (by rw [q3]; exact fun h => by cases h) (v := cv ad (getF S ci t k)) (by rw [hsl, q4 k hk, oCell_cv]) rfl rfl hd (kk ad H locs ls hL hC (CL.cons (getF_vok hR ht) hcl.tl) hR hE hS)
theorem lay_ok {ci : Nat} : ∀ w ∈ u_ws (RC ci) (TC ci) (clN ci), okw w = true := fun w hw => by
  obtain ⟨j, -, rfl⟩ := List.mem_map.mp hw
  unfold u_lay; split <;> rfl
theorem updV_o {ad : Nat → Nat} {t ci k : Nat} {v : AV} {S' : Sto} (h1 : ∀ j, j ≠ k → getF S' ci t j = getF S ci t j) (h2 : getF S' ci t k = v) : updV (oCell ad S t ci) k (cv ad v) = oCell ad S' t ci := by
  funext j
  unfold updV
  by_cases hj : j = k
  · subst hj; rw [if_pos rfl, oCell_cv, h2]
  · rw [if_neg hj, oCell_cv, oCell_cv, h1 j hj]
theorem g_putf {ini : Bool} (C : CX p l s m meth c D ad0 S0 nL cc own ini) {i t ci k n : Nat} {v : AV} {S' : Sto} (hd : decode cc pc = .ok (.putfield i, 3)) (hci : ci < 8) (hk : k < clN ci) (hl : Cond.fieldLink own i (TC ci k).1 (TC ci k).2.1 (TC ci k).2.2.1 ∈ lw_tbl)
    (hfin : (TC ci k).2.2.2 = false ∨ ini = true ∧ (TC ci k).2.2.2 = true ∧ (TC ci k).1 = own) (ht : S.1 t = some (ci, n)) (hn : ∀ ad : Nat → Nat, narrow (tyC ci k) (cv ad v) = cv ad v ∧ fits (tyC ci k) (cv ad v) = true)
    (h0 : S'.1 = S.1) (hI : ∀ t', t' ≠ t → S'.2.1 t' = S.2.1 t') (hRr : ∀ t', t' ≠ t → S'.2.2 t' = S.2.2 t') (hc : VOK S v → ∀ j t', S'.2.2 t j = some t' → S.2.2 t j = some t' ∨ S.1 t' ≠ none) (h1 : ∀ j, j ≠ k → getF S' ci t j = getF S ci t j) (h2 : getF S' ci t k = v)
    (kk : G p l e R s m args below meth c Q D ad0 S0 nL (pc + 3) L r S' cs) : G p l e R s m args below meth c Q D ad0 S0 nL pc L (v :: vT t :: r) S cs := by
  intro ad H locs ls hL hC hcl hR hE hS
  obtain ⟨hx, hb, hml, hown, hV, hini, -⟩ := C
  have hob := rep_obj hR hci ht
  obtain ⟨rfl, cell, q1, q2, q3, q4⟩ := hob
  have hts : ∀ w ∈ u_ws (RC ci) (TC ci) (clN ci), w.before args s = true := fun w hw => hV.1 w (in_C ci hci w hw) (lay_ok w hw) args
  have hap : ∀ x y, x < clN ci → y < clN ci → x ≠ y → (D.1.2 ci) x ≠ (D.1.2 ci) y := va_apart (own := own) (cl := [(RC ci, TC ci, clN ci)]) (tys := []) (ci := 0) hts (fun w hw => hw) (tyC ci) (ty_C ci hci) (nm_C ci hci) (D := (fun _ => D.1.1 ci, fun _ => D.1.2 ci)) ⟨fun c q hq => by
    cases c with
    | zero => cases hq; exact hV.2.1.1 ci hci
    | succ c => simp at hq, fun k q hq => by simp at hq⟩ rfl
  obtain ⟨hSl, hfc, kC, hkC, hkind⟩ := hV.2.1.1 ci hci
  obtain ⟨cf, kf, fi, f, hi, hsl⟩ := hSl k hk
  have hst := (u_facts hfc hkC (u_lays hts (fun w hw => hw) hk) hi).1
  have hlink : (Cond.fieldLink own i (TC ci k).1 (TC ci k).2.1 (TC ci k).2.2.1).before args s = true := hV.1 _ hl rfl _
  obtain ⟨hn1, hn2⟩ := hn ad
  have go : ∀ H' : Heap, H'[ad t]? = some (cell.setSlot f.slot (cv ad v)) → H'.size = H.size → (∀ q, q ≠ ad t → H'[q]? = H[q]?) → W p l e R s m args below meth c H' (locs ++ [⟨ad t, f.slot⟩]) cs.1 cs.2 Q (F0 m (pc + 3) ls (r.map (cv ad))) := by
    intro H' e1 e2 e3
    rw [hsl] at e1
    have hvok := hcl.hd
    have hR' : Rep D ad S' H' := by
      refine hR.put ht h0 hI hRr (fun j u hu => ?_) ?_ e3
      · rcases hc hvok j u hu with q | q
        · exact hR.2.2 t _ j u ht q
        · exact q
      · unfold RepAt
        rw [if_pos hci, ← updV_o (ad := ad) h1 h2]
        exact ⟨_, e1, q2, q3, t_set q4 hap hk _⟩
    have hcl2 : CL S' r := fun a ha u hu => by rw [h0]; exact hcl.tl.tl a ha u hu
    have hC2 : CLs S' L := fun a u hu => by rw [h0]; exact hC a u hu
    exact kk ad H' _ ls hL hC2 hcl2 hR' (hE.put h0) (hS.put e2 e3 (hE.inF ht (by omega)))
  rcases hfin with hfin | ⟨hi1, hfin, hdecl⟩
  · have hlay := hts _ (u_in_lay hk)
    unfold u_lay at hlay
    rw [if_neg (by rw [hfin]; decide)] at hlay
    have h6 := u_store hfc hkC hkind hlay hi (ty_C ci hci k hk) hn1 hn2
    exact W.putK hx hb (f := f) ⟨hown, hlink, ⟨_, _, _, hi⟩, hst⟩ (by rw [q2]; exact h6) q1 q3 (by rw [hsl]; exact k2_hasslot (q4 k hk)) rfl rfl hd go
  · have hin2 := hini hi1
    have hlay := hts _ (u_in_lay hk)
    unfold u_lay at hlay
    rw [if_pos hfin] at hlay
    have hcf : m.cls = cf := by
      obtain ⟨_, _, c', _, _, _, -, -, hf', -, -, -, hown2, -⟩ := Cond.laysFinal_spec hlay
      have e1 : c' = cf := by have := hi.symm.trans hf'; simp at this; exact this.1.symm
      rw [hdecl] at hown2
      rw [← e1]; exact Option.some.inj (hown.symm.trans hown2)
    have h6 := u_fits hfc hkC hkind (Or.inr hlay) hi (ty_C ci hci k hk) hn1 hn2
    exact W.putFinK hx hb hown hlink hi hst hcf hin2 (by rw [q2]; exact h6) q1 q3 (by rw [hsl]; exact k2_hasslot (q4 k hk)) rfl rfl hd go
theorem nar_i {ci k : Nat} (hci : ci < 8) (hk : k < clN ci) (h : isR ci k = false) (z : Int) (ad : Nat → Nat) : narrow (tyC ci k) (cv ad (vI z)) = cv ad (vI z) ∧ fits (tyC ci k) (cv ad (vI z)) = true := by
  rw [(kd_C ci hci k hk).2 h]
  exact ⟨rfl, rfl⟩
theorem nar_r {ci k : Nat} (hci : ci < 8) (hk : k < clN ci) (h : isR ci k = true) (z : Option Nat) (ad : Nat → Nat) : narrow (tyC ci k) (cv ad (vR z)) = cv ad (vR z) ∧ fits (tyC ci k) (cv ad (vR z)) = true := by
  have h2 := (kd_C ci hci k hk).1 h
  generalize tyC ci k = ty at h2
  cases ty <;> first | (cases h2; done) | (cases z <;> exact ⟨rfl, rfl⟩)
theorem vin {i : Int} {n : Nat} (h0 : 0 ≤ i) (h1 : i < n) (hn : n ≤ 100000) : ¬ (Int32.ofInt i < 0 ∨ n ≤ (Int32.ofInt i).toNatClampNeg) := by
  rw [oI_nat h0 (by omega), oI_0, oI_lt ⟨by omega, by omega⟩ ⟨by omega, by omega⟩]
  omega
theorem g_iald {ini : Bool} (C : CX p l s m meth c D ad0 S0 nL cc own ini) {t cd n : Nat} {i : Int} (hd : decode cc pc = .ok (.iaload, 1)) (ht : S.1 t = some (cd, n)) (hcd : cd = 100 ∨ cd = 102) (h0 : 0 ≤ i) (h1 : i < n)
    (kk : G p l e R s m args below meth c Q D ad0 S0 nL (pc + 1) L (vI (S.2.1 t i.toNat) :: r) S cs) : G p l e R s m args below meth c Q D ad0 S0 nL pc L (vI i :: vT t :: r) S cs := by
  intro ad H locs ls hL hC hcl hR hE hS
  obtain ⟨hx, hb, hml, hown, hV, -, -⟩ := C
  have k := kk ad H locs ls hL hC (CL.cons VOK.i hcl.tl.tl) hR hE hS
  rcases hcd with rfl | rfl
  · obtain ⟨hn, hat⟩ := rep_arr hR rfl ht
    refine W.iald (v := .int (Int32.ofInt (S.2.1 t i.toNat))) hx hb hat ((hV.2.1.2.1 100 rfl).1 n (fun j => .int (Int32.ofInt (S.2.1 t j)))) (fun q => by cases q) (by show ¬ (_ ∨ (arrV _ _ _).slots.size ≤ _); rw [arrV_size]; exact vin h0 h1 hn) (by show (arrV _ _ _).slots[_]? = _; rw [oI_nat h0 (by omega), arrV_read _ _ (by show i.toNat < n; omega)]) rfl rfl hd k
  · obtain ⟨h1', h2⟩ := hR.1 t _ ht
    unfold RepAt at h2
    rw [if_neg (show ¬ (102 : Nat) < 8 by decide), if_pos rfl] at h2
    obtain ⟨scr, a1, a2, a3, a4, a5⟩ := h2
    have hn : n ≤ 100000 := by
      rcases okTy_cases h1' with ⟨q, -⟩ | ⟨-, -, q⟩
      · exact absurd q (show ¬ (102 : Nat) < 8 by decide)
      · exact q
    refine W.iald (v := .int (Int32.ofInt (S.2.1 t i.toNat))) hx hb a1 (hV.2.1.2.2 scr a2) a3 (by rw [a4]; exact vin h0 h1 hn) (by rw [oI_nat h0 (by omega)]; exact a5 _ (by show i.toNat < n; omega)) rfl rfl hd k
theorem g_lald {ini : Bool} (C : CX p l s m meth c D ad0 S0 nL cc own ini) {t n : Nat} {i : Int} (hd : decode cc pc = .ok (.laload, 1)) (ht : S.1 t = some (101, n)) (h0 : 0 ≤ i) (h1 : i < n)
    (kk : G p l e R s m args below meth c Q D ad0 S0 nL (pc + 1) L (vL (S.2.1 t i.toNat) :: r) S cs) : G p l e R s m args below meth c Q D ad0 S0 nL pc L (vI i :: vT t :: r) S cs := by
  intro ad H locs ls hL hC hcl hR hE hS
  obtain ⟨hx, hb, hml, hown, hV, -, -⟩ := C
  have k := kk ad H locs ls hL hC (CL.cons VOK.l hcl.tl.tl) hR hE hS
  obtain ⟨hn, hat⟩ := rep_arr hR rfl ht
  refine W.lald (v := .long (Int64.ofInt (S.2.1 t i.toNat))) hx hb hat ((hV.2.1.2.1 101 rfl).1 n (fun j => .long (Int64.ofInt (S.2.1 t j)))) (fun q => by cases q) (by show ¬ (_ ∨ (arrV _ _ _).slots.size ≤ _); rw [arrV_size]; exact vin h0 h1 hn) (by show (arrV _ _ _).slots[_]? = _; rw [oI_nat h0 (by omega), arrV_read _ _ (by show i.toNat < n; omega)]) rfl rfl hd k
theorem isRA_A {cd : Nat} (h : isRA cd = true) : isA cd = true ∧ cd ≠ 100 ∧ cd ≠ 101 ∧ cd ≠ 102 := by
  simp only [isRA, isA, Bool.or_eq_true, beq_iff_eq] at h ⊢
  omega
theorem aCell_r {ad : Nat → Nat} {t cd n : Nat} (h : isRA cd = true) {cA : ClassId} : vp_cell cA (aCell ad S t (cd, n)) = arrV cA n (fun j => va_rf ((S.2.2 t j).map ad)) := by
  obtain ⟨-, h1, h2, -⟩ := isRA_A h
  unfold aCell
  rw [if_neg h1, if_neg h2]
  rfl
theorem g_aald {ini : Bool} (C : CX p l s m meth c D ad0 S0 nL cc own ini) {t cd n : Nat} {i : Int} (hd : decode cc pc = .ok (.aaload, 1)) (ht : S.1 t = some (cd, n)) (hcd : isRA cd = true) (h0 : 0 ≤ i) (h1 : i < n)
    (kk : G p l e R s m args below meth c Q D ad0 S0 nL (pc + 1) L (vR (S.2.2 t i.toNat) :: r) S cs) : G p l e R s m args below meth c Q D ad0 S0 nL pc L (vI i :: vT t :: r) S cs := by
  intro ad H locs ls hL hC hcl hR hE hS
  obtain ⟨hx, hb, hml, hown, hV, -, -⟩ := C
  have hv : VOK S (vR (S.2.2 t i.toNat)) := fun u hu => hR.2.2 t _ i.toNat u ht (by simpa using hu)
  have k := kk ad H locs ls hL hC (CL.cons hv hcl.tl.tl) hR hE hS
  obtain ⟨hn, hat⟩ := rep_arr hR (isRA_A hcd).1 ht
  rw [aCell_r hcd] at hat
  have hty : (aTy cd).isReference = true := by
    simp only [isRA, Bool.or_eq_true, beq_iff_eq] at hcd
    rcases hcd with ((rfl | rfl) | rfl) | rfl <;> rfl
  refine W.aald (v := va_rf ((S.2.2 t i.toNat).map ad)) hx hb hat ((hV.2.1.2.1 cd (isRA_A hcd).1).1 n _) hty (fun q => by cases q) (by rw [arrV_size]; exact vin h0 h1 hn) (by rw [oI_nat h0 (by omega), arrV_read _ _ (by omega)]) rfl rfl hd k
theorem arrV_upd {cA : ClassId} {n k : Nat} {f g : Nat → Value} {v : Value} (h1 : g k = v) (h2 : ∀ j, j ≠ k → g j = f j) : (arrV cA n f).setSlot k v = arrV cA n g := by
  rw [arrV_store]
  congr 1
  funext j
  unfold updV
  by_cases hj : j = k
  · subst hj; rw [if_pos rfl, h1]
  · rw [if_neg hj, h2 j hj]
theorem g_iast {ini : Bool} (C : CX p l s m meth c D ad0 S0 nL cc own ini) {t n : Nat} {i v : Int} (hd : decode cc pc = .ok (.iastore, 1)) (ht : S.1 t = some (100, n)) (h0 : 0 ≤ i) (h1 : i < n)
    (kk : G p l e R s m args below meth c Q D ad0 S0 nL (pc + 1) L r (updI S t i.toNat v) cs) : G p l e R s m args below meth c Q D ad0 S0 nL pc L (vI v :: vI i :: vT t :: r) S cs := by
  intro ad H locs ls hL hC hcl hR hE hS
  obtain ⟨hx, hb, hml, hown, hV, -, -⟩ := C
  obtain ⟨hn, hat⟩ := rep_arr hR rfl ht
  refine W.iast hx hb hat ((hV.2.1.2.1 100 rfl).1 n (fun j => .int (Int32.ofInt (S.2.1 t j)))) (fun q => by cases q) (by show ¬ (_ ∨ (arrV _ _ _).slots.size ≤ _); rw [arrV_size]; exact vin h0 h1 hn) rfl rfl hd fun H' e1 e2 e3 => ?_
  refine kk ad H' _ ls hL hC hcl.tl.tl.tl (hR.put ht rfl (fun t' h => by funext j; simp [updI, h]) (fun t' h => rfl) (fun j u hu => hR.2.2 t _ j u ht hu) ?_ e3) (hE.put rfl) (hS.put e2 e3 (hE.inF ht (show _ ≠ 102 by dsimp only; decide)))
  rw [repAt_a rfl, e1, oI_nat h0 (by omega)]
  refine congrArg some ?_
  exact arrV_upd (f := fun j => .int (Int32.ofInt (S.2.1 t j))) (g := fun j => .int (Int32.ofInt ((updI S t i.toNat v).2.1 t j))) (by simp [updI]) (fun j hj => by simp [updI, hj])
theorem g_last {ini : Bool} (C : CX p l s m meth c D ad0 S0 nL cc own ini) {t n : Nat} {i v : Int} (hd : decode cc pc = .ok (.lastore, 1)) (ht : S.1 t = some (101, n)) (h0 : 0 ≤ i) (h1 : i < n)
    (kk : G p l e R s m args below meth c Q D ad0 S0 nL (pc + 1) L r (updI S t i.toNat v) cs) : G p l e R s m args below meth c Q D ad0 S0 nL pc L (vL v :: vI i :: vT t :: r) S cs := by
  intro ad H locs ls hL hC hcl hR hE hS
  obtain ⟨hx, hb, hml, hown, hV, -, -⟩ := C
  obtain ⟨hn, hat⟩ := rep_arr hR rfl ht
  refine W.last hx hb hat ((hV.2.1.2.1 101 rfl).1 n (fun j => .long (Int64.ofInt (S.2.1 t j)))) (fun q => by cases q) (by show ¬ (_ ∨ (arrV _ _ _).slots.size ≤ _); rw [arrV_size]; exact vin h0 h1 hn) rfl rfl hd fun H' e1 e2 e3 => ?_
  refine kk ad H' _ ls hL hC hcl.tl.tl.tl (hR.put ht rfl (fun t' h => by funext j; simp [updI, h]) (fun t' h => rfl) (fun j u hu => hR.2.2 t _ j u ht hu) ?_ e3) (hE.put rfl) (hS.put e2 e3 (hE.inF ht (show _ ≠ 102 by dsimp only; decide)))
  rw [repAt_a rfl, e1, oI_nat h0 (by omega)]
  refine congrArg some ?_
  exact arrV_upd (f := fun j => .long (Int64.ofInt (S.2.1 t j))) (g := fun j => .long (Int64.ofInt ((updI S t i.toNat v).2.1 t j))) (by simp [updI]) (fun j hj => by simp [updI, hj])
theorem aTy_ra {ci : Nat} (h : isRA (110 + ci) = true) : aTy (110 + ci) = .object (RC ci) ∧ ci < 8 := by
  simp only [isRA, Bool.or_eq_true, beq_iff_eq] at h
  rcases (show ci = 0 ∨ ci = 1 ∨ ci = 2 ∨ ci = 4 by omega) with rfl | rfl | rfl | rfl <;> exact ⟨rfl, by decide⟩
theorem g_aast {ini : Bool} (C : CX p l s m meth c D ad0 S0 nL cc own ini) {t u ci n n' : Nat} {i : Int} (hd : decode cc pc = .ok (.aastore, 1)) (ht : S.1 t = some (110 + ci, n)) (hcd : isRA (110 + ci) = true) (hu : S.1 u = some (ci, n')) (h0 : 0 ≤ i) (h1 : i < n)
    (kk : G p l e R s m args below meth c Q D ad0 S0 nL (pc + 1) L r (updR S t i.toNat (some u)) cs) : G p l e R s m args below meth c Q D ad0 S0 nL pc L (vT u :: vI i :: vT t :: r) S cs := by
  intro ad H locs ls hL hC hcl hR hE hS
  obtain ⟨hx, hb, hml, hown, hV, -, -⟩ := C
  obtain ⟨hn, hat⟩ := rep_arr hR (isRA_A hcd).1 ht
  obtain ⟨hty, hci⟩ := aTy_ra hcd
  obtain ⟨-, cellV, g1, g2, g3, -⟩ := rep_obj hR hci hu
  rw [aCell_r hcd] at hat
  have hcls := (hV.2.1.1 ci hci).2
  have hra := (hV.2.1.2.1 (110 + ci) (isRA_A hcd).1).2
  rw [hty] at hra
  obtain ⟨kA, comp, k1, k2, k3, -⟩ := hra
  have hcomp : comp = D.1.1 ci := Option.some.inj (k3.symm.trans hcls.1)
  subst hcomp
  obtain ⟨kC, hkC, -⟩ := hcls.2
  have hlt : (Int32.ofInt i).toNatClampNeg < n := by rw [oI_nat h0 (by omega)]; omega
  have hn0 : ¬ Int32.ofInt i < 0 := fun q => vin h0 h1 hn (Or.inl q)
  refine W.aast hx hb hat (fun q h => by cases h) (fun h => by cases h) k1 k2 rfl hkC ⟨hn0, by show _ < (arrV _ _ _).slots.size; rw [arrV_size]; exact hlt⟩ g1 (fun q h => by rw [g3] at h; cases h) (by rw [g2]; exact hkC) (by rw [g2]; exact va_assign hcls) rfl rfl hd fun H' e1 e2 e3 => ?_
  refine kk ad H' _ ls hL hC hcl.tl.tl.tl (hR.put ht rfl (fun t' h => rfl) (fun t' h => by funext j; simp [updR, h]) (fun j v hv => ?_) ?_ e3) (hE.put rfl) (hS.put e2 e3 (hE.inF ht (isRA_A hcd).2.2.2))
  · simp only [updR] at hv
    split at hv
    · cases hv; rw [hu]; exact fun q => by cases q
    · exact hR.2.2 t _ j v ht hv
  · rw [repAt_a (isRA_A hcd).1, e1, oI_nat h0 (by omega), aCell_r hcd]
    refine congrArg some ?_
    exact arrV_upd (by simp [updR, va_rf]) (fun j hj => by simp [updR, hj])
theorem g_alen {ini : Bool} (C : CX p l s m meth c D ad0 S0 nL cc own ini) {t cd n : Nat} (hd : decode cc pc = .ok (.arraylength, 1)) (ht : S.1 t = some (cd, n)) (hcd : 100 ≤ cd)
    (kk : G p l e R s m args below meth c Q D ad0 S0 nL (pc + 1) L (vI n :: r) S cs) : G p l e R s m args below meth c Q D ad0 S0 nL pc L (vT t :: r) S cs := by
  intro ad H locs ls hL hC hcl hR hE hS
  obtain ⟨hx, hb, hml, hown, hV, -, -⟩ := C
  have k := kk ad H locs ls hL hC (CL.cons VOK.i hcl.tl) hR hE hS
  have e0 : n.toInt32 = Int32.ofInt (n : Int) := Int32.ofInt_eq_ofNat.symm
  rcases okTy_cases (hR.1 t _ ht).1 with ⟨q, -⟩ | ⟨-, q | q, hn⟩
  · exact absurd q (by show ¬ cd < 8; omega)
  · obtain ⟨-, hat⟩ := rep_arr hR q ht
    obtain ⟨f, hf⟩ := aCell_v (S := S) (ad := ad) (t := t) (cd := cd) (n := n) (cA := D.2.1 cd)
    rw [hf] at hat
    exact W.alen hx hb hat ((hV.2.1.2.1 cd q).1 n f) (by rw [arrV_size]; exact e0) rfl rfl hd k
  · have q : cd = 102 := q
    subst q
    have h2 := (hR.1 t _ ht).2
    unfold RepAt at h2
    rw [if_neg (show ¬ (102 : Nat) < 8 by decide), if_pos rfl] at h2
    obtain ⟨scr, a1, a2, a3, a4, a5⟩ := h2
    exact W.alen hx hb a1 (hV.2.1.2.2 scr a2) (by rw [a4]; exact e0) rfl rfl hd k
end SNDH
end
section
section SNDN
variable {p : Program} {l : Launch} {e : Env} {R : Room} {s : State} {m : MethodId} {args : Array Value} {below : List Frame} {meth : Method} {c : Code} {Q : State → Prop} {D : DD} {ad0 : Nat → Nat} {S0 : Sto} {nL : Nat} {cc : ByteArray} {own : String} {L st r : List AV} {S : Sto} {cs : Nat × Nat} {pc : Nat}
theorem va_S.grow {A : Nat → Prop} {H0 H H1 : Heap} {locs : List Loc} (h : va_S A H0 H locs) (z : H1.size = H.size + 1) (o1 : ∀ q : Nat, q < H.size → H1[q]? = H[q]?) : va_S A H0 H1 locs :=
  ⟨Nat.le_trans h.1 (by omega), fun x h1 h2 => (o1 x (Nat.lt_of_lt_of_le h1 h.1)).trans (h.2.1 x h1 h2), h.2.2⟩
/-- behind a new cell: what stood goes on -/
theorem g_newK {ad : Nat → Nat} {H H1 : Heap} {locs : List Loc} {ls : Array Slot} {t len k n : Nat} {x : Nat × Nat} (hL : LocOK ad L ls nL) (hC : CLs S L) (hcl : CL S r) (hR : Rep D ad S H) (hE : Ext ad0 S0 s.heap.size ad S) (hS : va_S (foot ad0 S0 s.heap.size) s.heap H locs)
    (ht : S.1 t = none) (hx : okTy x = true) (hx2 : x.1 ≠ 102) (z1 : H1.size = H.size + 1) (o1 : ∀ q : Nat, q < H.size → H1[q]? = H[q]?) (hat : RepAt D (fun q => if q = t then H.size else ad q) (newS S t x) t x H1)
    (kk : G p l e R s m args below meth c Q D ad0 S0 nL (pc + len) L (vT t :: r) (newS S t x) (k, n)) : W p l e R s m args below meth c H1 locs k n Q (F0 m (pc + len) ls (.ref H.size :: r.map (cv ad))) := by
  have hE1 : Ext ad S H.size (fun q => if q = t then H.size else ad q) (newS S t x) := Ext.step ht hx2
  have h := kk _ H1 locs ls (hL.ext hE1 hC) (hC.ext hE1) (CL.cons (fun u hu => by
    have : t = u := by simpa using hu
    subst this
    simp [newS]) (hcl.ext hE1)) (hR.new ht hx hat o1) (hE.new ht hx2 hS.1) (hS.grow z1 o1)
  rw [List.map_cons, CL.map hE1 hcl] at h
  have e1 : cv (fun q => if q = t then H.size else ad q) (vT t) = .ref H.size := by simp [cv, va_rf]
  rw [e1] at h
  exact h
theorem g_new {ini : Bool} (C : CX p l s m meth c D ad0 S0 nL cc own ini) {i t ci k n : Nat} (hd : decode cc pc = .ok (.new i, 3)) (hci : ci < 8) (h1 : Cond.classLink own i (RC ci) ∈ lw_tbl) (h2 : Cond.instantiable (RC ci) (clN ci) ∈ lw_tbl) (h3 : Cond.initialized (RC ci) ∈ lw_tbl)
    (hk : cs.1 + 1 ≤ R.cells) (hn : cs.2 + clN ci ≤ R.slots) (ht : S.1 t = none)
    (kk : G p l e R s m args below meth c Q D ad0 S0 nL (pc + 3) L (vT t :: r) (newS S t (ci, clN ci)) (cs.1 + 1, cs.2 + clN ci)) : G p l e R s m args below meth c Q D ad0 S0 nL pc L r S cs := by
  intro ad H locs ls hL hC hcl hR hE hS
  obtain ⟨hx, hb, hml, hown, hV, -, -⟩ := C
  have hKn := hV.2.1.1 ci hci
  have hts : ∀ w ∈ u_ws (RC ci) (TC ci) (clN ci), w.before args s = true := fun w hw => hV.1 w (in_C ci hci w hw) (lay_ok w hw) args
  have hok : okTy (ci, clN ci) = true := by simp [okTy, hci]
  refine W.newcK hx hb hown (hV.1 _ h1 rfl _) (hV.1 _ h2 rfl _) (hV.1 _ h3 rfl _) rfl hd hk hn hKn.2.1 rfl fun H1 kC hkC e1 z1 o1 => ?_
  refine g_newK hL hC hcl hR hE hS ht hok (by show ci ≠ 102; omega) z1 o1 ?_ kk
  unfold RepAt
  rw [if_pos hci]
  simp only [if_pos]
  refine (u_born (tyC ci) hts (fun w hw => hw) hKn hkC e1 (ty_C ci hci)).to fun j hj => ?_
  have hq := kd_C ci hci j hj
  unfold oCell
  cases hr : isR ci j with
  | true =>
    have h9 := hq.1 hr
    rw [if_pos rfl]
    simp only [newS, if_pos]
    generalize tyC ci j = ty at h9
    cases ty <;> first | (cases h9; done) | rfl
  | false =>
    rw [hq.2 hr]
    simp only [newS, if_pos]
    rfl
theorem g_newa {ini : Bool} (C : CX p l s m meth c D ad0 S0 nL cc own ini) {t cd : Nat} {n : Int} {ty : ArrayType} (hd : decode cc pc = .ok (.newarray ty, 2)) (hty : ty = .int ∧ cd = 100 ∨ ty = .long ∧ cd = 101) (h1 : Cond.arrayClass (newarray.typeOf ty) ∈ lw_tbl)
    (hn0 : 0 ≤ n) (hn1 : n ≤ 100000) (hk : cs.1 + 1 ≤ R.cells) (hn : cs.2 + n.toNat ≤ R.slots) (ht : S.1 t = none)
    (kk : G p l e R s m args below meth c Q D ad0 S0 nL (pc + 2) L (vT t :: r) (newS S t (cd, n.toNat)) (cs.1 + 1, cs.2 + n.toNat)) : G p l e R s m args below meth c Q D ad0 S0 nL pc L (vI n :: r) S cs := by
  intro ad H locs ls hL hC hcl hR hE hS
  obtain ⟨hx, hb, hml, hown, hV, -, -⟩ := C
  have hneg : ¬ Int32.ofInt n < 0 := by rw [oI_0, oI_lt ⟨by omega, by omega⟩ ⟨by omega, by omega⟩]; omega
  have hnat : (Int32.ofInt n).toNatClampNeg = n.toNat := oI_nat hn0 (by omega)
  refine va_newaK hx hb (hV.1 _ h1 rfl _) rfl hd rfl hneg hnat (by
    rcases hty with ⟨rfl, -⟩ | ⟨rfl, -⟩
    · show n.toNat * 4 ≤ _; omega
    · show n.toNat * 8 ≤ _; omega) hk hn rfl fun H1 cA e1 z1 o1 hAr hNm => ?_
  have hcd : isA cd = true := by rcases hty with ⟨-, rfl⟩ | ⟨-, rfl⟩ <;> rfl
  have hok : okTy (cd, n.toNat) = true := by
    simp only [okTy, hcd, Bool.or_eq_true, Bool.and_eq_true, decide_eq_true_eq]
    right; exact ⟨Or.inl trivial, by omega⟩
  refine g_newK hL hC hcl.tl hR hE hS ht hok (by show cd ≠ 102; rcases hty with ⟨-, rfl⟩ | ⟨-, rfl⟩ <;> decide) z1 o1 ?_ kk
  rw [repAt_a hcd]
  have hra := (hV.2.1.2.1 cd hcd).2
  have hcA : cA = D.2.1 cd := by
    rcases hty with ⟨rfl, rfl⟩ | ⟨rfl, rfl⟩ <;> exact Option.some.inj (hNm.symm.trans hra)
  subst hcA
  simp only [if_pos]
  rw [e1]
  rcases hty with ⟨rfl, rfl⟩ | ⟨rfl, rfl⟩
  · refine congrArg some ?_
    show _ = arrV _ _ (fun j => .int (Int32.ofInt ((newS S t (100, n.toNat)).2.1 t j)))
    congr 1
    funext j
    simp [newS]; rfl
  · refine congrArg some ?_
    show _ = arrV _ _ (fun j => .long (Int64.ofInt ((newS S t (101, n.toNat)).2.1 t j)))
    congr 1
    funext j
    simp [newS]; rfl
theorem g_anew {ini : Bool} (C : CX p l s m meth c D ad0 S0 nL cc own ini) {i t ci : Nat} {n : Int} (hd : decode cc pc = .ok (.anewarray i, 3)) (hcd : isRA (110 + ci) = true) (h1 : Cond.classLink own i (RC ci) ∈ lw_tbl) (h2 : Cond.arrayOver (.object (RC ci)) ∈ lw_tbl)
    (hn0 : 0 ≤ n) (hn1 : n ≤ 100000) (hk : cs.1 + 1 ≤ R.cells) (hn : cs.2 + n.toNat ≤ R.slots) (ht : S.1 t = none)
    (kk : G p l e R s m args below meth c Q D ad0 S0 nL (pc + 3) L (vT t :: r) (newS S t (110 + ci, n.toNat)) (cs.1 + 1, cs.2 + n.toNat)) : G p l e R s m args below meth c Q D ad0 S0 nL pc L (vI n :: r) S cs := by
  intro ad H locs ls hL hC hcl hR hE hS
  obtain ⟨hx, hb, hml, hown, hV, -, -⟩ := C
  have hneg : ¬ Int32.ofInt n < 0 := by rw [oI_0, oI_lt ⟨by omega, by omega⟩ ⟨by omega, by omega⟩]; omega
  have hnat : (Int32.ofInt n).toNatClampNeg = n.toNat := oI_nat hn0 (by omega)
  refine W.anew hx hb hown (hV.1 _ h1 rfl _) (hV.1 _ h2 rfl _) rfl hd rfl hneg (by rw [hnat]; omega) hk (by rw [hnat]; exact hn) fun cA kA comp f1 f2 f3 f4 => ?_
  rw [hnat]
  generalize hH1 : H.push ({ cls := cA, slots := Array.replicate n.toNat .null, vm := .none } : Cell) = H1
  have z1 : H1.size = H.size + 1 := by rw [← hH1, Array.size_push]
  have e1 : H1[H.size]? = some (arrV cA n.toNat (fun _ => .null)) := by rw [← hH1, Array.getElem?_push_size, ← arrV_new]
  have o1 : ∀ q : Nat, q < H.size → H1[q]? = H[q]? := fun q hq => by rw [← hH1, Array.getElem?_push, if_neg (Nat.ne_of_lt hq)]
  have hA := (isRA_A hcd).1
  have hok : okTy (110 + ci, n.toNat) = true := by
    simp only [okTy, hA, Bool.or_eq_true, Bool.and_eq_true, decide_eq_true_eq]
    right; exact ⟨Or.inl trivial, by omega⟩
  refine g_newK hL hC hcl.tl hR hE hS ht hok (isRA_A hcd).2.2.2 z1 o1 ?_ kk
  rw [repAt_a hA, aCell_r hcd]
  have hra := (hV.2.1.2.1 (110 + ci) hA).2
  rw [(aTy_ra hcd).1] at hra
  obtain ⟨kA', comp', k1, k2, k3, k4⟩ := hra
  have hcA : cA = D.2.1 (110 + ci) := Option.some.inj (f1.symm.trans k4)
  subst hcA
  simp only [if_pos]
  rw [e1]
  refine congrArg some ?_
  congr 1
  funext j
  simp [newS, va_rf]
end SNDN
end
section
section SNDC
variable {p : Program} {l : Launch} {e : Env} {R : Room} {s : State} {m : MethodId} {args : Array Value} {below : List Frame} {meth : Method} {c : Code} {Q : State → Prop} {D : DD} {ad0 : Nat → Nat} {S0 : Sto} {nL : Nat} {cc : ByteArray} {own : String} {L st r : List AV} {S : Sto} {cs : Nat × Nat} {pc : Nat}
/-- behind a call's run -/
theorem g_callK {mc ms : Nat} {ad : Nat → Nat} {H : Heap} {locs : List Loc} {ls : Array Slot} {st0 : List Value} {a0 : Array Value} {k : KF} {kx : Nat → Nat → List AV → Sto → Nat × Nat → Prop} {rest : List AV}
    (hr : vx_Run p l e R s m args below meth c H locs cs.1 cs.2 mc ms (F0 m pc ls st0) (rest.map (cv ad)) (QcS D ad S H.size (fun o S' => match o with
      | .inl v => k (pc + 3) L (resK v rest) S' (cs.1 + mc, cs.2 + ms)
      | .inr ee => kx ee pc L S' (cs.1 + mc, cs.2 + ms)) a0) (XcS D ad S H.size (fun o S' => match o with
      | .inl v => k (pc + 3) L (resK v rest) S' (cs.1 + mc, cs.2 + ms)
      | .inr ee => kx ee pc L S' (cs.1 + mc, cs.2 + ms))) (foot ad S H.size))
    (hk : ∀ st' S', k (pc + 3) L st' S' (cs.1 + mc, cs.2 + ms) → G p l e R s m args below meth c Q D ad0 S0 nL (pc + 3) L st' S' (cs.1 + mc, cs.2 + ms))
    (hkx : ∀ ee S', kx ee pc L S' (cs.1 + mc, cs.2 + ms) → GX p l e R s m args below meth c Q D ad0 S0 nL ee pc L S' (cs.1 + mc, cs.2 + ms))
    (hL : LocOK ad L ls nL) (hC : CLs S L) (hcl : CL S rest) (hR : Rep D ad S H) (hE : Ext ad0 S0 s.heap.size ad S) (hS : va_S (foot ad0 S0 s.heap.size) s.heap H locs) :
    W p l e R s m args below meth c H locs cs.1 cs.2 Q (F0 m pc ls st0) := by
  intro T hT X
  have hfoot := hE.foots hS.1
  rcases hr T hT X with ⟨v, st₀, t, T', L', h0, X', hL', e1, e2, ⟨⟨r9, ad', S', ho, hp, hE', hR', hv⟩, hF⟩, st⟩ | ⟨q, st₀, t, T', L', E, ce, h0, X', hL', e1, e2, ⟨⟨ee, ad', S', hE9, hp, hE', hR'⟩, hF⟩, hce, hcv, hcl9, st⟩
  · obtain ⟨k1, k2, k3⟩ := vx_keep h0 e1 hS (fun q _ h => hfoot q h) (fun q h => hfoot q h) hL' hF
    have hv9 : v = r9.map (cv ad') := by injection ho
    subst hv9
    have hz := hE.trans hS.1 hE'
    have hclr : CL S' (resK r9 rest) := by
      cases r9 with
      | none => exact hcl.ext hE'
      | some v => exact CL.cons (hv v rfl) (hcl.ext hE')
    have hg := hk _ _ hp ad' T'.heap (locs ++ L') ls (hL.ext hE' hC) (hC.ext hE') hclr (by rw [e1]; exact hR') hz k3
    have he : (Option.map (cv ad') r9).toList ++ rest.map (cv ad) = (resK r9 rest).map (cv ad') := by
      rw [← CL.map hE' hcl]
      cases r9 <;> rfl
    rw [← he] at hg
    obtain ⟨t2, a1, b1⟩ := hg T' rfl X'
    exact ⟨t2, st t2 a1, b1⟩
  · obtain ⟨k1, k2, k3⟩ := vx_keep h0 e1 hS (fun q _ h => hfoot q h) (fun q h => hfoot q h) hL' hF
    subst hE9
    have hz := hE.trans hS.1 hE'
    obtain ⟨t2, a1, b1⟩ := hkx _ _ hp ad' T'.heap (locs ++ L') ls (rest.map (cv ad)) q ce (hL.ext hE' hC) (hC.ext hE') (by rw [e1]; exact hR') hz k3 (by rw [e1]; exact hce) hcv hcl9 T' rfl X'
    exact ⟨t2, st.trans a1, b1⟩
/-- what a callee's contract wants of the room -/
def roomOK (R : Room) (d : Nat) : Prop := 10 + d + 1 ≤ R.frames ∧ 8 + (40 + 11) + (300 + 60 * d) ≤ R.locals
theorem pcs_pre {ini : Bool} (C : CX p l s m meth c D ad0 S0 nL cc own ini) {ad : Nat → Nat} {H : Heap} {locs : List Loc} {as : List AV} (hR : Rep D ad S H) (hE : Ext ad0 S0 s.heap.size ad S) (hS : va_S (foot ad0 S0 s.heap.size) s.heap H locs) : ∀ U : State, U.heap = H → s.WarmedH U.vm → PcS D ad S H.size as (as.map (cv ad)).toArray U := by
  intro U hU hW
  subst hU
  exact ⟨rfl, rfl, hR, C.2.2.2.2.1.warm hW hS (hE.foots hS.1)⟩
theorem callB_mk {ini : Bool} (C : CX p l s m meth c D ad0 S0 nL cc own ini) {q : MD} {i mc ms d n : Nat} (hm : mOK q n) (hl : Cond.methodLink own i q.1 ∈ lw_tbl) (hr : roomOK R d) : CallB R s args own i q.1 q.2.1 q.2.2.1 q.2.2.2 [Cond.code q.1 q.2.1 q.2.2.1 q.2.2.2] (rmD mc ms d) mc ms n := by
  obtain ⟨h1, h2, h3, h4, h5⟩ := hm
  have hV := C.2.2.2.2.1
  refine ⟨rfl, rfl, hr.1, Nat.le_trans (by show 8 + (q.2.2.1 + 11) + (300 + 60 * d) ≤ _; omega) hr.2, fun w hw a' U hW => ?_, List.mem_cons_self, hV.1 _ h1 rfl _, hV.1 _ h2 rfl _, h3, fun sig h => ?_, hV.1 _ hl rfl _⟩
  · rw [List.mem_singleton.mp hw]
    exact hV.1.warm hW _ h1 rfl _
  · rw [h] at h4; exact (Option.some.inj h4).symm
theorem callN_mk {ini : Bool} (C : CX p l s m meth c D ad0 S0 nL cc own ini) {q : MD} {i mc ms d n : Nat} {host : String} (hm : mOK q n) (hl : Cond.methodLinkNest own i q.1 host ∈ lw_tbl) (hr : roomOK R d) : va_CN R s args own i q.1 host q.2.1 q.2.2.1 q.2.2.2 [Cond.code q.1 q.2.1 q.2.2.1 q.2.2.2] (rmD mc ms d) mc ms n := by
  obtain ⟨h1, h2, h3, h4, h5⟩ := hm
  have hV := C.2.2.2.2.1
  refine ⟨⟨rfl, rfl, hr.1, Nat.le_trans (by show 8 + (q.2.2.1 + 11) + (300 + 60 * d) ≤ _; omega) hr.2, fun w hw a' U hW => ?_, List.mem_cons_self⟩, hV.1 _ h1 rfl _, hV.1 _ h2 rfl _, h3, fun sig h => ?_, hV.1 _ hl rfl _⟩
  · rw [List.mem_singleton.mp hw]
    exact hV.1.warm hW _ h1 rfl _
  · rw [h] at h4; exact (Option.some.inj h4).symm
theorem g_callS {ini : Bool} (C : CX p l s m meth c D ad0 S0 nL cc own ini) {q : MD} {spec : Spec} {i mc ms d n : Nat} {as rest : List AV} {k : KF} {kx : Nat → Nat → List AV → Sto → Nat × Nat → Prop} (hsat : Sat q spec mc ms d) (hm : mOK q n) (hl : Cond.methodLink own i q.1 ∈ lw_tbl ∨ ∃ host, Cond.methodLinkNest own i q.1 host ∈ lw_tbl) (hst : Cond.static q.1 ∈ lw_tbl) (hr : roomOK R d)
    (hd : decode cc pc = .ok (.invokestatic i, 3)) (hn : as.length = n) (hsm : small rest = true) (hc1 : cs.1 + mc ≤ R.cells) (hc2 : cs.2 + ms ≤ R.slots)
    (hsp : spec as S (fun o S' => match o with
      | .inl v => k (pc + 3) L (resK v rest) S' (cs.1 + mc, cs.2 + ms)
      | .inr ee => kx ee pc L S' (cs.1 + mc, cs.2 + ms)))
    (hk : ∀ st' S', k (pc + 3) L st' S' (cs.1 + mc, cs.2 + ms) → G p l e R s m args below meth c Q D ad0 S0 nL (pc + 3) L st' S' (cs.1 + mc, cs.2 + ms))
    (hkx : ∀ ee S', kx ee pc L S' (cs.1 + mc, cs.2 + ms) → GX p l e R s m args below meth c Q D ad0 S0 nL ee pc L S' (cs.1 + mc, cs.2 + ms)) :
    G p l e R s m args below meth c Q D ad0 S0 nL pc L (as.reverse ++ rest) S cs := by
  intro ad H locs ls hL hC hcl hR hE hS
  have C' := C
  obtain ⟨hx, hb, hml, hown, hV, -, htr⟩ := C
  have hcla : CL S as := fun a ha => hcl a (by simp [ha])
  have hclr : CL S rest := fun a ha => hcl a (by simp [ha])
  have hM := hsat l D ad S as _ H.size htr hcla hsp
  have hpre : PreS s H (PcS D ad S H.size as) (as.map (cv ad)) := ⟨PcS.blind, pcs_pre C' hR hE hS⟩
  have hstk : (as.reverse ++ rest).map (cv ad) = (as.map (cv ad)).reverse ++ rest.map (cv ad) := by simp
  rw [hstk]
  have hlen : (as.map (cv ad)).length = n := by simp [hn]
  have hfix : CallFix p m c cc nL s args [] own := ⟨hx, hb, hml, hown, fun w hw => by cases hw⟩
  rcases hl with hl | ⟨host, hl⟩
  · exact g_callK (vx_runS (g := F0 m pc ls _) hfix hM ⟨callB_mk C' hm hl hr, hV.1 _ hst rfl _⟩ hpre rfl hlen hL.1 rfl (lv_room (small_cat hsm)) hd ⟨hc1, hc2⟩) hk hkx hL hC hclr hR hE hS
  · exact g_callK (vx_runSN (g := F0 m pc ls _) hfix hM ⟨callN_mk C' hm hl hr, hV.1 _ hst rfl _, trivial⟩ hpre rfl hlen hL.1 rfl (lv_room (small_cat hsm)) hd ⟨hc1, hc2⟩) hk hkx hL hC hclr hR hE hS
theorem g_callI {ini : Bool} (C : CX p l s m meth c D ad0 S0 nL cc own ini) {q : MD} {spec : Spec} {i mc ms d n t : Nat} {as rest : List AV} {k : KF} {kx : Nat → Nat → List AV → Sto → Nat × Nat → Prop} (hsat : Sat q spec mc ms d) (hm : mOK q n) (hl : Cond.methodLink own i q.1 ∈ lw_tbl ∨ ∃ host, Cond.methodLinkNest own i q.1 host ∈ lw_tbl) (hst : Cond.instanceMethod q.1 ∈ lw_tbl) (hnm : q.1.name = "<init>") (hret : q.2.2.2 = none) (hr : roomOK R d)
    (hd : decode cc pc = .ok (.invokespecial i, 3)) (hn : as.length = n) (hsm : small rest = true) (hc1 : cs.1 + mc ≤ R.cells) (hc2 : cs.2 + ms ≤ R.slots)
    (hsp : spec (vT t :: as) S (fun o S' => match o with
      | .inl v => k (pc + 3) L (resK v rest) S' (cs.1 + mc, cs.2 + ms)
      | .inr ee => kx ee pc L S' (cs.1 + mc, cs.2 + ms)))
    (hk : ∀ st' S', k (pc + 3) L st' S' (cs.1 + mc, cs.2 + ms) → G p l e R s m args below meth c Q D ad0 S0 nL (pc + 3) L st' S' (cs.1 + mc, cs.2 + ms))
    (hkx : ∀ ee S', kx ee pc L S' (cs.1 + mc, cs.2 + ms) → GX p l e R s m args below meth c Q D ad0 S0 nL ee pc L S' (cs.1 + mc, cs.2 + ms)) :
    G p l e R s m args below meth c Q D ad0 S0 nL pc L ((vT t :: as).reverse ++ rest) S cs := by
  intro ad H locs ls hL hC hcl hR hE hS
  have C' := C
  obtain ⟨hx, hb, hml, hown, hV, -, htr⟩ := C
  have hcla : CL S (vT t :: as) := fun a ha => hcl a (List.mem_append_left _ (List.mem_reverse.mpr ha))
  have hclr : CL S rest := fun a ha => hcl a (List.mem_append_right _ ha)
  have hM := hsat l D ad S (vT t :: as) _ H.size htr hcla hsp
  have hpre : PreS s H (PcS D ad S H.size (vT t :: as)) (.ref (ad t) :: as.map (cv ad)) := ⟨PcS.blind, pcs_pre C' hR hE hS⟩
  have hstk : ((vT t :: as).reverse ++ rest).map (cv ad) = (as.map (cv ad)).reverse ++ .ref (ad t) :: rest.map (cv ad) := by simp [cv, va_rf]
  rw [hstk]
  have hlen : (as.map (cv ad)).length = n := by simp [hn]
  have hfix : CallFix p m c cc nL s args [] own := ⟨hx, hb, hml, hown, fun w hw => by cases hw⟩
  rcases hl with hl | ⟨host, hl⟩
  · have hcb := callB_mk (args := args) (mc := mc) (ms := ms) C' hm hl hr
    rw [hret] at hcb hM
    exact g_callK (vx_runI (g := F0 m pc ls _) hfix hM ⟨hcb, hnm, hV.1 _ hst rfl _⟩ hpre rfl hlen hL.1 rfl (lv_room (small_cat hsm)) hd ⟨hc1, hc2⟩) hk hkx hL hC hclr hR hE hS
  · have hcb := callN_mk (args := args) (mc := mc) (ms := ms) C' hm hl hr
    rw [hret] at hcb hM
    exact g_callK (vx_runIN (g := F0 m pc ls _) hfix hM ⟨hcb, hnm, hV.1 _ hst rfl _⟩ hpre rfl hlen hL.1 rfl (lv_room (small_cat hsm)) hd ⟨hc1, hc2⟩) hk hkx hL hC hclr hR hE hS
theorem g_callV {ini : Bool} (C : CX p l s m meth c D ad0 S0 nL cc own ini) {q : MD} {spec : Spec} {i mc ms d n t ci nn : Nat} {as rest : List AV} {k : KF} {kx : Nat → Nat → List AV → Sto → Nat × Nat → Prop} (hsat : Sat q spec mc ms d) (hm : mOK q n) (hl : Cond.methodLink own i q.1 ∈ lw_tbl) (hst : Cond.instanceMethod q.1 ∈ lw_tbl) (hsel : Cond.selects q.1.cls q.1 q.1 ∈ lw_tbl) (hci : ci < 8) (hcls : q.1.cls = RC ci) (ht : S.1 t = some (ci, nn)) (hr : roomOK R d)
    (hd : decode cc pc = .ok (.invokevirtual i, 3)) (hn : as.length = n) (hsm : small rest = true) (hc1 : cs.1 + mc ≤ R.cells) (hc2 : cs.2 + ms ≤ R.slots)
    (hsp : spec (vT t :: as) S (fun o S' => match o with
      | .inl v => k (pc + 3) L (resK v rest) S' (cs.1 + mc, cs.2 + ms)
      | .inr ee => kx ee pc L S' (cs.1 + mc, cs.2 + ms)))
    (hk : ∀ st' S', k (pc + 3) L st' S' (cs.1 + mc, cs.2 + ms) → G p l e R s m args below meth c Q D ad0 S0 nL (pc + 3) L st' S' (cs.1 + mc, cs.2 + ms))
    (hkx : ∀ ee S', kx ee pc L S' (cs.1 + mc, cs.2 + ms) → GX p l e R s m args below meth c Q D ad0 S0 nL ee pc L S' (cs.1 + mc, cs.2 + ms)) :
    G p l e R s m args below meth c Q D ad0 S0 nL pc L ((vT t :: as).reverse ++ rest) S cs := by
  intro ad H locs ls hL hC hcl hR hE hS
  have C' := C
  obtain ⟨hx, hb, hml, hown, hV, -, htr⟩ := C
  have hcla : CL S (vT t :: as) := fun a ha => hcl a (List.mem_append_left _ (List.mem_reverse.mpr ha))
  have hclr : CL S rest := fun a ha => hcl a (List.mem_append_right _ ha)
  have hM := hsat l D ad S (vT t :: as) _ H.size htr hcla hsp
  obtain ⟨-, cell, q1, q2, q3, -⟩ := rep_obj hR hci ht
  have hpre : PreV s H q.1.cls (ad t) (PcS D ad S H.size (vT t :: as)) (as.map (cv ad)) := ⟨PcS.blind, ⟨cell, q1, by rw [q3]; rfl, by rw [hcls, q2]; exact (hV.2.1.1 ci hci).2.1⟩, pcs_pre C' hR hE hS⟩
  have hstk : ((vT t :: as).reverse ++ rest).map (cv ad) = (as.map (cv ad)).reverse ++ .ref (ad t) :: rest.map (cv ad) := by simp [cv, va_rf]
  rw [hstk]
  have hlen : (as.map (cv ad)).length = n := by simp [hn]
  have hfix : CallFix p m c cc nL s args [] own := ⟨hx, hb, hml, hown, fun w hw => by cases hw⟩
  exact g_callK (vx_runV (g := F0 m pc ls _) hfix hM ⟨callB_mk C' hm hl hr, hV.1 _ hst rfl _, hV.1 _ hsel rfl _⟩ hpre rfl hlen hL.1 rfl (lv_room (small_cat hsm)) hd ⟨hc1, hc2⟩) hk hkx hL hC hclr hR hE hS
theorem oi_mem1 : Cond.instanceMethod Lib.objectInit ∈ lw_tbl := by decide +kernel
theorem oi_mem2 : Cond.code Lib.objectInit ⟨#[0xb1]⟩ 1 none ∈ lw_tbl := by decide +kernel
theorem g_obj {ini : Bool} (C : CX p l s m meth c D ad0 S0 nL cc own ini) {i t : Nat} {rest : List AV} (hl : Cond.methodLink own i Lib.objectInit ∈ lw_tbl) (hd : decode cc pc = .ok (.invokespecial i, 3)) (hsm : small rest = true) (hf : 1 ≤ R.frames) (hlo : 20 ≤ R.locals)
    (kk : G p l e R s m args below meth c Q D ad0 S0 nL (pc + 3) L rest S cs) : G p l e R s m args below meth c Q D ad0 S0 nL pc L (vT t :: rest) S cs := by
  intro ad H locs ls hL hC hcl hR hE hS
  obtain ⟨hx, hb, hml, hown, hV, -, htr⟩ := C
  have hq := small_cat (ad := ad) hsm
  exact W.objInit (g := F0 m pc ls _) hx hb hown (hV.1 _ hl rfl _) (hV.1 _ oi_mem1 rfl _) (hV.1 _ oi_mem2 rfl _) rfl (by rw [hml]; exact hL.1) rfl hd hf (Nat.le_trans (by show 2 * 0 + _ + 12 ≤ 20; omega) hlo) (kk ad H locs ls hL hC hcl.tl hR hE hS)
end SNDC
end
section
section SNDE
variable {p : Program} {l : Launch} {e : Env} {R : Room} {s : State} {m : MethodId} {args : Array Value} {below : List Frame} {meth : Method} {c : Code} {Q : State → Prop} {D : DD} {ad0 : Nat → Nat} {S0 : Sto} {nL : Nat} {cc : ByteArray} {own : String} {L st r : List AV} {S : Sto} {cs : Nat × Nat} {pc : Nat}
theorem Rep.grow {ad : Nat → Nat} {H H1 : Heap} (h : Rep D ad S H) (o : ∀ q : Nat, q < H.size → H1[q]? = H[q]?) : Rep D ad S H1 :=
  ⟨fun t x ht => ⟨(h.1 t x ht).1, (h.1 t x ht).2.kept rfl (o _ (h.1 t x ht).2.lt) rfl (fun _ => rfl)⟩, h.2.1, h.2.2⟩
def xNames : List String := ["java/lang/RuntimeException", "java/lang/Exception"]
theorem xfit : ∀ n ∈ xNames, Bundle.fit n = true := by decide +kernel
def icN : Nat → Nat
  | 0 => 48 | 1 => 59 | _ => 68
theorem xat (ee : Nat) : ((vx_atS RX6 (icN ee) (exN ee) xNames).all fun w => decide (w ∈ lw_tbl) && okw w) = true ∧ (vx_atS RX6 (icN ee) (exN ee) xNames).all vx_ot = true ∧ Bundle.fit (exN ee) = true ∧ Cond.initialized (exN ee) ∈ lw_tbl := by
  match ee with
  | 0 => exact ⟨by decide +kernel, by decide +kernel, by decide +kernel, by decide +kernel⟩
  | 1 => exact ⟨by decide +kernel, by decide +kernel, by decide +kernel, by decide +kernel⟩
  | n + 2 => exact ⟨by show ((vx_atS RX6 68 "java/lang/IllegalStateException" xNames).all fun w => decide (w ∈ lw_tbl) && okw w) = true; decide +kernel, by show (vx_atS RX6 68 "java/lang/IllegalStateException" xNames).all vx_ot = true; decide +kernel, by show Bundle.fit "java/lang/IllegalStateException" = true; decide +kernel, by show Cond.initialized "java/lang/IllegalStateException" ∈ lw_tbl; decide +kernel⟩
/-- the five instructions of a throw -/
def thrOK (cc : ByteArray) (pc ee : Nat) : Prop := ∃ ik is tx, (decode cc pc = .ok (.new ik, 3) ∧ decode cc (pc + 3) = .ok (.dup, 1) ∧ Cond.classLink RX6 ik (exN ee) ∈ lw_tbl ∧ (is, tx) ∈ strs) ∧
  ((decode cc (pc + 4) = .ok (.ldc is, 2) ∧ decode cc (pc + 6) = .ok (.invokespecial (icN ee), 3) ∧ decode cc (pc + 9) = .ok (.athrow, 1)) ∨ (decode cc (pc + 4) = .ok (.ldc_w is, 3) ∧ decode cc (pc + 7) = .ok (.invokespecial (icN ee), 3) ∧ decode cc (pc + 10) = .ok (.athrow, 1)))
theorem g_throw {ini : Bool} {mc ms d ee : Nat} {post : Res → Sto → Prop} (C : CX p l s m meth c D ad0 S0 nL cc RX6 ini) (hT : thrOK cc pc ee) (hsm : small st = true) (hR9 : R = rmD mc ms d) (hc1 : cs.1 + 1 ≤ mc) (hc2 : cs.2 + 6 ≤ ms) (hp : post (.inr ee) S) (hno : ∀ x ∈ c.exceptionTable.toList, False) (hlocks : meth.locks = false) :
    G p l e R s m args below meth c (vx_MQ below (QcS D ad0 S0 s.heap.size post) (XcS D ad0 S0 s.heap.size post) args s mc ms (foot ad0 S0 s.heap.size)) D ad0 S0 nL pc L st S cs := by
  intro ad H locs ls hL hC hcl hR hE hS
  obtain ⟨hx, hb, hml, hown, hV, -, htr⟩ := C
  obtain ⟨ik, is, tx, ⟨d0, d3, hk, hs⟩, hd⟩ := hT
  obtain ⟨sa, hsa⟩ := hV.2.2.1 _ hs
  obtain ⟨x1, x2, x3, x4⟩ := xat ee
  have hat : ∀ w ∈ vx_atS RX6 (icN ee) (exN ee) xNames, w.before args s = true := fun w hw => by
    have := List.all_eq_true.mp x1 w hw
    simp only [Bool.and_eq_true, decide_eq_true_eq] at this
    exact hV.1 w this.1 this.2 _
  have hgood : ∀ w ∈ Cond.classLink RX6 ik (exN ee) :: Cond.initialized (exN ee) :: vx_atS RX6 (icN ee) (exN ee) xNames, vx_ot w = true := fun w hw => by
    rcases List.mem_cons.mp hw with rfl | hw
    · rfl
    · rcases List.mem_cons.mp hw with rfl | hw
      · rfl
      · exact List.all_eq_true.mp x2 w hw
  have hsum := small_cat (ad := ad) hsm
  have hX : ∀ t : State, s.vm.Alike t.vm → H.size ≤ t.heap.size → (∀ q : Nat, q < H.size → t.heap[q]? = H[q]?) → XcS D ad0 S0 s.heap.size post (exN ee) s t := fun t _ hz ho =>
    ⟨⟨ee, ad, S, rfl, hp, hE, hR.grow ho⟩, ⟨Nat.le_trans hS.1 hz, fun q h1 h2 => (ho q (Nat.lt_of_lt_of_le h1 hS.1)).trans (hS.2.1 q h1 h2)⟩⟩
  subst hR9
  rcases hd with ⟨d4, d6, d9⟩ | ⟨d4, d7, d10⟩
  · exact vx_throwS (names := xNames) hx hb htr hown x3 xfit (hV.1 _ hk rfl _) (hV.1 _ x4 rfl _) hsa hat hgood hV.2.2.2.1 hV.2.2.2.2 hS (hL.1.trans hml.symm) d0 d3 d4 d6 d9 (fun x hx => (hno x hx).elim) (by show 2 + 3 < 10 + d; omega) (by show _ + (13 * (2 + 1) + 43) ≤ 300 + 60 * d; omega) hc1 hc2 hlocks hX hS.2.2 hc1 hc2
  · exact vx_throwSW (names := xNames) hx hb htr hown x3 xfit (hV.1 _ hk rfl _) (hV.1 _ x4 rfl _) hsa hat hgood hV.2.2.2.1 hV.2.2.2.2 hS (hL.1.trans hml.symm) d0 d3 d4 d7 d10 (fun x hx => (hno x hx).elim) (by show 2 + 3 < 10 + d; omega) (by show _ + (13 * (2 + 1) + 43) ≤ 300 + 60 * d; omega) hc1 hc2 hlocks hX hS.2.2 hc1 hc2
/-- an exception of a callee goes through -/
theorem gx_out {ini : Bool} {mc ms ee : Nat} {post : Res → Sto → Prop} (hc1 : cs.1 ≤ mc) (hc2 : cs.2 ≤ ms) (hp : post (.inr ee) S) (hno : ∀ x ∈ c.exceptionTable.toList, False) (hlocks : meth.locks = false) :
    GX p l e R s m args below meth c (vx_MQ below (QcS D ad0 S0 s.heap.size post) (XcS D ad0 S0 s.heap.size post) args s mc ms (foot ad0 S0 s.heap.size)) D ad0 S0 nL ee pc L S cs := by
  intro ad H locs ls rest q ce hL hC hR hE hS hq hv hcl
  exact vx_out (fun x hx => (hno x hx).elim) hlocks hq hv hcl (fun t ht _ => ⟨⟨ee, ad, S, rfl, hp, hE, by rw [ht]; exact hR⟩, hS.F ht⟩) hS.2.2 hc1 hc2
theorem g_ret {ini : Bool} {mc ms : Nat} {post : Res → Sto → Prop} {v : Option AV} (C : CX p l s m meth c D ad0 S0 nL cc own ini) (hlocks : meth.locks = false) (hc1 : cs.1 ≤ mc) (hc2 : cs.2 ≤ ms) (hp : post (.inl v) S)
    (hd : (v = none ∧ st = [] ∧ decode cc pc = .ok (.return_, 1) ∧ meth.sig.returnType = none) ∨ (∃ z ty, v = some (vI z) ∧ st = [vI z] ∧ decode cc pc = .ok (.ireturn, 1) ∧ meth.sig.returnType = some ty ∧ narrow ty (.int (Int32.ofInt z)) = .int (Int32.ofInt z)) ∨ (∃ z ty, v = some (vR z) ∧ st = [vR z] ∧ decode cc pc = .ok (.areturn, 1) ∧ meth.sig.returnType = some ty ∧ isObjT ty = true)) :
    G p l e R s m args below meth c (vx_MQ below (QcS D ad0 S0 s.heap.size post) (XcS D ad0 S0 s.heap.size post) args s mc ms (foot ad0 S0 s.heap.size)) D ad0 S0 nL pc L st S cs := by
  intro ad H locs ls hL hC hcl hR hE hS
  obtain ⟨hx, hb, hml, hown, hV, -, htr⟩ := C
  refine W.widen hc1 hc2 (vx_ret ?_)
  have hq : ∀ t : State, t.heap = H → s.WarmedH t.vm → QcS D ad0 S0 s.heap.size post args s (.returned (v.map (cv ad))) t := fun t ht _ =>
    ⟨⟨v, ad, S, rfl, hp, hE, by rw [ht]; exact hR, fun w hw => by
      rcases hd with ⟨rfl, -⟩ | ⟨z, ty, rfl, rfl, -⟩ | ⟨z, ty, rfl, rfl, -⟩
      · cases hw
      · cases hw; exact hcl.hd
      · cases hw; exact hcl.hd⟩, hS.F ht⟩
  rcases hd with ⟨rfl, rfl, hd, hr⟩ | ⟨z, ty, rfl, rfl, hd, hr, hn⟩ | ⟨z, ty, rfl, rfl, hd, hr, ho⟩
  · exact W.vret hx hb hr hq hS.2.2 hd
  · exact W.zret hx hb hr hn hq hS.2.2 hd
  · refine W.aret (rt := ty) hx hb hr ?_ ?_ hq hS.2.2 hd
    · cases ty <;> first | (cases ho; done) | exact Or.inl ⟨_, rfl⟩ | exact Or.inr ⟨_, rfl⟩
    · cases z with
      | none => exact Or.inl rfl
      | some t => exact Or.inr ⟨_, rfl⟩
theorem or1 {z : Int} (h : z = 0 ∨ z = 1) : narrow .boolean (.int (Int32.ofInt z)) = .int (Int32.ofInt z) := by
  rcases h with rfl | rfl <;> rfl
end SNDE
end
section
def lk (own : String) (ini : Bool) (nL : Nat) (cc : ByteArray) (ret : Option FieldType) (md : Nat → MD) (pc : Nat) (x : Ent) : Prop := match x.1 with
  | .bipush n => (Int8.ofInt n).toInt32 = Int32.ofInt n
  | .sipush n => (Int16.ofInt n).toInt32 = Int32.ofInt n
  | .ldc i => Cond.constant own i (Int32.ofInt x.2.2.2.2) ∈ lw_tbl
  | .ldc_w i => Cond.constant own i (Int32.ofInt x.2.2.2.2) ∈ lw_tbl
  | .istore i => i < nL
  | .istore_n i => i.val < nL
  | .astore i => i < nL
  | .astore_n i => i.val < nL
  | .iinc i _ => i < nL
  | .goto o => (pc : Int) + o = x.2.2.1
  | .ifCond _ o => (pc : Int) + o = x.2.2.1
  | .if_icmp _ o => (pc : Int) + o = x.2.2.1
  | .ifnull o => (pc : Int) + o = x.2.2.1
  | .ifnonnull o => (pc : Int) + o = x.2.2.1
  | .tableswitch d lo hi os => 0 ≤ (pc : Int) + d ∧ (∀ o ∈ os.toList, 0 ≤ (pc : Int) + o) ∧ hi - lo + 1 = os.size
  | .getfield i => x.2.2.1 < 8 ∧ x.2.2.2.1 < clN x.2.2.1 ∧ Cond.fieldLink own i (TC x.2.2.1 x.2.2.2.1).1 (TC x.2.2.1 x.2.2.2.1).2.1 (TC x.2.2.1 x.2.2.2.1).2.2.1 ∈ lw_tbl
  | .putfield i => x.2.2.1 < 8 ∧ x.2.2.2.1 < clN x.2.2.1 ∧ Cond.fieldLink own i (TC x.2.2.1 x.2.2.2.1).1 (TC x.2.2.1 x.2.2.2.1).2.1 (TC x.2.2.1 x.2.2.2.1).2.2.1 ∈ lw_tbl ∧ ((TC x.2.2.1 x.2.2.2.1).2.2.2 = false ∨ ini = true ∧ (TC x.2.2.1 x.2.2.2.1).2.2.2 = true ∧ (TC x.2.2.1 x.2.2.2.1).1 = own)
  | .newarray ty => (ty = .int ∧ x.2.2.1 = 100 ∨ ty = .long ∧ x.2.2.1 = 101) ∧ Cond.arrayClass (newarray.typeOf ty) ∈ lw_tbl
  | .anewarray i => isRA (110 + x.2.2.1) = true ∧ Cond.classLink own i (RC x.2.2.1) ∈ lw_tbl ∧ Cond.arrayOver (.object (RC x.2.2.1)) ∈ lw_tbl
  | .new i => (x.2.2.2.1 ≠ 0 ∧ own = RX6 ∧ thrOK cc pc x.2.2.1) ∨ x.2.2.2.1 = 0 ∧ x.2.2.1 < 8 ∧ Cond.classLink own i (RC x.2.2.1) ∈ lw_tbl ∧ Cond.instantiable (RC x.2.2.1) (clN x.2.2.1) ∈ lw_tbl ∧ Cond.initialized (RC x.2.2.1) ∈ lw_tbl
  | .invokevirtual i => Cond.methodLink own i (md x.2.2.1).1 ∈ lw_tbl ∧ Cond.instanceMethod (md x.2.2.1).1 ∈ lw_tbl ∧ Cond.selects (md x.2.2.1).1.cls (md x.2.2.1).1 (md x.2.2.1).1 ∈ lw_tbl ∧ (md x.2.2.1).1.cls = RC x.2.2.2.2.toNat ∧ x.2.2.2.2.toNat < 8 ∧ ∃ n, x.2.2.2.1 = n + 1 ∧ mOK (md x.2.2.1) n
  | .invokestatic i => (Cond.methodLink own i (md x.2.2.1).1 ∈ lw_tbl ∨ ∃ host, Cond.methodLinkNest own i (md x.2.2.1).1 host ∈ lw_tbl) ∧ Cond.static (md x.2.2.1).1 ∈ lw_tbl ∧ mOK (md x.2.2.1) x.2.2.2.1
  | .invokespecial i => (x.2.2.1 = 0 ∧ Cond.methodLink own i Lib.objectInit ∈ lw_tbl) ∨ (x.2.2.1 ≠ 0 ∧ (Cond.methodLink own i (md x.2.2.1).1 ∈ lw_tbl ∨ ∃ host, Cond.methodLinkNest own i (md x.2.2.1).1 host ∈ lw_tbl) ∧ Cond.instanceMethod (md x.2.2.1).1 ∈ lw_tbl ∧ (md x.2.2.1).1.name = "<init>" ∧ (md x.2.2.1).2.2.2 = none ∧ ∃ n, x.2.2.2.1 = n + 1 ∧ mOK (md x.2.2.1) n)
  | .ireturn => (x.2.2.1 = 0 ∧ ret = some .int) ∨ (x.2.2.1 ≠ 0 ∧ ret = some .boolean)
  | .areturn => (ret.map isObjT) = some true
  | .return_ => ret = none
  | _ => True
def ilen : Instr → Nat
  | .bipush _ | .ldc _ | .iload _ | .aload _ | .istore _ | .astore _ | .newarray _ => 2
  | .sipush _ | .ldc_w _ | .iinc _ _ | .goto _ | .ifCond _ _ | .if_icmp _ _ | .ifnull _ | .ifnonnull _ | .getfield _ | .putfield _ | .invokevirtual _ | .invokestatic _ | .invokespecial _ | .new _ | .anewarray _ => 3
  | .tableswitch _ _ _ _ => 0
  | _ => 1
def entOK (own : String) (ini : Bool) (nL : Nat) (cc : ByteArray) (ret : Option FieldType) (md : Nat → MD) (pc : Nat) (x : Ent) : Prop := x.1 = .nop ∨ (decode cc pc = .ok (x.1, x.2.1) ∧ (ilen x.1 = x.2.1 ∨ ilen x.1 = 0) ∧ lk own ini nL cc ret md pc x)
section SND1
variable {p : Program} {l : Launch} {e : Env} {R : Room} {s : State} {m : MethodId} {args : Array Value} {below : List Frame} {meth : Method} {c : Code} {Q : State → Prop} {D : DD} {ad0 : Nat → Nat} {S0 : Sto} {nL : Nat} {cc : ByteArray} {own : String} {L st : List AV} {S : Sto} {cs : Nat × Nat} {pc : Nat}
/-- a return of the method's type -/
def retAt (cc : ByteArray) (ret : Option FieldType) (pc : Nat) (st : List AV) (v : Option AV) : Prop :=
  (v = none ∧ st = [] ∧ decode cc pc = .ok (.return_, 1) ∧ ret = none) ∨ (∃ z ty, v = some (vI z) ∧ st = [vI z] ∧ decode cc pc = .ok (.ireturn, 1) ∧ ret = some ty ∧ narrow ty (.int (Int32.ofInt z)) = .int (Int32.ofInt z)) ∨ (∃ z ty, v = some (vR z) ∧ st = [vR z] ∧ decode cc pc = .ok (.areturn, 1) ∧ ret = some ty ∧ isObjT ty = true)
set_option maxHeartbeats 4000000 in
theorem st1_sound {ini : Bool} {ret : Option FieldType} {sp : Nat → CD} {lim : Nat × Nat} {kr : Option AV → Sto → Nat × Nat → Prop} {kt : Nat → Sto → Nat × Nat → Prop} {kx : Nat → Nat → List AV → Sto → Nat × Nat → Prop} {k : KF} {x : Ent} (C : CX p l s m meth c D ad0 S0 nL cc own ini) (hlim : lim = (R.cells, R.slots))
    (hsp : ∀ i, Sat (sp i).1 (sp i).2.1 (sp i).2.2.1 (sp i).2.2.2.1 (sp i).2.2.2.2 ∧ roomOK R (sp i).2.2.2.2) (hRf : 1 ≤ R.frames ∧ 20 ≤ R.locals) (hent : entOK own ini nL cc ret (fun i => (sp i).1) pc x)
    (hk : ∀ pc' L' st' S' cs', k pc' L' st' S' cs' → G p l e R s m args below meth c Q D ad0 S0 nL pc' L' st' S' cs')
    (hkx : ∀ ee L' S' cs', kx ee pc L' S' cs' → GX p l e R s m args below meth c Q D ad0 S0 nL ee pc L' S' cs')
    (hkt : ∀ ee L' st' S' cs', own = RX6 → thrOK cc pc ee → small st' = true → cs'.1 + 1 ≤ lim.1 → cs'.2 + 6 ≤ lim.2 → kt ee S' (cs'.1 + 1, cs'.2 + 6) → G p l e R s m args below meth c Q D ad0 S0 nL pc L' st' S' cs')
    (hkr : ∀ v L' st' S' cs', retAt cc ret pc st' v → kr v S' cs' → G p l e R s m args below meth c Q D ad0 S0 nL pc L' st' S' cs')
    (h : st1 sp lim kr kt kx k pc x L st S cs) : G p l e R s m args below meth c Q D ad0 S0 nL pc L st S cs := by
  obtain ⟨i, len, r1, r2, z⟩ := x
  have hx := C.1
  have hb := C.2.1
  have hV := C.2.2.2.2.1.1
  have hown := C.2.2.2.1
  subst hlim
  rcases hent with hent | ⟨hd, hln, hlk⟩
  · have hent : i = .nop := hent
    subst hent
    exact (h : False).elim
  have hd : decode cc pc = .ok (i, len) := hd
  have hln : ilen i = len ∨ ilen i = 0 := hln
  have hlk : lk own ini nL cc ret (fun i => (sp i).1) pc (i, len, r1, r2, z) := hlk
  cases i <;> first | exact (h : False).elim | skip
  case iconst n =>
    have hln : 1 = len := hln.resolve_right (Nat.succ_ne_zero _)
    subst hln
    exact g_const hx hb (hk _ _ _ _ _ h) fun H locs ls rest q => lv_iconst hx hb hd rfl q
  case bipush n =>
    have hln : 2 = len := hln.resolve_right (Nat.succ_ne_zero _)
    subst hln
    exact g_const hx hb (hk _ _ _ _ _ h) fun H locs ls rest q => lv_bipush hx hb hd hlk q
  case sipush n =>
    have hln : 3 = len := hln.resolve_right (Nat.succ_ne_zero _)
    subst hln
    exact g_const hx hb (hk _ _ _ _ _ h) fun H locs ls rest q => lv_sipush hx hb hd hlk q
  case ldc n =>
    have hln : 2 = len := hln.resolve_right (Nat.succ_ne_zero _)
    subst hln
    exact g_const hx hb (hk _ _ _ _ _ h) fun H locs ls rest q => lv_ldc hx hb hown (hV _ hlk rfl _) hd q
  case ldc_w n =>
    have hln : 3 = len := hln.resolve_right (Nat.succ_ne_zero _)
    subst hln
    exact g_const hx hb (hk _ _ _ _ _ h) fun H locs ls rest q => lv_ldcw hx hb hown (hV _ hlk rfl _) hd q
  case aconst_null =>
    have hln : 1 = len := hln.resolve_right (Nat.succ_ne_zero _)
    subst hln
    intro ad H locs ls hL hC hcl hR hE hS
    exact lv_null hx hb hd (hk _ _ _ _ _ h ad H locs ls hL hC (CL.cons VOK.n hcl) hR hE hS)
  case iload n =>
    have hln : 2 = len := hln.resolve_right (Nat.succ_ne_zero _)
    subst hln
    obtain ⟨w, e1, h⟩ := asI_e h
    exact g_load hx hb e1 rfl (hk _ _ _ _ _ h) fun ad H locs ls rest hl q => lv_iload hx hb hd hl q
  case iload_n n =>
    have hln : 1 = len := hln.resolve_right (Nat.succ_ne_zero _)
    subst hln
    obtain ⟨w, e1, h⟩ := asI_e h
    exact g_load hx hb e1 rfl (hk _ _ _ _ _ h) fun ad H locs ls rest hl q => lv_iload_n hx hb hd rfl hl q
  case aload n =>
    have hln : 2 = len := hln.resolve_right (Nat.succ_ne_zero _)
    subst hln
    obtain ⟨w, e1, h⟩ := asR_e h
    refine g_load hx hb e1 rfl (hk _ _ _ _ _ h) fun ad H locs ls rest hl q => ?_
    cases w with
    | none => exact lv_aloadN hx hb hd hl q
    | some t => exact lv_aload hx hb hd hl q
  case aload_n n =>
    have hln : 1 = len := hln.resolve_right (Nat.succ_ne_zero _)
    subst hln
    obtain ⟨w, e1, h⟩ := asR_e h
    refine g_load hx hb e1 rfl (hk _ _ _ _ _ h) fun ad H locs ls rest hl q => ?_
    cases w with
    | none => exact lv_aload_nN hx hb hd rfl hl q
    | some t => exact lv_aload_n hx hb hd rfl hl q
  case istore n =>
    have hln : 2 = len := hln.resolve_right (Nat.succ_ne_zero _)
    subst hln
    obtain ⟨w, r, rfl, h⟩ := popI_e h
    exact g_store hx hb hlk rfl (hk _ _ _ _ _ h) fun ad H locs ls ls' rest hs q => st_int hx hb (Or.inl ⟨hd, rfl⟩) hs q
  case istore_n n =>
    have hln : 1 = len := hln.resolve_right (Nat.succ_ne_zero _)
    subst hln
    obtain ⟨w, r, rfl, h⟩ := popI_e h
    exact g_store hx hb hlk rfl (hk _ _ _ _ _ h) fun ad H locs ls ls' rest hs q => st_int hx hb (Or.inr ⟨_, hd, rfl, rfl⟩) hs q
  case astore n =>
    have hln : 2 = len := hln.resolve_right (Nat.succ_ne_zero _)
    subst hln
    obtain ⟨w, r, rfl, h⟩ := popR_e h
    exact g_store hx hb hlk rfl (hk _ _ _ _ _ h) fun ad H locs ls ls' rest hs q => st_ref hx hb (Or.inl ⟨hd, rfl⟩) hs q
  case astore_n n =>
    have hln : 1 = len := hln.resolve_right (Nat.succ_ne_zero _)
    subst hln
    obtain ⟨w, r, rfl, h⟩ := popR_e h
    exact g_store hx hb hlk rfl (hk _ _ _ _ _ h) fun ad H locs ls ls' rest hs q => st_ref hx hb (Or.inr ⟨_, hd, rfl, rfl⟩) hs q
  case iinc n w =>
    have hln : 3 = len := hln.resolve_right (Nat.succ_ne_zero _)
    subst hln
    obtain ⟨a, e1, h⟩ := asI_e h
    exact g_iinc hx hb hd hlk e1 (hk _ _ _ _ _ h)
  case iadd =>
    have hln : 1 = len := hln.resolve_right (Nat.succ_ne_zero _)
    subst hln
    obtain ⟨b, r, rfl, h⟩ := popI_e h
    obtain ⟨a, r, rfl, h⟩ := popI_e h
    exact g_bin hx hb (hk _ _ _ _ _ h) fun H locs ls rest q => lv_iadd hx hb hd (by rw [oI_add]; exact q)
  case isub =>
    have hln : 1 = len := hln.resolve_right (Nat.succ_ne_zero _)
    subst hln
    obtain ⟨b, r, rfl, h⟩ := popI_e h
    obtain ⟨a, r, rfl, h⟩ := popI_e h
    exact g_bin hx hb (hk _ _ _ _ _ h) fun H locs ls rest q => lv_isub hx hb hd (by rw [oI_sub]; exact q)
  case imul =>
    have hln : 1 = len := hln.resolve_right (Nat.succ_ne_zero _)
    subst hln
    obtain ⟨b, r, rfl, h⟩ := popI_e h
    obtain ⟨a, r, rfl, h⟩ := popI_e h
    exact g_bin hx hb (hk _ _ _ _ _ h) fun H locs ls rest q => lv_imul hx hb hd (by rw [oI_mul]; exact q)
  case idiv =>
    have hln : 1 = len := hln.resolve_right (Nat.succ_ne_zero _)
    subst hln
    obtain ⟨b, r, rfl, h⟩ := popI_e h
    obtain ⟨a, r, rfl, ⟨h1, h2, h3, h4⟩, h⟩ := popI_e h
    exact g_bin hx hb (hk _ _ _ _ _ h) fun H locs ls rest q => lv_idiv hx hb hd (oI_ne0 h3 h4) (by rw [oI_div h1 h2 h3 h4]; exact q)
  case irem =>
    have hln : 1 = len := hln.resolve_right (Nat.succ_ne_zero _)
    subst hln
    obtain ⟨b, r, rfl, h⟩ := popI_e h
    obtain ⟨a, r, rfl, ⟨h1, h2, h3, h4⟩, h⟩ := popI_e h
    exact g_bin hx hb (hk _ _ _ _ _ h) fun H locs ls rest q => lv_irem hx hb hd (oI_ne0 h3 h4) (by rw [oI_rem h1 h2 h3 h4]; exact q)
  case ineg =>
    have hln : 1 = len := hln.resolve_right (Nat.succ_ne_zero _)
    subst hln
    obtain ⟨a, r, rfl, h⟩ := popI_e h
    exact g_un hx hb (hk _ _ _ _ _ h) fun H locs ls rest q => lv_ineg hx hb hd (by rw [oI_neg]; exact q)
  case iand =>
    have hln : 1 = len := hln.resolve_right (Nat.succ_ne_zero _)
    subst hln
    obtain ⟨b, r, rfl, h⟩ := popI_e h
    obtain ⟨a, r, rfl, h⟩ := popI_e h
    exact g_bin hx hb (hk _ _ _ _ _ h) fun H locs ls rest q => lv_iand hx hb hd (by unfold bAnd at q; rw [Int32.ofInt_toInt] at q; exact q)
  case ior =>
    have hln : 1 = len := hln.resolve_right (Nat.succ_ne_zero _)
    subst hln
    obtain ⟨b, r, rfl, h⟩ := popI_e h
    obtain ⟨a, r, rfl, h⟩ := popI_e h
    exact g_bin hx hb (hk _ _ _ _ _ h) fun H locs ls rest q => lv_ior hx hb hd (by unfold bOr at q; rw [Int32.ofInt_toInt] at q; exact q)
  case ixor =>
    have hln : 1 = len := hln.resolve_right (Nat.succ_ne_zero _)
    subst hln
    obtain ⟨b, r, rfl, h⟩ := popI_e h
    obtain ⟨a, r, rfl, h⟩ := popI_e h
    exact g_bin hx hb (hk _ _ _ _ _ h) fun H locs ls rest q => lv_ixor hx hb hd (by unfold bXor at q; rw [Int32.ofInt_toInt] at q; exact q)
  case ishl =>
    have hln : 1 = len := hln.resolve_right (Nat.succ_ne_zero _)
    subst hln
    obtain ⟨b, r, rfl, h⟩ := popI_e h
    obtain ⟨a, r, rfl, h⟩ := popI_e h
    exact g_bin hx hb (hk _ _ _ _ _ h) fun H locs ls rest q => lv_ishl hx hb hd (by unfold bShl at q; rw [Int32.ofInt_toInt] at q; exact q)
  case ishr =>
    have hln : 1 = len := hln.resolve_right (Nat.succ_ne_zero _)
    subst hln
    obtain ⟨b, r, rfl, h⟩ := popI_e h
    obtain ⟨a, r, rfl, h⟩ := popI_e h
    exact g_bin hx hb (hk _ _ _ _ _ h) fun H locs ls rest q => lv_ishr hx hb hd (by unfold bShr at q; rw [Int32.ofInt_toInt] at q; exact q)
  case iushr =>
    have hln : 1 = len := hln.resolve_right (Nat.succ_ne_zero _)
    subst hln
    obtain ⟨b, r, rfl, h⟩ := popI_e h
    obtain ⟨a, r, rfl, h⟩ := popI_e h
    exact g_bin hx hb (hk _ _ _ _ _ h) fun H locs ls rest q => lv_iushr hx hb hd rfl (by unfold bUshr at q; rw [Int32.ofInt_toInt] at q; exact q)
  case i2l =>
    have hln : 1 = len := hln.resolve_right (Nat.succ_ne_zero _)
    subst hln
    obtain ⟨a, r, rfl, hr, h⟩ := popI_e h
    intro ad H locs ls hL hC hcl hR hE hS
    exact lv_i2l hx hb hd (oI_l hr) (hk _ _ _ _ _ h ad H locs ls hL hC (CL.cons VOK.l hcl.tl) hR hE hS)
  case lcmp =>
    have hln : 1 = len := hln.resolve_right (Nat.succ_ne_zero _)
    subst hln
    obtain ⟨b, r, rfl, h⟩ := popL_e h
    obtain ⟨a, r, rfl, ha, hb9, h⟩ := popL_e h
    intro ad H locs ls hL hC hcl hR hE hS
    have hz : ∃ w : Int, (w = 0 ↔ a = b) ∧ InR w ∧ lg_cmp (Int64.ofInt a) (Int64.ofInt b) = Int32.ofInt w := by
      unfold lg_cmp
      by_cases q : Int64.ofInt b < Int64.ofInt a
      · have q2 := (oL_lt hb9 ha).mp q
        exact ⟨1, by omega, ⟨by omega, by omega⟩, by simp [q]⟩
      · by_cases q2 : Int64.ofInt a = Int64.ofInt b
        · have q3 := (oL_eq ha hb9).mp q2
          exact ⟨0, by omega, ⟨by omega, by omega⟩, by simp [q2]⟩
        · have q3 : ¬ a = b := fun q4 => q2 ((oL_eq ha hb9).mpr q4)
          exact ⟨-1, by omega, ⟨by omega, by omega⟩, by simp [q, q2]⟩
    obtain ⟨w, w1, w2, w3⟩ := hz
    have k9 := hk _ _ _ _ _ (h w w1 w2) ad H locs ls hL hC (CL.cons VOK.i hcl.tl.tl) hR hE hS
    exact W.lcmp hx hb hd (by rw [w3]; exact k9)
  case dup =>
    have hln : 1 = len := hln.resolve_right (Nat.succ_ne_zero _)
    subst hln
    obtain ⟨a, r, rfl, ha, h⟩ := popA_e h
    intro ad H locs ls hL hC hcl hR hE hS
    exact lv_dup hx hb hd (cv_cat ha) (hk _ _ _ _ _ h ad H locs ls hL hC (CL.cons hcl.hd hcl) hR hE hS)
  case dup_x1 =>
    have hln : 1 = len := hln.resolve_right (Nat.succ_ne_zero _)
    subst hln
    obtain ⟨a, r, rfl, ha, h⟩ := popA_e h
    obtain ⟨b, r, rfl, hb9, h⟩ := popA_e h
    intro ad H locs ls hL hC hcl hR hE hS
    exact lv_dup_x1 hx hb hd (cv_cat ha) (cv_cat hb9) (hk _ _ _ _ _ h ad H locs ls hL hC (CL.cons hcl.hd (CL.cons hcl.tl.hd (CL.cons hcl.hd hcl.tl.tl))) hR hE hS)
  case dup2 =>
    have hln : 1 = len := hln.resolve_right (Nat.succ_ne_zero _)
    subst hln
    obtain ⟨a, r, rfl, ha, h⟩ := popA_e h
    obtain ⟨b, r, rfl, hb9, h⟩ := popA_e h
    intro ad H locs ls hL hC hcl hR hE hS
    exact lv_dup2_11 hx hb hd (cv_cat ha) (cv_cat hb9) (hk _ _ _ _ _ h ad H locs ls hL hC (CL.cons hcl.hd (CL.cons hcl.tl.hd hcl)) hR hE hS)
  case pop =>
    have hln : 1 = len := hln.resolve_right (Nat.succ_ne_zero _)
    subst hln
    obtain ⟨a, r, rfl, ha, h⟩ := popA_e h
    intro ad H locs ls hL hC hcl hR hE hS
    exact lv_pop hx hb hd (cv_cat ha) (hk _ _ _ _ _ h ad H locs ls hL hC hcl.tl hR hE hS)
  case goto o =>
    have hln : 3 = len := hln.resolve_right (Nat.succ_ne_zero _)
    subst hln
    exact g_jump (fun H locs ls rest q => lv_goto hx hb hd hlk q) (hk _ _ _ _ _ h)
  case ifCond cd o =>
    have hln : 3 = len := hln.resolve_right (Nat.succ_ne_zero _)
    subst hln
    obtain ⟨a, r, rfl, ha, h1, h2⟩ := popI_e h
    exact g_if1 hx hb hd hlk ha (fun q => hk _ _ _ _ _ (h1 q)) (fun q => hk _ _ _ _ _ (h2 q))
  case if_icmp cd o =>
    have hln : 3 = len := hln.resolve_right (Nat.succ_ne_zero _)
    subst hln
    obtain ⟨b, r, rfl, h⟩ := popI_e h
    obtain ⟨a, r, rfl, ha, hb9, h1, h2⟩ := popI_e h
    exact g_if2 hx hb hd hlk ha hb9 (fun q => hk _ _ _ _ _ (h1 q)) (fun q => hk _ _ _ _ _ (h2 q))
  case ifnull o =>
    have hln : 3 = len := hln.resolve_right (Nat.succ_ne_zero _)
    subst hln
    obtain ⟨a, r, rfl, h1, h2⟩ := popR_e h
    exact g_null hx hb (Or.inl ⟨hd, rfl, rfl⟩) hlk (fun q => hk _ _ _ _ _ (h1 q)) (fun t q => hk _ _ _ _ _ (h2 t q))
  case ifnonnull o =>
    have hln : 3 = len := hln.resolve_right (Nat.succ_ne_zero _)
    subst hln
    obtain ⟨a, r, rfl, h1, h2⟩ := popR_e h
    exact g_null hx hb (Or.inr ⟨hd, rfl, rfl⟩) hlk (fun q => hk _ _ _ _ _ (h1 q)) (fun t q => hk _ _ _ _ _ (h2 t q))
  case tableswitch d lo hi os =>
    obtain ⟨l1, l2, l3⟩ := hlk
    obtain ⟨a, r, rfl, ha, h1, h2⟩ := popI_e h
    refine g_switch hx hb hd l1 l2 l3 ha ?_ (fun q => hk _ _ _ _ _ (h2 q))
    have gen : ∀ (os : List Int) (lo : Int), swK pc a (fun p => k p L r S cs) lo os → swK pc a (fun q => G p l e R s m args below meth c Q D ad0 S0 nL q L r S cs) lo os := by
      intro os
      induction os with
      | nil => intro lo _; trivial
      | cons o os ih => intro lo hq; exact ⟨fun q => hk _ _ _ _ _ (hq.1 q), ih _ hq.2⟩
    exact gen _ _ h1
  case getfield n =>
    have hln : 3 = len := hln.resolve_right (Nat.succ_ne_zero _)
    subst hln
    obtain ⟨l1, l2, l3⟩ := hlk
    obtain ⟨a, r, rfl, h⟩ := popR_e h
    obtain ⟨t, rfl, ⟨n9, ht⟩, h⟩ := onR_e h
    exact g_getf C hd l1 l2 l3 ht (hk _ _ _ _ _ h)
  case putfield n =>
    have hln : 3 = len := hln.resolve_right (Nat.succ_ne_zero _)
    subst hln
    obtain ⟨l1, l2, l3, l4⟩ := hlk
    have l1 : r1 < 8 := l1
    have l2 : r2 < clN r1 := l2
    rcases putK_e h with ⟨hr, h1⟩ | ⟨hr, h1⟩
    · have hr : isR r1 r2 = true := hr
      obtain ⟨v, r, e1, h2⟩ := popR_e h1
      obtain ⟨a, r3, e2, h3⟩ := popR_e h2
      obtain ⟨t, e3, ⟨n9, ht⟩, h4⟩ := onR_e h3
      subst e3; subst e2; subst e1
      refine g_putf (S' := updR S t r2 v) C hd l1 l2 l3 l4 ht (fun ad => nar_r l1 l2 hr v ad) rfl (fun t' q => rfl) (fun t' q => by funext j; simp [updR, q]) (fun hv j u hu => ?_) (fun j hj => ?_) ?_ (hk _ _ _ _ _ h4)
      · simp only [updR] at hu
        split at hu
        · subst hu; exact Or.inr (hv u rfl)
        · exact Or.inl hu
      · unfold getF
        cases isR r1 j <;> simp [updR, hj]
      · unfold getF
        rw [hr]; simp [updR]
    · have hr : isR r1 r2 = false := hr
      obtain ⟨v, r, e1, h2⟩ := popI_e h1
      obtain ⟨a, r3, e2, h3⟩ := popR_e h2
      obtain ⟨t, e3, ⟨n9, ht⟩, h4⟩ := onR_e h3
      subst e3; subst e2; subst e1
      refine g_putf (S' := updI S t r2 v) C hd l1 l2 l3 l4 ht (fun ad => nar_i l1 l2 hr v ad) rfl (fun t' q => by funext j; simp [updI, q]) (fun t' q => rfl) (fun hv j u hu => Or.inl hu) (fun j hj => ?_) ?_ (hk _ _ _ _ _ h4)
      · unfold getF
        cases isR r1 j <;> simp [updI, hj]
      · unfold getF
        rw [hr]; simp [updI]
  case iaload =>
    have hln : 1 = len := hln.resolve_right (Nat.succ_ne_zero _)
    subst hln
    obtain ⟨i, r, rfl, h⟩ := popI_e h
    obtain ⟨a, r, rfl, h⟩ := popR_e h
    obtain ⟨t, rfl, ⟨cd, n, h1, h2, h3, h4⟩, h⟩ := onR_e h
    exact g_iald C hd h1 h2 h3 h4 (hk _ _ _ _ _ h)
  case laload =>
    have hln : 1 = len := hln.resolve_right (Nat.succ_ne_zero _)
    subst hln
    obtain ⟨i, r, rfl, h⟩ := popI_e h
    obtain ⟨a, r, rfl, h⟩ := popR_e h
    obtain ⟨t, rfl, ⟨n, h1, h3, h4⟩, h⟩ := onR_e h
    exact g_lald C hd h1 h3 h4 (hk _ _ _ _ _ h)
  case aaload =>
    have hln : 1 = len := hln.resolve_right (Nat.succ_ne_zero _)
    subst hln
    obtain ⟨i, r, rfl, h⟩ := popI_e h
    obtain ⟨a, r, rfl, h⟩ := popR_e h
    obtain ⟨t, rfl, ⟨cd, n, h1, h2, h3, h4⟩, h⟩ := onR_e h
    exact g_aald C hd h1 h2 h3 h4 (hk _ _ _ _ _ h)
  case iastore =>
    have hln : 1 = len := hln.resolve_right (Nat.succ_ne_zero _)
    subst hln
    obtain ⟨v, r, rfl, h⟩ := popI_e h
    obtain ⟨i, r, rfl, h⟩ := popI_e h
    obtain ⟨a, r, rfl, h⟩ := popR_e h
    obtain ⟨t, rfl, ⟨n, h1, h3, h4⟩, h⟩ := onR_e h
    exact g_iast C hd h1 h3 h4 (hk _ _ _ _ _ h)
  case lastore =>
    have hln : 1 = len := hln.resolve_right (Nat.succ_ne_zero _)
    subst hln
    obtain ⟨v, r, rfl, h⟩ := popL_e h
    obtain ⟨i, r, rfl, h⟩ := popI_e h
    obtain ⟨a, r, rfl, h⟩ := popR_e h
    obtain ⟨t, rfl, ⟨n, h1, h3, h4⟩, h⟩ := onR_e h
    exact g_last C hd h1 h3 h4 (hk _ _ _ _ _ h)
  case aastore =>
    have hln : 1 = len := hln.resolve_right (Nat.succ_ne_zero _)
    subst hln
    obtain ⟨v, r, rfl, h⟩ := popR_e h
    obtain ⟨u, rfl, h⟩ := onR_e h
    obtain ⟨i, r, rfl, h⟩ := popI_e h
    obtain ⟨a, r, rfl, h⟩ := popR_e h
    obtain ⟨t, rfl, ⟨ci, n, n', h1, h2, h3, h4, h5⟩, h⟩ := onR_e h
    exact g_aast C hd h1 h2 h3 h4 h5 (hk _ _ _ _ _ h)
  case arraylength =>
    have hln : 1 = len := hln.resolve_right (Nat.succ_ne_zero _)
    subst hln
    obtain ⟨a, r, rfl, h⟩ := popR_e h
    obtain ⟨t, rfl, cd, n, h1, h2, h⟩ := onR_e h
    exact g_alen C hd h1 h2 (hk _ _ _ _ _ h)
  case newarray ty =>
    have hln : 2 = len := hln.resolve_right (Nat.succ_ne_zero _)
    subst hln
    obtain ⟨l1, l2⟩ := hlk
    obtain ⟨n, r, rfl, ⟨h1, h2, h3, h4⟩, t, h5, h⟩ := popI_e h
    exact g_newa C hd l1 l2 h1 h2 h3 h4 h5 (hk _ _ _ _ _ h)
  case anewarray i =>
    have hln : 3 = len := hln.resolve_right (Nat.succ_ne_zero _)
    subst hln
    obtain ⟨l1, l2, l3⟩ := hlk
    obtain ⟨n, r, rfl, ⟨h1, h2, h3, h4⟩, t, h5, h⟩ := popI_e h
    exact g_anew C hd l1 l2 l3 h1 h2 h3 h4 h5 (hk _ _ _ _ _ h)
  case new i =>
    have hln : 3 = len := hln.resolve_right (Nat.succ_ne_zero _)
    subst hln
    cases r2 with
    | zero =>
      rcases hlk with ⟨q, -⟩ | ⟨-, l1, l2, l3, l4⟩
      · exact absurd rfl q
      obtain ⟨⟨h1, h2⟩, t, h3, h⟩ := h
      exact g_new (n := 0) (k := 0) C hd l1 l2 l3 l4 h1 h2 h3 (hk _ _ _ _ _ h)
    | succ r2 =>
      rcases hlk with ⟨-, q1, q2⟩ | ⟨q, -⟩
      · obtain ⟨hsm, ⟨h1, h2⟩, h⟩ := shortK_e h
        exact hkt _ _ _ _ _ q1 q2 hsm h1 h2 h
      · cases q
  case invokevirtual i =>
    have hln : 3 = len := hln.resolve_right (Nat.succ_ne_zero _)
    subst hln
    obtain ⟨l1, l2, l3, l4, l5, n, l6, l7⟩ := hlk
    obtain ⟨as, r, ha, rfl, h, -⟩ := argsK_e h
    rw [List.append_nil] at h
    obtain ⟨a, as, rfl, h⟩ := popR_e h
    obtain ⟨t, rfl, ⟨nn, ht⟩, h⟩ := onR_e h
    obtain ⟨hsm, ⟨h1, h2⟩, h⟩ := shortK_e h
    have hn : as.length = n := by
      have l6 : r2 = n + 1 := l6
      have ha : as.length + 1 = r2 := ha
      omega
    exact g_callV C (hsp r1).1 l7 l1 l2 l3 l5 l4 ht (hsp r1).2 hd hn hsm h1 h2 h (fun st' S' q => hk _ _ _ _ _ q) (fun ee S' q => hkx _ _ _ _ q)
  case invokestatic i =>
    have hln : 3 = len := hln.resolve_right (Nat.succ_ne_zero _)
    subst hln
    obtain ⟨l1, l2, l3⟩ := hlk
    obtain ⟨as, r, ha, rfl, h, -⟩ := argsK_e h
    rw [List.append_nil] at h
    obtain ⟨hsm, ⟨h1, h2⟩, h⟩ := shortK_e h
    exact g_callS C (hsp r1).1 l3 l1 l2 (hsp r1).2 hd ha hsm h1 h2 h (fun st' S' q => hk _ _ _ _ _ q) (fun ee S' q => hkx _ _ _ _ q)
  case invokespecial i =>
    have hln : 3 = len := hln.resolve_right (Nat.succ_ne_zero _)
    subst hln
    cases r1 with
    | zero =>
      obtain ⟨a, r, rfl, h⟩ := popR_e h
      obtain ⟨hsm, h⟩ := shortK_e h
      obtain ⟨t, rfl, h⟩ := onR_e h
      rcases hlk with ⟨-, q⟩ | ⟨q, -⟩
      · exact g_obj C q hd hsm hRf.1 hRf.2 (hk _ _ _ _ _ h)
      · exact absurd rfl q
    | succ r1 =>
      rcases hlk with ⟨q, -⟩ | ⟨-, l1, l2, l3, l4, n, l6, l7⟩
      · cases q
      obtain ⟨as, r, ha, rfl, h, -⟩ := argsK_e h
      rw [List.append_nil] at h
      obtain ⟨a, as, rfl, h⟩ := popR_e h
      obtain ⟨t, rfl, h⟩ := onR_e h
      obtain ⟨hsm, ⟨h1, h2⟩, h⟩ := shortK_e h
      have hn : as.length = n := by
        have l6 : r2 = n + 1 := l6
        have ha : as.length + 1 = r2 := ha
        omega
      exact g_callI C (hsp (r1 + 1)).1 l7 l1 l2 l3 l4 (hsp (r1 + 1)).2 hd hn hsm h1 h2 h (fun st' S' q => hk _ _ _ _ _ q) (fun ee S' q => hkx _ _ _ _ q)
  case ireturn =>
    have hln : 1 = len := hln.resolve_right (Nat.succ_ne_zero _)
    subst hln
    have hlk : (r1 = 0 ∧ ret = some .int) ∨ (r1 ≠ 0 ∧ ret = some .boolean) := hlk
    match st, h with
    | [.inl w], h =>
      cases r1 with
      | zero =>
        rcases hlk with ⟨-, q⟩ | ⟨q, -⟩
        · exact hkr _ _ _ _ _ (Or.inr (Or.inl ⟨w, _, rfl, rfl, hd, q, rfl⟩)) h
        · exact absurd rfl q
      | succ r1 =>
        rcases hlk with ⟨q, -⟩ | ⟨-, q⟩
        · cases q
        · exact hkr _ _ _ _ _ (Or.inr (Or.inl ⟨w, _, rfl, rfl, hd, q, or1 h.1⟩)) h.2
  case areturn =>
    have hln : 1 = len := hln.resolve_right (Nat.succ_ne_zero _)
    subst hln
    have hlk : (ret.map isObjT) = some true := hlk
    match st, h with
    | [.inr (.inr w)], h =>
      cases hr : ret with
      | none => rw [hr] at hlk; cases hlk
      | some ty =>
        rw [hr] at hlk
        exact hkr _ _ _ _ _ (Or.inr (Or.inr ⟨w, ty, rfl, rfl, hd, hr, Option.some.inj hlk⟩)) h
  case return_ =>
    have hln : 1 = len := hln.resolve_right (Nat.succ_ne_zero _)
    subst hln
    match st, h with
    | [], h => exact hkr _ _ _ _ _ (Or.inl ⟨rfl, rfl, hd, hlk⟩) h
end SND1
end
section
/-! A METHOD'S CONTRACT out of the abstract machine's run, cut at loop heads -/
abbrev CutF := Nat → Option (Nat → List AV → List AV → Sto → Nat × Nat → Prop)
def wp (E : Nat → Ent) (sp : Nat → CD) (lim : Nat × Nat) (kr : Option AV → Sto → Nat × Nat → Prop) (kt : Nat → Sto → Nat × Nat → Prop) (kx : Nat → Nat → List AV → Sto → Nat × Nat → Prop) (cut : CutF) (n : Nat) : Nat → KF
  | 0 => fun _ _ _ _ _ => False
  | f + 1 => fun pc L st S c => match cut pc with
    | some I => ∃ m, m < n ∧ I m L st S c
    | none => st1 sp lim kr kt kx (wp E sp lim kr kt kx cut n f) pc (E pc) L st S c
def krP (post : Res → Sto → Prop) (mc ms : Nat) : Option AV → Sto → Nat × Nat → Prop := fun v S c => post (.inl v) S ∧ c.1 ≤ mc ∧ c.2 ≤ ms
def ktP (post : Res → Sto → Prop) : Nat → Sto → Nat × Nat → Prop := fun ee S _ => post (.inr ee) S
def kxP (post : Res → Sto → Prop) (mc ms : Nat) : Nat → Nat → List AV → Sto → Nat × Nat → Prop := fun ee _ _ S c => post (.inr ee) S ∧ c.1 ≤ mc ∧ c.2 ≤ ms
def entL (nL : Nat) (as : List AV) : List AV := as ++ List.replicate (nL - as.length) uu
def argOK (nL : Nat) (as : List AV) : Bool := (as.all fun a => !isLong a) && decide (as.length ≤ nL)
/-- what a body owes: its run from the entry, and from each loop's head -/
def bodyVC (E : Nat → Ent) (sp : Nat → CD) (mc ms nL : Nat) (post : Res → Sto → Prop) (as : List AV) (S : Sto) : Prop :=
  argOK nL as = true ∧ ∃ (cut : CutF), (∀ pc I, cut pc = some I → ∀ n L st S c, I n L st S c → ∃ f, st1 sp (mc, ms) (krP post mc ms) (ktP post) (kxP post mc ms) (wp E sp (mc, ms) (krP post mc ms) (ktP post) (kxP post mc ms) cut n f) pc (E pc) L st S c) ∧
    ∃ n f, wp E sp (mc, ms) (krP post mc ms) (ktP post) (kxP post mc ms) cut n f 0 (entL nL as) [] S (0, 0)
theorem wp_sound {E : Nat → Ent} {sp : Nat → CD} {lim : Nat × Nat} {kr : Option AV → Sto → Nat × Nat → Prop} {kt : Nat → Sto → Nat × Nat → Prop} {kx : Nat → Nat → List AV → Sto → Nat × Nat → Prop} {cut : CutF} {g : KF}
    (hs : ∀ pc L st S c (k : KF), (∀ pc' L' st' S' c', k pc' L' st' S' c' → g pc' L' st' S' c') → st1 sp lim kr kt kx k pc (E pc) L st S c → g pc L st S c)
    (hVC : ∀ pc I, cut pc = some I → ∀ n L st S c, I n L st S c → ∃ f, st1 sp lim kr kt kx (wp E sp lim kr kt kx cut n f) pc (E pc) L st S c) :
    ∀ n f pc L st S c, wp E sp lim kr kt kx cut n f pc L st S c → g pc L st S c := by
  intro n
  induction n using Nat.strongRecOn with
  | ind n ih =>
    intro f
    induction f with
    | zero => intro pc L st S c h; exact h.elim
    | succ f ihf =>
      intro pc L st S c h
      unfold wp at h
      split at h
      · rename_i I hI
        obtain ⟨m, hm, h⟩ := h
        obtain ⟨f', h'⟩ := hVC pc I hI m L st S c h
        exact hs pc L st S c _ (ih m hm f') h'
      · exact hs pc L st S c _ ihf h
theorem lv_args_at : ∀ (vs : List Value) (k i : Nat) (v : Value), (∀ w ∈ vs, w.category = 1) → vs[i]? = some v → (k + i, v) ∈ lv_args k vs
  | [], k, i, v, _, h => by simp at h
  | w :: vs, k, 0, v, hc, h => by
    have : w = v := by simpa using h
    subst this
    exact List.mem_cons_self
  | w :: vs, k, i + 1, v, hc, h => by
    have h1 : w.category = 1 := hc w List.mem_cons_self
    have := lv_args_at vs (k + 1) i v (fun u hu => hc u (List.mem_cons_of_mem _ hu)) (by simpa using h)
    rw [show k + 1 + i = k + (i + 1) by omega] at this
    unfold lv_args
    rw [if_neg (by omega)]
    exact List.mem_cons_of_mem _ this
theorem nth_get {L : List AV} {i : Nat} : nth L i = L.getD i uu := by
  induction L generalizing i with
  | nil => simp [nth]
  | cons a l ih => cases i with
    | zero => simp [nth]
    | succ i => simp [nth, ih]
theorem nth_entL {nL : Nat} {as : List AV} {i : Nat} (h : isLong (nth (entL nL as) i) = false) : as[i]? = some (nth (entL nL as) i) := by
  rw [nth_get] at h ⊢
  unfold entL at h ⊢
  rw [List.getD_eq_getElem?_getD] at h ⊢
  by_cases hi : i < as.length
  · rw [List.getElem?_append_left hi, List.getElem?_eq_getElem hi]; rfl
  · exfalso
    rw [List.getElem?_append_right (by omega)] at h
    by_cases h2 : i - as.length < nL - as.length
    · rw [List.getElem?_replicate, if_pos h2] at h; cases h
    · rw [List.getElem?_replicate, if_neg h2] at h; cases h
theorem ent_loc {ad : Nat → Nat} {nL : Nat} {as : List AV} (h : argOK nL as = true) : LocOK ad (entL nL as) ((lg_sl (as.map (cv ad)) ++ List.replicate (nL - (lg_sl (as.map (cv ad))).length) Slot.unset).toArray) nL := by
  simp only [argOK, Bool.and_eq_true, decide_eq_true_eq, List.all_eq_true, Bool.not_eq_true'] at h
  obtain ⟨h1, h2⟩ := h
  have hc : ∀ w ∈ as.map (cv ad), w.category = 1 := fun w hw => by
    obtain ⟨a, ha, rfl⟩ := List.mem_map.mp hw
    exact cv_cat (h1 a ha)
  have hlen : ∀ vs : List Value, (∀ w ∈ vs, w.category = 1) → (lg_sl vs).length = vs.length := by
    intro vs
    induction vs with
    | nil => intro _; rfl
    | cons w vs ih =>
      intro hq
      have e1 := hq w List.mem_cons_self
      have e2 := ih fun u hu => hq u (List.mem_cons_of_mem _ hu)
      unfold lg_sl at e2 ⊢
      rw [List.flatMap_cons, if_neg (by omega)]
      simp [e2]
  have hle : (lg_sl (as.map (cv ad))).length ≤ nL := by rw [hlen _ hc]; simpa using h2
  obtain ⟨q1, q2, q3⟩ := lv_entry (as.map (cv ad)) hle
  refine ⟨q1, q2, fun i hi => ?_⟩
  have hai := nth_entL hi
  have := lv_args_at (as.map (cv ad)) 0 i (cv ad (nth (entL nL as) i)) hc (by simp [hai])
  rw [Nat.zero_add] at this
  exact q3 _ this
theorem ent_cls {S : Sto} {nL : Nat} {as : List AV} (h : CL S as) : CLs S (entL nL as) := by
  intro i t e
  have hl : isLong (nth (entL nL as) i) = false := by rw [e]; rfl
  have := List.mem_of_getElem? (nth_entL hl)
  exact h _ this t e
theorem sat_of {q : MD} {spec : Spec} {mc ms d : Nat} {E : Nat → Ent} {sp : Nat → CD} {ini : Bool} (hplain : plainName q.1.cls = true) (hini : ini = true → q.1.name = "<init>") (hent : ∀ pc, entOK q.1.cls ini q.2.2.1 q.2.1 q.2.2.2 (fun i => (sp i).1) pc (E pc))
    (hsp : ∀ i, Sat (sp i).1 (sp i).2.1 (sp i).2.2.1 (sp i).2.2.2.1 (sp i).2.2.2.2 ∧ (sp i).2.2.2.2 < d) (hvc : ∀ as S post, spec as S post → bodyVC E sp mc ms q.2.2.1 post as S) : Sat q spec mc ms d := by
  intro l D ad S as post sz htr hcl hspec
  obtain ⟨harg, cut, hVC, n, f, hwp⟩ := hvc as S post hspec
  refine vx_ofW (cc := q.2.1) (maxL := q.2.2.1) (ret := q.2.2.2) hplain rfl ?_
  intro p e s m args below meth c s₁ B hml hno hP
  obtain ⟨rfl, hsz, hR, hV⟩ := hP
  subst hsz
  have hlocks := B.notSynchronized
  have hown : s.vm.findClass q.1.cls = some m.cls := findClass_of_methodNamed B.named
  have hname : meth.name = q.1.name := (name_of_methodNamed B.named B.method).1
  have C : CX p l s m meth c D ad S q.2.2.1 q.2.1 q.1.cls ini := ⟨B.exec, B.bytes, hml, hown, hV, fun h => by rw [hname]; exact hini h, htr⟩
  have hr : meth.sig.returnType = q.2.2.2 := B.returns
  rw [lg_entry_eq]
  have key : ∀ n f pc L st S' c', wp E sp (mc, ms) (krP post mc ms) (ktP post) (kxP post mc ms) cut n f pc L st S' c' → G p l e (rmD mc ms d) s m (as.map (cv ad)).toArray below meth c (vx_MQ below (QcS D ad S s.heap.size post) (XcS D ad S s.heap.size post) (as.map (cv ad)).toArray s mc ms (foot ad S s.heap.size)) D ad S q.2.2.1 pc L st S' c' := by
    refine wp_sound (fun pc L st S' c' k hk hst => ?_) hVC
    refine st1_sound C rfl (fun i => ⟨(hsp i).1, by
      have := (hsp i).2
      exact ⟨by show 10 + _ + 1 ≤ 10 + d; omega, by show 8 + (40 + 11) + (300 + 60 * _) ≤ 300 + 60 * d; omega⟩⟩) ⟨by show 1 ≤ 10 + d; omega, by show 20 ≤ 300 + 60 * d; omega⟩ (hent pc) hk ?_ ?_ ?_ hst
    · intro ee L' S2 c2 h
      exact gx_out (ini := ini) h.2.1 h.2.2 h.1 hno hlocks
    · intro ee L' st' S2 c2 ho ht hsm h1 h2 h
      have C2 := C
      rw [ho] at C2
      exact g_throw C2 ht hsm rfl h1 h2 h hno hlocks
    · intro v L' st' S2 c2 hd h
      refine g_ret C hlocks h.2.1 h.2.2 h.1 ?_
      rw [hr]
      exact hd
  exact key n f 0 _ _ _ _ hwp ad s.heap [] _ (ent_loc harg) (ent_cls hcl) (fun a ha => by cases ha) hR Ext.rf va_S.rf
end
section
theorem i_vc : Claimed_1_1 ∧ Claimed_1_2 := sorry
end
