/-! A METHOD'S CONTRACT out of the abstract machine's run, cut at loop heads -/
abbrev CutF := Nat → Option (Nat → List AV → List AV → Sto → Nat × Nat → Prop)
def wp (E : Nat → Ent) (sp : Nat → CD) (lim : Nat × Nat) (kr : Option AV → Sto → Nat × Nat → Prop) (kt : Nat → Sto → Nat × Nat → Prop) (kx : Nat → Nat → List AV → Sto → Nat × Nat → Prop) (cut : CutF) (n : Nat) : Nat → KF
  | 0 => fun _ _ _ _ _ => False
  | f + 1 => fun pc L st S c => match cut pc with
    | some I => ∃ m, m < n ∧ I m L st S c
    | none => st1 sp lim kr kt kx (wp E sp lim kr kt kx cut n f) pc (E pc) L st S c
def krP (post : Res → Sto → Prop) (mc ms : Nat) : Option AV → Sto → Nat × Nat → Prop := fun v S c => post (.inl v) S ∧ c.1 ≤ mc ∧ c.2 ≤ ms
def ktP (post : Res → Sto → Prop) : Nat → Sto → Nat × Nat → Prop := fun ee S _ => post (.inr ee) S
def kxP (post : Res → Sto → Prop) (mc ms : Nat) : Nat → Nat → List AV → Sto → Nat × Nat → Prop := fun ee _ _ S c => post (.inr ee) S ∧ c.1 ≤ mc ∧ c.2 ≤ ms
def entL (nL : Nat) (as : List AV) : List AV := as ++ List.replicate (nL - as.length) uu
def argOK (nL : Nat) (as : List AV) : Bool := (as.all fun a => !isLong a) && decide (as.length ≤ nL)
/-- what a body owes: its run from the entry, and from each loop's head -/
def bodyVC (E : Nat → Ent) (sp : Nat → CD) (mc ms nL : Nat) (post : Res → Sto → Prop) (as : List AV) (S : Sto) : Prop :=
  argOK nL as = true ∧ ∃ (cut : CutF), (∀ pc I, cut pc = some I → ∀ n L st S c, I n L st S c → ∃ f, st1 sp (mc, ms) (krP post mc ms) (ktP post) (kxP post mc ms) (wp E sp (mc, ms) (krP post mc ms) (ktP post) (kxP post mc ms) cut n f) pc (E pc) L st S c) ∧
    ∃ n f, wp E sp (mc, ms) (krP post mc ms) (ktP post) (kxP post mc ms) cut n f 0 (entL nL as) [] S (0, 0)
theorem wp_sound {E : Nat → Ent} {sp : Nat → CD} {lim : Nat × Nat} {kr : Option AV → Sto → Nat × Nat → Prop} {kt : Nat → Sto → Nat × Nat → Prop} {kx : Nat → Nat → List AV → Sto → Nat × Nat → Prop} {cut : CutF} {g : KF}
    (hs : ∀ pc L st S c (k : KF), (∀ pc' L' st' S' c', k pc' L' st' S' c' → g pc' L' st' S' c') → st1 sp lim kr kt kx k pc (E pc) L st S c → g pc L st S c)
    (hVC : ∀ pc I, cut pc = some I → ∀ n L st S c, I n L st S c → ∃ f, st1 sp lim kr kt kx (wp E sp lim kr kt kx cut n f) pc (E pc) L st S c) :
    ∀ n f pc L st S c, wp E sp lim kr kt kx cut n f pc L st S c → g pc L st S c := by
  intro n
  induction n using Nat.strongRecOn with
  | ind n ih =>
    intro f
    induction f with
    | zero => intro pc L st S c h; exact h.elim
    | succ f ihf =>
      intro pc L st S c h
      unfold wp at h
      split at h
      · rename_i I hI
        obtain ⟨m, hm, h⟩ := h
        obtain ⟨f', h'⟩ := hVC pc I hI m L st S c h
        exact hs pc L st S c _ (ih m hm f') h'
      · exact hs pc L st S c _ ihf h
theorem lv_args_at : ∀ (vs : List Value) (k i : Nat) (v : Value), (∀ w ∈ vs, w.category = 1) → vs[i]? = some v → (k + i, v) ∈ lv_args k vs
  | [], k, i, v, _, h => by simp at h
  | w :: vs, k, 0, v, hc, h => by
    have : w = v := by simpa using h
    subst this
    exact List.mem_cons_self
  | w :: vs, k, i + 1, v, hc, h => by
    have h1 : w.category = 1 := hc w List.mem_cons_self
    have := lv_args_at vs (k + 1) i v (fun u hu => hc u (List.mem_cons_of_mem _ hu)) (by simpa using h)
    rw [show k + 1 + i = k + (i + 1) by omega] at this
    unfold lv_args
    rw [if_neg (by omega)]
    exact List.mem_cons_of_mem _ this
theorem nth_get {L : List AV} {i : Nat} : nth L i = L.getD i uu := by
  induction L generalizing i with
  | nil => simp [nth]
  | cons a l ih => cases i with
    | zero => simp [nth]
    | succ i => simp [nth, ih]
theorem nth_entL {nL : Nat} {as : List AV} {i : Nat} (h : isLong (nth (entL nL as) i) = false) : as[i]? = some (nth (entL nL as) i) := by
  rw [nth_get] at h ⊢
  unfold entL at h ⊢
  rw [List.getD_eq_getElem?_getD] at h ⊢
  by_cases hi : i < as.length
  · rw [List.getElem?_append_left hi, List.getElem?_eq_getElem hi]; rfl
  · exfalso
    rw [List.getElem?_append_right (by omega)] at h
    by_cases h2 : i - as.length < nL - as.length
    · rw [List.getElem?_replicate, if_pos h2] at h; cases h
    · rw [List.getElem?_replicate, if_neg h2] at h; cases h
theorem ent_loc {ad : Nat → Nat} {nL : Nat} {as : List AV} (h : argOK nL as = true) : LocOK ad (entL nL as) ((lg_sl (as.map (cv ad)) ++ List.replicate (nL - (lg_sl (as.map (cv ad))).length) Slot.unset).toArray) nL := by
  simp only [argOK, Bool.and_eq_true, decide_eq_true_eq, List.all_eq_true, Bool.not_eq_true'] at h
  obtain ⟨h1, h2⟩ := h
  have hc : ∀ w ∈ as.map (cv ad), w.category = 1 := fun w hw => by
    obtain ⟨a, ha, rfl⟩ := List.mem_map.mp hw
    exact cv_cat (h1 a ha)
  have hlen : ∀ vs : List Value, (∀ w ∈ vs, w.category = 1) → (lg_sl vs).length = vs.length := by
    intro vs
    induction vs with
    | nil => intro _; rfl
    | cons w vs ih =>
      intro hq
      have e1 := hq w List.mem_cons_self
      have e2 := ih fun u hu => hq u (List.mem_cons_of_mem _ hu)
      unfold lg_sl at e2 ⊢
      rw [List.flatMap_cons, if_neg (by omega)]
      simp [e2]
  have hle : (lg_sl (as.map (cv ad))).length ≤ nL := by rw [hlen _ hc]; simpa using h2
  obtain ⟨q1, q2, q3⟩ := lv_entry (as.map (cv ad)) hle
  refine ⟨q1, q2, fun i hi => ?_⟩
  have hai := nth_entL hi
  have := lv_args_at (as.map (cv ad)) 0 i (cv ad (nth (entL nL as) i)) hc (by simp [hai])
  rw [Nat.zero_add] at this
  exact q3 _ this
theorem ent_cls {S : Sto} {nL : Nat} {as : List AV} (h : CL S as) : CLs S (entL nL as) := by
  intro i t e
  have hl : isLong (nth (entL nL as) i) = false := by rw [e]; rfl
  have := List.mem_of_getElem? (nth_entL hl)
  exact h _ this t e
theorem sat_of {q : MD} {spec : Spec} {mc ms d : Nat} {E : Nat → Ent} {sp : Nat → CD} {ini : Bool} (hplain : plainName q.1.cls = true) (hini : ini = true → q.1.name = "<init>") (hent : ∀ pc, entOK q.1.cls ini q.2.2.1 q.2.1 q.2.2.2 (fun i => (sp i).1) pc (E pc))
    (hsp : ∀ i, Sat (sp i).1 (sp i).2.1 (sp i).2.2.1 (sp i).2.2.2.1 (sp i).2.2.2.2 ∧ (sp i).2.2.2.2 < d) (hvc : ∀ as S post, spec as S post → bodyVC E sp mc ms q.2.2.1 post as S) : Sat q spec mc ms d := by
  intro l D ad S as post sz htr hcl hspec
  obtain ⟨harg, cut, hVC, n, f, hwp⟩ := hvc as S post hspec
  refine vx_ofW (cc := q.2.1) (maxL := q.2.2.1) (ret := q.2.2.2) hplain rfl ?_
  intro p e s m args below meth c s₁ B hml hno hP
  obtain ⟨rfl, hsz, hR, hV⟩ := hP
  subst hsz
  have hlocks := B.notSynchronized
  have hown : s.vm.findClass q.1.cls = some m.cls := findClass_of_methodNamed B.named
  have hname : meth.name = q.1.name := (name_of_methodNamed B.named B.method).1
  have C : CX p l s m meth c D ad S q.2.2.1 q.2.1 q.1.cls ini := ⟨B.exec, B.bytes, hml, hown, hV, fun h => by rw [hname]; exact hini h, htr⟩
  have hr : meth.sig.returnType = q.2.2.2 := B.returns
  rw [lg_entry_eq]
  have key : ∀ n f pc L st S' c', wp E sp (mc, ms) (krP post mc ms) (ktP post) (kxP post mc ms) cut n f pc L st S' c' → G p l e (rmD mc ms d) s m (as.map (cv ad)).toArray below meth c (vx_MQ below (QcS D ad S s.heap.size post) (XcS D ad S s.heap.size post) (as.map (cv ad)).toArray s mc ms (foot ad S s.heap.size)) D ad S q.2.2.1 pc L st S' c' := by
    refine wp_sound (fun pc L st S' c' k hk hst => ?_) hVC
    refine st1_sound C rfl (fun i => ⟨(hsp i).1, by
      have := (hsp i).2
      exact ⟨by show 10 + _ + 1 ≤ 10 + d; omega, by show 8 + (40 + 11) + (300 + 60 * _) ≤ 300 + 60 * d; omega⟩⟩) ⟨by show 1 ≤ 10 + d; omega, by show 20 ≤ 300 + 60 * d; omega⟩ (hent pc) hk ?_ ?_ ?_ hst
    · intro ee L' S2 c2 h
      exact gx_out (ini := ini) h.2.1 h.2.2 h.1 hno hlocks
    · intro ee L' st' S2 c2 ho ht hsm h1 h2 h
      have C2 := C
      rw [ho] at C2
      exact g_throw C2 ht hsm rfl h1 h2 h hno hlocks
    · intro v L' st' S2 c2 hd h
      refine g_ret C hlocks h.2.1 h.2.2 h.1 ?_
      rw [hr]
      exact hd
  exact key n f 0 _ _ _ _ hwp ad s.heap [] _ (ent_loc harg) (ent_cls hcl) (fun a ha => by cases ha) hR Ext.rf va_S.rf
