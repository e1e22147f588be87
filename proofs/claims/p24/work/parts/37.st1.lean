section SND1
variable {p : Program} {l : Launch} {e : Env} {R : Room} {s : State} {m : MethodId} {args : Array Value} {below : List Frame} {meth : Method} {c : Code} {Q : State → Prop} {D : DD} {ad0 : Nat → Nat} {S0 : Sto} {nL : Nat} {cc : ByteArray} {own : String} {L st : List AV} {S : Sto} {cs : Nat × Nat} {pc : Nat}
/-- a return of the method's type -/
def retAt (cc : ByteArray) (ret : Option FieldType) (pc : Nat) (st : List AV) (v : Option AV) : Prop :=
  (v = none ∧ st = [] ∧ decode cc pc = .ok (.return_, 1) ∧ ret = none) ∨ (∃ z ty, v = some (vI z) ∧ st = [vI z] ∧ decode cc pc = .ok (.ireturn, 1) ∧ ret = some ty ∧ narrow ty (.int (Int32.ofInt z)) = .int (Int32.ofInt z)) ∨ (∃ z ty, v = some (vR z) ∧ st = [vR z] ∧ decode cc pc = .ok (.areturn, 1) ∧ ret = some ty ∧ isObjT ty = true)
set_option maxHeartbeats 4000000 in
theorem st1_sound {ini : Bool} {ret : Option FieldType} {sp : Nat → CD} {lim : Nat × Nat} {kr : Option AV → Sto → Nat × Nat → Prop} {kt : Nat → Sto → Nat × Nat → Prop} {kx : Nat → Nat → List AV → Sto → Nat × Nat → Prop} {k : KF} {x : Ent} (C : CX p l s m meth c D ad0 S0 nL cc own ini) (hlim : lim = (R.cells, R.slots))
    (hsp : ∀ i, Sat (sp i).1 (sp i).2.1 (sp i).2.2.1 (sp i).2.2.2.1 (sp i).2.2.2.2 ∧ roomOK R (sp i).2.2.2.2) (hRf : 1 ≤ R.frames ∧ 20 ≤ R.locals) (hent : entOK own ini nL cc ret (fun i => (sp i).1) pc x)
    (hk : ∀ pc' L' st' S' cs', k pc' L' st' S' cs' → G p l e R s m args below meth c Q D ad0 S0 nL pc' L' st' S' cs')
    (hkx : ∀ ee L' S' cs', kx ee pc L' S' cs' → GX p l e R s m args below meth c Q D ad0 S0 nL ee pc L' S' cs')
    (hkt : ∀ ee L' st' S' cs', own = RX6 → thrOK cc pc ee → small st' = true → cs'.1 + 1 ≤ lim.1 → cs'.2 + 6 ≤ lim.2 → kt ee S' (cs'.1 + 1, cs'.2 + 6) → G p l e R s m args below meth c Q D ad0 S0 nL pc L' st' S' cs')
    (hkr : ∀ v L' st' S' cs', retAt cc ret pc st' v → kr v S' cs' → G p l e R s m args below meth c Q D ad0 S0 nL pc L' st' S' cs')
    (h : st1 sp lim kr kt kx k pc x L st S cs) : G p l e R s m args below meth c Q D ad0 S0 nL pc L st S cs := by
  obtain ⟨i, nx, r1, r2, z⟩ := x
  have hx := C.1
  have hb := C.2.1
  have hV := C.2.2.2.2.1.1
  have hown := C.2.2.2.1
  subst hlim
  rcases hent with hent | ⟨len, hd, hnx, hln, hlk⟩
  · have hent : i = .nop := hent
    subst hent
    exact (h : False).elim
  have hd : decode cc pc = .ok (i, len) := hd
  have hln : ilen i = len ∨ ilen i = 0 := hln
  have hnx : nx = pc + len := hnx
  subst hnx
  have hlk : lk own ini nL cc ret (fun i => (sp i).1) pc (i, pc + len, r1, r2, z) := hlk
  cases i <;> first | exact (h : False).elim | skip
  case iconst n =>
    have hln : 1 = len := hln.resolve_right (Nat.succ_ne_zero _)
    subst hln
    exact g_const hx hb (hk _ _ _ _ _ h) fun H locs ls rest q => lv_iconst hx hb hd rfl q
  case bipush n =>
    have hln : 2 = len := hln.resolve_right (Nat.succ_ne_zero _)
    subst hln
    exact g_const hx hb (hk _ _ _ _ _ h) fun H locs ls rest q => lv_bipush hx hb hd hlk q
  case sipush n =>
    have hln : 3 = len := hln.resolve_right (Nat.succ_ne_zero _)
    subst hln
    exact g_const hx hb (hk _ _ _ _ _ h) fun H locs ls rest q => lv_sipush hx hb hd hlk q
  case ldc n =>
    have hln : 2 = len := hln.resolve_right (Nat.succ_ne_zero _)
    subst hln
    exact g_const hx hb (hk _ _ _ _ _ h) fun H locs ls rest q => lv_ldc hx hb hown (hV _ hlk rfl _) hd q
  case ldc_w n =>
    have hln : 3 = len := hln.resolve_right (Nat.succ_ne_zero _)
    subst hln
    exact g_const hx hb (hk _ _ _ _ _ h) fun H locs ls rest q => lv_ldcw hx hb hown (hV _ hlk rfl _) hd q
  case aconst_null =>
    have hln : 1 = len := hln.resolve_right (Nat.succ_ne_zero _)
    subst hln
    intro ad H locs ls hL hC hcl hR hE hS
    exact lv_null hx hb hd (hk _ _ _ _ _ h ad H locs ls hL hC (CL.cons VOK.n hcl) hR hE hS)
  case iload n =>
    have hln : 2 = len := hln.resolve_right (Nat.succ_ne_zero _)
    subst hln
    obtain ⟨w, e1, h⟩ := asI_e h
    exact g_load hx hb e1 rfl (hk _ _ _ _ _ h) fun ad H locs ls rest hl q => lv_iload hx hb hd hl q
  case iload_n n =>
    have hln : 1 = len := hln.resolve_right (Nat.succ_ne_zero _)
    subst hln
    obtain ⟨w, e1, h⟩ := asI_e h
    exact g_load hx hb e1 rfl (hk _ _ _ _ _ h) fun ad H locs ls rest hl q => lv_iload_n hx hb hd rfl hl q
  case aload n =>
    have hln : 2 = len := hln.resolve_right (Nat.succ_ne_zero _)
    subst hln
    obtain ⟨w, e1, h⟩ := asR_e h
    refine g_load hx hb e1 rfl (hk _ _ _ _ _ h) fun ad H locs ls rest hl q => ?_
    cases w with
    | none => exact lv_aloadN hx hb hd hl q
    | some t => exact lv_aload hx hb hd hl q
  case aload_n n =>
    have hln : 1 = len := hln.resolve_right (Nat.succ_ne_zero _)
    subst hln
    obtain ⟨w, e1, h⟩ := asR_e h
    refine g_load hx hb e1 rfl (hk _ _ _ _ _ h) fun ad H locs ls rest hl q => ?_
    cases w with
    | none => exact lv_aload_nN hx hb hd rfl hl q
    | some t => exact lv_aload_n hx hb hd rfl hl q
  case istore n =>
    have hln : 2 = len := hln.resolve_right (Nat.succ_ne_zero _)
    subst hln
    obtain ⟨w, r, rfl, h⟩ := popI_e h
    exact g_store hx hb hlk rfl (hk _ _ _ _ _ h) fun ad H locs ls ls' rest hs q => st_int hx hb (Or.inl ⟨hd, rfl⟩) hs q
  case istore_n n =>
    have hln : 1 = len := hln.resolve_right (Nat.succ_ne_zero _)
    subst hln
    obtain ⟨w, r, rfl, h⟩ := popI_e h
    exact g_store hx hb hlk rfl (hk _ _ _ _ _ h) fun ad H locs ls ls' rest hs q => st_int hx hb (Or.inr ⟨_, hd, rfl, rfl⟩) hs q
  case astore n =>
    have hln : 2 = len := hln.resolve_right (Nat.succ_ne_zero _)
    subst hln
    obtain ⟨w, r, rfl, h⟩ := popR_e h
    exact g_store hx hb hlk rfl (hk _ _ _ _ _ h) fun ad H locs ls ls' rest hs q => st_ref hx hb (Or.inl ⟨hd, rfl⟩) hs q
  case astore_n n =>
    have hln : 1 = len := hln.resolve_right (Nat.succ_ne_zero _)
    subst hln
    obtain ⟨w, r, rfl, h⟩ := popR_e h
    exact g_store hx hb hlk rfl (hk _ _ _ _ _ h) fun ad H locs ls ls' rest hs q => st_ref hx hb (Or.inr ⟨_, hd, rfl, rfl⟩) hs q
  case iinc n w =>
    have hln : 3 = len := hln.resolve_right (Nat.succ_ne_zero _)
    subst hln
    obtain ⟨a, e1, h⟩ := asI_e h
    exact g_iinc hx hb hd hlk e1 (hk _ _ _ _ _ h)
  case iadd =>
    have hln : 1 = len := hln.resolve_right (Nat.succ_ne_zero _)
    subst hln
    obtain ⟨b, r, rfl, h⟩ := popI_e h
    obtain ⟨a, r, rfl, h⟩ := popI_e h
    exact g_bin hx hb (hk _ _ _ _ _ h) fun H locs ls rest q => lv_iadd hx hb hd (by rw [oI_add]; exact q)
  case isub =>
    have hln : 1 = len := hln.resolve_right (Nat.succ_ne_zero _)
    subst hln
    obtain ⟨b, r, rfl, h⟩ := popI_e h
    obtain ⟨a, r, rfl, h⟩ := popI_e h
    exact g_bin hx hb (hk _ _ _ _ _ h) fun H locs ls rest q => lv_isub hx hb hd (by rw [oI_sub]; exact q)
  case imul =>
    have hln : 1 = len := hln.resolve_right (Nat.succ_ne_zero _)
    subst hln
    obtain ⟨b, r, rfl, h⟩ := popI_e h
    obtain ⟨a, r, rfl, h⟩ := popI_e h
    exact g_bin hx hb (hk _ _ _ _ _ h) fun H locs ls rest q => lv_imul hx hb hd (by rw [oI_mul]; exact q)
  case idiv =>
    have hln : 1 = len := hln.resolve_right (Nat.succ_ne_zero _)
    subst hln
    obtain ⟨b, r, rfl, h⟩ := popI_e h
    obtain ⟨a, r, rfl, ⟨h1, h2, h3, h4⟩, h⟩ := popI_e h
    exact g_bin hx hb (hk _ _ _ _ _ h) fun H locs ls rest q => lv_idiv hx hb hd (oI_ne0 h3 h4) (by rw [oI_div h1 h2 h3 h4]; exact q)
  case irem =>
    have hln : 1 = len := hln.resolve_right (Nat.succ_ne_zero _)
    subst hln
    obtain ⟨b, r, rfl, h⟩ := popI_e h
    obtain ⟨a, r, rfl, ⟨h1, h2, h3, h4⟩, h⟩ := popI_e h
    exact g_bin hx hb (hk _ _ _ _ _ h) fun H locs ls rest q => lv_irem hx hb hd (oI_ne0 h3 h4) (by rw [oI_rem h1 h2 h3 h4]; exact q)
  case ineg =>
    have hln : 1 = len := hln.resolve_right (Nat.succ_ne_zero _)
    subst hln
    obtain ⟨a, r, rfl, h⟩ := popI_e h
    exact g_un hx hb (hk _ _ _ _ _ h) fun H locs ls rest q => lv_ineg hx hb hd (by rw [oI_neg]; exact q)
  case iand =>
    have hln : 1 = len := hln.resolve_right (Nat.succ_ne_zero _)
    subst hln
    obtain ⟨b, r, rfl, h⟩ := popI_e h
    obtain ⟨a, r, rfl, h⟩ := popI_e h
    exact g_bin hx hb (hk _ _ _ _ _ h) fun H locs ls rest q => lv_iand hx hb hd (by unfold bAnd at q; rw [Int32.ofInt_toInt] at q; exact q)
  case ior =>
    have hln : 1 = len := hln.resolve_right (Nat.succ_ne_zero _)
    subst hln
    obtain ⟨b, r, rfl, h⟩ := popI_e h
    obtain ⟨a, r, rfl, h⟩ := popI_e h
    exact g_bin hx hb (hk _ _ _ _ _ h) fun H locs ls rest q => lv_ior hx hb hd (by unfold bOr at q; rw [Int32.ofInt_toInt] at q; exact q)
  case ixor =>
    have hln : 1 = len := hln.resolve_right (Nat.succ_ne_zero _)
    subst hln
    obtain ⟨b, r, rfl, h⟩ := popI_e h
    obtain ⟨a, r, rfl, h⟩ := popI_e h
    exact g_bin hx hb (hk _ _ _ _ _ h) fun H locs ls rest q => lv_ixor hx hb hd (by unfold bXor at q; rw [Int32.ofInt_toInt] at q; exact q)
  case ishl =>
    have hln : 1 = len := hln.resolve_right (Nat.succ_ne_zero _)
    subst hln
    obtain ⟨b, r, rfl, h⟩ := popI_e h
    obtain ⟨a, r, rfl, h⟩ := popI_e h
    exact g_bin hx hb (hk _ _ _ _ _ h) fun H locs ls rest q => lv_ishl hx hb hd (by unfold bShl at q; rw [Int32.ofInt_toInt] at q; exact q)
  case ishr =>
    have hln : 1 = len := hln.resolve_right (Nat.succ_ne_zero _)
    subst hln
    obtain ⟨b, r, rfl, h⟩ := popI_e h
    obtain ⟨a, r, rfl, h⟩ := popI_e h
    exact g_bin hx hb (hk _ _ _ _ _ h) fun H locs ls rest q => lv_ishr hx hb hd (by unfold bShr at q; rw [Int32.ofInt_toInt] at q; exact q)
  case iushr =>
    have hln : 1 = len := hln.resolve_right (Nat.succ_ne_zero _)
    subst hln
    obtain ⟨b, r, rfl, h⟩ := popI_e h
    obtain ⟨a, r, rfl, h⟩ := popI_e h
    exact g_bin hx hb (hk _ _ _ _ _ h) fun H locs ls rest q => lv_iushr hx hb hd rfl (by unfold bUshr at q; rw [Int32.ofInt_toInt] at q; exact q)
  case i2l =>
    have hln : 1 = len := hln.resolve_right (Nat.succ_ne_zero _)
    subst hln
    obtain ⟨a, r, rfl, hr, h⟩ := popI_e h
    intro ad H locs ls hL hC hcl hR hE hS
    exact lv_i2l hx hb hd (oI_l hr) (hk _ _ _ _ _ h ad H locs ls hL hC (CL.cons VOK.l hcl.tl) hR hE hS)
  case lcmp =>
    have hln : 1 = len := hln.resolve_right (Nat.succ_ne_zero _)
    subst hln
    obtain ⟨b, r, rfl, h⟩ := popL_e h
    obtain ⟨a, r, rfl, ha, hb9, h⟩ := popL_e h
    intro ad H locs ls hL hC hcl hR hE hS
    have hz : ∃ w : Int, (w = 0 ↔ a = b) ∧ InR w ∧ lg_cmp (Int64.ofInt a) (Int64.ofInt b) = Int32.ofInt w := by
      unfold lg_cmp
      by_cases q : Int64.ofInt b < Int64.ofInt a
      · have q2 := (oL_lt hb9 ha).mp q
        exact ⟨1, by omega, ⟨by omega, by omega⟩, by simp [q]⟩
      · by_cases q2 : Int64.ofInt a = Int64.ofInt b
        · have q3 := (oL_eq ha hb9).mp q2
          exact ⟨0, by omega, ⟨by omega, by omega⟩, by simp [q2]⟩
        · have q3 : ¬ a = b := fun q4 => q2 ((oL_eq ha hb9).mpr q4)
          exact ⟨-1, by omega, ⟨by omega, by omega⟩, by simp [q, q2]⟩
    obtain ⟨w, w1, w2, w3⟩ := hz
    have k9 := hk _ _ _ _ _ (h w w1 w2) ad H locs ls hL hC (CL.cons VOK.i hcl.tl.tl) hR hE hS
    exact W.lcmp hx hb hd (by rw [w3]; exact k9)
  case dup =>
    have hln : 1 = len := hln.resolve_right (Nat.succ_ne_zero _)
    subst hln
    obtain ⟨a, r, rfl, ha, h⟩ := popA_e h
    intro ad H locs ls hL hC hcl hR hE hS
    exact lv_dup hx hb hd (cv_cat ha) (hk _ _ _ _ _ h ad H locs ls hL hC (CL.cons hcl.hd hcl) hR hE hS)
  case dup_x1 =>
    have hln : 1 = len := hln.resolve_right (Nat.succ_ne_zero _)
    subst hln
    obtain ⟨a, r, rfl, ha, h⟩ := popA_e h
    obtain ⟨b, r, rfl, hb9, h⟩ := popA_e h
    intro ad H locs ls hL hC hcl hR hE hS
    exact lv_dup_x1 hx hb hd (cv_cat ha) (cv_cat hb9) (hk _ _ _ _ _ h ad H locs ls hL hC (CL.cons hcl.hd (CL.cons hcl.tl.hd (CL.cons hcl.hd hcl.tl.tl))) hR hE hS)
  case dup2 =>
    have hln : 1 = len := hln.resolve_right (Nat.succ_ne_zero _)
    subst hln
    obtain ⟨a, r, rfl, ha, h⟩ := popA_e h
    obtain ⟨b, r, rfl, hb9, h⟩ := popA_e h
    intro ad H locs ls hL hC hcl hR hE hS
    exact lv_dup2_11 hx hb hd (cv_cat ha) (cv_cat hb9) (hk _ _ _ _ _ h ad H locs ls hL hC (CL.cons hcl.hd (CL.cons hcl.tl.hd hcl)) hR hE hS)
  case pop =>
    have hln : 1 = len := hln.resolve_right (Nat.succ_ne_zero _)
    subst hln
    obtain ⟨a, r, rfl, ha, h⟩ := popA_e h
    intro ad H locs ls hL hC hcl hR hE hS
    exact lv_pop hx hb hd (cv_cat ha) (hk _ _ _ _ _ h ad H locs ls hL hC hcl.tl hR hE hS)
  case goto o =>
    have hln : 3 = len := hln.resolve_right (Nat.succ_ne_zero _)
    subst hln
    exact g_jump (fun H locs ls rest q => lv_goto hx hb hd hlk q) (hk _ _ _ _ _ h)
  case ifCond cd o =>
    have hln : 3 = len := hln.resolve_right (Nat.succ_ne_zero _)
    subst hln
    obtain ⟨a, r, rfl, ha, h⟩ := popI_e h
    obtain ⟨h1, h2⟩ := condK_e h
    exact g_if1 hx hb hd hlk ha (fun q => hk _ _ _ _ _ (h1 q)) (fun q => hk _ _ _ _ _ (h2 q))
  case if_icmp cd o =>
    have hln : 3 = len := hln.resolve_right (Nat.succ_ne_zero _)
    subst hln
    obtain ⟨b, r, rfl, h⟩ := popI_e h
    obtain ⟨a, r, rfl, ha, hb9, h⟩ := popI_e h
    obtain ⟨h1, h2⟩ := condK_e h
    exact g_if2 hx hb hd hlk ha hb9 (fun q => hk _ _ _ _ _ (h1 q)) (fun q => hk _ _ _ _ _ (h2 q))
  case ifnull o =>
    have hln : 3 = len := hln.resolve_right (Nat.succ_ne_zero _)
    subst hln
    obtain ⟨a, r, rfl, h1, h2⟩ := popR_e h
    exact g_null hx hb (Or.inl ⟨hd, rfl, rfl⟩) hlk (fun q => hk _ _ _ _ _ (h1 q)) (fun t q => hk _ _ _ _ _ (h2 t q))
  case ifnonnull o =>
    have hln : 3 = len := hln.resolve_right (Nat.succ_ne_zero _)
    subst hln
    obtain ⟨a, r, rfl, h1, h2⟩ := popR_e h
    exact g_null hx hb (Or.inr ⟨hd, rfl, rfl⟩) hlk (fun q => hk _ _ _ _ _ (h1 q)) (fun t q => hk _ _ _ _ _ (h2 t q))
  case tableswitch d lo hi os =>
    obtain ⟨l1, l2, l3⟩ := hlk
    obtain ⟨a, r, rfl, ha, h1, h2⟩ := popI_e h
    refine g_switch hx hb hd l1 l2 l3 ha ?_ (fun q => hk _ _ _ _ _ (h2 q))
    have gen : ∀ (os : List Int) (lo : Int), swK pc a (fun p => k p L r S cs) lo os → swK pc a (fun q => G p l e R s m args below meth c Q D ad0 S0 nL q L r S cs) lo os := by
      intro os
      induction os with
      | nil => intro lo _; trivial
      | cons o os ih => intro lo hq; exact ⟨fun q => hk _ _ _ _ _ (hq.1 q), ih _ hq.2⟩
    exact gen _ _ h1
  case getfield n =>
    have hln : 3 = len := hln.resolve_right (Nat.succ_ne_zero _)
    subst hln
    obtain ⟨l1, l2, l3⟩ := hlk
    obtain ⟨a, r, rfl, h⟩ := popR_e h
    obtain ⟨t, rfl, ⟨n9, ht⟩, h⟩ := onR_e h
    exact g_getf C hd l1 l2 l3 ht (hk _ _ _ _ _ h)
  case putfield n =>
    have hln : 3 = len := hln.resolve_right (Nat.succ_ne_zero _)
    subst hln
    obtain ⟨l1, l2, l3, l4⟩ := hlk
    have l1 : r1 < 8 := l1
    have l2 : r2 < clN r1 := l2
    rcases putK_e h with ⟨hr, h1⟩ | ⟨hr, h1⟩
    · have hr : isR r1 r2 = true := hr
      obtain ⟨v, r, e1, h2⟩ := popR_e h1
      obtain ⟨a, r3, e2, h3⟩ := popR_e h2
      obtain ⟨t, e3, ⟨n9, ht⟩, h4⟩ := onR_e h3
      subst e3; subst e2; subst e1
      refine g_putf (S' := updR S t r2 v) C hd l1 l2 l3 l4 ht (fun ad => nar_r l1 l2 hr v ad) rfl (fun t' q => rfl) (fun t' q => by funext j; simp [updR, q]) (fun hv j u hu => ?_) (fun j hj => ?_) ?_ (hk _ _ _ _ _ h4)
      · simp only [updR] at hu
        split at hu
        · subst hu; exact Or.inr (hv u rfl)
        · exact Or.inl hu
      · unfold getF
        cases isR r1 j <;> simp [updR, hj]
      · unfold getF
        rw [hr]; simp [updR]
    · have hr : isR r1 r2 = false := hr
      obtain ⟨v, r, e1, h2⟩ := popI_e h1
      obtain ⟨a, r3, e2, h3⟩ := popR_e h2
      obtain ⟨t, e3, ⟨n9, ht⟩, h4⟩ := onR_e h3
      subst e3; subst e2; subst e1
      refine g_putf (S' := updI S t r2 v) C hd l1 l2 l3 l4 ht (fun ad => nar_i l1 l2 hr v ad) rfl (fun t' q => by funext j; simp [updI, q]) (fun t' q => rfl) (fun hv j u hu => Or.inl hu) (fun j hj => ?_) ?_ (hk _ _ _ _ _ h4)
      · unfold getF
        cases isR r1 j <;> simp [updI, hj]
      · unfold getF
        rw [hr]; simp [updI]
  case iaload =>
    have hln : 1 = len := hln.resolve_right (Nat.succ_ne_zero _)
    subst hln
    obtain ⟨i, r, rfl, h⟩ := popI_e h
    obtain ⟨a, r, rfl, h⟩ := popR_e h
    obtain ⟨t, rfl, ⟨cd, n, h1, h2, h3, h4⟩, h⟩ := onR_e h
    exact g_iald C hd h1 h2 h3 h4 (hk _ _ _ _ _ h)
  case aaload =>
    have hln : 1 = len := hln.resolve_right (Nat.succ_ne_zero _)
    subst hln
    obtain ⟨i, r, rfl, h⟩ := popI_e h
    obtain ⟨a, r, rfl, h⟩ := popR_e h
    obtain ⟨t, rfl, ⟨cd, n, h1, h2, h3, h4⟩, h⟩ := onR_e h
    exact g_aald C hd h1 h2 h3 h4 (hk _ _ _ _ _ h)
  case iastore =>
    have hln : 1 = len := hln.resolve_right (Nat.succ_ne_zero _)
    subst hln
    obtain ⟨v, r, rfl, h⟩ := popI_e h
    obtain ⟨i, r, rfl, h⟩ := popI_e h
    obtain ⟨a, r, rfl, h⟩ := popR_e h
    obtain ⟨t, rfl, ⟨n, h1, h3, h4⟩, h⟩ := onR_e h
    exact g_iast C hd h1 h3 h4 (hk _ _ _ _ _ h)
  case aastore =>
    have hln : 1 = len := hln.resolve_right (Nat.succ_ne_zero _)
    subst hln
    obtain ⟨v, r, e1, h2⟩ := popR_e h
    obtain ⟨u, e2, h3⟩ := onR_e h2
    obtain ⟨i, r2, e3, h4⟩ := popI_e h3
    obtain ⟨a, r3, e4, h5⟩ := popR_e h4
    obtain ⟨t, e5, ⟨ci, n, n', q1, q2, q3, q4, q5⟩, h6⟩ := onR_e h5
    subst e5; subst e4; subst e3; subst e2; subst e1
    exact g_aast C hd q1 q2 q3 q4 q5 (hk _ _ _ _ _ h6)
  case arraylength =>
    have hln : 1 = len := hln.resolve_right (Nat.succ_ne_zero _)
    subst hln
    obtain ⟨a, r, rfl, h⟩ := popR_e h
    obtain ⟨t, rfl, cd, n, h1, h2, h⟩ := onR_e h
    exact g_alen C hd h1 h2 (hk _ _ _ _ _ h)
  case newarray ty =>
    have hln : 2 = len := hln.resolve_right (Nat.succ_ne_zero _)
    subst hln
    obtain ⟨l1, l2⟩ := hlk
    obtain ⟨n, r, rfl, ⟨h1, h2, h3, h4⟩, t, h5, h⟩ := popI_e h
    exact g_newa C hd l1 l2 h1 h2 h3 h4 h5 (hk _ _ _ _ _ h)
  case anewarray i =>
    have hln : 3 = len := hln.resolve_right (Nat.succ_ne_zero _)
    subst hln
    obtain ⟨l1, l2, l3⟩ := hlk
    obtain ⟨n, r, rfl, ⟨h1, h2, h3, h4⟩, t, h5, h⟩ := popI_e h
    exact g_anew C hd l1 l2 l3 h1 h2 h3 h4 h5 (hk _ _ _ _ _ h)
  case new i =>
    have hln : 3 = len := hln.resolve_right (Nat.succ_ne_zero _)
    subst hln
    cases r2 with
    | zero =>
      rcases hlk with ⟨q, -⟩ | ⟨-, l1, l2, l3, l4⟩
      · exact absurd rfl q
      obtain ⟨⟨h1, h2⟩, t, h3, h⟩ := h
      exact g_new (n := 0) (k := 0) C hd l1 l2 l3 l4 h1 h2 h3 (hk _ _ _ _ _ h)
    | succ r2 =>
      rcases hlk with ⟨-, q1, q2⟩ | ⟨q, -⟩
      · obtain ⟨hsm, ⟨h1, h2⟩, h⟩ := shortK_e h
        exact hkt _ _ _ _ _ q1 q2 hsm h1 h2 h
      · cases q
  case invokevirtual i =>
    have hln : 3 = len := hln.resolve_right (Nat.succ_ne_zero _)
    subst hln
    obtain ⟨l1, l2, l3, l4, l5, n, l6, l7⟩ := hlk
    obtain ⟨as, r, ha, rfl, h, -⟩ := argsK_e h
    rw [List.append_nil] at h
    obtain ⟨a, as, rfl, h⟩ := popR_e h
    obtain ⟨t, rfl, ⟨nn, ht⟩, h⟩ := onR_e h
    obtain ⟨hsm, ⟨h1, h2⟩, h⟩ := shortK_e h
    have hn : as.length = n := by
      have l6 : r2 = n + 1 := l6
      have ha : as.length + 1 = r2 := ha
      omega
    exact g_callV C (hsp r1).1 l7 l1 l2 l3 l5 l4 ht (hsp r1).2 hd hn hsm h1 h2 h (fun st' S' q => hk _ _ _ _ _ q) (fun ee S' q => hkx _ _ _ _ q)
  case invokestatic i =>
    have hln : 3 = len := hln.resolve_right (Nat.succ_ne_zero _)
    subst hln
    obtain ⟨l1, l2, l3⟩ := hlk
    obtain ⟨as, r, ha, rfl, h, -⟩ := argsK_e h
    rw [List.append_nil] at h
    obtain ⟨hsm, ⟨h1, h2⟩, h⟩ := shortK_e h
    exact g_callS C (hsp r1).1 l3 l1 l2 (hsp r1).2 hd ha hsm h1 h2 h (fun st' S' q => hk _ _ _ _ _ q) (fun ee S' q => hkx _ _ _ _ q)
  case invokespecial i =>
    have hln : 3 = len := hln.resolve_right (Nat.succ_ne_zero _)
    subst hln
    cases r1 with
    | zero =>
      obtain ⟨a, r, e1, h2⟩ := popR_e h
      obtain ⟨hsm, h3⟩ := shortK_e h2
      obtain ⟨t, e2, h4⟩ := onR_e h3
      subst e2; subst e1
      rcases hlk with ⟨-, q⟩ | ⟨q, -⟩
      · exact g_obj C q hd hsm hRf.1 hRf.2 (hk _ _ _ _ _ h4)
      · exact absurd rfl q
    | succ r1 =>
      rcases hlk with ⟨q, -⟩ | ⟨-, l1, l2, l3, l4, n, l6, l7⟩
      · cases q
      obtain ⟨as, r, ha, rfl, h, -⟩ := argsK_e h
      rw [List.append_nil] at h
      obtain ⟨a, as, rfl, h⟩ := popR_e h
      obtain ⟨t, rfl, h⟩ := onR_e h
      obtain ⟨hsm, ⟨h1, h2⟩, h⟩ := shortK_e h
      have hn : as.length = n := by
        have l6 : r2 = n + 1 := l6
        have ha : as.length + 1 = r2 := ha
        omega
      exact g_callI C (hsp (r1 + 1)).1 l7 l1 l2 l3 l4 (hsp (r1 + 1)).2 hd hn hsm h1 h2 h (fun st' S' q => hk _ _ _ _ _ q) (fun ee S' q => hkx _ _ _ _ q)
  case ireturn =>
    have hln : 1 = len := hln.resolve_right (Nat.succ_ne_zero _)
    subst hln
    have hlk : (r1 = 0 ∧ ret = some .int) ∨ (r1 ≠ 0 ∧ ret = some .boolean) := hlk
    match st, h with
    | [.inl w], h =>
      cases r1 with
      | zero =>
        rcases hlk with ⟨-, q⟩ | ⟨q, -⟩
        · exact hkr _ _ _ _ _ (Or.inr (Or.inl ⟨w, _, rfl, rfl, hd, q, rfl⟩)) h
        · exact absurd rfl q
      | succ r1 =>
        rcases hlk with ⟨q, -⟩ | ⟨-, q⟩
        · cases q
        · exact hkr _ _ _ _ _ (Or.inr (Or.inl ⟨w, _, rfl, rfl, hd, q, or1 h.1⟩)) h.2
  case areturn =>
    have hln : 1 = len := hln.resolve_right (Nat.succ_ne_zero _)
    subst hln
    have hlk : (ret.map isObjT) = some true := hlk
    match st, h with
    | [.inr (.inr w)], h =>
      cases hr : ret with
      | none => rw [hr] at hlk; cases hlk
      | some ty =>
        rw [hr] at hlk
        exact hkr _ _ _ _ _ (Or.inr (Or.inr ⟨w, ty, rfl, rfl, hd, hr, Option.some.inj hlk⟩)) h
  case return_ =>
    have hln : 1 = len := hln.resolve_right (Nat.succ_ne_zero _)
    subst hln
    match st, h with
    | [], h => exact hkr _ _ _ _ _ (Or.inl ⟨rfl, rfl, hd, hlk⟩) h
end SND1
