section SNDH
variable {p : Program} {l : Launch} {e : Env} {R : Room} {s : State} {m : MethodId} {args : Array Value} {below : List Frame} {meth : Method} {c : Code} {Q : State → Prop} {D : DD} {ad0 : Nat → Nat} {S0 : Sto} {nL : Nat} {cc : ByteArray} {own : String} {L st r : List AV} {S : Sto} {cs : Nat × Nat} {pc : Nat}
theorem rep_obj {ad : Nat → Nat} {H : Heap} {t ci n : Nat} (hR : Rep D ad S H) (hci : ci < 8) (ht : S.1 t = some (ci, n)) : n = clN ci ∧ t_OB (ad t) (D.1.1 ci) (clN ci) (D.1.2 ci) H (oCell ad S t ci) := by
  obtain ⟨h1, h2⟩ := hR.1 t _ ht
  unfold RepAt at h2
  rcases okTy_cases h1 with ⟨-, q⟩ | ⟨q, -⟩
  · have q : n = clN ci := q
    subst q
    rw [if_pos hci] at h2
    exact ⟨rfl, h2⟩
  · exact absurd hci q
theorem rep_arr {ad : Nat → Nat} {H : Heap} {t cd n : Nat} (hR : Rep D ad S H) (hcd : isA cd = true) (ht : S.1 t = some (cd, n)) : n ≤ 100000 ∧ H[ad t]? = some (vp_cell (D.2.1 cd) (aCell ad S t (cd, n))) := by
  obtain ⟨h1, h2⟩ := hR.1 t _ ht
  unfold RepAt at h2
  have hn8 : ¬ cd < 8 := by
    simp only [isA, Bool.or_eq_true, beq_iff_eq] at hcd; omega
  have hn2 : ¬ cd = 102 := by
    simp only [isA, Bool.or_eq_true, beq_iff_eq] at hcd; omega
  rcases okTy_cases h1 with ⟨q, -⟩ | ⟨-, -, q⟩
  · exact absurd q hn8
  · rw [if_neg hn8, if_neg hn2] at h2
    exact ⟨q, h2⟩
theorem repAt_a {ad : Nat → Nat} {H : Heap} {t cd n : Nat} (hcd : isA cd = true) : RepAt D ad S t (cd, n) H = (H[ad t]? = some (vp_cell (D.2.1 cd) (aCell ad S t (cd, n)))) := by
  have hn8 : ¬ cd < 8 := by
    simp only [isA, Bool.or_eq_true, beq_iff_eq] at hcd; omega
  have hn2 : ¬ cd = 102 := by
    simp only [isA, Bool.or_eq_true, beq_iff_eq] at hcd; omega
  unfold RepAt
  rw [if_neg hn8, if_neg hn2]
theorem aCell_v {ad : Nat → Nat} {t cd n : Nat} {cA : ClassId} : ∃ f, vp_cell cA (aCell ad S t (cd, n)) = arrV cA n f := by
  unfold aCell
  split
  · exact ⟨fun j => .int (Int32.ofInt (S.2.1 t j)), rfl⟩
  · split
    · exact ⟨fun j => .long (Int64.ofInt (S.2.1 t j)), rfl⟩
    · exact ⟨fun j => va_rf ((S.2.2 t j).map ad), rfl⟩
theorem oCell_cv {ad : Nat → Nat} {t ci k : Nat} : oCell ad S t ci k = cv ad (getF S ci t k) := by
  unfold oCell getF
  cases isR ci k <;> rfl
theorem getF_vok {ad : Nat → Nat} {H : Heap} {t ci k n : Nat} (hR : Rep D ad S H) (ht : S.1 t = some (ci, n)) : VOK S (getF S ci t k) := by
  unfold getF
  cases isR ci k
  · exact VOK.i
  · intro u hu
    have : S.2.2 t k = some u := by simpa using hu
    exact hR.2.2 t _ k u ht this
theorem g_getf {ini : Bool} (C : CX p l s m meth c D ad0 S0 nL cc own ini) {i t ci k n : Nat} (hd : decode cc pc = .ok (.getfield i, 3)) (hci : ci < 8) (hk : k < clN ci) (hl : Cond.fieldLink own i (TC ci k).1 (TC ci k).2.1 (TC ci k).2.2.1 ∈ lw_tbl) (ht : S.1 t = some (ci, n))
    (kk : G p l e R s m args below meth c Q D ad0 S0 nL (pc + 3) L (getF S ci t k :: r) S cs) : G p l e R s m args below meth c Q D ad0 S0 nL pc L (vT t :: r) S cs := by
  intro ad H locs ls hL hC hcl hR hE hS
  obtain ⟨hx, hb, hml, hown, hV, -, -⟩ := C
  obtain ⟨rfl, cell, q1, q2, q3, q4⟩ := rep_obj hR hci ht
  obtain ⟨hSl, hfc, kC, hkC, hkind⟩ := hV.2.1.1 ci hci
  obtain ⟨cf, kf, fi, f, hi, hsl⟩ := hSl k hk
  refine W.getf hx hb hown (hV.1 _ hl rfl _) hi (u_facts hfc hkC (u_lays (fun w hw => hV.1 w (in_C ci hci w hw) (by
    obtain ⟨j, -, rfl⟩ := List.mem_map.mp hw
    unfold u_lay; split <;> rfl) args) (fun w hw => hw) hk) hi).1 q1 (by rw [q3]; exact fun h => by cases h) (v := cv ad (getF S ci t k)) (by rw [hsl, q4 k hk, oCell_cv]) rfl rfl hd (kk ad H locs ls hL hC (CL.cons (getF_vok hR ht) hcl.tl) hR hE hS)
theorem lay_ok {ci : Nat} : ∀ w ∈ u_ws (RC ci) (TC ci) (clN ci), okw w = true := fun w hw => by
  obtain ⟨j, -, rfl⟩ := List.mem_map.mp hw
  unfold u_lay; split <;> rfl
theorem updV_o {ad : Nat → Nat} {t ci k : Nat} {v : AV} {S' : Sto} (h1 : ∀ j, j ≠ k → getF S' ci t j = getF S ci t j) (h2 : getF S' ci t k = v) : updV (oCell ad S t ci) k (cv ad v) = oCell ad S' t ci := by
  funext j
  unfold updV
  by_cases hj : j = k
  · subst hj; rw [if_pos rfl, oCell_cv, h2]
  · rw [if_neg hj, oCell_cv, oCell_cv, h1 j hj]
theorem g_putf {ini : Bool} (C : CX p l s m meth c D ad0 S0 nL cc own ini) {i t ci k n : Nat} {v : AV} {S' : Sto} (hd : decode cc pc = .ok (.putfield i, 3)) (hci : ci < 8) (hk : k < clN ci) (hl : Cond.fieldLink own i (TC ci k).1 (TC ci k).2.1 (TC ci k).2.2.1 ∈ lw_tbl)
    (hfin : (TC ci k).2.2.2 = false ∨ ini = true ∧ (TC ci k).2.2.2 = true ∧ (TC ci k).1 = own) (ht : S.1 t = some (ci, n)) (hn : ∀ ad : Nat → Nat, narrow (tyC ci k) (cv ad v) = cv ad v ∧ fits (tyC ci k) (cv ad v) = true)
    (h0 : S'.1 = S.1) (hI : ∀ t', t' ≠ t → S'.2.1 t' = S.2.1 t') (hRr : ∀ t', t' ≠ t → S'.2.2 t' = S.2.2 t') (hc : VOK S v → ∀ j t', S'.2.2 t j = some t' → S.2.2 t j = some t' ∨ S.1 t' ≠ none) (h1 : ∀ j, j ≠ k → getF S' ci t j = getF S ci t j) (h2 : getF S' ci t k = v)
    (kk : G p l e R s m args below meth c Q D ad0 S0 nL (pc + 3) L r S' cs) : G p l e R s m args below meth c Q D ad0 S0 nL pc L (v :: vT t :: r) S cs := by
  intro ad H locs ls hL hC hcl hR hE hS
  obtain ⟨hx, hb, hml, hown, hV, hini, -⟩ := C
  have hob := rep_obj hR hci ht
  obtain ⟨rfl, cell, q1, q2, q3, q4⟩ := hob
  have hts : ∀ w ∈ u_ws (RC ci) (TC ci) (clN ci), w.before args s = true := fun w hw => hV.1 w (in_C ci hci w hw) (lay_ok w hw) args
  have hap : ∀ x y, x < clN ci → y < clN ci → x ≠ y → (D.1.2 ci) x ≠ (D.1.2 ci) y := va_apart (own := own) (cl := [(RC ci, TC ci, clN ci)]) (tys := []) (ci := 0) hts (fun w hw => hw) (tyC ci) (ty_C ci hci) (nm_C ci hci) (D := (fun _ => D.1.1 ci, fun _ => D.1.2 ci)) ⟨fun c q hq => by
    cases c with
    | zero => cases hq; exact hV.2.1.1 ci hci
    | succ c => simp at hq, fun k q hq => by simp at hq⟩ rfl
  obtain ⟨hSl, hfc, kC, hkC, hkind⟩ := hV.2.1.1 ci hci
  obtain ⟨cf, kf, fi, f, hi, hsl⟩ := hSl k hk
  have hst := (u_facts hfc hkC (u_lays hts (fun w hw => hw) hk) hi).1
  have hlink : (Cond.fieldLink own i (TC ci k).1 (TC ci k).2.1 (TC ci k).2.2.1).before args s = true := hV.1 _ hl rfl _
  obtain ⟨hn1, hn2⟩ := hn ad
  have go : ∀ H' : Heap, H'[ad t]? = some (cell.setSlot f.slot (cv ad v)) → H'.size = H.size → (∀ q, q ≠ ad t → H'[q]? = H[q]?) → W p l e R s m args below meth c H' (locs ++ [⟨ad t, f.slot⟩]) cs.1 cs.2 Q (F0 m (pc + 3) ls (r.map (cv ad))) := by
    intro H' e1 e2 e3
    rw [hsl] at e1
    have hvok := hcl.hd
    have hR' : Rep D ad S' H' := by
      refine hR.put ht h0 hI hRr (fun j u hu => ?_) ?_ e3
      · rcases hc hvok j u hu with q | q
        · exact hR.2.2 t _ j u ht q
        · exact q
      · unfold RepAt
        rw [if_pos hci, ← updV_o (ad := ad) h1 h2]
        exact ⟨_, e1, q2, q3, t_set q4 hap hk _⟩
    have hcl2 : CL S' r := fun a ha u hu => by rw [h0]; exact hcl.tl.tl a ha u hu
    have hC2 : CLs S' L := fun a u hu => by rw [h0]; exact hC a u hu
    exact kk ad H' _ ls hL hC2 hcl2 hR' (hE.put h0) (hS.put e2 e3 (hE.inF ht (by omega)))
  rcases hfin with hfin | ⟨hi1, hfin, hdecl⟩
  · have hlay := hts _ (u_in_lay hk)
    unfold u_lay at hlay
    rw [if_neg (by rw [hfin]; decide)] at hlay
    have h6 := u_store hfc hkC hkind hlay hi (ty_C ci hci k hk) hn1 hn2
    exact W.putK hx hb (f := f) ⟨hown, hlink, ⟨_, _, _, hi⟩, hst⟩ (by rw [q2]; exact h6) q1 q3 (by rw [hsl]; exact k2_hasslot (q4 k hk)) rfl rfl hd go
  · have hin2 := hini hi1
    have hlay := hts _ (u_in_lay hk)
    unfold u_lay at hlay
    rw [if_pos hfin] at hlay
    have hcf : m.cls = cf := by
      obtain ⟨_, _, c', _, _, _, -, -, hf', -, -, -, hown2, -⟩ := Cond.laysFinal_spec hlay
      have e1 : c' = cf := by have := hi.symm.trans hf'; simp at this; exact this.1.symm
      rw [hdecl] at hown2
      rw [← e1]; exact Option.some.inj (hown.symm.trans hown2)
    have h6 := u_fits hfc hkC hkind (Or.inr hlay) hi (ty_C ci hci k hk) hn1 hn2
    exact W.putFinK hx hb hown hlink hi hst hcf hin2 (by rw [q2]; exact h6) q1 q3 (by rw [hsl]; exact k2_hasslot (q4 k hk)) rfl rfl hd go
theorem nar_i {ci k : Nat} (hci : ci < 8) (hk : k < clN ci) (h : isR ci k = false) (z : Int) (ad : Nat → Nat) : narrow (tyC ci k) (cv ad (vI z)) = cv ad (vI z) ∧ fits (tyC ci k) (cv ad (vI z)) = true := by
  rw [(kd_C ci hci k hk).2 h]
  exact ⟨rfl, rfl⟩
theorem nar_r {ci k : Nat} (hci : ci < 8) (hk : k < clN ci) (h : isR ci k = true) (z : Option Nat) (ad : Nat → Nat) : narrow (tyC ci k) (cv ad (vR z)) = cv ad (vR z) ∧ fits (tyC ci k) (cv ad (vR z)) = true := by
  have h2 := (kd_C ci hci k hk).1 h
  generalize tyC ci k = ty at h2
  cases ty <;> first | (cases h2; done) | (cases z <;> exact ⟨rfl, rfl⟩)
theorem vin {i : Int} {n : Nat} (h0 : 0 ≤ i) (h1 : i < n) (hn : n ≤ 100000) : ¬ (Int32.ofInt i < 0 ∨ n ≤ (Int32.ofInt i).toNatClampNeg) := by
  rw [oI_nat h0 (by omega), oI_0, oI_lt ⟨by omega, by omega⟩ ⟨by omega, by omega⟩]
  omega
theorem g_iald {ini : Bool} (C : CX p l s m meth c D ad0 S0 nL cc own ini) {t cd n : Nat} {i : Int} (hd : decode cc pc = .ok (.iaload, 1)) (ht : S.1 t = some (cd, n)) (hcd : cd = 100 ∨ cd = 102) (h0 : 0 ≤ i) (h1 : i < n)
    (kk : G p l e R s m args below meth c Q D ad0 S0 nL (pc + 1) L (vI (S.2.1 t i.toNat) :: r) S cs) : G p l e R s m args below meth c Q D ad0 S0 nL pc L (vI i :: vT t :: r) S cs := by
  intro ad H locs ls hL hC hcl hR hE hS
  obtain ⟨hx, hb, hml, hown, hV, -, -⟩ := C
  have k := kk ad H locs ls hL hC (CL.cons VOK.i hcl.tl.tl) hR hE hS
  rcases hcd with rfl | rfl
  · obtain ⟨hn, hat⟩ := rep_arr hR rfl ht
    refine W.iald (v := .int (Int32.ofInt (S.2.1 t i.toNat))) hx hb hat ((hV.2.1.2.1 100 rfl).1 n (fun j => .int (Int32.ofInt (S.2.1 t j)))) (fun q => by cases q) (by show ¬ (_ ∨ (arrV _ _ _).slots.size ≤ _); rw [arrV_size]; exact vin h0 h1 hn) (by show (arrV _ _ _).slots[_]? = _; rw [oI_nat h0 (by omega), arrV_read _ _ (by show i.toNat < n; omega)]) rfl rfl hd k
  · obtain ⟨h1', h2⟩ := hR.1 t _ ht
    unfold RepAt at h2
    rw [if_neg (show ¬ (102 : Nat) < 8 by decide), if_pos rfl] at h2
    obtain ⟨scr, a1, a2, a3, a4, a5⟩ := h2
    have hn : n ≤ 100000 := by
      rcases okTy_cases h1' with ⟨q, -⟩ | ⟨-, -, q⟩
      · exact absurd q (show ¬ (102 : Nat) < 8 by decide)
      · exact q
    refine W.iald (v := .int (Int32.ofInt (S.2.1 t i.toNat))) hx hb a1 (hV.2.1.2.2 scr a2) a3 (by rw [a4]; exact vin h0 h1 hn) (by rw [oI_nat h0 (by omega)]; exact a5 _ (by show i.toNat < n; omega)) rfl rfl hd k
theorem isRA_A {cd : Nat} (h : isRA cd = true) : isA cd = true ∧ cd ≠ 100 ∧ cd ≠ 101 ∧ cd ≠ 102 := by
  simp only [isRA, isA, Bool.or_eq_true, beq_iff_eq] at h ⊢
  omega
theorem aCell_r {ad : Nat → Nat} {t cd n : Nat} (h : isRA cd = true) {cA : ClassId} : vp_cell cA (aCell ad S t (cd, n)) = arrV cA n (fun j => va_rf ((S.2.2 t j).map ad)) := by
  obtain ⟨-, h1, h2, -⟩ := isRA_A h
  unfold aCell
  rw [if_neg h1, if_neg h2]
  rfl
theorem g_aald {ini : Bool} (C : CX p l s m meth c D ad0 S0 nL cc own ini) {t cd n : Nat} {i : Int} (hd : decode cc pc = .ok (.aaload, 1)) (ht : S.1 t = some (cd, n)) (hcd : isRA cd = true) (h0 : 0 ≤ i) (h1 : i < n)
    (kk : G p l e R s m args below meth c Q D ad0 S0 nL (pc + 1) L (vR (S.2.2 t i.toNat) :: r) S cs) : G p l e R s m args below meth c Q D ad0 S0 nL pc L (vI i :: vT t :: r) S cs := by
  intro ad H locs ls hL hC hcl hR hE hS
  obtain ⟨hx, hb, hml, hown, hV, -, -⟩ := C
  have hv : VOK S (vR (S.2.2 t i.toNat)) := fun u hu => hR.2.2 t _ i.toNat u ht (by simpa using hu)
  have k := kk ad H locs ls hL hC (CL.cons hv hcl.tl.tl) hR hE hS
  obtain ⟨hn, hat⟩ := rep_arr hR (isRA_A hcd).1 ht
  rw [aCell_r hcd] at hat
  have hty : (aTy cd).isReference = true := by
    simp only [isRA, Bool.or_eq_true, beq_iff_eq] at hcd
    rcases hcd with ((rfl | rfl) | rfl) | rfl <;> rfl
  refine W.aald (v := va_rf ((S.2.2 t i.toNat).map ad)) hx hb hat ((hV.2.1.2.1 cd (isRA_A hcd).1).1 n _) hty (fun q => by cases q) (by rw [arrV_size]; exact vin h0 h1 hn) (by rw [oI_nat h0 (by omega), arrV_read _ _ (by omega)]) rfl rfl hd k
theorem arrV_upd {cA : ClassId} {n k : Nat} {f g : Nat → Value} {v : Value} (h1 : g k = v) (h2 : ∀ j, j ≠ k → g j = f j) : (arrV cA n f).setSlot k v = arrV cA n g := by
  rw [arrV_store]
  congr 1
  funext j
  unfold updV
  by_cases hj : j = k
  · subst hj; rw [if_pos rfl, h1]
  · rw [if_neg hj, h2 j hj]
theorem g_iast {ini : Bool} (C : CX p l s m meth c D ad0 S0 nL cc own ini) {t n : Nat} {i v : Int} (hd : decode cc pc = .ok (.iastore, 1)) (ht : S.1 t = some (100, n)) (h0 : 0 ≤ i) (h1 : i < n)
    (kk : G p l e R s m args below meth c Q D ad0 S0 nL (pc + 1) L r (updI S t i.toNat v) cs) : G p l e R s m args below meth c Q D ad0 S0 nL pc L (vI v :: vI i :: vT t :: r) S cs := by
  intro ad H locs ls hL hC hcl hR hE hS
  obtain ⟨hx, hb, hml, hown, hV, -, -⟩ := C
  obtain ⟨hn, hat⟩ := rep_arr hR rfl ht
  refine W.iast hx hb hat ((hV.2.1.2.1 100 rfl).1 n (fun j => .int (Int32.ofInt (S.2.1 t j)))) (fun q => by cases q) (by show ¬ (_ ∨ (arrV _ _ _).slots.size ≤ _); rw [arrV_size]; exact vin h0 h1 hn) rfl rfl hd fun H' e1 e2 e3 => ?_
  refine kk ad H' _ ls hL hC hcl.tl.tl.tl (hR.put ht rfl (fun t' h => by funext j; simp [updI, h]) (fun t' h => rfl) (fun j u hu => hR.2.2 t _ j u ht hu) ?_ e3) (hE.put rfl) (hS.put e2 e3 (hE.inF ht (show _ ≠ 102 by dsimp only; decide)))
  rw [repAt_a rfl, e1, oI_nat h0 (by omega)]
  refine congrArg some ?_
  exact arrV_upd (f := fun j => .int (Int32.ofInt (S.2.1 t j))) (g := fun j => .int (Int32.ofInt ((updI S t i.toNat v).2.1 t j))) (by simp [updI]) (fun j hj => by simp [updI, hj])
theorem aTy_ra {ci : Nat} (h : isRA (110 + ci) = true) : aTy (110 + ci) = .object (RC ci) ∧ ci < 8 := by
  simp only [isRA, Bool.or_eq_true, beq_iff_eq] at h
  rcases (show ci = 0 ∨ ci = 1 ∨ ci = 2 ∨ ci = 4 by omega) with rfl | rfl | rfl | rfl <;> exact ⟨rfl, by decide⟩
theorem g_aast {ini : Bool} (C : CX p l s m meth c D ad0 S0 nL cc own ini) {t u ci n n' : Nat} {i : Int} (hd : decode cc pc = .ok (.aastore, 1)) (ht : S.1 t = some (110 + ci, n)) (hcd : isRA (110 + ci) = true) (hu : S.1 u = some (ci, n')) (h0 : 0 ≤ i) (h1 : i < n)
    (kk : G p l e R s m args below meth c Q D ad0 S0 nL (pc + 1) L r (updR S t i.toNat (some u)) cs) : G p l e R s m args below meth c Q D ad0 S0 nL pc L (vT u :: vI i :: vT t :: r) S cs := by
  intro ad H locs ls hL hC hcl hR hE hS
  obtain ⟨hx, hb, hml, hown, hV, -, -⟩ := C
  obtain ⟨hn, hat⟩ := rep_arr hR (isRA_A hcd).1 ht
  obtain ⟨hty, hci⟩ := aTy_ra hcd
  obtain ⟨-, cellV, g1, g2, g3, -⟩ := rep_obj hR hci hu
  rw [aCell_r hcd] at hat
  have hcls := (hV.2.1.1 ci hci).2
  have hra := (hV.2.1.2.1 (110 + ci) (isRA_A hcd).1).2
  rw [hty] at hra
  obtain ⟨kA, comp, k1, k2, k3, -⟩ := hra
  have hcomp : comp = D.1.1 ci := Option.some.inj (k3.symm.trans hcls.1)
  subst hcomp
  obtain ⟨kC, hkC, -⟩ := hcls.2
  have hlt : (Int32.ofInt i).toNatClampNeg < n := by rw [oI_nat h0 (by omega)]; omega
  have hn0 : ¬ Int32.ofInt i < 0 := fun q => vin h0 h1 hn (Or.inl q)
  refine W.aast hx hb hat (fun q h => by cases h) (fun h => by cases h) k1 k2 rfl hkC ⟨hn0, by show _ < (arrV _ _ _).slots.size; rw [arrV_size]; exact hlt⟩ g1 (fun q h => by rw [g3] at h; cases h) (by rw [g2]; exact hkC) (by rw [g2]; exact va_assign hcls) rfl rfl hd fun H' e1 e2 e3 => ?_
  refine kk ad H' _ ls hL hC hcl.tl.tl.tl (hR.put ht rfl (fun t' h => rfl) (fun t' h => by funext j; simp [updR, h]) (fun j v hv => ?_) ?_ e3) (hE.put rfl) (hS.put e2 e3 (hE.inF ht (isRA_A hcd).2.2.2))
  · simp only [updR] at hv
    split at hv
    · cases hv; rw [hu]; exact fun q => by cases q
    · exact hR.2.2 t _ j v ht hv
  · rw [repAt_a (isRA_A hcd).1, e1, oI_nat h0 (by omega), aCell_r hcd]
    refine congrArg some ?_
    exact arrV_upd (by simp [updR, va_rf]) (fun j hj => by simp [updR, hj])
theorem g_alen {ini : Bool} (C : CX p l s m meth c D ad0 S0 nL cc own ini) {t cd n : Nat} (hd : decode cc pc = .ok (.arraylength, 1)) (ht : S.1 t = some (cd, n)) (hcd : 100 ≤ cd)
    (kk : G p l e R s m args below meth c Q D ad0 S0 nL (pc + 1) L (vI n :: r) S cs) : G p l e R s m args below meth c Q D ad0 S0 nL pc L (vT t :: r) S cs := by
  intro ad H locs ls hL hC hcl hR hE hS
  obtain ⟨hx, hb, hml, hown, hV, -, -⟩ := C
  have k := kk ad H locs ls hL hC (CL.cons VOK.i hcl.tl) hR hE hS
  have e0 : n.toInt32 = Int32.ofInt (n : Int) := Int32.ofInt_eq_ofNat.symm
  rcases okTy_cases (hR.1 t _ ht).1 with ⟨q, -⟩ | ⟨-, q | q, hn⟩
  · exact absurd q (by show ¬ cd < 8; omega)
  · obtain ⟨-, hat⟩ := rep_arr hR q ht
    obtain ⟨f, hf⟩ := aCell_v (S := S) (ad := ad) (t := t) (cd := cd) (n := n) (cA := D.2.1 cd)
    rw [hf] at hat
    exact W.alen hx hb hat ((hV.2.1.2.1 cd q).1 n f) (by rw [arrV_size]; exact e0) rfl rfl hd k
  · have q : cd = 102 := q
    subst q
    have h2 := (hR.1 t _ ht).2
    unfold RepAt at h2
    rw [if_neg (show ¬ (102 : Nat) < 8 by decide), if_pos rfl] at h2
    obtain ⟨scr, a1, a2, a3, a4, a5⟩ := h2
    exact W.alen hx hb a1 (hV.2.1.2.2 scr a2) (by rw [a4]; exact e0) rfl rfl hd k
end SNDH
