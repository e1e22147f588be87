theorem ag_stitch {n : Int} {B : Nat → Nat} {N : Nat} {S R : Sto} {d x w : Int} (h : CI B N S R) (hI : MI n R) (hd : InR d) (hx : InR x) (hw : InR w) {post : Res → Sto → Prop} (hp : ∀ r S1, okr [0, 1] r = true → tyF S S1 → agC em1 (stitchR R d x w) r S1 → post r S1) : s_stitchC [vT 1, vI d, vI x, vI w] S post := by
  have e3 := h.2.1.2.1
  refine ⟨wOf B R, h.cw hI, ⟨hd, hx, hw⟩, fun hn => hp _ _ rfl (fun _ _ => rfl) fun k v R' ho => ?_, fun hv hn => hp _ _ rfl (fun _ _ => rfl) fun k v R' ho => ?_, fun hv hw' => ⟨fun hn => hp _ _ rfl (fun _ _ => rfl) fun k v R' ho => ?_, fun p hin => hp _ _ rfl (fun _ _ => rfl) fun k v R' ho => ?_⟩⟩
  · obtain ⟨o1, o2, o3⟩ := ho
    rw [e3] at hn
    rw [if_pos (by omega)] at o1
    rw [o2]
    exact ⟨o1, B, N, h.th hI _⟩
  · obtain ⟨o1, o2, o3⟩ := ho
    rw [e3] at hv
    rw [if_neg (by omega), if_neg hn] at o1
    rw [o2]
    exact ⟨o1, B, N, h.th hI _⟩
  · obtain ⟨o1, o2, o3⟩ := ho
    rw [e3] at hv
    rw [if_neg (by omega), if_pos hw'] at o1
    rw [o2]
    refine ⟨⟨o1, ?_⟩, B, N, h.th hI _⟩
    have hD := hI.2.2.2.1 d hv.1 hv.2.1
    rw [o3 o1]
    refine if_pos ?_
    rcases (show x < mnK R d ∨ mnK R d ≤ x by omega) with q | q
    · exfalso
      obtain ⟨p, p1, p2, p3, -⟩ := hD.pl (j := x.toNat) (by omega)
      refine hn p ?_
      show p < (shN R ((d.toNat : Nat) : Int)).toNat ∧ (bgN (dQ R ((d.toNat : Nat) : Int)) p : Int) ≤ x ∧ x < (bgN (dQ R ((d.toNat : Nat) : Int)) (p + 1) : Int)
      rw [Int.toNat_of_nonneg hv.1]
      omega
    · exact q
  · obtain ⟨o1, o2, o3⟩ := ho
    rw [e3] at hv
    rw [if_neg (by omega), if_pos hw'] at o1
    rw [o2]
    refine ⟨⟨o1, ?_⟩, B, N, h.th hI _⟩
    have hD := hI.2.2.2.1 d hv.1 hv.2.1
    obtain ⟨-, -, -, -, a5, a6, -⟩ := h.2.2.2.1 d.toNat (by omega)
    have hin2 : p < (shN R ((d.toNat : Nat) : Int)).toNat ∧ (bgN (dQ R ((d.toNat : Nat) : Int)) p : Int) ≤ x ∧ x < (bgN (dQ R ((d.toNat : Nat) : Int)) (p + 1) : Int) := hin
    rw [Int.toNat_of_nonneg hv.1] at a5 a6 hin2
    have hend := hD.end
    have hmo := bgN_mono (P := dQ R d) (a := p + 1) (shN R d).toNat (by omega)
    obtain ⟨p', p1, p2, p3, p4, -⟩ := hD.pl (j := x.toNat) (by omega)
    have e := bgN_uq (P := dQ R d) (a := p) (b := p') (k := x.toNat) (by omega) (by omega) p2 p3
    subst e
    have c1 := a5.1 x.toNat (by omega)
    rw [Int.toNat_of_nonneg hv.2.2] at c1 p4
    have c2 := a6 p (by omega)
    rw [o3 o1, if_neg (by omega)]
    show _ = (if w = 2 then S.2.1 (qT R B d.toNat p) 0 else if w = 0 then S.2.1 (4096 + 16 * d.toNat + 5) x.toNat % 16 else S.2.1 (4096 + 16 * d.toNat + 5) x.toNat / 16)
    rw [c1, c2, p4]
    by_cases w2 : w = 2
    · rw [if_neg (by omega), if_neg (by omega), if_pos w2]
    · rw [if_neg w2]
      by_cases w0 : w = 0
      · rw [if_pos w0, if_pos w0]; omega
      · rw [if_neg w0, if_neg w0, if_pos (by omega)]; omega
theorem ag_ofMachine {n : Int} {B : Nat → Nat} {N : Nat} {S R : Sto} {i w : Int} (h : CI B N S R) (hI : MI n R) (hi : InR i) (hw : InR w) {post : Res → Sto → Prop} (hp : ∀ r S1, okr [0, 1] r = true → tyF S S1 → agC em1 (ofMachineR R i w) r S1 → post r S1) : s_ofMachineC [vT 1, vI i, vI w] S post := by
  have e5 := h.2.1.2.2.1
  have e7 := h.2.1.2.2.2
  refine ⟨wOf B R, h.cw hI, ⟨hi, hw⟩, fun hn => hp _ _ rfl (fun _ _ => rfl) fun k v R' ho => ?_, fun hv hn => hp _ _ rfl (fun _ _ => rfl) fun k v R' ho => ?_, fun hv hw' => ?_⟩
  · obtain ⟨o1, o2, o3⟩ := ho
    rw [e5] at hn
    rw [if_pos hn] at o1
    rw [o2]
    exact ⟨o1, B, N, h.th hI _⟩
  · obtain ⟨o1, o2, o3⟩ := ho
    rw [e5] at hv
    rw [if_neg (fun y => y hv), if_neg hn] at o1
    rw [o2]
    exact ⟨o1, B, N, h.th hI _⟩
  · rw [e5] at hv
    obtain ⟨-, ⟨b0, b1, b2, b3, b5, b6, b7⟩, a3, -⟩ := h.2.2.2.2.1 i.toNat (by omega)
    rw [Int.toNat_of_nonneg hv.1] at a3 b5 b6 b7
    have hj := (hI.2.2.2.2.1 i hv.1 hv.2).2.2.2.2.2.2.2
    have key : ∀ x, (∀ k v R', ofMachineR R i w k v R' → k = 0 → v = x) → post (.inl (some (vI x))) S := fun x hx => hp _ _ rfl (fun _ _ => rfl) fun k v R' ho => by
      have hx' := hx k v R' ho
      obtain ⟨o1, o2, o3⟩ := ho
      rw [if_neg (fun y => y hv), if_pos hw'] at o1
      rw [o2]
      exact ⟨⟨o1, hx' o1⟩, B, N, h.th hI _⟩
    refine ⟨fun w0 hn => key _ fun k v R' ho k0 => ?_, fun o w0 ho' => key _ fun k v R' ho k0 => ?_, fun w1 => key _ fun k v R' ho k0 => ?_, fun w2 => key _ fun k v R' ho k0 => ?_, fun w3 => key _ fun k v R' ho k0 => ?_⟩
    · rw [ho.2.2 k0, if_pos w0]
      by_cases e : mg R 17 i = -1
      · exact e
      · rw [a3, if_neg e] at hn; cases hn
    · rw [ho.2.2 k0, if_pos w0]
      by_cases e : mg R 17 i = -1
      · rw [a3, if_pos e] at ho'; cases ho'
      · rw [a3, if_neg e] at ho'
        have e2 := Option.some.inj ho'
        have e3 : (mg R 17 i).toNat = o := by omega
        obtain ⟨-, ⟨c0, -⟩, -⟩ := h.2.2.2.2.2.1 o (by omega)
        rw [c0]; omega
    · rw [ho.2.2 k0, if_neg (by omega), if_pos w1, b5]
    · rw [ho.2.2 k0, if_neg (by omega), if_neg (by omega), if_pos w2, b6]
    · rw [ho.2.2 k0, if_neg (by omega), if_neg (by omega), if_neg (by omega), b7]
theorem ag_ofOrder {n : Int} {B : Nat → Nat} {N : Nat} {S R : Sto} {o w : Int} (h : CI B N S R) (hI : MI n R) (hi : InR o) (hw : InR w) {post : Res → Sto → Prop} (hp : ∀ r S1, okr [0, 1] r = true → tyF S S1 → agC em1 (ofOrderR R o w) r S1 → post r S1) : s_ofOrderC [vT 1, vI o, vI w] S post := by
  have e5 := h.2.1.2.2.1
  have e7 := h.2.1.2.2.2
  refine ⟨wOf B R, h.cw hI, ⟨hi, hw⟩, fun hn => hp _ _ rfl (fun _ _ => rfl) fun k v R' ho => ?_, fun hv hn => hp _ _ rfl (fun _ _ => rfl) fun k v R' ho => ?_, fun hv hw' => ?_⟩
  · obtain ⟨o1, o2, o3⟩ := ho
    rw [e7] at hn
    rw [if_pos hn] at o1
    rw [o2]
    exact ⟨o1, B, N, h.th hI _⟩
  · obtain ⟨o1, o2, o3⟩ := ho
    rw [e7] at hv
    rw [if_neg (fun y => y hv), if_neg hn] at o1
    rw [o2]
    exact ⟨o1, B, N, h.th hI _⟩
  · rw [e7] at hv
    obtain ⟨-, ⟨b0, b2, b4, b5, b6, b7⟩, a3, -⟩ := h.2.2.2.2.2.1 o.toNat (by omega)
    rw [Int.toNat_of_nonneg hv.1] at a3 b2 b4 b5 b6 b7
    obtain ⟨c24, -, -, hj, -⟩ := hI.2.2.2.2.2.1 o hv.1 hv.2
    have key : ∀ x, (∀ k v R', ofOrderR R o w k v R' → k = 0 → v = x) → post (.inl (some (vI x))) S := fun x hx => hp _ _ rfl (fun _ _ => rfl) fun k v R' ho => by
      have hx' := hx k v R' ho
      obtain ⟨o1, o2, o3⟩ := ho
      rw [if_neg (fun y => y hv), if_pos hw'] at o1
      rw [o2]
      exact ⟨⟨o1, hx' o1⟩, B, N, h.th hI _⟩
    refine ⟨fun w0 hn => key _ fun k v R' ho k0 => ?_, fun i w0 ho' => key _ fun k v R' ho k0 => ?_, fun w1 => key _ fun k v R' ho k0 => ?_, fun w1 => key _ fun k v R' ho k0 => ?_, fun w1 => key _ fun k v R' ho k0 => ?_, fun w1 => key _ fun k v R' ho k0 => ?_, fun w1 => key _ fun k v R' ho k0 => ?_, fun w1 => key _ fun k v R' ho k0 => ?_⟩
    · rw [ho.2.2 k0, w0]
      by_cases e : mg R 27 o = -1
      · exact e
      · rw [a3, if_neg e] at hn; cases hn
    · rw [ho.2.2 k0, w0]
      by_cases e : mg R 27 o = -1
      · rw [a3, if_pos e] at ho'; cases ho'
      · rw [a3, if_neg e] at ho'
        have e2 := Option.some.inj ho'
        have e3 : (mg R 27 o).toNat = i := by omega
        obtain ⟨-, ⟨c0, -⟩, -⟩ := h.2.2.2.2.1 i (by omega)
        show mg R 27 o = _
        rw [c0]; omega
    · rw [ho.2.2 k0, w1, b4]; rfl
    · rw [ho.2.2 k0, w1]
      obtain ⟨-, -, -, -, -, -, ⟨c0, -⟩, -⟩ := h.2.2.2.1 (mg R 24 o).toNat (by omega)
      show mg R 24 o = S.2.1 (4096 + 16 * (mg R 24 ((o.toNat : Nat) : Int)).toNat) 0
      rw [Int.toNat_of_nonneg hv.1, c0]; omega
    · rw [ho.2.2 k0, w1, b2]; rfl
    · rw [ho.2.2 k0, w1, b5]; rfl
    · rw [ho.2.2 k0, w1, b6]; rfl
    · rw [ho.2.2 k0, w1, b7]; rfl

