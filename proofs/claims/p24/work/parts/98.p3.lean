/-! THE PROPERTY: a design's stitches by colours, its sequence, its far steps -/
theorem edge_pos {S : Sto} {k its : Int} : ∀ n c : Nat, c < n → edgP S k ((c : Int) % 16) ((c : Int) / 16) → 1 ≤ (edgeK S k its n).length
  | 0, c, h, _ => by omega
  | n + 1, c, h, he => by
    unfold edgeK
    rw [List.length_append]
    by_cases e : c = n
    · rw [if_pos (by rw [← e]; exact he)]
      simp
    · have := edge_pos (its := its) n c (by omega) he
      omega
theorem stL_2 {S : Sto} {k its : Int} (h : shOK S k) : 2 ≤ (stL S k its).length := by
  have hs := h
  unfold shOK at hs
  unfold stL
  rw [List.length_append]
  obtain ⟨g, hg⟩ : ∃ g : Nat, (mg S 7 k).toNat = g + 1 := ⟨(mg S 7 k).toNat - 1, by omega⟩
  have h1 : 1 ≤ (rowsK S k its (mg S 7 k).toNat).length := by
    rw [hg]
    show 1 ≤ (rowsK S k its g ++ rowK S k its g (wideF (mg S 2 k) (mg S 6 k) g).toNat).length
    rw [List.length_append, rowK_len]
    have := wideF_r h g (by omega)
    omega
  have hw := wideF_r h 0 (by omega)
  have h2 : 1 ≤ (edgeK S k its 256).length := by
    refine edge_pos 256 (16 * mg S 5 k + mg S 4 k).toNat (by omega) ?_
    have e1 : (((16 * mg S 5 k + mg S 4 k).toNat : Nat) : Int) % 16 = mg S 4 k := by omega
    have e2 : (((16 * mg S 5 k + mg S 4 k).toNat : Nat) : Int) / 16 = mg S 5 k := by omega
    rw [e1, e2]
    refine ⟨?_, fun z => ?_⟩
    · unfold hasK hasP
      rw [show mg S 5 k - mg S 5 k = 0 by omega]
      omega
    · have := z.1
      unfold hasK hasP at this
      omega
  omega
/-- where the stitches of a place begin -/
noncomputable abbrev bgD (R : Sto) (d : Int) (p : Nat) : Nat := bgN (dQ R d) p
theorem des_len {R : Sto} {d : Int} (h : desI R d) {p : Nat} (hp : (p : Int) < shN R d) : bgD R d p + 2 ≤ bgD R d (p + 1) := by
  have s1 := h.shq p hp
  have e : bgN (dQ R d) (p + 1) = bgN (dQ R d) p + (clsL (dQ R d p)).length := rfl
  have hc := cls_st s1.1 s1.2
  have h2 := stL_2 (its := seqK R d p) s1.1
  have e2 : (clsL (dQ R d p)).length = (stL R (7 * d + seqK R d p) (seqK R d p)).length := by
    rw [show clsL (dQ R d p) = _ from hc, List.length_map]
  show bgN (dQ R d) p + 2 ≤ bgN (dQ R d) (p + 1)
  omega
theorem des_all {R : Sto} {d : Int} (h : desI R d) : ∀ p : Nat, (p : Int) ≤ shN R d → 2 * p ≤ bgD R d p
  | 0, _ => Nat.zero_le _
  | p + 1, hp => by
    have h1 := des_all h p (by omega)
    have h2 := des_len h (p := p) (by omega)
    omega
theorem des_its {R : Sto} {d : Int} (h : desI R d) {p : Nat} (hp : (p : Int) < shN R d) {j : Nat} (h0 : bgD R d p ≤ j) (h1 : j < bgD R d (p + 1)) : stK R d (j : Int) / 256 = seqK R d p := by
  have e : bgN (dQ R d) (p + 1) = bgN (dQ R d) p + (clsL (dQ R d p)).length := rfl
  have h0' : bgN (dQ R d) p ≤ j := h0
  have h1' : j < bgN (dQ R d) (p + 1) := h1
  have := (h.code hp (i := j - bgN (dQ R d) p) (by omega)).1
  rw [show bgN (dQ R d) p + (j - bgN (dQ R d) p) = j by omega] at this
  exact this
/-- the shapes sewn ahead of each place, as bits -/
theorem des_set {R : Sto} {d : Int} (h : desI R d) : ∃ W : Nat → Nat, W 0 = 0 ∧ W (shN R d).toNat = 2 ^ (shN R d).toNat - 1 ∧ ∀ p : Nat, (p : Int) < shN R d → W p < 128 ∧ (W p).testBit (seqK R d p).toNat = false ∧ W (p + 1) = W p ||| 2 ^ (seqK R d p).toNat := by
  obtain ⟨⟨-, -, n1, n7, -⟩, ⟨nd, h1, h2⟩, -, -⟩ := h
  have hok := h1.ok
  have h7 : (shN R d).toNat ≤ 7 := by omega
  refine ⟨fun p => (gseq (shN R d).toNat (colF R d) nd p).1, rfl, ?_, fun p hp => ?_⟩
  · obtain ⟨a1, a2, -⟩ := gseq_ok (col := colF R d) h7 hok (shN R d).toNat (Nat.le_refl _)
    exact bc_fulle a1 a2
  · obtain ⟨x, g1, g2, g3, g4, -⟩ := gseq_step (col := colF R d) h7 hok (p := p) (by omega)
    obtain ⟨a1, -⟩ := gseq_ok (col := colF R d) h7 hok p (by omega)
    have e : (seqK R d p).toNat = x := by rw [h2 p (by omega), g1, Int.toNat_natCast]
    have hp7 : 2 ^ (shN R d).toNat ≤ 128 := Nat.pow_le_pow_right (n := 2) (by omega) h7
    rw [e]
    dsimp only
    exact ⟨by omega, g3, by rw [g4]⟩
theorem des_ne {R : Sto} {d : Int} (h : desI R d) {p : Nat} (hp : (p : Int) + 1 < shN R d) : seqK R d p ≠ seqK R d ((p + 1 : Nat) : Int) := by
  obtain ⟨W, -, -, w3⟩ := des_set h
  obtain ⟨-, -, a3⟩ := w3 p (by omega)
  obtain ⟨-, b2, -⟩ := w3 (p + 1) (by omega)
  intro e
  rw [← e, a3, Nat.testBit_or, Nat.testBit_two_pow_self] at b2
  simp at b2
/-- every stitch has one colour -/
theorem cnt_6 {R : Sto} {d : Int} (h : desI R d) : ∀ n : Nat, (n : Int) ≤ mnK R d → sumTo (fun c => cntC R d (c : Int) n) 6 = n
  | 0, _ => rfl
  | n + 1, hn => by
    have ih := cnt_6 h n (by omega)
    have hc := h.stR (j := n) (by omega) (by omega)
    have e : ∀ c : Int, cntC R d c (n + 1) = cntC R d c n + (if c = -1 ∨ clK R d n = c then 1 else 0) := fun c => rfl
    have e2 : sumTo (fun c => cntC R d (c : Int) (n + 1)) 6 = sumTo (fun c => cntC R d (c : Int) n) 6 + sumTo (fun c : Nat => if (c : Int) = -1 ∨ clK R d n = (c : Int) then 1 else 0) 6 := sum_split 6
    have e3 : sumTo (fun c : Nat => if (c : Int) = -1 ∨ clK R d n = (c : Int) then (1 : Int) else 0) 6 = 1 := by
      have h0 := hc.2.1
      have h1 := hc.2.2.1
      generalize clK R d n = x at *
      rcases (show x = 0 ∨ x = 1 ∨ x = 2 ∨ x = 3 ∨ x = 4 ∨ x = 5 by omega) with rfl | rfl | rfl | rfl | rfl | rfl <;> decide
    rw [e2, ih, e3, Int.natCast_add]
    rfl
theorem cnt_all {R : Sto} {d : Int} (n : Nat) : cntC R d (-1) n = n := by
  unfold cntC
  rw [sum_const (v := 1) _ (fun i _ => by rw [if_pos (Or.inl rfl)])]
  omega
theorem cnt_r {R : Sto} {d c : Int} (n : Nat) : 0 ≤ cntC R d c n ∧ cntC R d c n ≤ n := by
  unfold cntC
  exact ⟨sumTo_0n (fun j => by split <;> omega) n, sumTo_le (fun j => by split <;> omega) n⟩
theorem chg_lt {R : Sto} {d : Int} (h : desI R d) : 0 ≤ chgN R d (shN R d).toNat ∧ chgN R d (shN R d).toNat < shN R d := by
  have h3 := h.1.2.2.1
  unfold chgN
  have h1 := sumTo_0n (f := fun p : Nat => if colK R d (seqK R d p) = colK R d (seqK R d ((p : Int) + 1)) then (0 : Int) else 1) (fun j => by split <;> omega) ((shN R d).toNat - 1)
  have h2 := sumTo_le (f := fun p : Nat => if colK R d (seqK R d p) = colK R d (seqK R d ((p : Int) + 1)) then (0 : Int) else 1) (fun j => by split <;> omega) ((shN R d).toNat - 1)
  omega
/-- from the stitch ahead of it to the stitch j it is far -/
def farP2 (R : Sto) (d j : Int) : Prop := offP (stK R d j % 16) (stK R d (j - 1) % 16) ∨ offP (stK R d j / 16 % 16) (stK R d (j - 1) / 16 % 16)
noncomputable def farI (R : Sto) (d j : Int) : Int := @ite _ (farP2 R d j) (Classical.propDecidable _) 1 0
noncomputable def farN (R : Sto) (d : Int) (n : Nat) : Int := sumTo (fun j => farI R d ((j : Int) + 1)) (n - 1)
theorem farI_r {R : Sto} {d j : Int} : 0 ≤ farI R d j ∧ farI R d j ≤ 1 := by
  unfold farI
  by_cases e : farP2 R d j
  · rw [if_pos e]; omega
  · rw [if_neg e]; omega
theorem farN_0 (R : Sto) (d : Int) : farN R d 0 = 0 := rfl
theorem farN_1 (R : Sto) (d : Int) : farN R d 1 = 0 := rfl
theorem farN_s (R : Sto) (d : Int) {k : Nat} (hk : 1 ≤ k) : farN R d (k + 1) = farN R d k + farI R d (k : Int) := by
  obtain ⟨j, rfl⟩ : ∃ j, k = j + 1 := ⟨k - 1, by omega⟩
  show sumTo _ j + farI R d ((j : Int) + 1) = sumTo _ j + farI R d ((j + 1 : Nat) : Int)
  rw [Int.natCast_add]; rfl
theorem farN_r {R : Sto} {d : Int} (n : Nat) : 0 ≤ farN R d n ∧ farN R d n ≤ n := by
  have h1 := sumTo_0n (f := fun j : Nat => farI R d ((j : Int) + 1)) (fun j => farI_r.1) (n - 1)
  have h2 := sumTo_le (f := fun j : Nat => farI R d ((j : Int) + 1)) (fun j => farI_r.2) (n - 1)
  unfold farN
  omega
theorem sum_le {f g : Nat → Int} : ∀ n : Nat, (∀ j, j < n → f j ≤ g j) → sumTo f n ≤ sumTo g n
  | 0, _ => Int.le_refl _
  | n + 1, h => by
    have := sum_le n (fun j hj => h j (by omega))
    have := h n (by omega)
    show sumTo f n + f n ≤ sumTo g n + g n
    omega
theorem jmp_far {R : Sto} {d : Int} (n : Nat) : jmpN R d 1 n + jmpN R d 0 n ≤ farN R d n := by
  have e := sum_split (f := fun j : Nat => jmpI R d 1 ((j : Int) + 1)) (g := fun j : Nat => jmpI R d 0 ((j : Int) + 1)) (n - 1)
  have e2 : jmpN R d 1 n + jmpN R d 0 n = sumTo (fun j : Nat => jmpI R d 1 ((j : Int) + 1) + jmpI R d 0 ((j : Int) + 1)) (n - 1) := e.symm
  rw [e2]
  refine sum_le _ fun j _ => ?_
  show jmpI R d 1 ((j : Int) + 1) + jmpI R d 0 ((j : Int) + 1) ≤ farI R d ((j : Int) + 1)
  generalize (j : Int) + 1 = q
  unfold jmpI farI
  by_cases f : farP2 R d q
  · rw [if_pos f]
    by_cases a : jmpP R d 1 q
    · rw [if_pos a]
      by_cases b : jmpP R d 0 q
      · exact absurd (b.2.2.mp (a.2.2.mpr rfl)) (by omega)
      · rw [if_neg b]; omega
    · rw [if_neg a]
      by_cases b : jmpP R d 0 q
      · rw [if_pos b]; omega
      · rw [if_neg b]; omega
  · rw [if_neg f, if_neg (fun a => f a.2.1), if_neg (fun a => f a.2.1)]
    omega
theorem jmp_r {R : Sto} {d hid : Int} (n : Nat) : 0 ≤ jmpN R d hid n ∧ jmpN R d hid n ≤ n := by
  have h1 := sumTo_0n (f := fun j : Nat => jmpI R d hid ((j : Int) + 1)) (fun j => jmpI_0.1) (n - 1)
  have h2 := sumTo_le (f := fun j : Nat => jmpI R d hid ((j : Int) + 1)) (fun j => jmpI_0.2) (n - 1)
  unfold jmpN
  omega

