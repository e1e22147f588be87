theorem stepP_det {n : Int} {R R1 R2 : Sto} {m : Int} (h : MI n R) (m0 : 0 ≤ m) (m1 : m < nM R) (h1 : stepP R m R1) (h2 : stepP R m R2) : R1 = R2 := by
  obtain ⟨j0, t0, r, T, hT, rfl⟩ := h1
  obtain ⟨-, -, r', T', hT', rfl⟩ := h2
  have hmc := h.2.2.2.2.1 m m0 m1
  have h14 := hmc.1.2
  have hd := hmc.2.2.2.2.2.2.1
  have hc0 := (h.job m0 m1 j0).2.2.2.2.2.2.1.1
  have uq : ∀ a b, 0 ≤ a → a < mg R 14 m → 0 ≤ b → b < mg R 14 m → hdK R m a ≠ -1 → hdK R m b ≠ -1 → (hdK R m a = hdK R m b ∨ ltK R m a = ltK R m b) → a = b := fun a b a0 a1 b0 b1 ea eb w => by
    rcases (show a = b ∨ a < b ∨ b < a by omega) with v | v | v
    · exact v
    · have z := hd a b a0 v (by omega)
      rcases w with w | w
      · exact absurd w (z.1 ea)
      · exact absurd w (z.2 ea eb)
    · have z := hd b a b0 v (by omega)
      rcases w with w | w
      · exact absurd w.symm (z.1 eb)
      · exact absurd w.symm (z.2 eb ea)
  have hrr : r = r' ∧ T = T' := by
    rcases hT with ⟨⟨a1, a2, a3⟩, e⟩ | ⟨⟨a1, a2, a3, a4⟩, e⟩
    · rcases hT' with ⟨⟨b1, b2, b3⟩, e'⟩ | ⟨⟨b1, -⟩, -⟩
      · exact ⟨uq r r' a1 a2 b1 b2 (by omega) (by omega) (Or.inl (a3.trans b3.symm)), e.trans e'.symm⟩
      · exact absurd a3 (b1 r a1 a2)
    · rcases hT' with ⟨⟨b1, b2, b3⟩, -⟩ | ⟨⟨b1, b2, b3, b4⟩, e'⟩
      · exact absurd b3 (a1 r' b1 b2)
      · have hr : r = r' := by
          rcases a4 with ⟨c1, c2⟩ | ⟨c1, c2⟩
          · rcases b4 with ⟨d1, d2⟩ | ⟨d1, -⟩
            · rcases (show r = r' ∨ r < r' ∨ r' < r by omega) with v | v | v
              · exact v
              · exact absurd c1 (d2 r a2 v)
              · exact absurd d1 (c2 r' b2 v)
            · exact absurd c1 (d1 r a2 a3)
          · rcases b4 with ⟨d1, -⟩ | ⟨d1, d2⟩
            · exact absurd d1 (c1 r' b2 b3)
            · have y1 := c2 r' b2 b3
              have y2 := d2 r a2 a3
              exact uq r r' a2 a3 b2 b3 (c1 r a2 a3) (c1 r' b2 b3) (Or.inr (by omega))
        exact ⟨hr, by rw [e, e', hr]⟩
  rw [hrr.1, hrr.2]
/-- a complete run of the reference -/
def runP (R : Sto) (m st v : Int) (ch : Nat → Sto) : Prop := ch 0 = thr R 0 ∧ 0 ≤ v ∧ v ≤ st ∧ (∀ i : Nat, (i : Int) < v → stepP (ch i) m (ch (i + 1))) ∧ (v = st ∨ mg (ch v.toNat) 17 m = -1 ∨ (0 ≤ jbO (ch v.toNat) m ∧ mg (ch v.toNat) 22 (jbT (ch v.toNat) m) = 0))
theorem runP_det {n : Int} {R : Sto} {m st v : Int} {ch ch' : Nat → Sto} {x : Nat} (hn : n + 1 ≤ 15000) (hI : MI n R) (m0 : 0 ≤ m) (m1 : m < nM R) (hs : st ≤ 100000) (hx : (x : Int) ≤ st) (h0 : ch 0 = thr R 0) (hch : ∀ i : Nat, i < x → stepP (ch i) m (ch (i + 1))) (hM : ∀ i : Nat, i ≤ x → MI (n + 1) (ch i) ∧ nM (ch i) = nM R) (hr : runP R m st v ch') : ∀ i : Nat, i ≤ x → (i : Int) ≤ v ∧ ch' i = ch i := by
  obtain ⟨r0, r1, r2, r3, r4⟩ := hr
  intro i
  induction i with
  | zero => intro _; exact ⟨r1, r0.trans h0.symm⟩
  | succ i ih =>
    intro hi
    obtain ⟨y1, y2⟩ := ih (by omega)
    have hst := hch i (by omega)
    have hlt : (i : Int) < v := by
      rcases (show (i : Int) < v ∨ v = i by omega) with w | w
      · exact w
      · exfalso
        rw [w, Int.toNat_natCast, y2] at r4
        obtain ⟨j0, t0, -⟩ := hst
        rcases r4 with w1 | w1 | w1
        · omega
        · have : jbO (ch i) m = -1 := w1
          omega
        · omega
    refine ⟨by omega, ?_⟩
    have s1 := r3 i hlt
    rw [y2] at s1
    obtain ⟨hMi, hni⟩ := hM i (by omega)
    exact stepP_det hMi m0 (by omega) s1 hst
theorem strE_ty {W : GW} {S S4 : Sto} {i o p : Nat} {c s k : Int} (h : strE W S i o p c s k S4) : S4.1 = S.1 := by
  obtain ⟨S2, S3, hsew, hob, -, -, hfin⟩ := h
  have e : S3.1 = S.1 := hob.1.trans hsew.1
  rcases hfin with ⟨-, rfl⟩ | ⟨-, rfl⟩
  · rw [endS_1]; exact e
  · exact e
theorem ag_run {n : Int} {B : Nat → Nat} {N : Nat} {S R : Sto} {m st : Int} (h : CI B N S R) (hI : MI n R) (hn : n + 1 ≤ 15000) (him : InR m) (his : InR st) {post : Res → Sto → Prop} (hp : ∀ r S1, okr [0, 1, 2] r = true → tyF S S1 → agC em1 (runR R m st) r S1 → post r S1) : s_runC [vT 1, vI m, vI st] S post := by
  have e5 := h.2.1.2.2.1
  refine ⟨wOf B R, h.cw hI, ⟨him, his⟩, fun hn => hp _ _ rfl (fun _ _ => rfl) fun k v R' ho => ?_, fun hv hn => hp _ _ rfl (fun _ _ => rfl) fun k v R' ho => ?_, fun hv hs => ?_⟩
  · obtain ⟨o1, o2, -⟩ := ho
    rw [e5] at hn
    rw [if_pos hn] at o1
    rw [o2 (by omega)]
    exact ⟨o1, B, N, h.th hI _⟩
  · obtain ⟨o1, o2, -⟩ := ho
    rw [e5] at hv
    rw [if_neg (fun y => y hv), if_pos hn] at o1
    rw [o2 (by omega)]
    exact ⟨o1, B, N, h.th hI _⟩
  · rw [e5] at hv
    obtain ⟨m0, m1⟩ := hv
    have hmm : ((m.toNat : Nat) : Int) = m := Int.toNat_of_nonneg m0
    have a3 : S.2.2 (1024 + 16 * m.toNat) 4 = if mg R 17 m = -1 then none else some (2048 + 16 * (mg R 17 m).toNat) := by
      have := (h.2.2.2.2.1 m.toNat (by omega)).2.2.1
      rw [hmm] at this; exact this
    refine ⟨fun hj => hp _ _ rfl (fun _ _ => rfl) fun k v R' ho => ?_, fun hj => ?_⟩
    · obtain ⟨o1, o2, -⟩ := ho
      have e : mg R 17 m = -1 := by
        by_cases e : mg R 17 m = -1
        · exact e
        · rw [a3, if_neg e] at hj; cases hj
      rw [if_neg (fun y => y ⟨m0, m1⟩), if_neg (fun y => y hs), if_pos e] at o1
      rw [o2 (by omega)]
      exact ⟨o1, B, N, h.th hI _⟩
    · have hne : mg R 17 m ≠ -1 := fun e => hj (by rw [a3, if_pos e])
      have hmc := hI.2.2.2.2.1 m m0 m1
      have hMI : ∀ (ch : Nat → Sto) (L : Nat), ch 0 = thr R 0 → L ≤ 100000 → (∀ i : Nat, i < L → stepP (ch i) m (ch (i + 1))) → ∀ i : Nat, i ≤ L → MI (n + 1) (ch i) ∧ nM (ch i) = nM R := fun ch L c0 hL hs i hi => by
        have g18 : mg (ch 0) 18 m = mg R 18 m := by rw [c0]; exact th_mg'
        have g19 : mg (ch 0) 19 m = mg R 19 m := by rw [c0]; exact th_mg'
        have gn : nM (ch 0) = nM R := by rw [c0]; rfl
        obtain ⟨y1, y2, -⟩ := run_MI (n := n) (m := m) (ch := ch) (by rw [c0]; exact (hI.up hn).th0) m0 (by rw [gn]; exact m1) ⟨by rw [g19]; exact hmc.2.2.2.2.1.2, by rw [g18]; exact hmc.2.2.2.1.2⟩ i (by omega) (fun q hq => hs q (by omega))
        exact ⟨y1, y2.trans gn⟩
      have fin : ∀ (x : Int) (S1 : Sto), 0 ≤ x → tyF S S1 → (∀ v ch, runP R m st v ch → x = v ∧ CI B N S1 (ch x.toNat)) → post (.inl (some (vI x))) S1 := fun x S1 x0 hty hx => hp _ _ rfl hty fun k v R' ho => by
        obtain ⟨o1, -, o3⟩ := ho
        rw [if_neg (fun y => y ⟨m0, m1⟩), if_neg (fun y => y hs), if_neg hne] at o1
        obtain ⟨ch, c0, v0, v1, cv, cs, ce⟩ := o3 o1
        rw [← cv] at ce
        obtain ⟨y1, y2⟩ := hx v ch ⟨c0, v0, v1, cs, ce⟩
        refine ⟨⟨o1, y1.symm⟩, B, N, ?_⟩
        rw [← cv, ← y1]; exact y2
      refine ⟨fun x S1 => tyF S S1 ∧ ∃ ch : Nat → Sto, ch 0 = thr R 0 ∧ (∀ i : Nat, i < x.toNat → stepP (ch i) m (ch (i + 1))) ∧ CI B N S1 (ch x.toNat), ⟨fun _ _ => rfl, fun _ => thr R 0, rfl, fun i hi => by simp at hi, h.th hI _⟩, fun S1 hJ => ?_, fun x S1 x0 xs hJ => ?_⟩
      · obtain ⟨hty, ch, c0, cs, cI⟩ := hJ
        refine fin st S1 (by omega) hty fun v ch' hr => ?_
        have hd := runP_det (x := st.toNat) hn hI m0 m1 hs.2 (by omega) c0 cs (hMI ch st.toNat c0 (by omega) cs) hr st.toNat (Nat.le_refl _)
        have hv2 := hr.2.2.1
        exact ⟨by omega, by rw [hd.2]; exact cI⟩
      · obtain ⟨hty, ch, c0, cs, cI⟩ := hJ
        obtain ⟨xn, hxn⟩ : ∃ xn : Nat, x = xn := ⟨_, (Int.toNat_of_nonneg x0).symm⟩
        have hxt : x.toNat = xn := by omega
        rw [hxt] at cs cI
        have hMall := hMI ch xn c0 (by omega) cs
        obtain ⟨hMx, hnx⟩ := hMall xn (Nat.le_refl _)
        have fin2 : (¬ ∃ R'', stepP (ch xn) m R'') → post (.inl (some (vI x))) S1 := fun hno => fin x S1 x0 hty fun v ch' hr => by
          have hd := runP_det (x := xn) hn hI m0 m1 hs.2 (by omega) c0 cs hMall hr xn (Nat.le_refl _)
          rw [hxt]
          refine ⟨?_, by rw [hd.2]; exact cI⟩
          rcases (show x = v ∨ (xn : Int) < v by omega) with w | w
          · exact w
          · exact (hno (by rw [← hd.2]; exact ⟨_, hr.2.2.2.1 xn w⟩)).elim
        have m1x : m < nM (ch xn) := by omega
        have b3 : S1.2.2 (1024 + 16 * m.toNat) 4 = if mg (ch xn) 17 m = -1 then none else some (2048 + 16 * (mg (ch xn) 17 m).toNat) := by
          have := (cI.2.2.2.2.1 m.toNat (by omega)).2.2.1
          rw [hmm] at this; exact this
        refine ⟨wOf B (ch xn), cI.cw hMx, by rw [cI.2.1.2.2.1]; exact m1x, fun hno => fin2 fun ⟨R'', hR''⟩ => ?_, fun o p c s k ho hor hP => ?_⟩
        · have e : mg (ch xn) 17 m = -1 := by
            by_cases e : mg (ch xn) 17 m = -1
            · exact e
            · rw [b3, if_neg e] at hno; cases hno
          have : 0 ≤ jbO (ch xn) m := hR''.1
          have e2 : jbO (ch xn) m = -1 := e
          omega
        · have hne2 : mg (ch xn) 17 m ≠ -1 := fun e => by rw [b3, if_pos e] at hor; cases hor
          have hj1 := (hMx.2.2.2.2.1 m m0 m1x).2.2.2.2.2.2.2.1
          have hjo : jbO (ch xn) m = (o : Int) := by
            rw [b3, if_neg hne2] at hor
            have := Option.some.inj hor
            show mg (ch xn) 17 m = o
            omega
          rw [cI.2.1.2.2.2] at ho
          obtain ⟨hc, hs2, hcl, hcol, hend, hmost, hstk⟩ := strP_R cI hMx ho hP
          have hjob := hMx.job m0 m1x (by rw [hjo]; omega)
          have hjc : jbC (ch xn) m = c := by
            show clK (ch xn) (mg (ch xn) 24 (jbO (ch xn) m)) (mg (ch xn) 29 (jbO (ch xn) m)) = c
            rw [hjo]; exact hcl
          have hsr := hjob.2.2.2.2.2.2.2.1
          rw [hjo, hjc] at hsr
          have hsr' : 0 ≤ s ∧ s < 3 := by rw [hs2]; exact hsr
          have hjt : jbT (ch xn) m = 3 * c + s := by
            show 3 * jbC (ch xn) m + mg (ch xn) 31 (6 * jbO (ch xn) m + jbC (ch xn) m) = 3 * c + s
            rw [hjc, hjo, hs2]
          obtain ⟨hk1, hk2⟩ := hstk hsr'.1 hsr'.2
          refine ⟨fun hk => fin2 fun ⟨R'', hR''⟩ => ?_, fun hk => ⟨hmost, fun S4 hE => ?_⟩⟩
          · have := hR''.2.1
            rw [hjt] at this
            have := hk2 (by omega) hk
            omega
          · obtain ⟨kn, hkn⟩ : ∃ kn : Nat, k = kn := ⟨_, (Int.toNat_of_nonneg (by omega)).symm⟩
            rw [hkn] at hend hcol
            have hcol' : ∀ j : Nat, j < kn → clK (ch xn) (mg (ch xn) 24 o) (mg (ch xn) 29 o + j) = c := fun j hj => hcol _ (by omega) (by omega)
            have hjd : jbD (ch xn) m = mg (ch xn) 24 o := by show mg (ch xn) 24 (jbO (ch xn) m) = _; rw [hjo]
            have str : ∀ (c2 : Nat → Sto) (L : Nat), (∀ i, i ≤ xn → c2 i = ch i) → 1 ≤ L → L ≤ kn → (∀ i : Nat, i < xn + L → stepP (c2 i) m (c2 (i + 1))) → ∃ r : Int, (0 ≤ r ∧ r < mg (ch xn) 14 m) ∧ (hdK (ch xn) m r = c ∨ newP (ch xn) m c r) ∧ stG (ch xn) (c2 (xn + L)) m o (mg (ch xn) 24 o) c (3 * c + s) r L := fun c2 L e L1 L2 hs3 => by
              have hMc := hMI c2 (xn + L) (by rw [e 0 (by omega)]; exact c0) (by omega) hs3
              have e0 : c2 (xn + 0) = ch xn := e xn (Nat.le_refl _)
              have := stretch (ch := fun i => c2 (xn + i)) (n := n + 1) (L := L) (k := kn) (m := m) (o := o) (d := mg (ch xn) 24 o) (c := c) (th := 3 * c + s) (fun i hi => (hMc (xn + i) (by omega)).1) m0 (fun i hi => by rw [(hMc (xn + i) (by omega)).2]; exact m1) (fun i hi => hs3 (xn + i) (by omega)) (by show jbO (c2 (xn + 0)) m = o; rw [e0]; exact hjo) (by show jbD (c2 (xn + 0)) m = _; rw [e0]; exact hjd) (by show 3 * c + mg (c2 (xn + 0)) 31 (6 * o + c) = _; rw [e0, hs2]) (by omega)
                (fun j hj => by show clK (c2 (xn + 0)) _ (mg (c2 (xn + 0)) 29 o + j) = c; rw [e0]; exact hcol' j hj) (by show mg (c2 (xn + 0)) 29 o + kn ≤ mnK (c2 (xn + 0)) _; rw [e0]; exact hend) L1 L2
              obtain ⟨r, w1, w2, w3⟩ := this
              have w3' := w3 L L1 (Nat.le_refl _)
              have w1' : 0 ≤ r ∧ r < mg (c2 (xn + 0)) 14 m := w1
              have w2' : hdK (c2 (xn + 0)) m r = c ∨ newP (c2 (xn + 0)) m c r := w2
              have w3'' : stG (c2 (xn + 0)) (c2 (xn + L)) m o (mg (ch xn) 24 o) c (3 * c + s) r L := w3'
              rw [e0] at w1' w2' w3''
              exact ⟨r, w1', w2', w3''⟩
            have ex : ∀ L : Nat, L ≤ kn → ∃ c2 : Nat → Sto, (∀ i, i ≤ xn → c2 i = ch i) ∧ ∀ i : Nat, i < xn + L → stepP (c2 i) m (c2 (i + 1)) := fun L => by
              induction L with
              | zero => intro _; exact ⟨ch, fun _ _ => rfl, fun i hi => cs i (by omega)⟩
              | succ L ih =>
                intro hL
                obtain ⟨c2, e, hs3⟩ := ih (by omega)
                have hMc := hMI c2 (xn + L) (by rw [e 0 (by omega)]; exact c0) (by omega) hs3
                obtain ⟨hMl, hnl⟩ := hMc (xn + L) (Nat.le_refl _)
                have step : ∃ R'', stepP (c2 (xn + L)) m R'' := by
                  by_cases z : L = 0
                  · subst z
                    have e0 : c2 (xn + 0) = ch xn := e xn (Nat.le_refl _)
                    rw [e0]
                    exact step_ex hMx m0 m1x (by rw [hjo]; omega) (by rw [hjt]; omega)
                  · obtain ⟨r, -, -, G⟩ := str c2 L e (by omega) (by omega) hs3
                    obtain ⟨y1, y2, y3, y4, y5⟩ := stG_job G m0 (by omega) (by omega) hjo hjd (by rw [hs2]) (by omega) (hcol' L (by omega))
                    exact step_ex hMl m0 (by omega) (by rw [y1]; omega) (by rw [y4, y5]; omega)
                obtain ⟨R'', hR''⟩ := step
                refine ⟨fun i => if i ≤ xn + L then c2 i else R'', fun i hi => by show (if i ≤ xn + L then c2 i else R'') = _; rw [if_pos (by omega)]; exact e i hi, fun i hi => ?_⟩
                show stepP (if i ≤ xn + L then c2 i else R'') m (if i + 1 ≤ xn + L then c2 (i + 1) else R'')
                rw [if_pos (by omega)]
                by_cases z : i + 1 ≤ xn + L
                · rw [if_pos z]; exact hs3 i (by omega)
                · rw [if_neg z, show i = xn + L by omega]; exact hR''
            obtain ⟨c2, e, hs3⟩ := ex kn (Nat.le_refl _)
            obtain ⟨r, w1, w2, G⟩ := str c2 kn e (by omega) (Nat.le_refl _) hs3
            have hxk : (x + k).toNat = xn + kn := by omega
            refine ⟨fun t ht => (congrFun (strE_ty hE) t).trans (hty t ht), c2, by rw [e 0 (by omega)]; exact c0, by rw [hxk]; exact hs3, ?_⟩
            rw [hxk]
            rw [← hkn] at G
            exact cI.sew hMx m0 m1x ho hjo hc hsr' hk w1 w2 G hE

