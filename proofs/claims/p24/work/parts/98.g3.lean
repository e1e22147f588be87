theorem jjP_congr {S S' : Sto} {t n : Nat} {q q' : Nat → Nat} {P P' : Nat → Int → Int → Prop} {hid : Int} {k : Nat} (hP : ∀ p, p < n → P' p = P p) (ht : S'.2.1 t = S.2.1 t) (hq : ∀ p, p < n → S'.2.1 (q' p) 1 = S.2.1 (q p) 1) : jjP S' t n q' P' hid k ↔ jjP S t n q P hid k := by
  have hb : ∀ p, p ≤ n → bgN P' p = bgN P p := fun p hp => bgN_congr p fun p' hp' => hP p' (by omega)
  have hh : ∀ (p : Int) (a b : Int), hidP n P' p a b ↔ hidP n P p a b := fun p a b => by
    unfold hidP
    constructor
    · rintro ⟨k, k1, k2, k3⟩
      exact ⟨k, k1, k2, by rw [← hP k k2]; exact k3⟩
    · rintro ⟨k, k1, k2, k3⟩
      exact ⟨k, k1, k2, by rw [hP k k2]; exact k3⟩
  unfold jjP jpP
  rw [ht]
  constructor
  · rintro ⟨p, p1, p2, p3, p4, p5, p6⟩
    rw [hb p (by omega)] at p2 p4
    rw [hb (p + 1) (by omega)] at p3
    rw [hh] at p6
    refine ⟨p, p1, p2, p3, ?_, p5, p6⟩
    rcases p4 with w | ⟨w1, w2⟩
    · exact Or.inl w
    · rw [hq (p - 1) (by omega), hq p p1] at w2
      exact Or.inr ⟨w1, w2⟩
  · rintro ⟨p, p1, p2, p3, p4, p5, p6⟩
    rw [← hh] at p6
    refine ⟨p, p1, by rw [hb p (by omega)]; exact p2, by rw [hb (p + 1) (by omega)]; exact p3, ?_, p5, p6⟩
    rcases p4 with w | ⟨w1, w2⟩
    · exact Or.inl (by rw [hb p (by omega)]; exact w)
    · rw [← hq (p - 1) (by omega), ← hq p p1] at w2
      exact Or.inr ⟨w1, w2⟩
theorem jjN_congr {S S' : Sto} {t n : Nat} {q q' : Nat → Nat} {P P' : Nat → Int → Int → Prop} {hid : Int} {k : Nat} (hP : ∀ p, p < n → P' p = P p) (ht : S'.2.1 t = S.2.1 t) (hq : ∀ p, p < n → S'.2.1 (q' p) 1 = S.2.1 (q p) 1) : jjN S' t n q' P' hid k = jjN S t n q P hid k := by
  unfold jjN
  refine sumTo_congr _ fun j _ => ?_
  rw [show jjP S' t n q' P' hid (j + 1) = jjP S t n q P hid (j + 1) from propext (jjP_congr hP ht hq)]
theorem dsI.B {B B' : Nat → Nat} {S R : Sto} {d : Nat} (h : dsI B S R d) (e : B' d = B d) : dsI B' S R d := by
  have h1 : uT B' d = uT B d := by funext k; unfold uT; rw [e]
  have h2 : qT R B' d = qT R B d := by funext p; unfold qT; rw [h1]
  unfold dsI at h ⊢
  rw [h1, h2]; exact h
def em3 : Nat → Int := fun _ => 1
theorem ag_design {n : Int} {B : Nat → Nat} {N : Nat} {S R : Sto} (h : CI B N S R) (hI : MI n R) {post : Res → Sto → Prop} (hp : ∀ r S1, okr [2] r = true → tyF S S1 → agC em3 (designR R) r S1 → post r S1) : s_designC [vT 1] S post := by
  have e1 := h.2.1.1
  have e3 := h.2.1.2.1
  have hN1 := hI.2.1
  have hdr := hI.2.2.1
  refine ⟨wOf B R, h.cw hI, fun hn => hp _ _ rfl (fun _ _ => rfl) fun k v R' ho => ?_, fun hv hw => ?_⟩
  · obtain ⟨o1, o2, -⟩ := ho
    rw [e1, e3] at hn
    rw [if_pos hn] at o1
    rw [o2 (by omega)]
    exact ⟨o1, B, N, h.th hI _⟩
  · rw [e1] at hv
    rw [e3] at hw
    obtain ⟨D, hD⟩ : ∃ D : Nat, nD R = D := ⟨_, (Int.toNat_of_nonneg (by omega)).symm⟩
    obtain ⟨q, hq⟩ : ∃ q : Nat, shN R 6 = q := ⟨_, (Int.toNat_of_nonneg hdr.1).symm⟩
    have hDt : (S.2.1 1 3).toNat = D := by rw [e3]; omega
    have hqt : (shN R 6).toNat = q := by omega
    have hqN := h.2.2.1.1
    rw [hqt] at hqN
    have hq7 := hdr.2.1
    have hq0 := hdr.1
    have hdf := h.2.2.1.2
    rw [hq] at hdf
    have hu : ∀ k, 8192 + 16 * (N - (shN R 6).toNat + k) = 8192 + 16 * (N - q + k) := fun k => by rw [hqt]
    unfold dfI at hdf
    rw [hqt] at hdf
    refine ⟨4096 + 16 * D, q, fun k => 8192 + 16 * (N - q + k), fun k => if k < q then hasK R (42 + k) else hasK R (7 * D + k), fun k => if k < q then mg R 3 (42 + k) else mg R 3 (7 * D + k), by rw [hDt], ⟨⟨by omega, by rw [e1]; exact hq.symm, by omega, by omega⟩, fun k hk => ?_, fun k hk => ?_, fun i j hij hj => by
      show 8192 + 16 * (N - q + i) ≠ 8192 + 16 * (N - q + j)
      omega⟩, fun S1 S2 nd hcp hdes => hp _ _ rfl (fun t ht => by
      show S2.1 t = S.1 t
      rw [(hdes.2.1.1 t (by omega)).1, newS_1, if_neg (by omega), updI_1, hcp.1, newS_1, if_neg (by omega)]) fun k v R' ho => ?_⟩
    · exact h.2.2.2.2.2.2.2.2.1 D k (by omega) (by omega) (by omega)
    · obtain ⟨a1, a2, a3, -⟩ := hdf k (by omega)
      have hok := hdr.2.2 k (by omega) (by omega)
      have hcl := cls_ok hok
      dsimp only
      rw [if_pos hk, if_pos hk]
      exact ⟨a1, a2, a3, hok.2.2.2.1, hok.2.2.2.2.1, hcl.1, hcl.2⟩
    · obtain ⟨o1, -, o3⟩ := ho
      rw [if_neg (show ¬ (shN R 6 = 0 ∨ nD R = 6) from fun z => z.elim hv hw)] at o1
      obtain ⟨o4, T', hag, hR, hv27, hs1, hs6, hsi, h9, h10, h11, hdT⟩ := o3 o1
      clear o3
      refine ⟨⟨o1, by rw [o4, e3]⟩, fun d => if d = D then N - q else B d, N, ?_⟩
      rw [e3, hD]
      rw [e3, hD] at hdes
      rw [hD] at hR hv27 hs1 hsi h9 h10 h11 hdT
      rw [hq] at hv27 hs1
      have gT : ∀ (a : Nat) (i : Int), mg R' a i = mg T' a i := fun a i => by rw [hR, mgF]
      have hgg : ∀ (a : Nat) (i : Int), ¬ (1 ≤ a ∧ a ≤ 7) → ¬ (9 ≤ a ∧ a ≤ 12) → a ≠ 32 → mg R' a i = mg R a i := fun a i x y z => (gT a i).trans ((hag.mg (by simp; omega)).trans th_mg')
      have n8 : nD R' = (D : Int) + 1 := by rw [hR]; exact mfF.trans (if_pos rfl)
      have n13 : nM R' = nM R := by rw [hR]; exact (mfF.trans (if_neg (by omega))).trans hag.mf
      have n23 : nO R' = nO R := by rw [hR]; exact (mfF.trans (if_neg (by omega))).trans hag.mf
      have hsD : shN R' D = (q : Int) := (gT 1 _).trans hs1
      have hs6' : shN R' 6 = 0 := (gT 1 _).trans hs6
      have hDes : desI R' D := desEq.des hdT ⟨gT 1 _, fun k _ _ a _ _ => gT a _, fun p _ _ => gT 9 _, gT 10 _, fun j _ _ => gT 11 _⟩
      have hsDn : (shN R' D).toNat = q := by omega
      have hP : dP R' D = fun k => if k < q then hasK R (42 + k) else hasK R (7 * D + k) := by
        funext k
        show hasK R' (7 * D + k) = _
        have hv : ∀ a : Nat, 2 ≤ a → a ≤ 7 → mg R' a (7 * D + k) = if k < q then mg R a (42 + k) else mg R a (7 * D + k) := fun a a2 a7 => by
          rw [gT, hv27 a _ a2 a7 (by omega)]
          by_cases e : k < q
          · rw [if_pos (by omega), if_pos e, show 7 * (D : Int) + k - 7 * D = k by omega]
          · rw [if_neg (by omega), if_neg e]
        by_cases e : k < q
        · rw [if_pos e]
          funext x y
          unfold hasK
          rw [hv 2 (by omega) (by omega), hv 4 (by omega) (by omega), hv 5 (by omega) (by omega), hv 6 (by omega) (by omega), hv 7 (by omega) (by omega), if_pos e, if_pos e, if_pos e, if_pos e, if_pos e]
        · rw [if_neg e]
          funext x y
          unfold hasK
          rw [hv 2 (by omega) (by omega), hv 4 (by omega) (by omega), hv 5 (by omega) (by omega), hv 6 (by omega) (by omega), hv 7 (by omega) (by omega), if_neg e, if_neg e, if_neg e, if_neg e, if_neg e]
      have hC : colF R' D = fun k => if k < q then mg R 3 (42 + k) else mg R 3 (7 * D + k) := by
        funext k
        show mg R' 3 (7 * D + k) = _
        rw [gT, hv27 3 _ (by omega) (by omega) (by omega)]
        by_cases e : k < q
        · rw [if_pos (by omega), if_pos e, show 7 * (D : Int) + k - 7 * D = k by omega]
        · rw [if_neg (by omega), if_neg e]
      have hus : ∀ k, k < q → S.2.1 (8192 + 16 * (N - q + k)) 1 = colF R' D k ∧ 0 ≤ colF R' D k ∧ colF R' D k < 6 := fun k hk => by
        obtain ⟨a1, a2, a3, -⟩ := hdf k (by omega)
        have hok := hdr.2.2 k (by omega) (by omega)
        rw [hC]
        dsimp only
        rw [if_pos hk]
        exact ⟨a3, hok.2.2.2.1, hok.2.2.2.2.1⟩
      rw [← hP, ← hC] at hdes
      obtain ⟨T, hT⟩ : ∃ T, T = 4096 + 16 * D := ⟨_, rfl⟩
      rw [← hT] at hdes hcp
      obtain ⟨u, hu⟩ : ∃ u : Nat → Nat, u = fun k => 8192 + 16 * (N - q + k) := ⟨_, rfl⟩
      have hu1 : ∀ k, u k = 8192 + 16 * (N - q + k) := fun k => by rw [hu]
      rw [← hu] at hdes hcp
      obtain ⟨hnd, hB, hS1, hS2, hS3, hrest⟩ := hdes
      have hrs : ∀ _ : Unit, _ := fun _ => hrest
      clear hrest
      have hD6 : D < 6 := by omega
      have hnd2 : ndQ (dP R' D) nd (shN R' D).toNat := by rw [hsDn]; exact hnd
      have hok := hnd.ok
      have hgat := fun p (hp : p < q) => hDes.gat hnd2 p (by omega)
      rw [hsDn] at hgat
      have hseq := fun (p : Nat) (hp : p < q) => hDes.seq (p := p) (by omega) (by omega)
      -- the class's shape at a place
      have hqu : ∀ p, p < q → qT R' (fun d => if d = D then N - q else B d) D p = u (gat q (colF R' D) nd p).toNat := fun p hp => by
        rw [← hgat p hp, hu1]
        unfold qT uT
        dsimp only
        rw [if_pos rfl]
      have hQ : ∀ p, p < q → dQ R' D p = dP R' D (gat q (colF R' D) nd p).toNat := fun p hp => by
        have s := hseq p hp
        rw [← hgat p hp]
        show hasK R' (7 * D + seqK R' D p) = hasK R' (7 * D + ((seqK R' D p).toNat : Nat))
        rw [Int.toNat_of_nonneg s.1]
      have hgl : ∀ p, p < q → (gat q (colF R' D) nd p).toNat < q := fun p hp => by
        have s := hseq p hp
        rw [← hgat p hp]; omega
      have hbg : ∀ p, p ≤ q → bgN (fun p => dP R' D (gat q (colF R' D) nd p).toNat) p = bgN (dQ R' D) p := fun p hp => (bgN_congr p fun p' hp' => hQ p' (by omega)).symm
      have hend : bgN (fun p => dP R' D (gat q (colF R' D) nd p).toNat) q = (mnK R' D).toNat := by
        rw [hbg q (Nat.le_refl _)]
        have := hDes.end
        rw [hsDn] at this
        omega
      rw [hend] at hrs
      obtain ⟨p1, p2, p3, p4⟩ := hcp
      obtain ⟨b1, b2, b3, b4, b5⟩ := hB
      obtain ⟨S3, hS3e⟩ : ∃ S3, S3 = updI (updR S2 5 D (some T)) 1 3 (D + 1) := ⟨_, rfl⟩
      have hfin : updI (updR S2 5 ((D : Int)).toNat (some (4096 + 16 * D))) 1 3 ((D : Int) + 1) = S3 := by rw [hS3e, Int.toNat_natCast, hT]
      rw [hfin]
      have z1 : ∀ t, S3.1 t = S2.1 t := fun t => by rw [hS3e]; rfl
      have z2 : ∀ t, t ≠ 1 → S3.2.1 t = S2.2.1 t := fun t ht => by rw [hS3e]; funext k; rw [updI_2, if_neg (fun w => ht w.1)]; rfl
      have z3 : ∀ t, t ≠ 5 → S3.2.2 t = S2.2.2 t := fun t ht => by rw [hS3e]; funext k; rw [updI_3, updR_3, if_neg (fun w => ht w.1)]
      have w1 : ∀ t, t < T ∨ T + 7 < t → S2.1 t = S.1 t ∧ S2.2.2 t = S.2.2 t := fun t ht => by
        obtain ⟨c1, c2⟩ := b1 t (by omega)
        refine ⟨?_, ?_⟩
        · rw [c1, newS_1, if_neg (by omega), updI_1, p1, newS_1, if_neg (by omega)]
        · rw [c2]; funext k
          rw [newS_3, if_neg (by omega), updI_3, p3 t (by omega)]
      have w2 : ∀ t j, t < T ∨ T + 7 < t → (newS (updI S1 1 1 0) T (0, clN 0)).2.1 t j = if t = 1 ∧ j = 1 then 0 else S.2.1 t j := fun t j ht => by
        rw [newS_2, if_neg (show ¬ t = T by omega), updI_2, p2, newS_2, if_neg (show ¬ t = T + 7 by omega)]
      have w3 : ∀ t j, t < T ∨ T + 7 < t → (∀ k, k < q → t ≠ u k) → S2.2.1 t j = if t = 1 ∧ j = 1 then 0 else S.2.1 t j := fun t j ht hk => by
        rw [b2 t (by omega) hk, w2 t j ht]
      have w4 : ∀ k, k < q → ∀ j, j ≠ 3 → j ≠ 4 → S2.2.1 (u k) j = S.2.1 (u k) j := fun k hk j j3 j4 => by
        have := hu1 k
        rw [b3 k hk j j3 j4, w2 (u k) j (by omega), if_neg (by omega)]
      have hsm : ∀ t, t ≠ 1 → t ≠ 5 → t < T ∨ T + 7 < t → (∀ k, k < q → t ≠ u k) → sm S S3 t := fun t t1 t5 ht hk => by
        obtain ⟨c1, c2⟩ := w1 t ht
        refine ⟨(z1 t).trans c1, ?_, (z3 t t5).trans c2⟩
        rw [z2 t t1]; funext j
        rw [w3 t j ht hk, if_neg (fun w => t1 w.1)]
      have hsm' : ∀ t, t ≠ 1 → t ≠ 5 → t < T ∨ T + 7 < t → t < 8192 + 16 * (N - q) → sm S S3 t := fun t t1 t5 ht hk => hsm t t1 t5 ht fun k _ => by have := hu1 k; omega
      have hu4 : ∀ k, k < q → S3.1 (u k) = some (4, 5) ∧ S3.2.1 (u k) 1 = colF R' D k ∧ S3.2.1 (u k) 0 = k := fun k hk => by
        obtain ⟨a1, a2, a3, a4⟩ := hdf k (by omega)
        obtain ⟨y1, -⟩ := hus k hk
        rw [← hu1] at a2 a4 y1
        have := hu1 k
        refine ⟨by rw [z1, (w1 (u k) (by omega)).1]; exact a2.1, ?_, ?_⟩
        · rw [z2 _ (by omega), w4 k hk 1 (by omega) (by omega)]; exact y1
        · rw [z2 _ (by omega), w4 k hk 0 (by omega) (by omega)]; exact a4
      have hcel : celT S3 R' D (T + 5) (qT R' (fun d => if d = D then N - q else B d) D) := by
        refine ⟨fun k hk => ?_, fun p hp => ?_⟩
        · obtain ⟨p, p1, p2, p3, p4, p5⟩ := hDes.pl hk
          have hpq : p < q := by omega
          have := hS3.2.2.2 p hpq (k - bgN (dQ R' D) p) (stK R' D k % 256) (by show (clsL (dP R' D _))[_]? = _; rw [← hQ p hpq]; exact p5)
          rw [z2 _ (by omega)]
          rw [hbg p (by omega), show bgN (dQ R' D) p + (k - bgN (dQ R' D) p) = k by omega] at this
          exact this
        · have hpq : p < q := by omega
          rw [hqu p hpq, (hu4 _ (hgl p hpq)).2.1, ← hgat p hpq]
          show mg R' 3 (7 * D + ((seqK R' D p).toNat : Nat)) = mg R' 3 (7 * D + seqK R' D p)
          rw [Int.toNat_of_nonneg (hseq p hpq).1]
      have hq1 : ∀ p, p < q → S3.2.1 (qT R' (fun d => if d = D then N - q else B d) D p) 1 = S2.2.1 (u (gat q (colF R' D) nd p).toNat) 1 := fun p hp => by
        have := hu1 (gat q (colF R' D) nd p).toNat
        rw [hqu p hp, z2 _ (by omega)]
      have hmn := hDes.mn
      obtain ⟨h1, ⟨e1', e3', e5, e7⟩, ⟨d1, d2⟩, hd, hm, ho', hst, hf⟩ := h
      have hnew : dsI (fun d => if d = D then N - q else B d) S3 R' D := by
        unfold dsI
        rw [← hT, hsDn]
        obtain ⟨s1, s2, s3, s4, s5, s6⟩ := hS1
        obtain ⟨x1, x2, x3⟩ := hS2
        obtain ⟨y1, y2, y3, y4⟩ := hS3
        refine ⟨⟨by rw [hS3e, updI_3, updR_3, if_pos ⟨rfl, rfl⟩], by rw [z3 _ (by omega)]; exact s2⟩, ⟨nd, hnd, ?_⟩, ?_, hcel, fun p hp => ?_, ⟨?_, ?_, ?_, ?_⟩, ?_⟩
        · refine ⟨s1.eq (z1 _) (z3 _ (by omega)) (z1 _) (z2 _ (by omega)), by rw [z3 _ (by omega)]; exact s3, by rw [z3 _ (by omega)]; exact s4, ?_, by rw [z1]; exact s5, by omega, fun k hk => ?_, fun k hk => ?_, hok⟩
          · rw [z1, (b1 (T + 7) (by omega)).1, newS_1, if_neg (by omega), updI_1, p1, newS_1, if_pos rfl]
          · have ek : uT (fun d => if d = D then N - q else B d) D k = u k := by rw [hu1]; unfold uT; dsimp only; rw [if_pos rfl]
            obtain ⟨v1, v2, v3⟩ := hu4 k hk
            obtain ⟨-, v4, v5⟩ := hus k hk
            rw [ek]
            refine ⟨?_, v1, v2, v4, v5⟩
            rw [z3 _ (by omega), (b1 (T + 7) (by omega)).2, newS_3, if_neg (by omega), updI_3, p4, if_pos hk]
          · rw [z2 _ (by omega)]
            exact ⟨s6 k hk, (hnd k hk).1⟩
        · refine ⟨by rw [z1]; exact b4, by rw [z3 _ (by omega)]; exact x1, by rw [z1]; exact x2, by rw [z3 _ (by omega)]; exact y1, by rw [z1, y2, hend], by omega, ⟨rfl, ?_, fun p hp => ?_⟩, fun p hp => ?_⟩
          · have := hDes.end
            rw [hsDn] at this
            show (bgN (dQ R' D) q : Int) = _
            rw [this, Int.toNat_of_nonneg (by omega)]
          · have hl := hDes.shq p (by omega)
            have hpos : 1 ≤ (clsL (dQ R' D p)).length := (cls_ok hl.1).1.2.2
            have e2 : bgN (dQ R' D) (p + 1) = bgN (dQ R' D) p + (clsL (dQ R' D p)).length := rfl
            show (bgN (dQ R' D) p : Int) < (bgN (dQ R' D) (p + 1) : Int)
            omega
          · obtain ⟨v1, v2, v3⟩ := hu4 _ (hgl p hp)
            obtain ⟨-, v4, v5⟩ := hus _ (hgl p hp)
            obtain ⟨v6, v7⟩ := y3 p hp
            have := hu1 (gat q (colF R' D) nd p).toNat
            rw [hqu p hp]
            refine ⟨by rw [z3 _ (by omega)]; exact x3 p hp, v1, ?_, ?_, by rw [v2]; exact v4, by rw [v2]; exact v5⟩
            · rw [z2 _ (by omega), v6, hbg p (by omega)]
            · rw [z2 _ (by omega), v7, hbg (p + 1) (by omega)]
        · have hpq : p < q := by omega
          rw [hqu p hpq, (hu4 _ (hgl p hpq)).2.2, ← hgat p hpq]
          exact Int.toNat_of_nonneg (hseq p hpq).1
        · rw [z2 _ (by omega)]; exact b5
        · rw [z2 _ (by omega), (hrs ()).1]
          unfold chgQ chgN
          refine sumTo_congr _ fun p hp => ?_
          have k1 := hq1 p (by omega)
          have k2 := hq1 (p + 1) (by omega)
          rw [← k1, ← k2, hcel.2 p (by omega), hcel.2 (p + 1) (by omega)]
          rfl
        · rw [z2 _ (by omega), (hrs ()).2.1, ← jmpN_e hDes hcel, hsDn]
          exact (jjN_congr (fun p hp => hQ p hp) (z2 _ (by omega)) (fun p hp => hq1 p hp)).symm
        · rw [z2 _ (by omega), (hrs ()).2.2.1, ← jmpN_e hDes hcel, hsDn]
          exact (jjN_congr (fun p hp => hQ p hp) (z2 _ (by omega)) (fun p hp => hq1 p hp)).symm
        · have hho := (hrs ()).2.2.2
          unfold hoopP at hho ⊢
          rw [z2 (T + 5) (by omega), z2 T (by omega)]
          exact hho
      have hnl : nlA S3 := ⟨h1.nl.1.add (u := T) (by omega) (by rw [hS3e, updI_2, if_pos ⟨rfl, rfl⟩]; omega) fun k => (by
        rw [hS3e, updI_3, updR_3, show (S.2.1 1 3).toNat = D by omega]
        by_cases y : k = D
        · rw [if_pos ⟨rfl, y⟩, if_pos y]
        · rw [if_neg (fun z => y z.2), if_neg y, (w1 5 (by omega)).2]), h1.nl.2.1.fr (by rw [hS3e, updI_2, if_neg (by omega), updR_2, w3 1 5 (by omega) (fun k _ => by have := hu1 k; omega), if_neg (by omega)]) (hsm' 6 (by omega) (by omega) (by omega) (by omega)).2.2, h1.nl.2.2.fr (by rw [hS3e, updI_2, if_neg (by omega), updR_2, w3 1 7 (by omega) (fun k _ => by have := hu1 k; omega), if_neg (by omega)]) (hsm' 7 (by omega) (by omega) (by omega) (by omega)).2.2⟩
      refine ⟨h1.fl (fun t ht => by rw [z1, (w1 t (by omega)).1]) ⟨(z3 1 (by omega)).trans (w1 1 (by omega)).2, (z3 8 (by omega)).trans (w1 8 (by omega)).2⟩ hnl, ⟨?_, ?_, ?_, ?_⟩, ⟨by rw [hs6']; exact Nat.zero_le _, fun k hk => by rw [hs6'] at hk; omega⟩, fun d hd' => ?_, fun i hi => ?_, fun o ho'' => ?_, fun k hk => ?_, ?_⟩
      · have := hu1
        rw [hS3e, updI_2, if_neg (by omega), updR_2, w3 1 1 (by omega) (fun k _ => by have := hu1 k; omega), if_pos ⟨rfl, rfl⟩, hs6']
      · rw [hS3e, updI_2, if_pos ⟨rfl, rfl⟩, n8]
      · rw [hS3e, updI_2, if_neg (by omega), updR_2, w3 1 5 (by omega) (fun k _ => by have := hu1 k; omega), if_neg (by omega), n13, e5]
      · rw [hS3e, updI_2, if_neg (by omega), updR_2, w3 1 7 (by omega) (fun k _ => by have := hu1 k; omega), if_neg (by omega), n23, e7]
      · rw [n8] at hd'
        rw [hs6']
        by_cases x : d = D
        · subst x
          refine ⟨?_, hnew⟩
          show (if d = d then N - q else B d) + (shN R' d).toNat ≤ N - (0 : Int).toNat
          rw [if_pos rfl, hsDn]
          show N - q + q ≤ N - 0
          omega
        · have hdD : d < D := by omega
          obtain ⟨a1, a2⟩ := hd d (by omega)
          have hDd := hI.2.2.2.1 d (by omega) (by omega)
          have hs7 := hDd.1.2.2.2.1
          have hmnd := hDd.mn
          have sd : shN R' d = shN R d := (gT 1 _).trans (hsi d (by omega) (by omega) (by omega))
          have g27 : ∀ (a : Nat) (i : Int), 2 ≤ a → a ≤ 7 → 0 ≤ i → i < 7 * (D : Int) → mg R' a i = mg R a i := fun a i a2 a7 i0 i1 => by rw [gT, hv27 a i a2 a7 i0, if_neg (by omega)]
          have eq : desEq R R' d := ⟨sd, fun k k0 k1 a a2 a7 => g27 a _ a2 a7 (by omega) (by omega), fun p p0 p1 => (gT 9 _).trans (h9 _ (by omega) (by omega)), (gT 10 _).trans (h10 _ (by omega) (by omega)), fun j j0 j1 => (gT 11 _).trans (h11 _ (by omega) (by omega))⟩
          rw [hqt] at a1
          show (if d = D then N - q else B d) + (shN R' d).toNat ≤ N - (0 : Int).toNat ∧ dsI _ S3 R' d
          rw [if_neg x, sd]
          refine ⟨by show B d + (shN R d).toNat ≤ N - 0; omega, ?_⟩
          have s5 : S3.2.2 5 d = S.2.2 5 d := by rw [hS3e, updI_3, updR_3, if_neg (by omega), (w1 5 (by omega)).2]
          have := (a2.eqS (S' := S3) hDd a1 s5 (fun t t1 t2 => hsm' t (by omega) (by omega) (by omega) (by omega)) (fun t t1 t2 => hsm' t (by omega) (by omega) (by omega) (by omega))).eqR hDd eq
          exact dsI.B this (by show (if d = D then N - q else B d) = B d; rw [if_neg x])
      · rw [n13] at hi
        exact (hm i hi).fr (hsm' 6 (by omega) (by omega) (by omega) (by omega)).2.2 (hsm' _ (by omega) (by omega) (by omega) (by omega)) (hsm' _ (by omega) (by omega) (by omega) (by omega)) (fun a j ha => hgg a j (by omega) (by omega) (by omega))
      · rw [n23] at ho''
        exact (ho' o ho'').fr (hsm' 7 (by omega) (by omega) (by omega) (by omega)).2.2 (hsm' _ (by omega) (by omega) (by omega) (by omega)) (hsm' _ (by omega) (by omega) (by omega) (by omega)) (fun a j ha => hgg a j (by omega) (by omega) (by omega))
      · rw [(hsm' 9 (by omega) (by omega) (by omega) (by omega)).2.1, hgg 22 _ (by omega) (by omega) (by omega)]; exact hst k hk
      · obtain ⟨y1, y2, y3, y4⟩ := hf
        refine ⟨fun t ht => ?_, fun d j a b c => ?_, fun i j a b c => ?_, fun o j a b c => ?_⟩
        · rw [z1, (w1 t (by omega)).1]; exact y1 t ht
        · rw [n8] at a
          rw [z1, (w1 _ (by omega)).1]; exact y2 d j (by omega) b c
        · rw [n13] at a
          rw [z1, (w1 _ (by omega)).1]; exact y3 i j a b c
        · rw [n23] at a
          rw [z1, (w1 _ (by omega)).1]; exact y4 o j a b c

