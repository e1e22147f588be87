/-! EVERY CALL OF THE REFERENCE keeps what the law's loop asks -/
def goodO (op : Sto → Int → Int → Sto → Prop) : Prop := ∀ n R k v R', MI n R → SI0 R → n + 1 ≤ 15000 → op R k v R' → MI (n + 1) R' ∧ SI0 R' ∧ R'.1 = R.1 ∧ mf R' 0 = k
theorem SI0.of {R R' : Sto} (h : SI0 R) (hO : nO R' = nO R) (hg : ∀ o : Nat, (o : Int) < nO R → mg R' 26 o = 0 → mg R 26 o = 0 ∧ ∀ c : Nat, c < 6 → sdK R' o c = sdK R o c) : SI0 R' := fun o ho hz c hc => by
  rw [hO] at ho
  obtain ⟨h1, h2⟩ := hg o ho hz
  rw [h2 c hc]; exact h o ho h1 c hc
theorem SI0.of' {R R' : Sto} (h : SI0 R) (hO : nO R' = nO R) (hg : ∀ (a : Nat) (i : Int), a = 26 ∨ a = 31 → mg R' a i = mg R a i) : SI0 R' := h.of hO fun o _ hz => ⟨by rw [← hg 26 o (Or.inl rfl)]; exact hz, fun c _ => hg 31 _ (Or.inr rfl)⟩
theorem good_thr {R : Sto} {k : Int} (h : SI0 R) : SI0 (thr R k) ∧ (thr R k).1 = R.1 ∧ mf (thr R k) 0 = k := ⟨h.of' rfl fun _ _ _ => th_mg', rfl, rfl⟩
theorem good_get {op : Sto → Int → Int → Sto → Prop} (h : ∀ R k v R', op R k v R' → R' = thr R k) : goodO op := fun n R k v R' hI h0 hn ho => by
  rw [h R k v R' ho]
  exact ⟨(hI.up hn).th0, good_thr h0⟩
theorem good_stock {c s x : Int} : goodO (fun R => stockR R c s x) := fun n R k v R' hI h0 hn ho => by
  refine ⟨stock_MI hI hn ho, ?_⟩
  obtain ⟨-, h2, h3⟩ := ho
  by_cases e : k = 0
  · obtain ⟨-, rfl⟩ := h3 e
    exact ⟨h0.of' rfl fun a i ha => by rw [mgU, if_neg (by omega)]; exact th_mg', rfl, by rw [e]; rfl⟩
  · rw [h2 e]; exact good_thr h0
theorem good_wipe : goodO wipeR := fun n R k v R' hI h0 hn ho => by
  refine ⟨wipe_MI hI hn ho, ?_⟩
  obtain ⟨e, -, rfl⟩ := ho
  exact ⟨h0.of' rfl fun a i ha => by rw [mgU, if_neg (by omega)]; exact th_mg', rfl, by rw [e]; rfl⟩
theorem good_shape {i c x y w g : Int} : goodO (fun R => shapeR R i c x y w g) := fun n R k v R' hI h0 hn ho => by
  refine ⟨shape_MI hI hn ho, ?_⟩
  obtain ⟨-, h2, h3⟩ := ho
  by_cases e : k = 0
  · obtain ⟨-, rfl⟩ := h3 e
    exact ⟨h0.of' rfl fun a i ha => by
      rw [mgU, if_neg (by omega), mgU, if_neg (by omega), mgU, if_neg (by omega), mgU, if_neg (by omega), mgU, if_neg (by omega), mgU, if_neg (by omega), mgU, if_neg (by omega)]; exact th_mg', rfl, by rw [e]; rfl⟩
  · rw [h2 e]; exact good_thr h0
theorem good_machine {a w g : Int} : goodO (fun R => machineR R a w g) := fun n R k v R' hI h0 hn ho => by
  refine ⟨machine_MI hI hn ho, ?_⟩
  obtain ⟨-, h2, h3⟩ := ho
  by_cases e : k = 0
  · obtain ⟨-, hR⟩ := h3 e
    obtain ⟨X, hX⟩ : ∃ X, X = updI (updI (updI (updI (thr R 0) (mt 14) (nM R).toNat a) (mt 15) (nM R).toNat w) (mt 16) (nM R).toNat g) (mt 17) (nM R).toNat (-1) := ⟨_, rfl⟩
    rw [← hX] at hR
    have hag := fillH_ag (S := X) (b := 6 * nM R) 6
    have hm : ∀ k, mf X k = mf (thr R 0) k := fun k => by
      rw [hX]
      rfl
    refine ⟨h0.of' (by rw [hR]; exact (mfF.trans (if_neg (by omega))).trans (hag.mf.trans (hm 23))) fun b i hb => ?_, ?_, ?_⟩
    · rw [hR, mgF, hag.mg (by simp; omega), hX, mgU, if_neg (by omega), mgU, if_neg (by omega), mgU, if_neg (by omega), mgU, if_neg (by omega)]; exact th_mg'
    · rw [hR]
      show (fillH X (6 * nM R) 6).1 = _
      rw [hag.1, hX]; rfl
    · rw [hR, e]; exact (mfF.trans (if_neg (by omega))).trans (hag.mf.trans (hm 0))
  · rw [h2 e]; exact good_thr h0
theorem good_order {d p : Int} : goodO (fun R => orderR R d p) := fun n R k v R' hI h0 hn ho => by
  refine ⟨order_MI hI hn ho, ?_⟩
  obtain ⟨h1, h2, h3⟩ := ho
  by_cases e : k = 0
  · obtain ⟨-, hR⟩ := h3 e
    have hN := hI.2.1
    have hlt : nO R < 20 := by
      rw [e] at h1
      by_cases z : nO R = 20
      · rw [if_pos z] at h1
        split at h1
        · omega
        · split at h1 <;> omega
      · omega
    have hgg : ∀ (a : Nat) (i : Int), ¬ ((a = 24 ∨ a = 25 ∨ a = 27) ∧ i.toNat = (nO R).toNat) → mg R' a i = mg R a i := fun a i x => by
      rw [hR, mgF, mgU, if_neg (by omega), mgU, if_neg (by omega), mgU, if_neg (by omega)]; exact th_mg'
    have n23 : nO R' = nO R + 1 := by rw [hR]; rfl
    refine ⟨fun o ho hz c hc => ?_, by rw [hR]; rfl, by rw [hR, e]; rfl⟩
    rw [n23] at ho
    rw [show sdK R' o c = sdK R o c from hgg 31 _ (by omega)]
    rcases (show (o : Int) < nO R ∨ (o : Int) = nO R by omega) with w | w
    · exact h0 o w (by rw [← hgg 26 _ (by omega)]; exact hz) c hc
    · exact (hI.2.2.2.2.2.2.1.2.2 o (by omega) (by omega)).2.2.2.2 c (by omega) (by omega)
  · rw [h2 e]; exact good_thr h0
theorem good_design : goodO designR := fun n R k v R' hI h0 hn ho => by
  refine ⟨design_MI hI hn ho, ?_⟩
  obtain ⟨-, h2, h3⟩ := ho
  by_cases e : k = 0
  · obtain ⟨-, T, hag, hR, -⟩ := h3 e
    refine ⟨h0.of' (by rw [hR]; exact (mfF.trans (if_neg (by omega))).trans hag.mf) fun b i hb => ?_, ?_, ?_⟩
    · rw [hR, mgF, hag.mg (by simp; omega)]; exact th_mg'
    · rw [hR]
      show T.1 = _
      rw [hag.1]; rfl
    · rw [hR, e]; exact (mfF.trans (if_neg (by omega))).trans hag.mf
  · rw [h2 e]; exact good_thr h0
theorem good_start {o m : Int} : goodO (fun R k _ R' => startR R o m k R') := fun n R k v R' hI h0 hn ho => by
  refine ⟨start_MI hI hn ho, ?_⟩
  obtain ⟨h1, h2, h3⟩ := ho
  by_cases e : k = 0
  · have hR := h3 e
    have hv : 0 ≤ o ∧ o < nO R := by
      rcases h1 with w | w | w
      · omega
      · exact ⟨w.1.1, w.1.2.1⟩
      · omega
    have hag := fillS_ag (S := R) (T := thr R 0) (o := o) 6
    have g26 : ∀ i : Int, mg R' 26 i = if i.toNat = o.toNat then 1 else mg R 26 i := fun i => by
      rw [hR, mgU, if_neg (by omega), mgU, if_neg (by omega), mgU]
      by_cases x : i.toNat = o.toNat
      · rw [if_pos ⟨rfl, x⟩, if_pos x]
      · rw [if_neg (fun y => x y.2), if_neg x, hag.mg (by simp)]; exact th_mg'
    refine ⟨h0.of (by rw [hR]; exact hag.mf (k := 23)) fun q hq hz => ?_, ?_, ?_⟩
    · rw [g26] at hz
      by_cases x : (q : Int).toNat = o.toNat
      · rw [if_pos x] at hz; omega
      · rw [if_neg x] at hz
        refine ⟨hz, fun c hc => ?_⟩
        show mg R' 31 (6 * q + c) = mg R 31 (6 * q + c)
        rw [hR, mgU, if_neg (by omega), mgU, if_neg (by omega), mgU, if_neg (by omega), fillS_v hv.1 6 31 _ (by omega), if_neg (by omega)]; exact th_mg'
    · rw [hR]
      show (fillS R (thr R 0) o 6).1 = _
      rw [hag.1]; rfl
    · rw [hR, e]; exact hag.mf (k := 0)
  · rw [h2 e]; exact good_thr h0
theorem good_snap {m : Int} : goodO (fun R => snapR R m) := fun n R k v R' hI h0 hn ho => by
  refine ⟨snap_MI hI hn ho, ?_⟩
  obtain ⟨-, h2, h3⟩ := ho
  by_cases e : k = 0
  · obtain ⟨o, -, -, -, -, -, -, hag, -⟩ := h3 e
    exact ⟨h0.of' hag.mf fun b i hb => (hag.mg (by simp; omega)).trans th_mg', by rw [hag.1]; rfl, by rw [e]; exact hag.mf (k := 0)⟩
  · rw [h2 e]; exact good_thr h0
theorem good_match {o c s : Int} : goodO (fun R => matchR R o c s) := fun n R k v R' hI h0 hn ho => by
  refine ⟨match_MI hI hn ho, ?_⟩
  obtain ⟨h1, h2, h3⟩ := ho
  by_cases e : k = 0
  · have hv : (0 ≤ o ∧ o < nO R ∧ 0 ≤ c ∧ c < 6 ∧ 0 ≤ s ∧ s < 3) ∧ canMa R o c s := by
      rcases h1 with w | w | w
      · omega
      · exact ⟨w.1, w.2.1⟩
      · omega
    obtain ⟨hv, hca⟩ := hv
    obtain ⟨X, hX⟩ : ∃ X, X = updI (thr R 0) (mt 31) (6 * o + c).toNat s := ⟨_, rfl⟩
    have hgX : ∀ (a : Nat) (i : Int), ¬ (a = 31 ∧ i.toNat = (6 * o + c).toNat) → mg X a i = mg R a i := fun a i ha => by
      rw [hX, mgU, if_neg ha]; exact th_mg'
    have key : (∀ (a : Nat) (i : Int), ¬ (28 ≤ a ∧ a ≤ 30) → mg R' a i = mg X a i) ∧ R'.1 = R.1 ∧ (∀ j, mf R' j = mf (thr R 0) j) := by
      rcases h3 e with ⟨-, -, hR⟩ | ⟨-, -, hR⟩
      · rw [← hX] at hR
        rw [hR]
        exact ⟨fun a i _ => rfl, by rw [hX]; rfl, fun j => by rw [hX]; rfl⟩
      · rw [← hX] at hR
        unfold wsU at hR
        rw [hR]
        refine ⟨fun a i ha => by rw [mgU, if_neg (by omega), mgU, if_neg (by omega), mgU, if_neg (by omega)], by rw [hX]; rfl, fun j => by rw [hX]; rfl⟩
    obtain ⟨k1, k2, k3⟩ := key
    refine ⟨h0.of (k3 23) fun q hq hz => ?_, k2, by rw [e]; exact k3 0⟩
    rw [k1 26 _ (by omega), hgX 26 _ (by omega)] at hz
    refine ⟨hz, fun c' hc => ?_⟩
    have hne : (q : Int) ≠ o := fun y => by rw [y, hca.1] at hz; omega
    rw [show sdK R' q c' = sdK X q c' from k1 31 _ (by omega)]
    exact hgX 31 _ (by omega)
  · rw [h2 e]; exact good_thr h0
theorem good_cancel {o : Int} : goodO (fun R => cancelR R o) := fun n R k v R' hI h0 hn ho => by
  refine ⟨cancel_MI hI hn ho, ?_⟩
  obtain ⟨h1, h2, h3⟩ := ho
  by_cases e : k = 0
  · obtain ⟨T, hT, -, hR⟩ := h3 e
    have hT' : (∀ (a : Nat) (i : Int), a ≠ 17 → a ≠ 27 → mg T a i = mg R a i) ∧ T.1 = R.1 ∧ ∀ j, mf T j = mf (thr R 0) j := by
      rw [hT]
      split
      · exact ⟨fun a i x y => by rw [mgU, if_neg (fun q => y q.1), mgU, if_neg (fun q => x q.1)]; exact th_mg', rfl, fun j => rfl⟩
      · exact ⟨fun a i _ _ => th_mg', rfl, fun j => rfl⟩
    obtain ⟨t1, t2, t3⟩ := hT'
    have g26 : ∀ i : Int, mg R' 26 i = if i.toNat = o.toNat then 3 else mg R 26 i := fun i => by
      rw [hR, mgU, if_neg (by omega), mgU, if_neg (by omega), mgU, if_neg (by omega), mgU]
      by_cases x : i.toNat = o.toNat
      · rw [if_pos ⟨rfl, x⟩, if_pos x]
      · rw [if_neg (fun y => x y.2), if_neg x, t1 26 _ (by omega) (by omega)]
    refine ⟨h0.of (by rw [hR]; exact t3 23) fun q hq hz => ?_, by rw [hR]; exact t2, by rw [hR, e]; exact t3 0⟩
    rw [g26] at hz
    by_cases x : (q : Int).toNat = o.toNat
    · rw [if_pos x] at hz; omega
    · rw [if_neg x] at hz
      refine ⟨hz, fun c hc => ?_⟩
      show mg R' 31 _ = mg R 31 _
      rw [hR, mgU, if_neg (by omega), mgU, if_neg (by omega), mgU, if_neg (by omega), mgU, if_neg (by omega), t1 31 _ (by omega) (by omega)]
  · rw [h2 e]; exact good_thr h0
theorem good_run {m s : Int} : goodO (fun R => runR R m s) := fun n R k v R' hI h0 hn ho => by
  refine ⟨run_MI2 hI hn ho, ?_⟩
  obtain ⟨h1, h2, h3⟩ := ho
  by_cases e : k = 0
  · obtain ⟨ch, c0, v0, v1, cv, cs, -⟩ := h3 e
    have hm : (0 ≤ m ∧ m < nM R) ∧ s ≤ 100000 := by
      rw [e] at h1
      by_cases z : 0 ≤ m ∧ m < nM R
      · refine ⟨z, ?_⟩
        rw [if_neg (fun y => y z)] at h1
        by_cases y : 1 ≤ s ∧ s ≤ 100000
        · exact y.2
        · rw [if_pos y] at h1; omega
      · rw [if_pos z] at h1; omega
    obtain ⟨⟨m0, m1⟩, hs⟩ := hm
    have hmc := hI.2.2.2.2.1 m m0 m1
    have hMI : ∀ i : Nat, (i : Int) ≤ v → MI (n + 1) (ch i) ∧ nM (ch i) = nM R := fun i hi => by
      have g18 : mg (ch 0) 18 m = mg R 18 m := by rw [c0]; exact th_mg'
      have g19 : mg (ch 0) 19 m = mg R 19 m := by rw [c0]; exact th_mg'
      have gn : nM (ch 0) = nM R := by rw [c0]; rfl
      obtain ⟨y1, y2, -⟩ := run_MI (n := n) (m := m) (ch := ch) (by rw [c0]; exact (hI.up hn).th0) m0 (by rw [gn]; exact m1) ⟨by rw [g19]; exact hmc.2.2.2.2.1.2, by rw [g18]; exact hmc.2.2.2.1.2⟩ i (by omega) (fun q hq => cs q (by omega))
      exact ⟨y1, y2.trans gn⟩
    have key : ∀ i : Nat, (i : Int) ≤ v → (ch i).1 = R.1 ∧ (∀ j, mf (ch i) j = mf (thr R 0) j) ∧ ∀ q : Nat, mg (ch i) 26 q = 0 → mg R 26 q = 0 ∧ ∀ c : Nat, c < 6 → sdK (ch i) q c = sdK R q c := fun i => by
      induction i with
      | zero =>
        intro _
        rw [c0]
        exact ⟨rfl, fun j => rfl, fun q hz => ⟨hz, fun c _ => th_mg'⟩⟩
      | succ i ih =>
        intro hi
        obtain ⟨y1, y2, y3⟩ := ih (by omega)
        obtain ⟨hMi, hni⟩ := hMI i (by omega)
        obtain ⟨r, -, -, -, -, F⟩ := stepP_F hMi m0 (by omega) (cs i (by omega))
        refine ⟨F.1.1.trans y1, fun j => F.1.mf.trans (y2 j), fun q hz => ?_⟩
        have f26 := F.2.2.2.2.2.2.2.2.1 q (by omega)
        rw [f26] at hz
        have hz2 : mg (ch i) 26 q = 0 := by
          split at hz
          · omega
          · exact hz
        obtain ⟨w1, w2⟩ := y3 q hz2
        exact ⟨w1, fun c hc => (F.1.mg (by simp)).trans (w2 c hc)⟩
    obtain ⟨y1, y2, y3⟩ := key v.toNat (by omega)
    rw [cv] at y1 y2 y3
    exact ⟨h0.of (y2 23) fun q _ hz => y3 q hz, y1, by rw [e]; exact y2 0⟩
  · rw [h2 e]; exact good_thr h0
/-- a new object of the class, beside a new reference -/
theorem CI.new {C R : Sto} (h1 : C.1 1 = some (6, 9)) (h0 : ∀ t, t ≠ 1 → C.1 t = none) (hD : nD R = 0) (hM : nM R = 0) (hO : nO R = 0) (h6 : shN R 6 = 0) (h22 : ∀ k, mg R 22 k = 0) (hi : ∀ k, C.2.1 1 k = 0) : CI (fun _ => 0) 0 (clNew C) R := by
  have hz : ∀ f a len, (clNew C).2.1 1 f = C.2.1 1 f → (∀ k, (clNew C).2.2 a k = none) → nlC (clNew C) f a len := fun f a len e1 e2 k _ => by
    rw [e1, hi f, e2 k]
    exact ⟨fun _ => rfl, fun z => by omega⟩
  refine ⟨⟨?_, rfl, rfl, rfl, rfl, rfl, rfl, rfl, rfl, rfl, ⟨rfl, rfl, rfl⟩, hz 3 5 6 rfl (fun _ => rfl), hz 5 6 4 rfl (fun _ => rfl), hz 7 7 20 rfl (fun _ => rfl)⟩, ⟨?_, ?_, ?_, ?_⟩, ⟨by rw [h6]; exact Nat.le_refl _, fun k hk => by rw [h6] at hk; omega⟩, fun d hd => by rw [hD] at hd; omega, fun i hi => by rw [hM] at hi; omega, fun o ho => by rw [hO] at ho; omega, fun k hk => ?_, fun t ht => ?_, fun d j a b c => ?_, fun i j a b c => ?_, fun o j a b c => ?_⟩
  · exact h1
  · rw [h6]; exact hi 1
  · rw [hD]; exact hi 3
  · rw [hM]; exact hi 5
  · rw [hO]; exact hi 7
  · rw [h22]; rfl
  · have : (clNew C).1 t = C.1 t := by
      show (if t = 9 then _ else if t = 8 then _ else if t = 7 then _ else if t = 6 then _ else if t = 5 then _ else if t = 4 then _ else C.1 t) = _
      rw [if_neg (by omega), if_neg (by omega), if_neg (by omega), if_neg (by omega), if_neg (by omega), if_neg (by omega)]
    rw [this]; exact h0 t (by omega)
  · have : (clNew C).1 (4096 + 16 * d + j) = C.1 (4096 + 16 * d + j) := by
      show (if _ = 9 then _ else if _ = 8 then _ else if _ = 7 then _ else if _ = 6 then _ else if _ = 5 then _ else if _ = 4 then _ else C.1 _) = _
      rw [if_neg (by omega), if_neg (by omega), if_neg (by omega), if_neg (by omega), if_neg (by omega), if_neg (by omega)]
    rw [this]; exact h0 _ (by omega)
  · have : (clNew C).1 (1024 + 16 * i + j) = C.1 (1024 + 16 * i + j) := by
      show (if _ = 9 then _ else if _ = 8 then _ else if _ = 7 then _ else if _ = 6 then _ else if _ = 5 then _ else if _ = 4 then _ else C.1 _) = _
      rw [if_neg (by omega), if_neg (by omega), if_neg (by omega), if_neg (by omega), if_neg (by omega), if_neg (by omega)]
    rw [this]; exact h0 _ (by omega)
  · have : (clNew C).1 (2048 + 16 * o + j) = C.1 (2048 + 16 * o + j) := by
      show (if _ = 9 then _ else if _ = 8 then _ else if _ = 7 then _ else if _ = 6 then _ else if _ = 5 then _ else if _ = 4 then _ else C.1 _) = _
      rw [if_neg (by omega), if_neg (by omega), if_neg (by omega), if_neg (by omega), if_neg (by omega), if_neg (by omega)]
    rw [this]; exact h0 _ (by omega)

