theorem sumTo_e {f g : Nat → Int} (h : ∀ j, f j = g j) (n : Nat) : sumTo f n = sumTo g n := sumTo_congr n fun j _ => h j
/-- what speaks of the designs alone is kept -/
theorem agr.cl {ks : List Nat} {S S' : Sto} (h : agr ks S S') (h3 : 3 ∉ ks) (h11 : 11 ∉ ks) {d j : Int} : clK S' d j = clK S d j := by
  have e : stK S' d j = stK S d j := h.mg h11
  have e2 := h.mg (i := 7 * d + stK S d j / 256) h3
  unfold clK
  rw [e]; exact e2
theorem agr.cnt {ks : List Nat} {S S' : Sto} (h : agr ks S S') (h3 : 3 ∉ ks) (h11 : 11 ∉ ks) {d c : Int} {n : Nat} : cntC S' d c n = cntC S d c n := by
  unfold cntC
  refine sumTo_e (fun j => ?_) n
  rw [h.cl h3 h11]
theorem agr.st {ks : List Nat} {S S' : Sto} (h : agr ks S S') (h11 : 11 ∉ ks) {d j : Int} : stOK S' d j ↔ stOK S d j := by
  have e : stK S' d j = stK S d j := h.mg h11
  unfold stOK
  rw [e]
theorem agr.ds {ks : List Nat} {S S' : Sto} (h : agr ks S S') (h3 : 3 ∉ ks) (h10 : 10 ∉ ks) (h11 : 11 ∉ ks) {d : Int} : dsOK S' d ↔ dsOK S d := by
  have e10 : mnK S' d = mnK S d := h.mg h10
  unfold dsOK
  simp only [h.cl h3 h11, h.st h11, e10]
theorem agr.or {ks : List Nat} {S S' : Sto} (h : agr ks S S') (h3 : 3 ∉ ks) (h10 : 10 ∉ ks) (h11 : 11 ∉ ks) (h24 : 24 ∉ ks) (h25 : 25 ∉ ks) {o : Int} : orOK S' o ↔ orOK S o := by
  unfold orOK
  have e24 : ∀ i : Int, S'.2.1 (mt 24) i.toNat = S.2.1 (mt 24) i.toNat := fun i => h.mg h24
  have e25 : ∀ i : Int, S'.2.1 (mt 25) i.toNat = S.2.1 (mt 25) i.toNat := fun i => h.mg h25
  simp only [h.ds h3 h10 h11, e24, e25]
theorem agr.need {ks : List Nat} {S S' : Sto} (h : agr ks S S') (h3 : 3 ∉ ks) (h10 : 10 ∉ ks) (h11 : 11 ∉ ks) (h24 : 24 ∉ ks) (h25 : 25 ∉ ks) {o c : Int} : needK S' o c = needK S o c := by
  unfold needK
  have e24 : ∀ i : Int, S'.2.1 (mt 24) i.toNat = S.2.1 (mt 24) i.toNat := fun i => h.mg h24
  have e25 : ∀ i : Int, S'.2.1 (mt 25) i.toNat = S.2.1 (mt 25) i.toNat := fun i => h.mg h25
  have e10 : ∀ i : Int, S'.2.1 (mt 10) i.toNat = S.2.1 (mt 10) i.toNat := fun i => h.mg h10
  simp only [h.cnt h3 h11, e24, e25, e10]
theorem agr.stk {ks : List Nat} {S S' : Sto} (h : agr ks S S') (h22 : 22 ∉ ks) : stkOK S' ↔ stkOK S := by
  have e : ∀ i : Int, S'.2.1 (mt 22) i.toNat = S.2.1 (mt 22) i.toNat := fun i => h.mg h22
  unfold stkOK
  simp only [e]
theorem agr.shf {ks : List Nat} {S S' : Sto} (h : agr ks S S') (h22 : 22 ∉ ks) {c n : Int} : shF S' c n = shF S c n := by
  have e : ∀ i : Int, S'.2.1 (mt 22) i.toNat = S.2.1 (mt 22) i.toNat := fun i => h.mg h22
  unfold shF
  simp only [e]
/-- the shade that start gives a colour of an order -/
def giv (S : Sto) (o c : Int) : Int := if cntD S o c = 0 then -1 else shF S c (needK S o c)
/-- the first n colours of an order are given their shades -/
def fillS (S T : Sto) (o : Int) : Nat → Sto
  | 0 => T
  | n + 1 => updI (fillS S T o n) (mt 31) (6 * o + n).toNat (giv S o n)
theorem fillS_ag {S T : Sto} {o : Int} : ∀ n, agr [31] T (fillS S T o n)
  | 0 => agr.rf
  | n + 1 => (fillS_ag n).upd (by simp)
def canSt (S : Sto) (o m : Int) : Prop := mg S 26 o = 0 ∧ mg S 17 m = -1 ∧ fitP S o m
def startR (S : Sto) (o m k : Int) (S' : Sto) : Prop := ((¬ (0 ≤ o ∧ o < nO S ∧ 0 ≤ m ∧ m < nM S) ∧ k = 1) ∨ ((0 ≤ o ∧ o < nO S ∧ 0 ≤ m ∧ m < nM S) ∧ canSt S o m ∧ k = 0) ∨ ((0 ≤ o ∧ o < nO S ∧ 0 ≤ m ∧ m < nM S) ∧ ¬ canSt S o m ∧ k = 2)) ∧ (k ≠ 0 → S' = thr S k) ∧
  (k = 0 → S' = updI (updI (updI (fillS S (thr S 0) o 6) (mt 26) o.toNat 1) (mt 27) o.toNat m) (mt 17) m.toNat o)
def s_start : Spec := fun as S post => match as with
  | [.inr (.inr (some 2)), .inl o, .inl m] => (∃ n, MI n S) ∧ (InR o ∧ InR m) ∧ ∀ k S', startR S o m k S' → post (.inl none) S'
  | _ => False
def spX7_start : Nat → CD := spF mdX7_start fun i => match i with
  | 1 => (s_isNum_23, 0, 0, 2)
  | 2 => (s_isNum_13, 0, 0, 2)
  | 3 => (s_isFit, 0, 0, 4)
  | 4 => (s_holds, 0, 0, 1)
  | 5 => (s_manyOf, 0, 0, 2)
  | 6 => (s_shadeFor, 0, 0, 3)
  | _ => noR
set_option maxHeartbeats 4000000 in
set_option maxRecDepth 100000 in
theorem sat_X7_start : Sat mX7_start s_start 0 0 5 := by
  refine sat_of (E := eX7_start) (sp := spX7_start) (ini := false) (by decide +kernel) (fun h => by cases h) okX7_start (fun i => match i with
    | 1 => ⟨sat_X7_isOrder, Nat.le_of_ble_eq_true rfl⟩
    | 2 => ⟨sat_X7_isMachine, Nat.le_of_ble_eq_true rfl⟩
    | 3 => ⟨sat_X7_isFit, Nat.le_of_ble_eq_true rfl⟩
    | 4 => ⟨sat_X7_holds, Nat.le_of_ble_eq_true rfl⟩
    | 5 => ⟨sat_X7_manyOf, Nat.le_of_ble_eq_true rfl⟩
    | 6 => ⟨sat_X7_shadeFor, Nat.le_of_ble_eq_true rfl⟩
    | i + 7 => ⟨sat_no _, Nat.le_of_ble_eq_true rfl⟩
    | 0 => ⟨sat_no _, Nat.le_of_ble_eq_true rfl⟩) ?_
  intro as S post h
  match as, h with
  | [.inr (.inr (some 2)), .inl o, .inl m], h =>
    obtain ⟨⟨n9, hI⟩, hin, h⟩ := h
    have hI2 := hI
    obtain ⟨hM, hN, hdr, -, -, -, -, hstk⟩ := hI2
    have hr := hM.2.1
    unfold nD nM nO at hN
    unfold startR nO nM at h
    have hor : 0 ≤ o → o < mf S 23 → orOK S o := fun h0 h1 => hI.or h0 h1
    have hma : 0 ≤ m → m < mf S 13 → macI n9 S m := fun h0 h1 => hI.2.2.2.2.1 m h0 h1
    have hoi : 0 ≤ o → o < mf S 23 → ordI n9 S o := fun h0 h1 => hI.2.2.2.2.2.1 o h0 h1
    have hmul : ∀ q w : Int, 0 ≤ q → q ≤ 2240 → 1 ≤ w → w ≤ 50 → 0 ≤ w * q ∧ w * q ≤ 112000 := fun q w h1 h2 h3 h4 => ⟨Int.mul_nonneg (by omega) h1, by
      have := Int.mul_le_mul h4 h2 h1 (by omega : (0 : Int) ≤ 50)
      omega⟩
    refine bodyL [(89, fun ms L st S' c => ∃ (k : Nat) (x3 x4 : AV), L = [vT 2, vI o, vI m, x3, x4, vI k] ∧ st = [] ∧ c = (0, 0) ∧ ms = 6 - k ∧ k ≤ 6 ∧ (0 ≤ o ∧ o < mf S 23 ∧ 0 ≤ m ∧ m < mf S 13) ∧ canSt S o m ∧ S' = fillS S (thr S 0) o k)] 20 200 rfl
      (List.forall_mem_cons.mpr ⟨?_, fun q hq => by cases hq⟩) ?_
    · rintro ms L st S' c ⟨k, x3, x4, rfl, rfl, rfl, rfl, hk, hom, hcan, hS⟩
      have hag : agr [31] (thr S 0) S' := by rw [hS]; exact fillS_ag k
      have hM : MS S' := hag.ms hM
      have hr := hM.2.1
      have hor1 := hor hom.1 hom.2.1
      have hor' : orOK S' o := (hag.or (by simp) (by simp) (by simp) (by simp) (by simp)).mpr hor1
      have hst' : stkOK S' := (hag.stk (by simp)).mpr hstk
      have hds' := hor'.2.2.2.2
      have hcn : cntC S' (mg S' 24 o) k (mnK S' (mg S' 24 o)).toNat = cntD S o k := by
        rw [hag.cnt (by simp) (by simp)]
        have e24 : mg S' 24 o = mg S 24 o := hag.mg (by simp)
        rw [e24]
        have e10 : mnK S' (mg S 24 o) = mnK S (mg S 24 o) := hag.mg (by simp)
        rw [e10]; rfl
      have hnd : needK S' o k = needK S o k := hag.need (by simp) (by simp) (by simp) (by simp) (by simp)
      have hsf : ∀ r, shP S' k (needK S' o k) (-1) r → r = shF S k (needK S o k) := fun r q => by rw [shP_F q, hag.shf (by simp), hnd]; rfl
      repeat' (first
          | omega
          | with_reducible apply And.intro
          | (intro c9; (try simp only [mg, mf, colK, stK, clK, mnK, shN] at c9))
          | exact hM
          | exact ms_o hM
          | (refine ms_r hM rfl rfl ?_ ?_ <;> (try simp only [mLen]) <;> omega)
          | (refine ms_w hM rfl rfl ?_ ?_ <;> (try simp only [mLen]) <;> omega)
          | exact hds'
          | exact hor'
          | exact hst'
          | (simp only [mg, mf, colK, stK, clK, mnK, shN]; omega)
          | refine Exists.intro _ (And.intro rfl ?_)
          | refine Exists.intro _ (And.intro ((congrFun hr _).trans rfl) ?_)
          | ((with_reducible show wp _ _ _ _ _ _ _ _ _ _ _ _ _ _); conv => whnf)
          | ((with_reducible show callK _ _ _ _ _ _ _ _ _); conv => whnf)
          | ((with_reducible show condK _ _ _ _ _); conv => whnf)
          | ((with_reducible show st1 _ _ _ _ _ _ _ _ _ _ _ _); conv => whnf)
          | ((with_reducible show (Prod.fst _ : Spec) _ _ _); conv => whnf)
          | ((with_reducible show shortK _ _); conv => whnf)
          | exact Nat.le_of_ble_eq_true rfl)
      · have e : k = 6 := by omega
        subst e
        exact h 0 _ ⟨Or.inr (Or.inl ⟨hom, hcan, rfl⟩), fun q => absurd rfl q, fun _ => by rw [hS]⟩
      · rename_i hc2 hc1 hc r9
        have q := hsf _ c9
        refine ⟨6 - (k + 1), by omega, k + 1, x3, x4, by rw [Int.natCast_add]; rfl, rfl, rfl, rfl, by omega, hom, hcan, ?_⟩
        rw [q, hS]
        show _ = updI (fillS S (thr S 0) o k) (mt 31) (6 * o + (k : Int)).toNat (giv S o k)
        unfold giv
        rw [if_neg (fun a => hc (hc1.1.trans (hcn.trans a)))]
      · rename_i hc
        refine ⟨6 - (k + 1), by omega, k + 1, x3, x4, by rw [Int.natCast_add]; rfl, rfl, rfl, rfl, by omega, hom, hcan, ?_⟩
        rw [hS]
        show _ = updI (fillS S (thr S 0) o k) (mt 31) (6 * o + (k : Int)).toNat (giv S o k)
        unfold giv
        rw [if_pos (hcn.symm.trans (hc.1.symm.trans c9))]
    · have hb26 : 0 ≤ o → o < mf S 23 → 0 ≤ mg S 26 o ∧ mg S 26 o ≤ 3 := fun h0 h1 => (hoi h0 h1).2.2.1
      have hb17 : 0 ≤ m → m < mf S 13 → -1 ≤ mg S 17 m ∧ mg S 17 m < 20 := fun h0 h1 => by
        have q := (hma h0 h1).2.2.2.2.2.2.2
        have q2 := hI.2.1.2.2.2.2.2.2.2
        omega
      have hb15 : 0 ≤ m → m < mf S 13 → (1 ≤ mg S 15 m ∧ mg S 15 m ≤ 16) ∧ (1 ≤ mg S 16 m ∧ mg S 16 m ≤ 16) := fun h0 h1 => ⟨(hma h0 h1).2.1, (hma h0 h1).2.2.1⟩
      have hor9 : orOK S o → o < 20 := fun q => q.2.1
      dsimp only [mg, mf, colK, stK, clK, mnK, shN] at h hN hor hb26 hb17 hb15
      repeat' (first
          | omega
          | with_reducible apply And.intro
          | (intro c9; (try simp only [mg, mf, colK, stK, clK, mnK, shN, u2] at c9))
          | exact hM
          | exact ms_o hM
          | (refine ms_r hM rfl rfl ?_ ?_ <;> (try simp only [mLen]) <;> omega)
          | (refine ms_w hM rfl rfl ?_ ?_ <;> (try simp only [mLen]) <;> omega)
          | exact hor (by omega) (by omega)
          | exact hstk
          | (simp only [mg, mf, colK, stK, clK, mnK, shN]; omega)
          | (simp only [mg, mf, colK, stK, clK, mnK, shN, u2]; omega)
          | refine Exists.intro _ (And.intro rfl ?_)
          | refine Exists.intro _ (And.intro ((congrFun hr _).trans rfl) ?_)
          | ((with_reducible show wp _ _ _ _ _ _ _ _ _ _ _ _ _ _); conv => whnf)
          | ((with_reducible show callK _ _ _ _ _ _ _ _ _); conv => whnf)
          | ((with_reducible show condK _ _ _ _ _); conv => whnf)
          | ((with_reducible show st1 _ _ _ _ _ _ _ _ _ _ _ _); conv => whnf)
          | ((with_reducible show (Prod.fst _ : Spec) _ _ _); conv => whnf)
          | ((with_reducible show shortK _ _); conv => whnf)
          | exact Nat.le_of_ble_eq_true rfl)
      all_goals first
        | exact h 1 _ ⟨Or.inl ⟨by omega, rfl⟩, fun _ => rfl, fun q => by omega⟩
        | exact h 2 _ ⟨Or.inr (Or.inr ⟨by omega, fun q => ‹S.2.1 (mt 26) o.toNat ≠ 0› q.1, rfl⟩), fun _ => rfl, fun q => by omega⟩
        | exact h 2 _ ⟨Or.inr (Or.inr ⟨by omega, fun q => ‹S.2.1 (mt 17) m.toNat ≠ -1› q.2.1, rfl⟩), fun _ => rfl, fun q => by omega⟩
        | exact h 2 _ ⟨Or.inr (Or.inr ⟨by omega, fun q => isB0 ‹isB _ (fitP S o m)› ‹_› q.2.2, rfl⟩), fun _ => rfl, fun q => by omega⟩
        | exact ⟨6, by omega, 0, _, _, rfl, rfl, rfl, rfl, by omega, by simp only [mg, mf, colK, stK, clK, mnK, shN]; omega, ⟨‹S.2.1 (mt 26) o.toNat = 0›, ‹S.2.1 (mt 17) m.toNat = -1›, isB1 ‹isB _ (fitP S o m)› ‹_›⟩, rfl⟩
        | (exfalso; exact (isB1' ‹isB _ True›) ‹_›)
        | trace_state
