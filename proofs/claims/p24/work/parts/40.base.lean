/-- the reference's fields that hold arrays -/
def isM (k : Nat) : Bool := !(k == 0 || k == 8 || k == 13 || k == 23)
def mt (k : Nat) : Nat := 20 + k
abbrev mg (S : Sto) (k : Nat) (i : Int) : Int := S.2.1 (mt k) i.toNat
abbrev mf (S : Sto) (k : Nat) : Int := S.2.1 2 k
abbrev colK (S : Sto) (d k : Int) : Int := mg S 3 (7 * d + k)
abbrev stK (S : Sto) (d j : Int) : Int := mg S 11 (2240 * d + j)
abbrev clK (S : Sto) (d j : Int) : Int := mg S 3 (7 * d + stK S d j / 256)
abbrev shN (S : Sto) (d : Int) : Int := mg S 1 d
abbrev mnK (S : Sto) (d : Int) : Int := mg S 10 d
def noR : Spec × Nat × Nat × Nat := (fun _ _ _ => False, 0, 0, 0)
def spF (md : Nat → MD) (rest : Nat → Spec × Nat × Nat × Nat) : Nat → CD := fun i => (md i, rest i)
theorem sat_no (q : MD) : Sat q (fun _ _ _ => False) 0 0 0 := fun _ _ _ _ _ _ _ _ _ h => h.elim
abbrev isB (r : Int) (P : Prop) : Prop := (P ∧ r = 1) ∨ (¬ P ∧ r = 0)
def cut0 : CutF := fun _ => none
theorem body0 {E : Nat → Ent} {sp : Nat → CD} {mc ms nL : Nat} {post : Res → Sto → Prop} {as : List AV} {S : Sto} (f : Nat) (h1 : argOK nL as = true) (h : wp E sp (mc, ms) (krP post mc ms) (ktP post) (kxP post mc ms) cut0 0 f 0 (entL nL as) [] S (0, 0)) : bodyVC E sp mc ms nL post as S :=
  ⟨h1, cut0, (fun pc I hI => by cases hI), 0, f, h⟩
abbrev InvF := Nat → List AV → List AV → Sto → Nat × Nat → Prop
def cut1 (p : Nat) (I : InvF) : CutF := fun pc => cond (Nat.beq pc p) (some I) none
def cut2 (p : Nat) (I : InvF) (p2 : Nat) (I2 : InvF) : CutF := fun pc => cond (Nat.beq pc p) (some I) (cond (Nat.beq pc p2) (some I2) none)
def cut3 (p : Nat) (I : InvF) (p2 : Nat) (I2 : InvF) (p3 : Nat) (I3 : InvF) : CutF := fun pc => cond (Nat.beq pc p) (some I) (cond (Nat.beq pc p2) (some I2) (cond (Nat.beq pc p3) (some I3) none))
theorem body1 {E : Nat → Ent} {sp : Nat → CD} {mc ms nL : Nat} {post : Res → Sto → Prop} {as : List AV} {S : Sto} (p : Nat) (I : InvF) (n f : Nat) (h1 : argOK nL as = true)
    (hv : ∀ n L st S c, I n L st S c → st1 sp (mc, ms) (krP post mc ms) (ktP post) (kxP post mc ms) (wp E sp (mc, ms) (krP post mc ms) (ktP post) (kxP post mc ms) (cut1 p I) n f) p (E p) L st S c)
    (h : wp E sp (mc, ms) (krP post mc ms) (ktP post) (kxP post mc ms) (cut1 p I) n f 0 (entL nL as) [] S (0, 0)) : bodyVC E sp mc ms nL post as S := by
  refine ⟨h1, cut1 p I, fun pc J hJ => ?_, n, f, h⟩
  unfold cut1 at hJ
  cases hb : Nat.beq pc p with
  | false => rw [hb] at hJ; cases hJ
  | true =>
    rw [hb] at hJ
    have := Nat.eq_of_beq_eq_true hb
    subst this
    cases hJ
    exact fun n L st S c hi => ⟨f, hv n L st S c hi⟩
theorem body2 {E : Nat → Ent} {sp : Nat → CD} {mc ms nL : Nat} {post : Res → Sto → Prop} {as : List AV} {S : Sto} (p : Nat) (I : InvF) (p2 : Nat) (I2 : InvF) (n f : Nat) (h1 : argOK nL as = true)
    (hv : ∀ n L st S c, I n L st S c → st1 sp (mc, ms) (krP post mc ms) (ktP post) (kxP post mc ms) (wp E sp (mc, ms) (krP post mc ms) (ktP post) (kxP post mc ms) (cut2 p I p2 I2) n f) p (E p) L st S c)
    (hv2 : ∀ n L st S c, I2 n L st S c → st1 sp (mc, ms) (krP post mc ms) (ktP post) (kxP post mc ms) (wp E sp (mc, ms) (krP post mc ms) (ktP post) (kxP post mc ms) (cut2 p I p2 I2) n f) p2 (E p2) L st S c)
    (h : wp E sp (mc, ms) (krP post mc ms) (ktP post) (kxP post mc ms) (cut2 p I p2 I2) n f 0 (entL nL as) [] S (0, 0)) : bodyVC E sp mc ms nL post as S := by
  refine ⟨h1, cut2 p I p2 I2, fun pc J hJ => ?_, n, f, h⟩
  unfold cut2 at hJ
  cases hb : Nat.beq pc p with
  | true =>
    rw [hb] at hJ
    have := Nat.eq_of_beq_eq_true hb
    subst this
    cases hJ
    exact fun n L st S c hi => ⟨f, hv n L st S c hi⟩
  | false =>
    rw [hb] at hJ
    cases hb2 : Nat.beq pc p2 with
    | false => rw [hb2] at hJ; cases hJ
    | true =>
      rw [hb2] at hJ
      have := Nat.eq_of_beq_eq_true hb2
      subst this
      cases hJ
      exact fun n L st S c hi => ⟨f, hv2 n L st S c hi⟩
theorem body3 {E : Nat → Ent} {sp : Nat → CD} {mc ms nL : Nat} {post : Res → Sto → Prop} {as : List AV} {S : Sto} (p : Nat) (I : InvF) (p2 : Nat) (I2 : InvF) (p3 : Nat) (I3 : InvF) (n f : Nat) (h1 : argOK nL as = true)
    (hv : ∀ n L st S c, I n L st S c → st1 sp (mc, ms) (krP post mc ms) (ktP post) (kxP post mc ms) (wp E sp (mc, ms) (krP post mc ms) (ktP post) (kxP post mc ms) (cut3 p I p2 I2 p3 I3) n f) p (E p) L st S c)
    (hv2 : ∀ n L st S c, I2 n L st S c → st1 sp (mc, ms) (krP post mc ms) (ktP post) (kxP post mc ms) (wp E sp (mc, ms) (krP post mc ms) (ktP post) (kxP post mc ms) (cut3 p I p2 I2 p3 I3) n f) p2 (E p2) L st S c)
    (hv3 : ∀ n L st S c, I3 n L st S c → st1 sp (mc, ms) (krP post mc ms) (ktP post) (kxP post mc ms) (wp E sp (mc, ms) (krP post mc ms) (ktP post) (kxP post mc ms) (cut3 p I p2 I2 p3 I3) n f) p3 (E p3) L st S c)
    (h : wp E sp (mc, ms) (krP post mc ms) (ktP post) (kxP post mc ms) (cut3 p I p2 I2 p3 I3) n f 0 (entL nL as) [] S (0, 0)) : bodyVC E sp mc ms nL post as S := by
  refine ⟨h1, cut3 p I p2 I2 p3 I3, fun pc J hJ => ?_, n, f, h⟩
  unfold cut3 at hJ
  cases hb : Nat.beq pc p with
  | true =>
    rw [hb] at hJ
    have := Nat.eq_of_beq_eq_true hb
    subst this
    cases hJ
    exact fun n L st S c hi => ⟨f, hv n L st S c hi⟩
  | false =>
    rw [hb] at hJ
    cases hb2 : Nat.beq pc p2 with
    | true =>
      rw [hb2] at hJ
      have := Nat.eq_of_beq_eq_true hb2
      subst this
      cases hJ
      exact fun n L st S c hi => ⟨f, hv2 n L st S c hi⟩
    | false =>
      rw [hb2] at hJ
      cases hb3 : Nat.beq pc p3 with
      | false => rw [hb3] at hJ; cases hJ
      | true =>
        rw [hb3] at hJ
        have := Nat.eq_of_beq_eq_true hb3
        subst this
        cases hJ
        exact fun n L st S c hi => ⟨f, hv3 n L st S c hi⟩
theorem updI_1 {S : Sto} {t k : Nat} {v : Int} : (updI S t k v).1 = S.1 := rfl
theorem updI_3 {S : Sto} {t k : Nat} {v : Int} : (updI S t k v).2.2 = S.2.2 := rfl
theorem updI_2 {S : Sto} {t k : Nat} {v : Int} {t' j : Nat} : (updI S t k v).2.1 t' j = if t' = t ∧ j = k then v else S.2.1 t' j := rfl
theorem updR_1 {S : Sto} {t k : Nat} {v : Option Nat} : (updR S t k v).1 = S.1 := rfl
theorem updR_2 {S : Sto} {t k : Nat} {v : Option Nat} : (updR S t k v).2.1 = S.2.1 := rfl
theorem updR_3 {S : Sto} {t k : Nat} {v : Option Nat} {t' j : Nat} : (updR S t k v).2.2 t' j = if t' = t ∧ j = k then v else S.2.2 t' j := rfl
theorem newS_1 {S : Sto} {t : Nat} {x : Nat × Nat} {t' : Nat} : (newS S t x).1 t' = if t' = t then some x else S.1 t' := rfl
theorem newS_2 {S : Sto} {t : Nat} {x : Nat × Nat} {t' j : Nat} : (newS S t x).2.1 t' j = if t' = t then 0 else S.2.1 t' j := rfl
theorem newS_3 {S : Sto} {t : Nat} {x : Nat × Nat} {t' j : Nat} : (newS S t x).2.2 t' j = if t' = t then none else S.2.2 t' j := rfl
theorem kr_i {post : Res → Sto → Prop} {mc ms : Nat} {v : Option AV} {S : Sto} {c : Nat × Nat} (h : post (.inl v) S) (h1 : c.1 ≤ mc) (h2 : c.2 ≤ ms) : krP post mc ms v S c := ⟨h, h1, h2⟩
/-- specs of functions of ints alone -/
def sF1 (pre : Int → Prop) (rel : Int → Int → Prop) : Spec := fun as S post => match as with
  | [.inl a] => pre a ∧ ∀ r : Int, rel a r → post (.inl (some (vI r))) S
  | _ => False
def sF2 (pre : Int → Int → Prop) (rel : Int → Int → Int → Prop) : Spec := fun as S post => match as with
  | [.inl a, .inl b] => pre a b ∧ ∀ r : Int, rel a b r → post (.inl (some (vI r))) S
  | _ => False
def sF3 (pre : Int → Int → Int → Prop) (rel : Int → Int → Int → Int → Prop) : Spec := fun as S post => match as with
  | [.inl a, .inl b, .inl d] => pre a b d ∧ ∀ r : Int, rel a b d r → post (.inl (some (vI r))) S
  | _ => False
def s_isColour : Spec := sF1 InR fun z r => isB r (0 ≤ z ∧ z < 6)
def s_isShade : Spec := sF1 InR fun z r => isB r (0 ≤ z ∧ z < 3)
def s_isFrom1To : Spec := sF2 (fun a b => InR a ∧ InR b) fun a b r => isB r (1 ≤ a ∧ a ≤ b)
def s_isSpan : Spec := sF2 (fun a b => InR a ∧ InR b) fun a b r => isB r (0 ≤ a ∧ a < 16 ∧ 1 ≤ b ∧ b ≤ 16 - a)
def s_xOf : Spec := sF1 (fun a => 0 ≤ a ∧ a ≤ 1000000) fun a r => r = a % 16
def s_yOf : Spec := sF1 (fun a => 0 ≤ a ∧ a ≤ 1000000) fun a r => r = a / 16
def spX6_isColour : Nat → CD := spF mdX6_isColour fun i => match i with
  | _ => noR
set_option maxHeartbeats 4000000 in
set_option maxRecDepth 100000 in
theorem sat_X6_isColour : Sat mX6_isColour s_isColour 0 0 1 := by
  refine sat_of (E := eX6_isColour) (sp := spX6_isColour) (ini := false) (by decide +kernel) (fun h => by cases h) okX6_isColour (fun i => match i with
    | _ => ⟨sat_no _, Nat.le_of_ble_eq_true rfl⟩) ?_
  intro as S post h
  match as, h with
  | [.inl a], h =>
    obtain ⟨h1, h⟩ := h
    refine body0 50 rfl ?_
    repeat' (first
        | omega
        | with_reducible apply And.intro
        | (intro c9; (try simp only [mg, mf, colK, stK, clK, mnK, shN] at c9))
        | (exact kr_i (h _ (by omega)) (Nat.le_of_ble_eq_true rfl) (Nat.le_of_ble_eq_true rfl))
        | (simp only [mg, mf, colK, stK, clK, mnK, shN]; omega)
        | refine Exists.intro _ (And.intro rfl ?_)
        | ((with_reducible show wp _ _ _ _ _ _ _ _ _ _ _ _ _ _); conv => whnf)
        | ((with_reducible show callK _ _ _ _ _ _ _ _ _); conv => whnf)
        | ((with_reducible show condK _ _ _ _ _); conv => whnf)
        | ((with_reducible show st1 _ _ _ _ _ _ _ _ _ _ _ _); conv => whnf)
        | ((with_reducible show (Prod.fst _ : Spec) _ _ _); conv => whnf)
        | ((with_reducible show shortK _ _); conv => whnf)
        | exact Nat.le_of_ble_eq_true rfl)
def spX6_isShade : Nat → CD := spF mdX6_isShade fun i => match i with
  | _ => noR
set_option maxHeartbeats 4000000 in
set_option maxRecDepth 100000 in
theorem sat_X6_isShade : Sat mX6_isShade s_isShade 0 0 1 := by
  refine sat_of (E := eX6_isShade) (sp := spX6_isShade) (ini := false) (by decide +kernel) (fun h => by cases h) okX6_isShade (fun i => match i with
    | _ => ⟨sat_no _, Nat.le_of_ble_eq_true rfl⟩) ?_
  intro as S post h
  match as, h with
  | [.inl a], h =>
    obtain ⟨h1, h⟩ := h
    refine body0 50 rfl ?_
    repeat' (first
        | omega
        | with_reducible apply And.intro
        | (intro c9; (try simp only [mg, mf, colK, stK, clK, mnK, shN] at c9))
        | (exact kr_i (h _ (by omega)) (Nat.le_of_ble_eq_true rfl) (Nat.le_of_ble_eq_true rfl))
        | (simp only [mg, mf, colK, stK, clK, mnK, shN]; omega)
        | refine Exists.intro _ (And.intro rfl ?_)
        | ((with_reducible show wp _ _ _ _ _ _ _ _ _ _ _ _ _ _); conv => whnf)
        | ((with_reducible show callK _ _ _ _ _ _ _ _ _); conv => whnf)
        | ((with_reducible show condK _ _ _ _ _); conv => whnf)
        | ((with_reducible show st1 _ _ _ _ _ _ _ _ _ _ _ _); conv => whnf)
        | ((with_reducible show (Prod.fst _ : Spec) _ _ _); conv => whnf)
        | ((with_reducible show shortK _ _); conv => whnf)
        | exact Nat.le_of_ble_eq_true rfl)
def spX6_isFrom1To : Nat → CD := spF mdX6_isFrom1To fun i => match i with
  | _ => noR
set_option maxHeartbeats 4000000 in
set_option maxRecDepth 100000 in
theorem sat_X6_isFrom1To : Sat mX6_isFrom1To s_isFrom1To 0 0 1 := by
  refine sat_of (E := eX6_isFrom1To) (sp := spX6_isFrom1To) (ini := false) (by decide +kernel) (fun h => by cases h) okX6_isFrom1To (fun i => match i with
    | _ => ⟨sat_no _, Nat.le_of_ble_eq_true rfl⟩) ?_
  intro as S post h
  match as, h with
  | [.inl a, .inl b], h =>
    obtain ⟨h1, h⟩ := h
    refine body0 50 rfl ?_
    repeat' (first
        | omega
        | with_reducible apply And.intro
        | (intro c9; (try simp only [mg, mf, colK, stK, clK, mnK, shN] at c9))
        | (exact kr_i (h _ (by omega)) (Nat.le_of_ble_eq_true rfl) (Nat.le_of_ble_eq_true rfl))
        | (simp only [mg, mf, colK, stK, clK, mnK, shN]; omega)
        | refine Exists.intro _ (And.intro rfl ?_)
        | ((with_reducible show wp _ _ _ _ _ _ _ _ _ _ _ _ _ _); conv => whnf)
        | ((with_reducible show callK _ _ _ _ _ _ _ _ _); conv => whnf)
        | ((with_reducible show condK _ _ _ _ _); conv => whnf)
        | ((with_reducible show st1 _ _ _ _ _ _ _ _ _ _ _ _); conv => whnf)
        | ((with_reducible show (Prod.fst _ : Spec) _ _ _); conv => whnf)
        | ((with_reducible show shortK _ _); conv => whnf)
        | exact Nat.le_of_ble_eq_true rfl)
def spX6_isSpan : Nat → CD := spF mdX6_isSpan fun i => match i with
  | 1 => (s_isFrom1To, 0, 0, 1)
  | _ => noR
set_option maxHeartbeats 4000000 in
set_option maxRecDepth 100000 in
theorem sat_X6_isSpan : Sat mX6_isSpan s_isSpan 0 0 2 := by
  refine sat_of (E := eX6_isSpan) (sp := spX6_isSpan) (ini := false) (by decide +kernel) (fun h => by cases h) okX6_isSpan (fun i => match i with
    | 1 => ⟨sat_X6_isFrom1To, Nat.le_of_ble_eq_true rfl⟩
    | i + 2 => ⟨sat_no _, Nat.le_of_ble_eq_true rfl⟩
    | 0 => ⟨sat_no _, Nat.le_of_ble_eq_true rfl⟩) ?_
  intro as S post h
  match as, h with
  | [.inl a, .inl b], h =>
    obtain ⟨h1, h⟩ := h
    refine body0 50 rfl ?_
    repeat' (first
        | omega
        | with_reducible apply And.intro
        | (intro c9; (try simp only [mg, mf, colK, stK, clK, mnK, shN] at c9))
        | (exact kr_i (h _ (by omega)) (Nat.le_of_ble_eq_true rfl) (Nat.le_of_ble_eq_true rfl))
        | (simp only [mg, mf, colK, stK, clK, mnK, shN]; omega)
        | refine Exists.intro _ (And.intro rfl ?_)
        | ((with_reducible show wp _ _ _ _ _ _ _ _ _ _ _ _ _ _); conv => whnf)
        | ((with_reducible show callK _ _ _ _ _ _ _ _ _); conv => whnf)
        | ((with_reducible show condK _ _ _ _ _); conv => whnf)
        | ((with_reducible show st1 _ _ _ _ _ _ _ _ _ _ _ _); conv => whnf)
        | ((with_reducible show (Prod.fst _ : Spec) _ _ _); conv => whnf)
        | ((with_reducible show shortK _ _); conv => whnf)
        | exact Nat.le_of_ble_eq_true rfl)
def spX6_xOf : Nat → CD := spF mdX6_xOf fun i => match i with
  | _ => noR
set_option maxHeartbeats 4000000 in
set_option maxRecDepth 100000 in
theorem sat_X6_xOf : Sat mX6_xOf s_xOf 0 0 1 := by
  refine sat_of (E := eX6_xOf) (sp := spX6_xOf) (ini := false) (by decide +kernel) (fun h => by cases h) okX6_xOf (fun i => match i with
    | _ => ⟨sat_no _, Nat.le_of_ble_eq_true rfl⟩) ?_
  intro as S post h
  match as, h with
  | [.inl a], h =>
    obtain ⟨h1, h⟩ := h
    refine body0 50 rfl ?_
    repeat' (first
        | omega
        | with_reducible apply And.intro
        | (intro c9; (try simp only [mg, mf, colK, stK, clK, mnK, shN] at c9))
        | (exact kr_i (h _ (by omega)) (Nat.le_of_ble_eq_true rfl) (Nat.le_of_ble_eq_true rfl))
        | (simp only [mg, mf, colK, stK, clK, mnK, shN]; omega)
        | refine Exists.intro _ (And.intro rfl ?_)
        | ((with_reducible show wp _ _ _ _ _ _ _ _ _ _ _ _ _ _); conv => whnf)
        | ((with_reducible show callK _ _ _ _ _ _ _ _ _); conv => whnf)
        | ((with_reducible show condK _ _ _ _ _); conv => whnf)
        | ((with_reducible show st1 _ _ _ _ _ _ _ _ _ _ _ _); conv => whnf)
        | ((with_reducible show (Prod.fst _ : Spec) _ _ _); conv => whnf)
        | ((with_reducible show shortK _ _); conv => whnf)
        | exact Nat.le_of_ble_eq_true rfl)
def spX6_yOf : Nat → CD := spF mdX6_yOf fun i => match i with
  | _ => noR
set_option maxHeartbeats 4000000 in
set_option maxRecDepth 100000 in
theorem sat_X6_yOf : Sat mX6_yOf s_yOf 0 0 1 := by
  refine sat_of (E := eX6_yOf) (sp := spX6_yOf) (ini := false) (by decide +kernel) (fun h => by cases h) okX6_yOf (fun i => match i with
    | _ => ⟨sat_no _, Nat.le_of_ble_eq_true rfl⟩) ?_
  intro as S post h
  match as, h with
  | [.inl a], h =>
    obtain ⟨h1, h⟩ := h
    refine body0 50 rfl ?_
    repeat' (first
        | omega
        | with_reducible apply And.intro
        | (intro c9; (try simp only [mg, mf, colK, stK, clK, mnK, shN] at c9))
        | (exact kr_i (h _ (by omega)) (Nat.le_of_ble_eq_true rfl) (Nat.le_of_ble_eq_true rfl))
        | (simp only [mg, mf, colK, stK, clK, mnK, shN]; omega)
        | refine Exists.intro _ (And.intro rfl ?_)
        | ((with_reducible show wp _ _ _ _ _ _ _ _ _ _ _ _ _ _); conv => whnf)
        | ((with_reducible show callK _ _ _ _ _ _ _ _ _); conv => whnf)
        | ((with_reducible show condK _ _ _ _ _); conv => whnf)
        | ((with_reducible show st1 _ _ _ _ _ _ _ _ _ _ _ _); conv => whnf)
        | ((with_reducible show (Prod.fst _ : Spec) _ _ _); conv => whnf)
        | ((with_reducible show shortK _ _); conv => whnf)
        | exact Nat.le_of_ble_eq_true rfl)
def InRs (a b : Int) : Prop := InR a ∧ InR b
theorem bz_or0 (a : Int) (h : 0 ≤ a ∧ a < 128) : bOr a 0 = a := by
  obtain ⟨n, rfl⟩ : ∃ n : Nat, a = n := ⟨a.toNat, by omega⟩
  have : ∀ n : Nat, n < 128 → bOr (n : Int) 0 = n := by decide +kernel
  exact this n (by omega)
theorem bz_or (n k : Nat) (h : n < 128) (hk : k < 7) : bOr (n : Int) (bShl 1 (k : Int)) = ((n ||| 2 ^ k : Nat) : Int) := by
  have : ∀ n : Nat, n < 128 → ∀ k : Nat, k < 7 → bOr (n : Int) (bShl 1 (k : Int)) = ((n ||| 2 ^ k : Nat) : Int) := by decide +kernel
  exact this n h k hk
theorem bz_has (n k : Nat) (h : n < 128) (hk : k < 7) : bAnd (bShr (n : Int) (k : Int)) 1 = if n.testBit k then 1 else 0 := by
  have : ∀ n : Nat, n < 128 → ∀ k : Nat, k < 7 → bAnd (bShr (n : Int) (k : Int)) 1 = if n.testBit k then 1 else 0 := by decide +kernel
  exact this n h k hk
theorem bz_sub (n k : Nat) (h : n < 128) (hk : k < 128) : bAnd (n : Int) (bXor (k : Int) (-1)) = 0 ↔ n &&& k = n := by
  have : ∀ n : Nat, n < 128 → ∀ k : Nat, k < 128 → (bAnd (n : Int) (bXor (k : Int) (-1)) = 0 ↔ n &&& k = n) := by decide +kernel
  exact this n h k hk
theorem bz_subR (n k : Nat) (h : n < 128) (hk : k < 128) : InR (bAnd (n : Int) (bXor (k : Int) (-1))) := by
  have : ∀ n : Nat, n < 128 → ∀ k : Nat, k < 128 → InR (bAnd (n : Int) (bXor (k : Int) (-1))) := by decide +kernel
  exact this n h k hk
theorem exS {P : Int → Prop} {n : Int} (h : 0 ≤ n) : (∃ q, 0 ≤ q ∧ q < n + 1 ∧ P q) ↔ (∃ q, 0 ≤ q ∧ q < n ∧ P q) ∨ P n := by
  constructor
  · rintro ⟨q, h0, h1, h2⟩
    by_cases e : q = n
    · subst e; exact Or.inr h2
    · exact Or.inl ⟨q, h0, by omega, h2⟩
  · rintro (⟨q, h0, h1, h2⟩ | h2)
    · exact ⟨q, h0, by omega, h2⟩
    · exact ⟨n, h, by omega, h2⟩
theorem isB01 {r : Int} {P : Prop} (h : isB r P) : r = 0 ∨ r = 1 := by
  rcases h with ⟨-, q⟩ | ⟨-, q⟩ <;> omega
theorem isB1 {r : Int} {P : Prop} (h : isB r P) (h1 : r ≠ 0) : P := by
  rcases h with ⟨q, -⟩ | ⟨-, q⟩
  · exact q
  · exact absurd q h1
theorem isB0 {r : Int} {P : Prop} (h : isB r P) (h1 : r = 0) : ¬ P := by
  rcases h with ⟨-, q⟩ | ⟨q, -⟩
  · omega
  · exact q
theorem isBt {P : Prop} (h : P) : isB 1 P := Or.inl ⟨h, rfl⟩
theorem isBf {P : Prop} (h : ¬ P) : isB 0 P := Or.inr ⟨h, rfl⟩
theorem isBc {r : Int} {P Q : Prop} (h : isB r P) (e : P ↔ Q) : isB r Q := by
  rcases h with ⟨q, q2⟩ | ⟨q, q2⟩
  · exact Or.inl ⟨e.mp q, q2⟩
  · exact Or.inr ⟨fun w => q (e.mpr w), q2⟩
/-- a sum over the numbers below n -/
def sumTo (f : Nat → Int) : Nat → Int
  | 0 => 0
  | n + 1 => sumTo f n + f n
theorem sumTo_0n {f : Nat → Int} (h : ∀ j, 0 ≤ f j) : ∀ n, 0 ≤ sumTo f n
  | 0 => Int.le_refl 0
  | n + 1 => by have := sumTo_0n h n; have := h n; show 0 ≤ sumTo f n + f n; omega
theorem sumTo_le {f : Nat → Int} (h : ∀ j, f j ≤ 1) : ∀ n : Nat, sumTo f n ≤ n
  | 0 => by simp [sumTo]
  | n + 1 => by
    have := sumTo_le h n; have := h n
    show sumTo f n + f n ≤ ((n + 1 : Nat) : Int)
    omega
theorem sumTo_congr {f g : Nat → Int} : ∀ n : Nat, (∀ j, j < n → f j = g j) → sumTo f n = sumTo g n
  | 0, _ => rfl
  | n + 1, h => by
    show sumTo f n + f n = sumTo g n + g n
    rw [sumTo_congr n (fun j hj => h j (by omega)), h n (by omega)]
def cutL : List (Nat × InvF) → CutF
  | [] => fun _ => none
  | q :: r => fun pc => cond (Nat.beq pc q.1) (some q.2) (cutL r pc)
theorem cutL_e : ∀ {l : List (Nat × InvF)} {pc : Nat} {I : InvF}, cutL l pc = some I → (pc, I) ∈ l
  | [], pc, I, h => by cases h
  | q :: r, pc, I, h => by
    unfold cutL at h
    cases hb : Nat.beq pc q.1 with
    | true =>
      rw [hb] at h
      have e1 := Nat.eq_of_beq_eq_true hb
      have e2 : q.2 = I := by simpa using h
      rw [e1, ← e2]; exact List.mem_cons_self
    | false =>
      rw [hb] at h
      exact List.mem_cons_of_mem _ (cutL_e h)
theorem bodyL {E : Nat → Ent} {sp : Nat → CD} {mc ms nL : Nat} {post : Res → Sto → Prop} {as : List AV} {S : Sto} (l : List (Nat × InvF)) (n f : Nat) (h1 : argOK nL as = true)
    (hv : ∀ q ∈ l, ∀ n L st S c, q.2 n L st S c → st1 sp (mc, ms) (krP post mc ms) (ktP post) (kxP post mc ms) (wp E sp (mc, ms) (krP post mc ms) (ktP post) (kxP post mc ms) (cutL l) n f) q.1 (E q.1) L st S c)
    (h : wp E sp (mc, ms) (krP post mc ms) (ktP post) (kxP post mc ms) (cutL l) n f 0 (entL nL as) [] S (0, 0)) : bodyVC E sp mc ms nL post as S :=
  ⟨h1, cutL l, fun pc I hI n L st S c hi => ⟨f, hv (pc, I) (cutL_e hI) n L st S c hi⟩, n, f, h⟩
theorem bz_shl (n : Nat) (h : n < 16) : bShl 1 (n : Int) = ((2 ^ n : Nat) : Int) := by
  have : ∀ n : Nat, n < 16 → bShl 1 (n : Int) = ((2 ^ n : Nat) : Int) := by decide +kernel
  exact this n h

