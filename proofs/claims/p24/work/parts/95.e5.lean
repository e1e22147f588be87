theorem th_mg' {R : Sto} {q : Int} {a : Nat} {i : Int} : mg (thr R q) a i = mg R a i := by
  show (if mt a = 2 ∧ i.toNat = 0 then q else R.2.1 (mt a) i.toNat) = _
  rw [if_neg (fun w => by have := w.1; unfold mt at this; omega)]
theorem thr_des {R : Sto} {q d : Int} : desEq R (thr R q) d := ⟨th_mg', fun _ _ _ _ _ _ => th_mg', fun _ _ _ => th_mg', th_mg', fun _ _ _ => th_mg'⟩
theorem th_hset {R : Sto} {q i : Int} : ∀ k, hset (thr R q) i k = hset R i k
  | 0 => rfl
  | k + 1 => by
    unfold hset
    rw [show hdK (thr R q) i k = hdK R i k from th_mg', th_hset k]
theorem th_has {R : Sto} {q k : Int} : hasK (thr R q) k = hasK R k := by
  funext x y
  exact shEq.hs (fun _ _ _ => th_mg')
theorem CI.th {n : Int} {B : Nat → Nat} {N : Nat} {S R : Sto} (h : CI B N S R) (hI : MI n R) (q : Int) : CI B N S (thr R q) := by
  obtain ⟨h1, ⟨e1, e3, e5, e7⟩, ⟨d1, d2⟩, hd, hm, ho, hs, f1, f2, f3, f4⟩ := h
  have s6 : shN (thr R q) 6 = shN R 6 := th_mg'
  refine ⟨h1, ⟨by rw [s6]; exact e1, e3, e5, e7⟩, ⟨by rw [s6]; exact d1, fun k hk => ?_⟩, fun d hd' => ?_, fun i hi => ?_, fun o ho' => ?_, fun k hk => by rw [th_mg']; exact hs k hk, f1, f2, f3, f4⟩
  · rw [s6] at hk
    obtain ⟨a1, a2, a3, a4⟩ := d2 k hk
    unfold dfI
    rw [s6, th_has, th_mg']
    exact ⟨a1, a2, a3, a4⟩
  · obtain ⟨a1, a2⟩ := hd d hd'
    rw [s6, show shN (thr R q) d = shN R d from th_mg']
    exact ⟨a1, a2.eqR (hI.2.2.2.1 d (by omega) hd') thr_des⟩
  · obtain ⟨a1, a2, a3, a4, a5⟩ := hm i hi
    unfold mcI
    simp only [th_mg', th_hset]
    exact ⟨a1, a2, a3, a4, a5⟩
  · obtain ⟨a1, a2, a3, a4⟩ := ho o ho'
    unfold odI
    simp only [th_mg']
    exact ⟨a1, a2, a3, a4⟩
/-- the answer of a call of the class, and of the reference; em: the codes of the exceptions -/
def agA (em : Nat → Int) (k v : Int) (r : Res) : Prop := match r with
  | .inl (some (.inl x)) => k = 0 ∧ v = x
  | .inl none => k = 0
  | .inr e => k = em e
  | _ => False
/-- the exceptions that a call may throw; what a call may not make -/
def okr (s : List Nat) (r : Res) : Bool := match r with
  | .inr e => s.contains e
  | .inl (some (.inl _)) => true
  | _ => false
def okv (s : List Nat) (r : Res) : Bool := match r with
  | .inr e => s.contains e
  | .inl none => true
  | _ => false
abbrev inF (t : Nat) : Prop := t = 2 ∨ t = 3 ∨ 10 ≤ t ∧ t ≤ 100
def tyF (S S1 : Sto) : Prop := ∀ t, inF t → S1.1 t = S.1 t
/-- the call ends with an answer like the reference's, and in a memory tied to the reference's -/
def agC (em : Nat → Int) (op : Int → Int → Sto → Prop) (r : Res) (S1 : Sto) : Prop := ∀ k v R', op k v R' → agA em k v r ∧ ∃ B N, CI B N S1 R'
def em1 : Nat → Int := fun e => e + 1
theorem ag_changes {n : Int} {B : Nat → Nat} {N : Nat} {S R : Sto} {d : Int} (h : CI B N S R) (hI : MI n R) (hd : InR d) {post : Res → Sto → Prop} (hp : ∀ r S1, okr [0] r = true → tyF S S1 → agC em1 (changesR R d) r S1 → post r S1) : s_changesC [vT 1, vI d] S post := by
  refine ⟨wOf B R, h.cw hI, hd, fun hn => hp _ _ rfl (fun _ _ => rfl) fun k v R' ho => ?_, fun hv => hp _ _ rfl (fun _ _ => rfl) fun k v R' ho => ?_⟩
  · obtain ⟨o1, o2, o3⟩ := ho
    rw [h.2.1.2.1] at hn
    rw [if_neg hn] at o1
    rw [o2]
    exact ⟨o1, B, N, h.th hI _⟩
  · obtain ⟨o1, o2, o3⟩ := ho
    rw [h.2.1.2.1] at hv
    rw [if_pos hv] at o1
    rw [o2]
    obtain ⟨-, -, -, -, -, -, ⟨-, a8, -⟩, -⟩ := h.2.2.2.1 d.toNat (by omega)
    rw [Int.toNat_of_nonneg hv.1] at a8
    exact ⟨⟨o1, by rw [o3 o1]; exact a8.symm⟩, B, N, h.th hI _⟩
theorem ag_jumps {n : Int} {B : Nat → Nat} {N : Nat} {S R : Sto} {d i : Int} (h : CI B N S R) (hI : MI n R) (hd : InR d) (hi : i = 0 ∨ i = 1) {post : Res → Sto → Prop} (hp : ∀ r S1, okr [0] r = true → tyF S S1 → agC em1 (jumpsR R d i) r S1 → post r S1) : s_jumpsC [vT 1, vI d, vI i] S post := by
  refine ⟨wOf B R, h.cw hI, ⟨hd, hi⟩, fun hn => hp _ _ rfl (fun _ _ => rfl) fun k v R' ho => ?_, fun hv => hp _ _ rfl (fun _ _ => rfl) fun k v R' ho => ?_⟩
  · obtain ⟨o1, o2, o3⟩ := ho
    rw [h.2.1.2.1] at hn
    rw [if_neg hn] at o1
    rw [o2]
    exact ⟨o1, B, N, h.th hI _⟩
  · obtain ⟨o1, o2, o3⟩ := ho
    rw [h.2.1.2.1] at hv
    rw [if_pos hv] at o1
    rw [o2]
    obtain ⟨-, -, -, -, -, -, ⟨-, -, a9, a10⟩, -⟩ := h.2.2.2.1 d.toNat (by omega)
    rw [Int.toNat_of_nonneg hv.1] at a9 a10
    refine ⟨⟨o1, ?_⟩, B, N, h.th hI _⟩
    rw [o3 o1]
    rcases hi with rfl | rfl
    · exact a9.symm
    · exact a10.symm
theorem ag_changesAnew {n : Int} {B : Nat → Nat} {N : Nat} {S R : Sto} {d : Int} (h : CI B N S R) (hI : MI n R) (hd : InR d) {post : Res → Sto → Prop} (hp : ∀ r S1, okr [0] r = true → tyF S S1 → agC em1 (changesR R d) r S1 → post r S1) : s_changesAnewC [vT 1, vI d] S post := by
  refine ⟨wOf B R, h.cw hI, hd, fun hn => hp _ _ rfl (fun _ _ => rfl) fun k v R' ho => ?_, fun hv => hp _ _ rfl (fun _ _ => rfl) fun k v R' ho => ?_⟩
  · obtain ⟨o1, o2, o3⟩ := ho
    rw [h.2.1.2.1] at hn
    rw [if_neg hn] at o1
    rw [o2]
    exact ⟨o1, B, N, h.th hI _⟩
  · obtain ⟨o1, o2, o3⟩ := ho
    rw [h.2.1.2.1] at hv
    rw [if_pos hv] at o1
    rw [o2]
    refine ⟨⟨o1, ?_⟩, B, N, h.th hI _⟩
    rw [o3 o1]
    show chgN R d _ = chgN R ((d.toNat : Nat) : Int) _
    rw [Int.toNat_of_nonneg hv.1]
theorem ag_sequence {n : Int} {B : Nat → Nat} {N : Nat} {S R : Sto} {d p : Int} (h : CI B N S R) (hI : MI n R) (hd : InR d) (hp' : InR p) {post : Res → Sto → Prop} (hp : ∀ r S1, okr [0] r = true → tyF S S1 → agC em1 (sequenceR R d p) r S1 → post r S1) : s_sequenceC [vT 1, vI d, vI p] S post := by
  refine ⟨wOf B R, h.cw hI, ⟨hd, hp'⟩, fun hn => hp _ _ rfl (fun _ _ => rfl) fun k v R' ho => ?_, fun hv => hp _ _ rfl (fun _ _ => rfl) fun k v R' ho => ?_⟩
  · obtain ⟨o1, o2, o3⟩ := ho
    rw [h.2.1.2.1] at hn
    rw [if_neg hn] at o1
    rw [o2]
    exact ⟨o1, B, N, h.th hI _⟩
  · obtain ⟨o1, o2, o3⟩ := ho
    rw [h.2.1.2.1] at hv
    rw [if_pos hv] at o1
    rw [o2]
    refine ⟨⟨o1, ?_⟩, B, N, h.th hI _⟩
    rw [o3 o1]
    have hD := hI.2.2.2.1 d hv.1 hv.2.1
    have h3 := hD.1.2.2.1
    obtain ⟨-, -, -, -, -, a6, -⟩ := h.2.2.2.1 d.toNat (by omega)
    rw [Int.toNat_of_nonneg hv.1] at a6
    show (if p < shN R d then seqK R d p else -1) = (if p < ((shN R ((d.toNat : Nat) : Int)).toNat : Int) then S.2.1 (qT R B d.toNat p.toNat) 0 else -1)
    rw [Int.toNat_of_nonneg hv.1, Int.toNat_of_nonneg (by omega)]
    by_cases e : p < shN R d
    · have := a6 p.toNat (by omega)
      rw [Int.toNat_of_nonneg hv.2.2] at this
      rw [if_pos e, if_pos e, this]
    · rw [if_neg e, if_neg e]
theorem ag_left {n : Int} {B : Nat → Nat} {N : Nat} {S R : Sto} {c s : Int} (h : CI B N S R) (hI : MI n R) (hc : InR c) (hs : InR s) {post : Res → Sto → Prop} (hp : ∀ r S1, okr [0] r = true → tyF S S1 → agC em1 (leftR R c s) r S1 → post r S1) : s_leftC [vT 1, vI c, vI s] S post := by
  refine ⟨wOf B R, h.cw hI, ⟨hc, hs⟩, fun hn => hp _ _ rfl (fun _ _ => rfl) fun k v R' ho => ?_, fun hv => hp _ _ rfl (fun _ _ => rfl) fun k v R' ho => ?_⟩
  · obtain ⟨o1, o2, o3⟩ := ho
    rw [if_neg hn] at o1
    rw [o2]
    exact ⟨o1, B, N, h.th hI _⟩
  · obtain ⟨o1, o2, o3⟩ := ho
    rw [if_pos hv] at o1
    rw [o2]
    refine ⟨⟨o1, ?_⟩, B, N, h.th hI _⟩
    have := h.2.2.2.2.2.2.1 (3 * c + s).toNat (by omega)
    rw [Int.toNat_of_nonneg (by omega)] at this
    rw [o3 o1]
    exact this.symm
theorem ag_shadeOf {n : Int} {B : Nat → Nat} {N : Nat} {S R : Sto} {o c : Int} (h : CI B N S R) (hI : MI n R) (ho : InR o) (hc : InR c) {post : Res → Sto → Prop} (hp : ∀ r S1, okr [0] r = true → tyF S S1 → agC em1 (shadeOfR R o c) r S1 → post r S1) : s_shadeOfC [vT 1, vI o, vI c] S post := by
  refine ⟨wOf B R, h.cw hI, ⟨ho, hc⟩, fun hn => hp _ _ rfl (fun _ _ => rfl) fun k v R' ho => ?_, fun hv => hp _ _ rfl (fun _ _ => rfl) fun k v R' ho => ?_⟩
  · obtain ⟨o1, o2, o3⟩ := ho
    rw [h.2.1.2.2.2] at hn
    rw [if_neg hn] at o1
    rw [o2]
    exact ⟨o1, B, N, h.th hI _⟩
  · obtain ⟨o1, o2, o3⟩ := ho
    rw [h.2.1.2.2.2] at hv
    rw [if_pos hv] at o1
    rw [o2]
    refine ⟨⟨o1, ?_⟩, B, N, h.th hI _⟩
    obtain ⟨-, -, -, a4⟩ := h.2.2.2.2.2.1 o.toNat (by omega)
    have := a4 c.toNat (by omega)
    rw [Int.toNat_of_nonneg hv.1, Int.toNat_of_nonneg hv.2.2.1] at this
    rw [o3 o1]
    exact this.symm
theorem ag_stitches {n : Int} {B : Nat → Nat} {N : Nat} {S R : Sto} {d c : Int} (h : CI B N S R) (hI : MI n R) (hd : InR d) (hc : InR c) {post : Res → Sto → Prop} (hp : ∀ r S1, okr [0] r = true → tyF S S1 → agC em1 (stitchesR R d c) r S1 → post r S1) : s_stitchesC [vT 1, vI d, vI c] S post := by
  refine ⟨wOf B R, h.cw hI, ⟨hd, hc⟩, fun hn => hp _ _ rfl (fun _ _ => rfl) fun k v R' ho => ?_, fun hv => hp _ _ rfl (fun _ _ => rfl) fun k v R' ho => ?_⟩
  · obtain ⟨o1, o2, o3⟩ := ho
    rw [h.2.1.2.1] at hn
    rw [if_neg hn] at o1
    rw [o2]
    exact ⟨o1, B, N, h.th hI _⟩
  · obtain ⟨o1, o2, o3⟩ := ho
    rw [h.2.1.2.1] at hv
    rw [if_pos hv] at o1
    rw [o2]
    refine ⟨⟨o1, ?_⟩, B, N, h.th hI _⟩
    rw [o3 o1]
    have hD := hI.2.2.2.1 d hv.1 hv.2.1
    have h3 := hD.1.2.2.1
    have hm := hD.mn
    obtain ⟨-, -, -, -, a5, -⟩ := h.2.2.2.1 d.toNat (by omega)
    rw [Int.toNat_of_nonneg hv.1] at a5
    show cntC R d c (mnK R d).toNat = (if c = -1 then ((mnK R ((d.toNat : Nat) : Int)).toNat : Int) else ndS S (qT R B d.toNat) (fun p => (bgN (dQ R ((d.toNat : Nat) : Int)) p : Int)) c (shN R ((d.toNat : Nat) : Int)).toNat)
    rw [Int.toNat_of_nonneg hv.1]
    by_cases e : c = -1
    · rw [if_pos e]
      unfold cntC
      rw [sum_const (v := 1) _ (fun i _ => by rw [if_pos (Or.inl e)])]
      omega
    · rw [if_neg e, cnt_e hD a5 (by omega) _ (by omega), show bgN (dQ R d) (shN R d).toNat = (mnK R d).toNat by have := hD.end; omega]

