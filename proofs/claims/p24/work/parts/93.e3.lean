/-! CLASS AGAINST REFERENCE: what ties the class's memory S to the reference's R. B: the first number of a design's shapes among all shapes made; N: how many were made -/
def uT (B : Nat → Nat) (d k : Nat) : Nat := 8192 + 16 * (B d + k)
def qT (R : Sto) (B : Nat → Nat) (d p : Nat) : Nat := uT B d (seqK R d p).toNat
def dsI (B : Nat → Nat) (S R : Sto) (d : Nat) : Prop := (S.2.2 5 d = some (4096 + 16 * d) ∧ S.2.2 (4096 + 16 * d) 1 = some (4096 + 16 * d + 1)) ∧ (∃ nd, ndQ (dP R d) nd (shN R d).toNat ∧ sqC S (4096 + 16 * d + 1) (4096 + 16 * d + 7) (shN R d).toNat (uT B d) (colF R d) nd) ∧
  dgC S (4096 + 16 * d) (shN R d).toNat (qT R B d) (fun p => (bgN (dQ R d) p : Int)) (mnK R d).toNat ∧ celT S R d (4096 + 16 * d + 5) (qT R B d) ∧ (∀ p : Nat, (p : Int) < shN R d → S.2.1 (qT R B d p) 0 = seqK R d p) ∧
  (S.2.1 (4096 + 16 * d) 0 = d ∧ S.2.1 (4096 + 16 * d) 4 = chgN R d (shN R d).toNat ∧ S.2.1 (4096 + 16 * d) 5 = jmpN R d 0 (mnK R d).toNat ∧ S.2.1 (4096 + 16 * d) 6 = jmpN R d 1 (mnK R d).toNat) ∧ hoopP S (4096 + 16 * d + 5) (mnK R d).toNat (S.2.1 (4096 + 16 * d) 7) (S.2.1 (4096 + 16 * d) 8)
def mcI (S R : Sto) (i : Nat) : Prop := (S.2.2 6 i = some (1024 + 16 * i) ∧ mcC S (1024 + 16 * i)) ∧ (S.2.1 (1024 + 16 * i) 0 = i ∧ S.2.1 (1024 + 16 * i) 1 = mg R 14 i ∧ S.2.1 (1024 + 16 * i) 2 = mg R 15 i ∧ S.2.1 (1024 + 16 * i) 3 = mg R 16 i ∧ S.2.1 (1024 + 16 * i) 5 = mg R 18 i ∧ S.2.1 (1024 + 16 * i) 6 = (hset R i (mg R 14 i).toNat : Nat) ∧ S.2.1 (1024 + 16 * i) 7 = mg R 19 i) ∧
  S.2.2 (1024 + 16 * i) 4 = (if mg R 17 i = -1 then none else some (2048 + 16 * (mg R 17 i).toNat)) ∧ (∀ c : Nat, c < 6 → 0 ≤ S.2.1 (1024 + 16 * i + 1) c ∧ S.2.1 (1024 + 16 * i + 1) c ≤ mg R 19 i) ∧ ∀ k, 0 ≤ k → k < mg R 14 i → hdK R i k ≠ -1 → S.2.1 (1024 + 16 * i + 1) (hdK R i k).toNat = ltK R i k
def odI (S R : Sto) (o : Nat) : Prop := (S.2.2 7 o = some (2048 + 16 * o) ∧ orC S (2048 + 16 * o) (4096 + 16 * (mg R 24 o).toNat)) ∧ (S.2.1 (2048 + 16 * o) 0 = o ∧ S.2.1 (2048 + 16 * o) 2 = mg R 25 o ∧ S.2.1 (2048 + 16 * o) 4 = mg R 26 o ∧ S.2.1 (2048 + 16 * o) 5 = mg R 28 o ∧ S.2.1 (2048 + 16 * o) 6 = mg R 29 o ∧ S.2.1 (2048 + 16 * o) 7 = mg R 30 o) ∧
  S.2.2 (2048 + 16 * o) 8 = (if mg R 27 o = -1 then none else some (1024 + 16 * (mg R 27 o).toNat)) ∧ ∀ c : Nat, c < 6 → S.2.1 (2048 + 16 * o + 1) c = sdK R o c
def dfI (N : Nat) (S R : Sto) (k : Nat) : Prop := S.2.2 4 k = some (8192 + 16 * (N - (shN R 6).toNat + k)) ∧ shC S (8192 + 16 * (N - (shN R 6).toNat + k)) (hasK R (42 + k)) ∧ S.2.1 (8192 + 16 * (N - (shN R 6).toNat + k)) 1 = mg R 3 (42 + k) ∧ S.2.1 (8192 + 16 * (N - (shN R 6).toNat + k)) 0 = k
def frI (N : Nat) (S R : Sto) : Prop := (∀ t, 8192 + 16 * N ≤ t → S.1 t = none) ∧ (∀ d j : Nat, nD R ≤ d → d < 6 → j < 16 → S.1 (4096 + 16 * d + j) = none) ∧ (∀ i j : Nat, nM R ≤ i → i < 4 → j < 16 → S.1 (1024 + 16 * i + j) = none) ∧ ∀ o j : Nat, nO R ≤ o → o < 20 → j < 16 → S.1 (2048 + 16 * o + j) = none
def CI (B : Nat → Nat) (N : Nat) (S R : Sto) : Prop := cfC S ∧ (S.2.1 1 1 = shN R 6 ∧ S.2.1 1 3 = nD R ∧ S.2.1 1 5 = nM R ∧ S.2.1 1 7 = nO R) ∧ ((shN R 6).toNat ≤ N ∧ ∀ k : Nat, (k : Int) < shN R 6 → dfI N S R k) ∧ (∀ d : Nat, (d : Int) < nD R → B d + (shN R d).toNat ≤ N - (shN R 6).toNat ∧ dsI B S R d) ∧
  (∀ i : Nat, (i : Int) < nM R → mcI S R i) ∧ (∀ o : Nat, (o : Int) < nO R → odI S R o) ∧ (∀ k : Nat, k < 18 → S.2.1 9 k = mg R 22 k) ∧ frI N S R
noncomputable def wOf (B : Nat → Nat) (R : Sto) : GW := (fun d => (shN R d).toNat, fun d => qT R B d, fun d p => (bgN (dQ R d) p : Int), fun d => (mnK R d).toNat, fun d => chgN R d (shN R d).toNat, fun o => (mg R 24 o).toNat, fun i => hset R i (mg R 14 i).toNat)
theorem CI.cw {n : Int} {B : Nat → Nat} {N : Nat} {S R : Sto} (h : CI B N S R) (hI : MI n R) : CW (wOf B R) S := by
  obtain ⟨h1, ⟨e1, e3, e5, e7⟩, -, hd, hm, ho, hs, -⟩ := h
  obtain ⟨-, hN, hdr, hdes, hmac, hord, -, hstk⟩ := hI
  have hdr1 := hdr.1
  have hdr2 := hdr.2.1
  refine ⟨h1, by omega, fun d hd' => ?_, fun i hi => ?_, fun o ho' => ?_, fun k k0 k1 => ?_⟩
  · rw [e3] at hd'
    obtain ⟨-, ⟨a1, a2⟩, ⟨nd, a3, a4⟩, a5, a6, -, -, a7⟩ := hd d hd'
    have hD := hdes d (by omega) hd'
    have hmn := hD.mn
    refine ⟨a1, a5, a2, ⟨_, _, _, _, a4, hD.dpR a3⟩, fun j hj => ?_, ?_⟩
    · have hj' : j < (mnK R d).toNat := hj
      rw [a6.1 j (by omega)]
      omega
    · obtain ⟨-, ⟨j1, b1, b2⟩, ⟨j2, b3, b4⟩⟩ := a7
      rw [a6.1 _ (by omega)] at b2 b4
      omega
  · rw [e5] at hi
    obtain ⟨⟨a1, a2⟩, ⟨-, b1, b2, b3, -, b6, -⟩, a3, a4, -⟩ := hm i hi
    obtain ⟨c14, c15, c16, c18, c19, ch, -, cj⟩ := hmac i (by omega) hi
    refine ⟨a1, a2, ⟨hset_lt (fun k k0 k6 => ⟨(ch k k0 k6).1, (ch k k0 k6).2.1⟩) _ (by omega), b6⟩, fun c hc => ?_, by rw [b1, b2, b3]; omega, ?_⟩
    · have := a4 c hc
      unfold InR
      omega
    · by_cases e : mg R 17 i = -1
      · rw [a3, if_pos e]; exact Or.inl rfl
      · have hj := cj.2.2 (by omega)
        obtain ⟨-, -, o3, -⟩ := ho (mg R 17 i).toNat (by omega)
        rw [Int.toNat_of_nonneg (by omega), hj.2, if_neg (by omega)] at o3
        rw [a3, if_neg e]
        exact Or.inr ⟨(mg R 17 i).toNat, by omega, rfl, by rw [o3, Int.toNat_natCast]⟩
  · rw [e7] at ho'
    obtain ⟨⟨a1, a2⟩, ⟨-, b2, b4, b5, b6, -⟩, a3, a4⟩ := ho o ho'
    obtain ⟨c24, c25, c26, ⟨c1, c2, c3, c4⟩, c28, c30, cs⟩ := hord o (by omega) ho'
    have hmn := (hdes _ c24.1 c24.2).mn
    refine ⟨a1, a2, ?_, by rw [b2, b4]; omega, by rw [b5]; omega, ?_, fun c hc => ?_, ?_⟩
    · show ((mg R 24 o).toNat : Int) < S.2.1 1 3
      omega
    · rw [b6]
      show 0 ≤ mg R 29 o ∧ mg R 29 o < ((mnK R ((mg R 24 o).toNat : Nat)).toNat : Int)
      rw [Int.toNat_of_nonneg c24.1]
      omega
    · rw [a4 c hc]
      exact ⟨(cs c (by omega) (by omega)).1, (cs c (by omega) (by omega)).2.1⟩
    · by_cases e : mg R 27 o = -1
      · rw [a3, if_pos e]; exact Or.inl rfl
      · have hj := c3 (by omega)
        obtain ⟨-, -, o3, -⟩ := hm (mg R 27 o).toNat (by omega)
        rw [Int.toNat_of_nonneg (by omega), hj, if_neg (by omega)] at o3
        rw [a3, if_neg e]
        exact Or.inr ⟨(mg R 27 o).toNat, by omega, rfl, by rw [o3, Int.toNat_natCast]⟩
  · have := hstk k k0 k1
    rw [hs k.toNat (by omega), Int.toNat_of_nonneg k0]
    exact this

