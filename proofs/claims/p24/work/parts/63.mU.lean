/-- S' is S but for the reference's memory -/
def outM (S S' : Sto) : Prop := ∀ t, t ≠ 2 → (∀ k, k < 33 → t ≠ mt k) → S'.1 t = S.1 t ∧ S'.2.1 t = S.2.1 t ∧ S'.2.2 t = S.2.2 t
/-- the reference's arrays of the first K fields are made -/
def iniP (S : Sto) (K : Nat) (S' : Sto) : Prop := S'.1 2 = some (7, 33) ∧ (∀ k, S'.2.2 2 k = if k < K then mRef k else none) ∧ (∀ k, k < 33 → S'.1 (mt k) = if k < K ∧ isM k = true then some (100, mLen k) else none) ∧ (∀ j, S'.2.1 2 j = 0) ∧ (∀ k j, k < K → isM k = true → S'.2.1 (mt k) j = 0) ∧ outM S S'
theorem ini_f {S S' : Sto} {K : Nat} (h : iniP S K S') (hK : K < 33) : S'.1 (mt K) = none := by
  rw [h.2.2.1 K hK, if_neg (by rintro ⟨q, -⟩; omega)]
theorem ini_o {S S' : Sto} {K : Nat} {x : Nat × Nat} (h : iniP S K S') : ∃ n, (newS S' (mt K) x).1 2 = some (7, n) := ⟨33, by
  rw [newS_1, if_neg (by unfold mt; omega)]; exact h.1⟩
theorem ini_s {S S' : Sto} {K K' : Nat} (h : iniP S K S') (hK : isM K = true) (h1 : K < K') (h2 : K' ≤ 33) (hn : ∀ k, K < k → k < K' → isM k = false) : iniP S K' (updR (newS S' (mt K) (100, mLen K)) 2 K (some (mt K))) := by
  obtain ⟨a1, a2, a3, a4, a5, a6⟩ := h
  have h2K : 2 ≠ mt K := by unfold mt; omega
  refine ⟨?_, fun k => ?_, fun k k33 => ?_, fun j => ?_, fun k j hk hr => ?_, fun t t2 tk => ?_⟩
  · rw [updR_1, newS_1, if_neg h2K]; exact a1
  · rw [updR_3, newS_3, if_neg h2K, a2 k]
    by_cases e : k = K
    · subst e
      rw [if_pos ⟨rfl, rfl⟩, if_pos h1]
      unfold mRef
      rw [hK, show Nat.blt k 33 = true from by simp; omega]
      rfl
    · rw [if_neg (by rintro ⟨-, q⟩; exact e q)]
      by_cases q : k < K
      · rw [if_pos q, if_pos (by omega)]
      · rw [if_neg q]
        by_cases q2 : k < K'
        · rw [if_pos q2]
          unfold mRef
          rw [hn k (by omega) q2]; rfl
        · rw [if_neg q2]
  · rw [updR_1, newS_1]
    by_cases e : k = K
    · subst e
      rw [if_pos rfl, if_pos ⟨h1, hK⟩]
    · rw [if_neg (fun q => e (mt_inj q)), a3 k k33]
      by_cases q : k < K
      · by_cases r : isM k = true
        · rw [if_pos ⟨q, r⟩, if_pos ⟨by omega, r⟩]
        · rw [if_neg (fun z => r z.2), if_neg (fun z => r z.2)]
      · rw [if_neg (fun z => q z.1)]
        by_cases q2 : k < K'
        · rw [if_neg (fun z => by have := hn k (by omega) q2; rw [this] at z; cases z.2)]
        · rw [if_neg (fun z => q2 z.1)]
  · rw [updR_2, newS_2, if_neg h2K]; exact a4 j
  · rw [updR_2, newS_2]
    by_cases e : k = K
    · rw [if_pos (by rw [e])]
    · rw [if_neg (fun q => e (mt_inj q))]
      refine a5 k j ?_ hr
      by_cases q : k < K
      · exact q
      · have := hn k (by omega) hk
        rw [this] at hr; cases hr
  · obtain ⟨b1, b2, b3⟩ := a6 t t2 tk
    have htK : t ≠ mt K := tk K (by omega)
    refine ⟨?_, ?_, ?_⟩
    · rw [updR_1, newS_1, if_neg htK]; exact b1
    · rw [updR_2]; funext j; rw [newS_2, if_neg htK, b2]
    · funext j; rw [updR_3, if_neg (by rintro ⟨q, -⟩; exact t2 q), newS_3, if_neg htK, b3]
def fill31 (T : Sto) : Nat → Sto
  | 0 => T
  | n + 1 => updI (fill31 T n) (mt 31) (n : Int).toNat (-1)
theorem fill31_ag {T : Sto} : ∀ n, agr [31] T (fill31 T n)
  | 0 => agr.rf
  | n + 1 => (fill31_ag n).upd (by simp)
theorem fill31_v {T : Sto} : ∀ (n : Nat) (j : Nat), (fill31 T n).2.1 (mt 31) j = if j < n then -1 else T.2.1 (mt 31) j
  | 0, j => by rw [if_neg (by omega)]; rfl
  | n + 1, j => by
    show (if mt 31 = mt 31 ∧ j = (n : Int).toNat then (-1 : Int) else (fill31 T n).2.1 (mt 31) j) = _
    rw [fill31_v n j]
    by_cases e : j = n
    · rw [if_pos ⟨rfl, by omega⟩, if_pos (by omega)]
    · rw [if_neg (by rintro ⟨-, q⟩; omega)]
      by_cases q : j < n
      · rw [if_pos q, if_pos (by omega)]
      · rw [if_neg q, if_neg (by omega)]
theorem ini_MS {S T : Sto} (h : iniP S 33 T) : MS T := by
  obtain ⟨a1, a2, a3, -⟩ := h
  refine ⟨a1, ?_, fun k hr hk => ?_⟩
  · funext k
    rw [a2 k]
    by_cases q : k < 33
    · rw [if_pos q]
    · rw [if_neg q]
      unfold mRef
      rw [show Nat.blt k 33 = false from (by cases hb : Nat.blt k 33 with | false => rfl | true => exact absurd (by simpa using hb) q), Bool.and_false]; rfl
  · rw [a3 k hk, if_pos ⟨hk, hr⟩]
theorem ini_out {S T : Sto} (h : iniP S 33 T) : outM S (fill31 T 120) := by
  intro t t2 tk
  obtain ⟨b1, b2, b3⟩ := h.2.2.2.2.2 t t2 tk
  have hag := fill31_ag (T := T) 120
  refine ⟨by rw [hag.1]; exact b1, ?_, by rw [hag.2.1]; exact b3⟩
  rw [hag.2.2 t (fun k hk => by rw [List.mem_singleton.mp hk]; exact tk 31 (by omega))]; exact b2
theorem ini_MI {S T : Sto} (h : iniP S 33 T) : MI 0 (fill31 T 120) ∧ nD (fill31 T 120) = 0 ∧ nM (fill31 T 120) = 0 ∧ nO (fill31 T 120) = 0 ∧ shN (fill31 T 120) 6 = 0 ∧ ∀ k, mg (fill31 T 120) 22 k = 0 := by
  have hag := fill31_ag (T := T) 120
  have hM := ini_MS h
  obtain ⟨a1, a2, a3, a4, a5, a6⟩ := h
  have f0 : ∀ k, mf (fill31 T 120) k = 0 := fun k => by rw [hag.mf]; exact a4 k
  have g0 : ∀ k, k < 33 → isM k = true → k ≠ 31 → ∀ i, mg (fill31 T 120) k i = 0 := fun k hk hr h31 i => by
    rw [hag.mg (k := k) (by simp; exact h31)]; exact a5 k _ hk hr
  have e8 : nD (fill31 T 120) = 0 := f0 8
  have e13 : nM (fill31 T 120) = 0 := f0 13
  have e23 : nO (fill31 T 120) = 0 := f0 23
  have s6 : shN (fill31 T 120) 6 = 0 := g0 1 (by omega) rfl (by omega) 6
  refine ⟨⟨hag.ms hM, by omega, ⟨by omega, by omega, fun k k0 k1 => by omega⟩, fun d d0 d1 => by omega, fun i i0 i1 => by omega, fun o o0 o1 => by omega, ⟨fun d _ _ => g0 10 (by omega) rfl (by omega) d, fun i _ _ => ⟨g0 18 (by omega) rfl (by omega) i, g0 19 (by omega) rfl (by omega) i, fun k _ _ => g0 21 (by omega) rfl (by omega) _⟩, fun o o0 o1 => ⟨g0 26 (by omega) rfl (by omega) o, g0 28 (by omega) rfl (by omega) o, g0 29 (by omega) rfl (by omega) o, g0 30 (by omega) rfl (by omega) o, fun c c0 c1 => ?_⟩⟩, fun k k0 k1 => ?_⟩, e8, e13, e23, s6, fun k => g0 22 (by omega) rfl (by omega) k⟩
  · show (fill31 T 120).2.1 (mt 31) (6 * o + c).toNat = -1
    rw [fill31_v, if_pos (by omega)]
  · have := g0 22 (by omega) rfl (by omega) k
    omega
def s_minit : Spec := fun as S post => match as with
  | [.inr (.inr (some 2))] => (S.1 2 = some (7, 33) ∧ (∀ k, S.2.2 2 k = none) ∧ (∀ k, S.2.1 2 k = 0) ∧ ∀ k, k < 33 → S.1 (mt k) = none) ∧ ∀ S', MI 0 S' → nD S' = 0 → nM S' = 0 → nO S' = 0 → shN S' 6 = 0 → (∀ k, mg S' 22 k = 0) → outM S S' → post (.inl none) S'
  | _ => False
