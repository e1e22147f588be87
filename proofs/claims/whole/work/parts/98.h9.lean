set_option maxHeartbeats 8000000 in
set_option maxRecDepth 100000 in
theorem cs_end {xs : Nat → Int} {Ln : Nat} (hLn : Ln ≤ 3584) (hxs : ∀ j, InR (xs j)) : ∀ N L st S c, iEnd xs Ln N L st S c → stW eL_law spL_law wrL (601024, 7293034) krL (wpL eL_law spL_law wrL (601024, 7293034) krL (cutL (cutT xs Ln)) N 150) 1535 L st S c := by
  rintro N L st S c ⟨n, a5, a6, rfl, rfl, ⟨c1, c2⟩, hb, hLI, rfl⟩
  conv => whnf
  repeat' (first
    | ((with_reducible show wpL _ _ _ _ _ _ _ _ _ _ _ _ _); conv => whnf)
    | with_reducible apply And.intro
    | exact ⟨3000 - 3 * (n + 1), by omega, n + 1, _, _, by rw [show 7 * ((n + 1 : Nat) : Int) = 7 * n + 7 by omega]; rfl, rfl, ⟨by omega, by omega⟩, ⟨by omega, by omega⟩, by rw [Int.natCast_add]; exact hLI, rfl⟩
    | omega)
theorem bAnd_r (a b : Int) : InR (bAnd a b) := ⟨Int32.le_toInt _, Int32.toInt_le _⟩
set_option maxHeartbeats 8000000 in
set_option maxRecDepth 100000 in
theorem cs_head {xs : Nat → Int} {Ln : Nat} (hLn : Ln ≤ 3584) (hxs : ∀ j, InR (xs j)) : ∀ N L st S c, iHead xs Ln N L st S c → stW eL_law spL_law wrL (601024, 7293034) krL (wpL eL_law spL_law wrL (601024, 7293034) krL (cutL (cutT xs Ln)) N 150) 23 L st S c := by
  rintro N L st S c ⟨n, a5, a6, rfl, rfl, ⟨c1, c2⟩, ⟨hb, hb2⟩, hLI, rfl⟩
  obtain ⟨h3, h10, hX⟩ := hLI.x
  have hn : (n : Int) + 1 ≤ 15000 := by omega
  conv => whnf
  repeat' (first
    | ((with_reducible show wpL _ _ _ _ _ _ _ _ _ _ _ _ _); conv => whnf)
    | exact bAnd_r _ _
    | with_reducible apply And.intro
    | (intro c9)
    | ((with_reducible show condK _ _ _ _ _); conv => whnf)
    | ((with_reducible show swK _ _ _ _ _); conv => whnf)
    | exact trivial
    | refine Exists.intro _ (And.intro rfl ?_)
    | exact ⟨102, Ln, h10, Or.inr rfl, by omega, by omega⟩
    | refine ⟨102, Ln, h10, by omega, ?_⟩
    | exact ⟨3000 - 3 * n - 1, by omega, n, _, _, rfl, rfl, ⟨by omega, by omega⟩, by omega, hLI, rfl⟩
    | exact ⟨3000 - 3 * n - 2, by omega, n, _, _, rfl, rfl, ⟨by omega, by omega⟩, by omega, hLI.up hn, rfl⟩
    | exact ⟨rfl, by omega, by omega⟩
    | omega)
