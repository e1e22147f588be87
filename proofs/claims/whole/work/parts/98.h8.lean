/-! THE LAW'S LOOP, case by case (by wip/whole/mkcase.py) -/
def iHead (xs : Nat → Int) (Ln : Nat) : InvF := fun ms L st S c => ∃ (n : Nat) (a5 a6 : AV), L = [vT 10, vT 1, vT 2, vT 3, vI (7 * (n : Int)), a5, a6] ∧ st = [] ∧ (c.1 ≤ 100 + 10 * n ∧ c.2 ≤ 30000 + 3300 * n) ∧ (n ≤ 600 ∧ 7 * n ≤ Ln) ∧ LI xs Ln n S ∧ ms = 3000 - 3 * n
def iCase (xs : Nat → Int) (Ln : Nat) : InvF := fun ms L st S c => ∃ (n : Nat) (a5 a6 : AV), L = [vT 10, vT 1, vT 2, vT 3, vI (7 * (n : Int)), a5, a6] ∧ st = [] ∧ (c.1 ≤ 100 + 10 * n ∧ c.2 ≤ 30000 + 3300 * n) ∧ 7 * n + 7 ≤ Ln ∧ LI xs Ln n S ∧ ms = 3000 - 3 * n - 1
def iEnd (xs : Nat → Int) (Ln : Nat) : InvF := fun ms L st S c => ∃ (n : Nat) (a5 a6 : AV), L = [vT 10, vT 1, vT 2, vT 3, vI (7 * (n : Int)), a5, a6] ∧ st = [] ∧ (c.1 ≤ 110 + 10 * n ∧ c.2 ≤ 33300 + 3300 * n) ∧ 7 * n + 7 ≤ Ln ∧ LI xs Ln (n + 1) S ∧ ms = 3000 - 3 * n - 2
def cutT (xs : Nat → Int) (Ln : Nat) : List (Nat × InvF) := [(23, iHead xs Ln), (1535, iEnd xs Ln), (140, iCase xs Ln), (258, iCase xs Ln), (271, iCase xs Ln), (315, iCase xs Ln), (395, iCase xs Ln), (475, iCase xs Ln), (543, iCase xs Ln), (591, iCase xs Ln), (659, iCase xs Ln), (715, iCase xs Ln), (795, iCase xs Ln), (851, iCase xs Ln), (919, iCase xs Ln), (999, iCase xs Ln), (1067, iCase xs Ln), (1123, iCase xs Ln), (1179, iCase xs Ln), (1263, iCase xs Ln), (1331, iCase xs Ln), (1399, iCase xs Ln), (1467, iCase xs Ln)]
set_option maxHeartbeats 8000000 in
set_option maxRecDepth 100000 in
theorem cs_shape {xs : Nat → Int} {Ln : Nat} (hLn : Ln ≤ 3584) (hxs : ∀ j, InR (xs j)) : ∀ N L st S c, iCase xs Ln N L st S c → stW eL_law spL_law wrL (601024, 7293034) krL (wpL eL_law spL_law wrL (601024, 7293034) krL (cutL (cutT xs Ln)) N 150) 140 L st S c := by
  rintro N L st S c ⟨n, a5, a6, rfl, rfl, ⟨c1, c2⟩, hb, hLI, rfl⟩
  obtain ⟨h3, h10, hX⟩ := hLI.x
  have hn : (n : Int) + 1 ≤ 15000 := by omega
  have t1 := hLI.t1
  have ea3 : (spL_law 3).2.2.1 = 0 := rfl
  have eb3 : (spL_law 3).2.2.2.1 = 0 := rfl
  have ea4 : (spL_law 4).2.2.1 = 0 := rfl
  have eb4 : (spL_law 4).2.2.2.1 = 0 := rfl
  conv => whnf
  repeat' (first
      | ((with_reducible show wpL _ _ _ _ _ _ _ _ _ _ _ _ _); conv => whnf)
      | ((with_reducible show callK _ _ _ _ _ _ _ _ _); conv => whnf)
      | with_reducible apply And.intro
      | (intro c9; (try simp only [mg, mf, colK, stK, clK, mnK, shN] at c9))
      | ((with_reducible show condK _ _ _ _ _); conv => whnf)
      | refine Exists.intro _ (And.intro rfl ?_)
      | exact ⟨_, t1⟩
      | exact ⟨102, Ln, h10, Or.inr rfl, by omega, by omega⟩
      | exact ⟨102, Ln, hM.x.2.1, Or.inr rfl, by omega, by omega⟩
      | exact ⟨33, hM.m2⟩
      | exact ⟨33, hF.2.1.1⟩
      | exact ⟨1, hF.1.x.1, by omega, by omega⟩
      | exact ⟨3000 - 3 * n - 2, by omega, n, _, _, rfl, rfl, ⟨by omega, by omega⟩, by omega, hF.1, rfl⟩
      | omega
      | (simp only [hX]; refine lw_wshape hLI hn (hxs _) (hxs _) (hxs _) (hxs _) (hxs _) (hxs _) ?_; intro z S1 hz hM; have hX1 := hM.x.2.2)
      | (simp only [hX1]; refine lw_mshape hM hn (hxs _) (hxs _) (hxs _) (hxs _) (hxs _) (hxs _) ?_; intro k v S2 hA hF; have hk : S2.2.1 2 0 = z := hF.2.2.1.trans hA.1; have hk2 : mf S2 0 = z := hk; have hv : z = 0 → S2.2.1 3 0 = wr v := fun e => (congrFun hF.2.2.2 0).trans (hA.2 e); have hv2 : z = 0 → S2.2.1 3 (Int.toNat 0) = wr v := hv; have hw := wr_r v)
      | refine (⟨hF.2.1, ?_⟩ : MS _ ∧ _)
      | ((with_reducible show st1 _ _ _ _ _ _ _ _ _ _ _ _); conv => whnf)
      | ((with_reducible show shortK _ _); conv => whnf)
      | exact Nat.le_of_ble_eq_true rfl)
set_option maxHeartbeats 8000000 in
set_option maxRecDepth 100000 in
theorem cs_wipe {xs : Nat → Int} {Ln : Nat} (hLn : Ln ≤ 3584) (hxs : ∀ j, InR (xs j)) : ∀ N L st S c, iCase xs Ln N L st S c → stW eL_law spL_law wrL (601024, 7293034) krL (wpL eL_law spL_law wrL (601024, 7293034) krL (cutL (cutT xs Ln)) N 150) 258 L st S c := by
  rintro N L st S c ⟨n, a5, a6, rfl, rfl, ⟨c1, c2⟩, hb, hLI, rfl⟩
  obtain ⟨h3, h10, hX⟩ := hLI.x
  have hn : (n : Int) + 1 ≤ 15000 := by omega
  have t1 := hLI.t1
  have ea4 : (spL_law 4).2.2.1 = 0 := rfl
  have eb4 : (spL_law 4).2.2.2.1 = 0 := rfl
  have ea5 : (spL_law 5).2.2.1 = 0 := rfl
  have eb5 : (spL_law 5).2.2.2.1 = 0 := rfl
  have ea6 : (spL_law 6).2.2.1 = 0 := rfl
  have eb6 : (spL_law 6).2.2.2.1 = 0 := rfl
  conv => whnf
  repeat' (first
      | ((with_reducible show wpL _ _ _ _ _ _ _ _ _ _ _ _ _); conv => whnf)
      | ((with_reducible show callK _ _ _ _ _ _ _ _ _); conv => whnf)
      | with_reducible apply And.intro
      | (intro c9; (try simp only [mg, mf, colK, stK, clK, mnK, shN] at c9))
      | ((with_reducible show condK _ _ _ _ _); conv => whnf)
      | refine Exists.intro _ (And.intro rfl ?_)
      | exact ⟨_, t1⟩
      | exact ⟨102, Ln, h10, Or.inr rfl, by omega, by omega⟩
      | exact ⟨102, Ln, hM.x.2.1, Or.inr rfl, by omega, by omega⟩
      | exact ⟨33, hM.m2⟩
      | exact ⟨33, hF.2.1.1⟩
      | exact ⟨1, hF.1.x.1, by omega, by omega⟩
      | exact ⟨3000 - 3 * n - 2, by omega, n, _, _, rfl, rfl, ⟨by omega, by omega⟩, by omega, hF.1, rfl⟩
      | omega
      | (refine lw_cwipe hLI ?_; intro w S1 hw hM)
      | (refine lw_mwipe hM hn ?_; intro k v S2 hA hF; have hw2 := wr_r v; have hA2 := hA.2)
      | ((with_reducible show st1 _ _ _ _ _ _ _ _ _ _ _ _); conv => whnf)
      | ((with_reducible show shortK _ _); conv => whnf)
      | exact Nat.le_of_ble_eq_true rfl)
set_option maxHeartbeats 8000000 in
set_option maxRecDepth 100000 in
theorem cs_design {xs : Nat → Int} {Ln : Nat} (hLn : Ln ≤ 3584) (hxs : ∀ j, InR (xs j)) : ∀ N L st S c, iCase xs Ln N L st S c → stW eL_law spL_law wrL (601024, 7293034) krL (wpL eL_law spL_law wrL (601024, 7293034) krL (cutL (cutT xs Ln)) N 150) 271 L st S c := by
  rintro N L st S c ⟨n, a5, a6, rfl, rfl, ⟨c1, c2⟩, hb, hLI, rfl⟩
  obtain ⟨h3, h10, hX⟩ := hLI.x
  have hn : (n : Int) + 1 ≤ 15000 := by omega
  have t1 := hLI.t1
  have ea4 : (spL_law 4).2.2.1 = 0 := rfl
  have eb4 : (spL_law 4).2.2.2.1 = 0 := rfl
  have ea7 : (spL_law 7).2.2.1 = 0 := rfl
  have eb7 : (spL_law 7).2.2.2.1 = 0 := rfl
  conv => whnf
  repeat' (first
      | ((with_reducible show wpL _ _ _ _ _ _ _ _ _ _ _ _ _); conv => whnf)
      | ((with_reducible show callK _ _ _ _ _ _ _ _ _); conv => whnf)
      | with_reducible apply And.intro
      | (intro c9; (try simp only [mg, mf, colK, stK, clK, mnK, shN] at c9))
      | ((with_reducible show condK _ _ _ _ _); conv => whnf)
      | refine Exists.intro _ (And.intro rfl ?_)
      | exact ⟨_, t1⟩
      | exact ⟨102, Ln, h10, Or.inr rfl, by omega, by omega⟩
      | exact ⟨102, Ln, hM.x.2.1, Or.inr rfl, by omega, by omega⟩
      | exact ⟨33, hM.m2⟩
      | exact ⟨33, hF.2.1.1⟩
      | exact ⟨1, hF.1.x.1, by omega, by omega⟩
      | exact ⟨3000 - 3 * n - 2, by omega, n, _, _, rfl, rfl, ⟨by omega, by omega⟩, by omega, hF.1, rfl⟩
      | omega
      | (refine lw_wdesign hLI hn  ?_; intro z S1 hz hM; have hX1 := hM.x.2.2)
      | (refine lw_mdesign hM hn  ?_; intro k v S2 hA hF; have hk : S2.2.1 2 0 = z := hF.2.2.1.trans hA.1; have hk2 : mf S2 0 = z := hk; have hv : z = 0 → S2.2.1 3 0 = wr v := fun e => (congrFun hF.2.2.2 0).trans (hA.2 e); have hv2 : z = 0 → S2.2.1 3 (Int.toNat 0) = wr v := hv; have hw := wr_r v)
      | refine (⟨hF.2.1, ?_⟩ : MS _ ∧ _)
      | ((with_reducible show st1 _ _ _ _ _ _ _ _ _ _ _ _); conv => whnf)
      | ((with_reducible show shortK _ _); conv => whnf)
      | exact Nat.le_of_ble_eq_true rfl)
set_option maxHeartbeats 8000000 in
set_option maxRecDepth 100000 in
theorem cs_machine {xs : Nat → Int} {Ln : Nat} (hLn : Ln ≤ 3584) (hxs : ∀ j, InR (xs j)) : ∀ N L st S c, iCase xs Ln N L st S c → stW eL_law spL_law wrL (601024, 7293034) krL (wpL eL_law spL_law wrL (601024, 7293034) krL (cutL (cutT xs Ln)) N 150) 315 L st S c := by
  rintro N L st S c ⟨n, a5, a6, rfl, rfl, ⟨c1, c2⟩, hb, hLI, rfl⟩
  obtain ⟨h3, h10, hX⟩ := hLI.x
  have hn : (n : Int) + 1 ≤ 15000 := by omega
  have t1 := hLI.t1
  have ea4 : (spL_law 4).2.2.1 = 0 := rfl
  have eb4 : (spL_law 4).2.2.2.1 = 0 := rfl
  have ea8 : (spL_law 8).2.2.1 = 0 := rfl
  have eb8 : (spL_law 8).2.2.2.1 = 0 := rfl
  conv => whnf
  repeat' (first
      | ((with_reducible show wpL _ _ _ _ _ _ _ _ _ _ _ _ _); conv => whnf)
      | ((with_reducible show callK _ _ _ _ _ _ _ _ _); conv => whnf)
      | with_reducible apply And.intro
      | (intro c9; (try simp only [mg, mf, colK, stK, clK, mnK, shN] at c9))
      | ((with_reducible show condK _ _ _ _ _); conv => whnf)
      | refine Exists.intro _ (And.intro rfl ?_)
      | exact ⟨_, t1⟩
      | exact ⟨102, Ln, h10, Or.inr rfl, by omega, by omega⟩
      | exact ⟨102, Ln, hM.x.2.1, Or.inr rfl, by omega, by omega⟩
      | exact ⟨33, hM.m2⟩
      | exact ⟨33, hF.2.1.1⟩
      | exact ⟨1, hF.1.x.1, by omega, by omega⟩
      | exact ⟨3000 - 3 * n - 2, by omega, n, _, _, rfl, rfl, ⟨by omega, by omega⟩, by omega, hF.1, rfl⟩
      | omega
      | (simp only [hX]; refine lw_wmachine hLI hn (hxs _) (hxs _) (hxs _) ?_; intro z S1 hz hM; have hX1 := hM.x.2.2)
      | (simp only [hX1]; refine lw_mmachine hM hn (hxs _) (hxs _) (hxs _) ?_; intro k v S2 hA hF; have hk : S2.2.1 2 0 = z := hF.2.2.1.trans hA.1; have hk2 : mf S2 0 = z := hk; have hv : z = 0 → S2.2.1 3 0 = wr v := fun e => (congrFun hF.2.2.2 0).trans (hA.2 e); have hv2 : z = 0 → S2.2.1 3 (Int.toNat 0) = wr v := hv; have hw := wr_r v)
      | refine (⟨hF.2.1, ?_⟩ : MS _ ∧ _)
      | ((with_reducible show st1 _ _ _ _ _ _ _ _ _ _ _ _); conv => whnf)
      | ((with_reducible show shortK _ _); conv => whnf)
      | exact Nat.le_of_ble_eq_true rfl)
set_option maxHeartbeats 8000000 in
set_option maxRecDepth 100000 in
theorem cs_stock {xs : Nat → Int} {Ln : Nat} (hLn : Ln ≤ 3584) (hxs : ∀ j, InR (xs j)) : ∀ N L st S c, iCase xs Ln N L st S c → stW eL_law spL_law wrL (601024, 7293034) krL (wpL eL_law spL_law wrL (601024, 7293034) krL (cutL (cutT xs Ln)) N 150) 395 L st S c := by
  rintro N L st S c ⟨n, a5, a6, rfl, rfl, ⟨c1, c2⟩, hb, hLI, rfl⟩
  obtain ⟨h3, h10, hX⟩ := hLI.x
  have hn : (n : Int) + 1 ≤ 15000 := by omega
  have t1 := hLI.t1
  have ea4 : (spL_law 4).2.2.1 = 0 := rfl
  have eb4 : (spL_law 4).2.2.2.1 = 0 := rfl
  have ea9 : (spL_law 9).2.2.1 = 0 := rfl
  have eb9 : (spL_law 9).2.2.2.1 = 0 := rfl
  conv => whnf
  repeat' (first
      | ((with_reducible show wpL _ _ _ _ _ _ _ _ _ _ _ _ _); conv => whnf)
      | ((with_reducible show callK _ _ _ _ _ _ _ _ _); conv => whnf)
      | with_reducible apply And.intro
      | (intro c9; (try simp only [mg, mf, colK, stK, clK, mnK, shN] at c9))
      | ((with_reducible show condK _ _ _ _ _); conv => whnf)
      | refine Exists.intro _ (And.intro rfl ?_)
      | exact ⟨_, t1⟩
      | exact ⟨102, Ln, h10, Or.inr rfl, by omega, by omega⟩
      | exact ⟨102, Ln, hM.x.2.1, Or.inr rfl, by omega, by omega⟩
      | exact ⟨33, hM.m2⟩
      | exact ⟨33, hF.2.1.1⟩
      | exact ⟨1, hF.1.x.1, by omega, by omega⟩
      | exact ⟨3000 - 3 * n - 2, by omega, n, _, _, rfl, rfl, ⟨by omega, by omega⟩, by omega, hF.1, rfl⟩
      | omega
      | (simp only [hX]; refine lw_wstock hLI hn (hxs _) (hxs _) (hxs _) ?_; intro z S1 hz hM; have hX1 := hM.x.2.2)
      | (simp only [hX1]; refine lw_mstock hM hn (hxs _) (hxs _) (hxs _) ?_; intro k v S2 hA hF; have hk : S2.2.1 2 0 = z := hF.2.2.1.trans hA.1; have hk2 : mf S2 0 = z := hk; have hv : z = 0 → S2.2.1 3 0 = wr v := fun e => (congrFun hF.2.2.2 0).trans (hA.2 e); have hv2 : z = 0 → S2.2.1 3 (Int.toNat 0) = wr v := hv; have hw := wr_r v)
      | refine (⟨hF.2.1, ?_⟩ : MS _ ∧ _)
      | ((with_reducible show st1 _ _ _ _ _ _ _ _ _ _ _ _); conv => whnf)
      | ((with_reducible show shortK _ _); conv => whnf)
      | exact Nat.le_of_ble_eq_true rfl)
set_option maxHeartbeats 8000000 in
set_option maxRecDepth 100000 in
theorem cs_order {xs : Nat → Int} {Ln : Nat} (hLn : Ln ≤ 3584) (hxs : ∀ j, InR (xs j)) : ∀ N L st S c, iCase xs Ln N L st S c → stW eL_law spL_law wrL (601024, 7293034) krL (wpL eL_law spL_law wrL (601024, 7293034) krL (cutL (cutT xs Ln)) N 150) 475 L st S c := by
  rintro N L st S c ⟨n, a5, a6, rfl, rfl, ⟨c1, c2⟩, hb, hLI, rfl⟩
  obtain ⟨h3, h10, hX⟩ := hLI.x
  have hn : (n : Int) + 1 ≤ 15000 := by omega
  have t1 := hLI.t1
  have ea4 : (spL_law 4).2.2.1 = 0 := rfl
  have eb4 : (spL_law 4).2.2.2.1 = 0 := rfl
  have ea10 : (spL_law 10).2.2.1 = 0 := rfl
  have eb10 : (spL_law 10).2.2.2.1 = 0 := rfl
  conv => whnf
  repeat' (first
      | ((with_reducible show wpL _ _ _ _ _ _ _ _ _ _ _ _ _); conv => whnf)
      | ((with_reducible show callK _ _ _ _ _ _ _ _ _); conv => whnf)
      | with_reducible apply And.intro
      | (intro c9; (try simp only [mg, mf, colK, stK, clK, mnK, shN] at c9))
      | ((with_reducible show condK _ _ _ _ _); conv => whnf)
      | refine Exists.intro _ (And.intro rfl ?_)
      | exact ⟨_, t1⟩
      | exact ⟨102, Ln, h10, Or.inr rfl, by omega, by omega⟩
      | exact ⟨102, Ln, hM.x.2.1, Or.inr rfl, by omega, by omega⟩
      | exact ⟨33, hM.m2⟩
      | exact ⟨33, hF.2.1.1⟩
      | exact ⟨1, hF.1.x.1, by omega, by omega⟩
      | exact ⟨3000 - 3 * n - 2, by omega, n, _, _, rfl, rfl, ⟨by omega, by omega⟩, by omega, hF.1, rfl⟩
      | omega
      | (simp only [hX]; refine lw_worder hLI hn (hxs _) (hxs _) ?_; intro z S1 hz hM; have hX1 := hM.x.2.2)
      | (simp only [hX1]; refine lw_morder hM hn (hxs _) (hxs _) ?_; intro k v S2 hA hF; have hk : S2.2.1 2 0 = z := hF.2.2.1.trans hA.1; have hk2 : mf S2 0 = z := hk; have hv : z = 0 → S2.2.1 3 0 = wr v := fun e => (congrFun hF.2.2.2 0).trans (hA.2 e); have hv2 : z = 0 → S2.2.1 3 (Int.toNat 0) = wr v := hv; have hw := wr_r v)
      | refine (⟨hF.2.1, ?_⟩ : MS _ ∧ _)
      | ((with_reducible show st1 _ _ _ _ _ _ _ _ _ _ _ _); conv => whnf)
      | ((with_reducible show shortK _ _); conv => whnf)
      | exact Nat.le_of_ble_eq_true rfl)
set_option maxHeartbeats 8000000 in
set_option maxRecDepth 100000 in
theorem cs_start {xs : Nat → Int} {Ln : Nat} (hLn : Ln ≤ 3584) (hxs : ∀ j, InR (xs j)) : ∀ N L st S c, iCase xs Ln N L st S c → stW eL_law spL_law wrL (601024, 7293034) krL (wpL eL_law spL_law wrL (601024, 7293034) krL (cutL (cutT xs Ln)) N 150) 543 L st S c := by
  rintro N L st S c ⟨n, a5, a6, rfl, rfl, ⟨c1, c2⟩, hb, hLI, rfl⟩
  obtain ⟨h3, h10, hX⟩ := hLI.x
  have hn : (n : Int) + 1 ≤ 15000 := by omega
  have t1 := hLI.t1
  have ea4 : (spL_law 4).2.2.1 = 0 := rfl
  have eb4 : (spL_law 4).2.2.2.1 = 0 := rfl
  have ea11 : (spL_law 11).2.2.1 = 0 := rfl
  have eb11 : (spL_law 11).2.2.2.1 = 0 := rfl
  conv => whnf
  repeat' (first
      | ((with_reducible show wpL _ _ _ _ _ _ _ _ _ _ _ _ _); conv => whnf)
      | ((with_reducible show callK _ _ _ _ _ _ _ _ _); conv => whnf)
      | with_reducible apply And.intro
      | (intro c9; (try simp only [mg, mf, colK, stK, clK, mnK, shN] at c9))
      | ((with_reducible show condK _ _ _ _ _); conv => whnf)
      | refine Exists.intro _ (And.intro rfl ?_)
      | exact ⟨_, t1⟩
      | exact ⟨102, Ln, h10, Or.inr rfl, by omega, by omega⟩
      | exact ⟨102, Ln, hM.x.2.1, Or.inr rfl, by omega, by omega⟩
      | exact ⟨33, hM.m2⟩
      | exact ⟨33, hF.2.1.1⟩
      | exact ⟨1, hF.1.x.1, by omega, by omega⟩
      | exact ⟨3000 - 3 * n - 2, by omega, n, _, _, rfl, rfl, ⟨by omega, by omega⟩, by omega, hF.1, rfl⟩
      | omega
      | (simp only [hX]; refine lw_wstart hLI hn (hxs _) (hxs _) ?_; intro z S1 hz hM; have hX1 := hM.x.2.2)
      | (simp only [hX1]; refine lw_mstart hM hn (hxs _) (hxs _) ?_; intro k v S2 hA hF; have hk : S2.2.1 2 0 = z := hF.2.2.1.trans hA; have hk2 : mf S2 0 = z := hk)
      | refine (⟨hF.2.1, ?_⟩ : MS _ ∧ _)
      | ((with_reducible show st1 _ _ _ _ _ _ _ _ _ _ _ _); conv => whnf)
      | ((with_reducible show shortK _ _); conv => whnf)
      | exact Nat.le_of_ble_eq_true rfl)
set_option maxHeartbeats 8000000 in
set_option maxRecDepth 100000 in
theorem cs_run {xs : Nat → Int} {Ln : Nat} (hLn : Ln ≤ 3584) (hxs : ∀ j, InR (xs j)) : ∀ N L st S c, iCase xs Ln N L st S c → stW eL_law spL_law wrL (601024, 7293034) krL (wpL eL_law spL_law wrL (601024, 7293034) krL (cutL (cutT xs Ln)) N 150) 591 L st S c := by
  rintro N L st S c ⟨n, a5, a6, rfl, rfl, ⟨c1, c2⟩, hb, hLI, rfl⟩
  obtain ⟨h3, h10, hX⟩ := hLI.x
  have hn : (n : Int) + 1 ≤ 15000 := by omega
  have t1 := hLI.t1
  have ea4 : (spL_law 4).2.2.1 = 0 := rfl
  have eb4 : (spL_law 4).2.2.2.1 = 0 := rfl
  have ea12 : (spL_law 12).2.2.1 = 0 := rfl
  have eb12 : (spL_law 12).2.2.2.1 = 0 := rfl
  conv => whnf
  repeat' (first
      | ((with_reducible show wpL _ _ _ _ _ _ _ _ _ _ _ _ _); conv => whnf)
      | ((with_reducible show callK _ _ _ _ _ _ _ _ _); conv => whnf)
      | with_reducible apply And.intro
      | (intro c9; (try simp only [mg, mf, colK, stK, clK, mnK, shN] at c9))
      | ((with_reducible show condK _ _ _ _ _); conv => whnf)
      | refine Exists.intro _ (And.intro rfl ?_)
      | exact ⟨_, t1⟩
      | exact ⟨102, Ln, h10, Or.inr rfl, by omega, by omega⟩
      | exact ⟨102, Ln, hM.x.2.1, Or.inr rfl, by omega, by omega⟩
      | exact ⟨33, hM.m2⟩
      | exact ⟨33, hF.2.1.1⟩
      | exact ⟨1, hF.1.x.1, by omega, by omega⟩
      | exact ⟨3000 - 3 * n - 2, by omega, n, _, _, rfl, rfl, ⟨by omega, by omega⟩, by omega, hF.1, rfl⟩
      | omega
      | (simp only [hX]; refine lw_wrun hLI hn (hxs _) (hxs _) ?_; intro z S1 hz hM; have hX1 := hM.x.2.2)
      | (simp only [hX1]; refine lw_mrun hM hn (hxs _) (hxs _) ?_; intro k v S2 hA hF; have hk : S2.2.1 2 0 = z := hF.2.2.1.trans hA.1; have hk2 : mf S2 0 = z := hk; have hv : z = 0 → S2.2.1 3 0 = wr v := fun e => (congrFun hF.2.2.2 0).trans (hA.2 e); have hv2 : z = 0 → S2.2.1 3 (Int.toNat 0) = wr v := hv; have hw := wr_r v)
      | refine (⟨hF.2.1, ?_⟩ : MS _ ∧ _)
      | ((with_reducible show st1 _ _ _ _ _ _ _ _ _ _ _ _); conv => whnf)
      | ((with_reducible show shortK _ _); conv => whnf)
      | exact Nat.le_of_ble_eq_true rfl)
set_option maxHeartbeats 8000000 in
set_option maxRecDepth 100000 in
theorem cs_snap {xs : Nat → Int} {Ln : Nat} (hLn : Ln ≤ 3584) (hxs : ∀ j, InR (xs j)) : ∀ N L st S c, iCase xs Ln N L st S c → stW eL_law spL_law wrL (601024, 7293034) krL (wpL eL_law spL_law wrL (601024, 7293034) krL (cutL (cutT xs Ln)) N 150) 659 L st S c := by
  rintro N L st S c ⟨n, a5, a6, rfl, rfl, ⟨c1, c2⟩, hb, hLI, rfl⟩
  obtain ⟨h3, h10, hX⟩ := hLI.x
  have hn : (n : Int) + 1 ≤ 15000 := by omega
  have t1 := hLI.t1
  have ea4 : (spL_law 4).2.2.1 = 0 := rfl
  have eb4 : (spL_law 4).2.2.2.1 = 0 := rfl
  have ea13 : (spL_law 13).2.2.1 = 0 := rfl
  have eb13 : (spL_law 13).2.2.2.1 = 0 := rfl
  conv => whnf
  repeat' (first
      | ((with_reducible show wpL _ _ _ _ _ _ _ _ _ _ _ _ _); conv => whnf)
      | ((with_reducible show callK _ _ _ _ _ _ _ _ _); conv => whnf)
      | with_reducible apply And.intro
      | (intro c9; (try simp only [mg, mf, colK, stK, clK, mnK, shN] at c9))
      | ((with_reducible show condK _ _ _ _ _); conv => whnf)
      | refine Exists.intro _ (And.intro rfl ?_)
      | exact ⟨_, t1⟩
      | exact ⟨102, Ln, h10, Or.inr rfl, by omega, by omega⟩
      | exact ⟨102, Ln, hM.x.2.1, Or.inr rfl, by omega, by omega⟩
      | exact ⟨33, hM.m2⟩
      | exact ⟨33, hF.2.1.1⟩
      | exact ⟨1, hF.1.x.1, by omega, by omega⟩
      | exact ⟨3000 - 3 * n - 2, by omega, n, _, _, rfl, rfl, ⟨by omega, by omega⟩, by omega, hF.1, rfl⟩
      | omega
      | (simp only [hX]; refine lw_wsnap hLI hn (hxs _) ?_; intro z S1 hz hM; have hX1 := hM.x.2.2)
      | (simp only [hX1]; refine lw_msnap hM hn (hxs _) ?_; intro k v S2 hA hF; have hk : S2.2.1 2 0 = z := hF.2.2.1.trans hA.1; have hk2 : mf S2 0 = z := hk; have hv : z = 0 → S2.2.1 3 0 = wr v := fun e => (congrFun hF.2.2.2 0).trans (hA.2 e); have hv2 : z = 0 → S2.2.1 3 (Int.toNat 0) = wr v := hv; have hw := wr_r v)
      | refine (⟨hF.2.1, ?_⟩ : MS _ ∧ _)
      | ((with_reducible show st1 _ _ _ _ _ _ _ _ _ _ _ _); conv => whnf)
      | ((with_reducible show shortK _ _); conv => whnf)
      | exact Nat.le_of_ble_eq_true rfl)
set_option maxHeartbeats 8000000 in
set_option maxRecDepth 100000 in
theorem cs_match {xs : Nat → Int} {Ln : Nat} (hLn : Ln ≤ 3584) (hxs : ∀ j, InR (xs j)) : ∀ N L st S c, iCase xs Ln N L st S c → stW eL_law spL_law wrL (601024, 7293034) krL (wpL eL_law spL_law wrL (601024, 7293034) krL (cutL (cutT xs Ln)) N 150) 715 L st S c := by
  rintro N L st S c ⟨n, a5, a6, rfl, rfl, ⟨c1, c2⟩, hb, hLI, rfl⟩
  obtain ⟨h3, h10, hX⟩ := hLI.x
  have hn : (n : Int) + 1 ≤ 15000 := by omega
  have t1 := hLI.t1
  have ea4 : (spL_law 4).2.2.1 = 0 := rfl
  have eb4 : (spL_law 4).2.2.2.1 = 0 := rfl
  have ea14 : (spL_law 14).2.2.1 = 0 := rfl
  have eb14 : (spL_law 14).2.2.2.1 = 0 := rfl
  conv => whnf
  repeat' (first
      | ((with_reducible show wpL _ _ _ _ _ _ _ _ _ _ _ _ _); conv => whnf)
      | ((with_reducible show callK _ _ _ _ _ _ _ _ _); conv => whnf)
      | with_reducible apply And.intro
      | (intro c9; (try simp only [mg, mf, colK, stK, clK, mnK, shN] at c9))
      | ((with_reducible show condK _ _ _ _ _); conv => whnf)
      | refine Exists.intro _ (And.intro rfl ?_)
      | exact ⟨_, t1⟩
      | exact ⟨102, Ln, h10, Or.inr rfl, by omega, by omega⟩
      | exact ⟨102, Ln, hM.x.2.1, Or.inr rfl, by omega, by omega⟩
      | exact ⟨33, hM.m2⟩
      | exact ⟨33, hF.2.1.1⟩
      | exact ⟨1, hF.1.x.1, by omega, by omega⟩
      | exact ⟨3000 - 3 * n - 2, by omega, n, _, _, rfl, rfl, ⟨by omega, by omega⟩, by omega, hF.1, rfl⟩
      | omega
      | (simp only [hX]; refine lw_wmatch hLI hn (hxs _) (hxs _) (hxs _) ?_; intro z S1 hz hM; have hX1 := hM.x.2.2)
      | (simp only [hX1]; refine lw_mmatch hM hn (hxs _) (hxs _) (hxs _) ?_; intro k v S2 hA hF; have hk : S2.2.1 2 0 = z := hF.2.2.1.trans hA.1; have hk2 : mf S2 0 = z := hk; have hv : z = 0 → S2.2.1 3 0 = wr v := fun e => (congrFun hF.2.2.2 0).trans (hA.2 e); have hv2 : z = 0 → S2.2.1 3 (Int.toNat 0) = wr v := hv; have hw := wr_r v)
      | refine (⟨hF.2.1, ?_⟩ : MS _ ∧ _)
      | ((with_reducible show st1 _ _ _ _ _ _ _ _ _ _ _ _); conv => whnf)
      | ((with_reducible show shortK _ _); conv => whnf)
      | exact Nat.le_of_ble_eq_true rfl)
set_option maxHeartbeats 8000000 in
set_option maxRecDepth 100000 in
theorem cs_cancel {xs : Nat → Int} {Ln : Nat} (hLn : Ln ≤ 3584) (hxs : ∀ j, InR (xs j)) : ∀ N L st S c, iCase xs Ln N L st S c → stW eL_law spL_law wrL (601024, 7293034) krL (wpL eL_law spL_law wrL (601024, 7293034) krL (cutL (cutT xs Ln)) N 150) 795 L st S c := by
  rintro N L st S c ⟨n, a5, a6, rfl, rfl, ⟨c1, c2⟩, hb, hLI, rfl⟩
  obtain ⟨h3, h10, hX⟩ := hLI.x
  have hn : (n : Int) + 1 ≤ 15000 := by omega
  have t1 := hLI.t1
  have ea4 : (spL_law 4).2.2.1 = 0 := rfl
  have eb4 : (spL_law 4).2.2.2.1 = 0 := rfl
  have ea15 : (spL_law 15).2.2.1 = 0 := rfl
  have eb15 : (spL_law 15).2.2.2.1 = 0 := rfl
  conv => whnf
  repeat' (first
      | ((with_reducible show wpL _ _ _ _ _ _ _ _ _ _ _ _ _); conv => whnf)
      | ((with_reducible show callK _ _ _ _ _ _ _ _ _); conv => whnf)
      | with_reducible apply And.intro
      | (intro c9; (try simp only [mg, mf, colK, stK, clK, mnK, shN] at c9))
      | ((with_reducible show condK _ _ _ _ _); conv => whnf)
      | refine Exists.intro _ (And.intro rfl ?_)
      | exact ⟨_, t1⟩
      | exact ⟨102, Ln, h10, Or.inr rfl, by omega, by omega⟩
      | exact ⟨102, Ln, hM.x.2.1, Or.inr rfl, by omega, by omega⟩
      | exact ⟨33, hM.m2⟩
      | exact ⟨33, hF.2.1.1⟩
      | exact ⟨1, hF.1.x.1, by omega, by omega⟩
      | exact ⟨3000 - 3 * n - 2, by omega, n, _, _, rfl, rfl, ⟨by omega, by omega⟩, by omega, hF.1, rfl⟩
      | omega
      | (simp only [hX]; refine lw_wcancel hLI hn (hxs _) ?_; intro z S1 hz hM; have hX1 := hM.x.2.2)
      | (simp only [hX1]; refine lw_mcancel hM hn (hxs _) ?_; intro k v S2 hA hF; have hk : S2.2.1 2 0 = z := hF.2.2.1.trans hA.1; have hk2 : mf S2 0 = z := hk; have hv : z = 0 → S2.2.1 3 0 = wr v := fun e => (congrFun hF.2.2.2 0).trans (hA.2 e); have hv2 : z = 0 → S2.2.1 3 (Int.toNat 0) = wr v := hv; have hw := wr_r v)
      | refine (⟨hF.2.1, ?_⟩ : MS _ ∧ _)
      | ((with_reducible show st1 _ _ _ _ _ _ _ _ _ _ _ _); conv => whnf)
      | ((with_reducible show shortK _ _); conv => whnf)
      | exact Nat.le_of_ble_eq_true rfl)
set_option maxHeartbeats 8000000 in
set_option maxRecDepth 100000 in
theorem cs_stitches {xs : Nat → Int} {Ln : Nat} (hLn : Ln ≤ 3584) (hxs : ∀ j, InR (xs j)) : ∀ N L st S c, iCase xs Ln N L st S c → stW eL_law spL_law wrL (601024, 7293034) krL (wpL eL_law spL_law wrL (601024, 7293034) krL (cutL (cutT xs Ln)) N 150) 851 L st S c := by
  rintro N L st S c ⟨n, a5, a6, rfl, rfl, ⟨c1, c2⟩, hb, hLI, rfl⟩
  obtain ⟨h3, h10, hX⟩ := hLI.x
  have hn : (n : Int) + 1 ≤ 15000 := by omega
  have t1 := hLI.t1
  have ea4 : (spL_law 4).2.2.1 = 0 := rfl
  have eb4 : (spL_law 4).2.2.2.1 = 0 := rfl
  have ea16 : (spL_law 16).2.2.1 = 0 := rfl
  have eb16 : (spL_law 16).2.2.2.1 = 0 := rfl
  conv => whnf
  repeat' (first
      | ((with_reducible show wpL _ _ _ _ _ _ _ _ _ _ _ _ _); conv => whnf)
      | ((with_reducible show callK _ _ _ _ _ _ _ _ _); conv => whnf)
      | with_reducible apply And.intro
      | (intro c9; (try simp only [mg, mf, colK, stK, clK, mnK, shN] at c9))
      | ((with_reducible show condK _ _ _ _ _); conv => whnf)
      | refine Exists.intro _ (And.intro rfl ?_)
      | exact ⟨_, t1⟩
      | exact ⟨102, Ln, h10, Or.inr rfl, by omega, by omega⟩
      | exact ⟨102, Ln, hM.x.2.1, Or.inr rfl, by omega, by omega⟩
      | exact ⟨33, hM.m2⟩
      | exact ⟨33, hF.2.1.1⟩
      | exact ⟨1, hF.1.x.1, by omega, by omega⟩
      | exact ⟨3000 - 3 * n - 2, by omega, n, _, _, rfl, rfl, ⟨by omega, by omega⟩, by omega, hF.1, rfl⟩
      | omega
      | (simp only [hX]; refine lw_wstitches hLI hn (hxs _) (hxs _) ?_; intro z S1 hz hM; have hX1 := hM.x.2.2)
      | (simp only [hX1]; refine lw_mstitches hM hn (hxs _) (hxs _) ?_; intro k v S2 hA hF; have hk : S2.2.1 2 0 = z := hF.2.2.1.trans hA.1; have hk2 : mf S2 0 = z := hk; have hv : z = 0 → S2.2.1 3 0 = wr v := fun e => (congrFun hF.2.2.2 0).trans (hA.2 e); have hv2 : z = 0 → S2.2.1 3 (Int.toNat 0) = wr v := hv; have hw := wr_r v)
      | refine (⟨hF.2.1, ?_⟩ : MS _ ∧ _)
      | ((with_reducible show st1 _ _ _ _ _ _ _ _ _ _ _ _); conv => whnf)
      | ((with_reducible show shortK _ _); conv => whnf)
      | exact Nat.le_of_ble_eq_true rfl)
set_option maxHeartbeats 8000000 in
set_option maxRecDepth 100000 in
theorem cs_stitch {xs : Nat → Int} {Ln : Nat} (hLn : Ln ≤ 3584) (hxs : ∀ j, InR (xs j)) : ∀ N L st S c, iCase xs Ln N L st S c → stW eL_law spL_law wrL (601024, 7293034) krL (wpL eL_law spL_law wrL (601024, 7293034) krL (cutL (cutT xs Ln)) N 150) 919 L st S c := by
  rintro N L st S c ⟨n, a5, a6, rfl, rfl, ⟨c1, c2⟩, hb, hLI, rfl⟩
  obtain ⟨h3, h10, hX⟩ := hLI.x
  have hn : (n : Int) + 1 ≤ 15000 := by omega
  have t1 := hLI.t1
  have ea4 : (spL_law 4).2.2.1 = 0 := rfl
  have eb4 : (spL_law 4).2.2.2.1 = 0 := rfl
  have ea17 : (spL_law 17).2.2.1 = 0 := rfl
  have eb17 : (spL_law 17).2.2.2.1 = 0 := rfl
  conv => whnf
  repeat' (first
      | ((with_reducible show wpL _ _ _ _ _ _ _ _ _ _ _ _ _); conv => whnf)
      | ((with_reducible show callK _ _ _ _ _ _ _ _ _); conv => whnf)
      | with_reducible apply And.intro
      | (intro c9; (try simp only [mg, mf, colK, stK, clK, mnK, shN] at c9))
      | ((with_reducible show condK _ _ _ _ _); conv => whnf)
      | refine Exists.intro _ (And.intro rfl ?_)
      | exact ⟨_, t1⟩
      | exact ⟨102, Ln, h10, Or.inr rfl, by omega, by omega⟩
      | exact ⟨102, Ln, hM.x.2.1, Or.inr rfl, by omega, by omega⟩
      | exact ⟨33, hM.m2⟩
      | exact ⟨33, hF.2.1.1⟩
      | exact ⟨1, hF.1.x.1, by omega, by omega⟩
      | exact ⟨3000 - 3 * n - 2, by omega, n, _, _, rfl, rfl, ⟨by omega, by omega⟩, by omega, hF.1, rfl⟩
      | omega
      | (simp only [hX]; refine lw_wstitch hLI hn (hxs _) (hxs _) (hxs _) ?_; intro z S1 hz hM; have hX1 := hM.x.2.2)
      | (simp only [hX1]; refine lw_mstitch hM hn (hxs _) (hxs _) (hxs _) ?_; intro k v S2 hA hF; have hk : S2.2.1 2 0 = z := hF.2.2.1.trans hA.1; have hk2 : mf S2 0 = z := hk; have hv : z = 0 → S2.2.1 3 0 = wr v := fun e => (congrFun hF.2.2.2 0).trans (hA.2 e); have hv2 : z = 0 → S2.2.1 3 (Int.toNat 0) = wr v := hv; have hw := wr_r v)
      | refine (⟨hF.2.1, ?_⟩ : MS _ ∧ _)
      | ((with_reducible show st1 _ _ _ _ _ _ _ _ _ _ _ _); conv => whnf)
      | ((with_reducible show shortK _ _); conv => whnf)
      | exact Nat.le_of_ble_eq_true rfl)
set_option maxHeartbeats 8000000 in
set_option maxRecDepth 100000 in
theorem cs_sequence {xs : Nat → Int} {Ln : Nat} (hLn : Ln ≤ 3584) (hxs : ∀ j, InR (xs j)) : ∀ N L st S c, iCase xs Ln N L st S c → stW eL_law spL_law wrL (601024, 7293034) krL (wpL eL_law spL_law wrL (601024, 7293034) krL (cutL (cutT xs Ln)) N 150) 999 L st S c := by
  rintro N L st S c ⟨n, a5, a6, rfl, rfl, ⟨c1, c2⟩, hb, hLI, rfl⟩
  obtain ⟨h3, h10, hX⟩ := hLI.x
  have hn : (n : Int) + 1 ≤ 15000 := by omega
  have t1 := hLI.t1
  have ea4 : (spL_law 4).2.2.1 = 0 := rfl
  have eb4 : (spL_law 4).2.2.2.1 = 0 := rfl
  have ea18 : (spL_law 18).2.2.1 = 0 := rfl
  have eb18 : (spL_law 18).2.2.2.1 = 0 := rfl
  conv => whnf
  repeat' (first
      | ((with_reducible show wpL _ _ _ _ _ _ _ _ _ _ _ _ _); conv => whnf)
      | ((with_reducible show callK _ _ _ _ _ _ _ _ _); conv => whnf)
      | with_reducible apply And.intro
      | (intro c9; (try simp only [mg, mf, colK, stK, clK, mnK, shN] at c9))
      | ((with_reducible show condK _ _ _ _ _); conv => whnf)
      | refine Exists.intro _ (And.intro rfl ?_)
      | exact ⟨_, t1⟩
      | exact ⟨102, Ln, h10, Or.inr rfl, by omega, by omega⟩
      | exact ⟨102, Ln, hM.x.2.1, Or.inr rfl, by omega, by omega⟩
      | exact ⟨33, hM.m2⟩
      | exact ⟨33, hF.2.1.1⟩
      | exact ⟨1, hF.1.x.1, by omega, by omega⟩
      | exact ⟨3000 - 3 * n - 2, by omega, n, _, _, rfl, rfl, ⟨by omega, by omega⟩, by omega, hF.1, rfl⟩
      | omega
      | (simp only [hX]; refine lw_wsequence hLI hn (hxs _) (hxs _) ?_; intro z S1 hz hM; have hX1 := hM.x.2.2)
      | (simp only [hX1]; refine lw_msequence hM hn (hxs _) (hxs _) ?_; intro k v S2 hA hF; have hk : S2.2.1 2 0 = z := hF.2.2.1.trans hA.1; have hk2 : mf S2 0 = z := hk; have hv : z = 0 → S2.2.1 3 0 = wr v := fun e => (congrFun hF.2.2.2 0).trans (hA.2 e); have hv2 : z = 0 → S2.2.1 3 (Int.toNat 0) = wr v := hv; have hw := wr_r v)
      | refine (⟨hF.2.1, ?_⟩ : MS _ ∧ _)
      | ((with_reducible show st1 _ _ _ _ _ _ _ _ _ _ _ _); conv => whnf)
      | ((with_reducible show shortK _ _); conv => whnf)
      | exact Nat.le_of_ble_eq_true rfl)
set_option maxHeartbeats 8000000 in
set_option maxRecDepth 100000 in
theorem cs_changes {xs : Nat → Int} {Ln : Nat} (hLn : Ln ≤ 3584) (hxs : ∀ j, InR (xs j)) : ∀ N L st S c, iCase xs Ln N L st S c → stW eL_law spL_law wrL (601024, 7293034) krL (wpL eL_law spL_law wrL (601024, 7293034) krL (cutL (cutT xs Ln)) N 150) 1067 L st S c := by
  rintro N L st S c ⟨n, a5, a6, rfl, rfl, ⟨c1, c2⟩, hb, hLI, rfl⟩
  obtain ⟨h3, h10, hX⟩ := hLI.x
  have hn : (n : Int) + 1 ≤ 15000 := by omega
  have t1 := hLI.t1
  have ea4 : (spL_law 4).2.2.1 = 0 := rfl
  have eb4 : (spL_law 4).2.2.2.1 = 0 := rfl
  have ea19 : (spL_law 19).2.2.1 = 0 := rfl
  have eb19 : (spL_law 19).2.2.2.1 = 0 := rfl
  conv => whnf
  repeat' (first
      | ((with_reducible show wpL _ _ _ _ _ _ _ _ _ _ _ _ _); conv => whnf)
      | ((with_reducible show callK _ _ _ _ _ _ _ _ _); conv => whnf)
      | with_reducible apply And.intro
      | (intro c9; (try simp only [mg, mf, colK, stK, clK, mnK, shN] at c9))
      | ((with_reducible show condK _ _ _ _ _); conv => whnf)
      | refine Exists.intro _ (And.intro rfl ?_)
      | exact ⟨_, t1⟩
      | exact ⟨102, Ln, h10, Or.inr rfl, by omega, by omega⟩
      | exact ⟨102, Ln, hM.x.2.1, Or.inr rfl, by omega, by omega⟩
      | exact ⟨33, hM.m2⟩
      | exact ⟨33, hF.2.1.1⟩
      | exact ⟨1, hF.1.x.1, by omega, by omega⟩
      | exact ⟨3000 - 3 * n - 2, by omega, n, _, _, rfl, rfl, ⟨by omega, by omega⟩, by omega, hF.1, rfl⟩
      | omega
      | (simp only [hX]; refine lw_wchanges hLI hn (hxs _) ?_; intro z S1 hz hM; have hX1 := hM.x.2.2)
      | (simp only [hX1]; refine lw_mchanges hM hn (hxs _) ?_; intro k v S2 hA hF; have hk : S2.2.1 2 0 = z := hF.2.2.1.trans hA.1; have hk2 : mf S2 0 = z := hk; have hv : z = 0 → S2.2.1 3 0 = wr v := fun e => (congrFun hF.2.2.2 0).trans (hA.2 e); have hv2 : z = 0 → S2.2.1 3 (Int.toNat 0) = wr v := hv; have hw := wr_r v)
      | refine (⟨hF.2.1, ?_⟩ : MS _ ∧ _)
      | ((with_reducible show st1 _ _ _ _ _ _ _ _ _ _ _ _); conv => whnf)
      | ((with_reducible show shortK _ _); conv => whnf)
      | exact Nat.le_of_ble_eq_true rfl)
set_option maxHeartbeats 8000000 in
set_option maxRecDepth 100000 in
theorem cs_changesAnew {xs : Nat → Int} {Ln : Nat} (hLn : Ln ≤ 3584) (hxs : ∀ j, InR (xs j)) : ∀ N L st S c, iCase xs Ln N L st S c → stW eL_law spL_law wrL (601024, 7293034) krL (wpL eL_law spL_law wrL (601024, 7293034) krL (cutL (cutT xs Ln)) N 150) 1123 L st S c := by
  rintro N L st S c ⟨n, a5, a6, rfl, rfl, ⟨c1, c2⟩, hb, hLI, rfl⟩
  obtain ⟨h3, h10, hX⟩ := hLI.x
  have hn : (n : Int) + 1 ≤ 15000 := by omega
  have t1 := hLI.t1
  have ea4 : (spL_law 4).2.2.1 = 0 := rfl
  have eb4 : (spL_law 4).2.2.2.1 = 0 := rfl
  have ea20 : (spL_law 20).2.2.1 = 0 := rfl
  have eb20 : (spL_law 20).2.2.2.1 = 0 := rfl
  conv => whnf
  repeat' (first
      | ((with_reducible show wpL _ _ _ _ _ _ _ _ _ _ _ _ _); conv => whnf)
      | ((with_reducible show callK _ _ _ _ _ _ _ _ _); conv => whnf)
      | with_reducible apply And.intro
      | (intro c9; (try simp only [mg, mf, colK, stK, clK, mnK, shN] at c9))
      | ((with_reducible show condK _ _ _ _ _); conv => whnf)
      | refine Exists.intro _ (And.intro rfl ?_)
      | exact ⟨_, t1⟩
      | exact ⟨102, Ln, h10, Or.inr rfl, by omega, by omega⟩
      | exact ⟨102, Ln, hM.x.2.1, Or.inr rfl, by omega, by omega⟩
      | exact ⟨33, hM.m2⟩
      | exact ⟨33, hF.2.1.1⟩
      | exact ⟨1, hF.1.x.1, by omega, by omega⟩
      | exact ⟨3000 - 3 * n - 2, by omega, n, _, _, rfl, rfl, ⟨by omega, by omega⟩, by omega, hF.1, rfl⟩
      | omega
      | (simp only [hX]; refine lw_wchangesAnew hLI hn (hxs _) ?_; intro z S1 hz hM; have hX1 := hM.x.2.2)
      | (simp only [hX1]; refine lw_mchangesAnew hM hn (hxs _) ?_; intro k v S2 hA hF; have hk : S2.2.1 2 0 = z := hF.2.2.1.trans hA.1; have hk2 : mf S2 0 = z := hk; have hv : z = 0 → S2.2.1 3 0 = wr v := fun e => (congrFun hF.2.2.2 0).trans (hA.2 e); have hv2 : z = 0 → S2.2.1 3 (Int.toNat 0) = wr v := hv; have hw := wr_r v)
      | refine (⟨hF.2.1, ?_⟩ : MS _ ∧ _)
      | ((with_reducible show st1 _ _ _ _ _ _ _ _ _ _ _ _); conv => whnf)
      | ((with_reducible show shortK _ _); conv => whnf)
      | exact Nat.le_of_ble_eq_true rfl)
set_option maxHeartbeats 8000000 in
set_option maxRecDepth 100000 in
theorem cs_jumps {xs : Nat → Int} {Ln : Nat} (hLn : Ln ≤ 3584) (hxs : ∀ j, InR (xs j)) : ∀ N L st S c, iCase xs Ln N L st S c → stW eL_law spL_law wrL (601024, 7293034) krL (wpL eL_law spL_law wrL (601024, 7293034) krL (cutL (cutT xs Ln)) N 150) 1179 L st S c := by
  rintro N L st S c ⟨n, a5, a6, rfl, rfl, ⟨c1, c2⟩, hb, hLI, rfl⟩
  obtain ⟨h3, h10, hX⟩ := hLI.x
  have hn : (n : Int) + 1 ≤ 15000 := by omega
  have t1 := hLI.t1
  have ea4 : (spL_law 4).2.2.1 = 0 := rfl
  have eb4 : (spL_law 4).2.2.2.1 = 0 := rfl
  have ea21 : (spL_law 21).2.2.1 = 0 := rfl
  have eb21 : (spL_law 21).2.2.2.1 = 0 := rfl
  have hx2 := hX (7 * (n : Int) + 2).toNat
  have hi2 := hxs (7 * (n : Int) + 2).toNat
  conv => whnf
  repeat' (first
      | ((with_reducible show wpL _ _ _ _ _ _ _ _ _ _ _ _ _); conv => whnf)
      | ((with_reducible show callK _ _ _ _ _ _ _ _ _); conv => whnf)
      | with_reducible apply And.intro
      | (intro c9; (try simp only [mg, mf, colK, stK, clK, mnK, shN] at c9))
      | ((with_reducible show condK _ _ _ _ _); conv => whnf)
      | refine Exists.intro _ (And.intro rfl ?_)
      | exact ⟨_, t1⟩
      | exact ⟨102, Ln, h10, Or.inr rfl, by omega, by omega⟩
      | exact ⟨102, Ln, hM.x.2.1, Or.inr rfl, by omega, by omega⟩
      | exact ⟨33, hM.m2⟩
      | exact ⟨33, hF.2.1.1⟩
      | exact ⟨1, hF.1.x.1, by omega, by omega⟩
      | exact ⟨3000 - 3 * n - 2, by omega, n, _, _, rfl, rfl, ⟨by omega, by omega⟩, by omega, hF.1, rfl⟩
      | omega
      | (simp only [hX]; refine lw_wjumps hLI hn (hxs _) (Or.inl rfl) ?_; intro z S1 hz hM; have hX1 := hM.x.2.2; have hx2' := hX1 (7 * (n : Int) + 2).toNat)
      | (simp only [hX]; refine lw_wjumps hLI hn (hxs _) (Or.inr rfl) ?_; intro z S1 hz hM; have hX1 := hM.x.2.2; have hx2' := hX1 (7 * (n : Int) + 2).toNat)
      | (simp only [hX1]; refine lw_mjumps hM hn (hxs _) (Or.inl rfl) ?_; intro k v S2 hA hF; have hk : S2.2.1 2 0 = z := hF.2.2.1.trans hA.1; have hk2 : mf S2 0 = z := hk; have hv : z = 0 → S2.2.1 3 0 = wr v := fun e => (congrFun hF.2.2.2 0).trans (hA.2 e); have hv2 : z = 0 → S2.2.1 3 (Int.toNat 0) = wr v := hv; have hw := wr_r v)
      | (simp only [hX1]; refine lw_mjumps hM hn (hxs _) (Or.inr rfl) ?_; intro k v S2 hA hF; have hk : S2.2.1 2 0 = z := hF.2.2.1.trans hA.1; have hk2 : mf S2 0 = z := hk; have hv : z = 0 → S2.2.1 3 0 = wr v := fun e => (congrFun hF.2.2.2 0).trans (hA.2 e); have hv2 : z = 0 → S2.2.1 3 (Int.toNat 0) = wr v := hv; have hw := wr_r v)
      | refine (⟨hF.2.1, ?_⟩ : MS _ ∧ _)
      | ((with_reducible show st1 _ _ _ _ _ _ _ _ _ _ _ _); conv => whnf)
      | ((with_reducible show shortK _ _); conv => whnf)
      | exact Nat.le_of_ble_eq_true rfl)
set_option maxHeartbeats 8000000 in
set_option maxRecDepth 100000 in
theorem cs_ofOrder {xs : Nat → Int} {Ln : Nat} (hLn : Ln ≤ 3584) (hxs : ∀ j, InR (xs j)) : ∀ N L st S c, iCase xs Ln N L st S c → stW eL_law spL_law wrL (601024, 7293034) krL (wpL eL_law spL_law wrL (601024, 7293034) krL (cutL (cutT xs Ln)) N 150) 1263 L st S c := by
  rintro N L st S c ⟨n, a5, a6, rfl, rfl, ⟨c1, c2⟩, hb, hLI, rfl⟩
  obtain ⟨h3, h10, hX⟩ := hLI.x
  have hn : (n : Int) + 1 ≤ 15000 := by omega
  have t1 := hLI.t1
  have ea4 : (spL_law 4).2.2.1 = 0 := rfl
  have eb4 : (spL_law 4).2.2.2.1 = 0 := rfl
  have ea22 : (spL_law 22).2.2.1 = 0 := rfl
  have eb22 : (spL_law 22).2.2.2.1 = 0 := rfl
  conv => whnf
  repeat' (first
      | ((with_reducible show wpL _ _ _ _ _ _ _ _ _ _ _ _ _); conv => whnf)
      | ((with_reducible show callK _ _ _ _ _ _ _ _ _); conv => whnf)
      | with_reducible apply And.intro
      | (intro c9; (try simp only [mg, mf, colK, stK, clK, mnK, shN] at c9))
      | ((with_reducible show condK _ _ _ _ _); conv => whnf)
      | refine Exists.intro _ (And.intro rfl ?_)
      | exact ⟨_, t1⟩
      | exact ⟨102, Ln, h10, Or.inr rfl, by omega, by omega⟩
      | exact ⟨102, Ln, hM.x.2.1, Or.inr rfl, by omega, by omega⟩
      | exact ⟨33, hM.m2⟩
      | exact ⟨33, hF.2.1.1⟩
      | exact ⟨1, hF.1.x.1, by omega, by omega⟩
      | exact ⟨3000 - 3 * n - 2, by omega, n, _, _, rfl, rfl, ⟨by omega, by omega⟩, by omega, hF.1, rfl⟩
      | omega
      | (simp only [hX]; refine lw_wofOrder hLI hn (hxs _) (hxs _) ?_; intro z S1 hz hM; have hX1 := hM.x.2.2)
      | (simp only [hX1]; refine lw_mofOrder hM hn (hxs _) (hxs _) ?_; intro k v S2 hA hF; have hk : S2.2.1 2 0 = z := hF.2.2.1.trans hA.1; have hk2 : mf S2 0 = z := hk; have hv : z = 0 → S2.2.1 3 0 = wr v := fun e => (congrFun hF.2.2.2 0).trans (hA.2 e); have hv2 : z = 0 → S2.2.1 3 (Int.toNat 0) = wr v := hv; have hw := wr_r v)
      | refine (⟨hF.2.1, ?_⟩ : MS _ ∧ _)
      | ((with_reducible show st1 _ _ _ _ _ _ _ _ _ _ _ _); conv => whnf)
      | ((with_reducible show shortK _ _); conv => whnf)
      | exact Nat.le_of_ble_eq_true rfl)
set_option maxHeartbeats 8000000 in
set_option maxRecDepth 100000 in
theorem cs_shadeOf {xs : Nat → Int} {Ln : Nat} (hLn : Ln ≤ 3584) (hxs : ∀ j, InR (xs j)) : ∀ N L st S c, iCase xs Ln N L st S c → stW eL_law spL_law wrL (601024, 7293034) krL (wpL eL_law spL_law wrL (601024, 7293034) krL (cutL (cutT xs Ln)) N 150) 1331 L st S c := by
  rintro N L st S c ⟨n, a5, a6, rfl, rfl, ⟨c1, c2⟩, hb, hLI, rfl⟩
  obtain ⟨h3, h10, hX⟩ := hLI.x
  have hn : (n : Int) + 1 ≤ 15000 := by omega
  have t1 := hLI.t1
  have ea4 : (spL_law 4).2.2.1 = 0 := rfl
  have eb4 : (spL_law 4).2.2.2.1 = 0 := rfl
  have ea23 : (spL_law 23).2.2.1 = 0 := rfl
  have eb23 : (spL_law 23).2.2.2.1 = 0 := rfl
  conv => whnf
  repeat' (first
      | ((with_reducible show wpL _ _ _ _ _ _ _ _ _ _ _ _ _); conv => whnf)
      | ((with_reducible show callK _ _ _ _ _ _ _ _ _); conv => whnf)
      | with_reducible apply And.intro
      | (intro c9; (try simp only [mg, mf, colK, stK, clK, mnK, shN] at c9))
      | ((with_reducible show condK _ _ _ _ _); conv => whnf)
      | refine Exists.intro _ (And.intro rfl ?_)
      | exact ⟨_, t1⟩
      | exact ⟨102, Ln, h10, Or.inr rfl, by omega, by omega⟩
      | exact ⟨102, Ln, hM.x.2.1, Or.inr rfl, by omega, by omega⟩
      | exact ⟨33, hM.m2⟩
      | exact ⟨33, hF.2.1.1⟩
      | exact ⟨1, hF.1.x.1, by omega, by omega⟩
      | exact ⟨3000 - 3 * n - 2, by omega, n, _, _, rfl, rfl, ⟨by omega, by omega⟩, by omega, hF.1, rfl⟩
      | omega
      | (simp only [hX]; refine lw_wshadeOf hLI hn (hxs _) (hxs _) ?_; intro z S1 hz hM; have hX1 := hM.x.2.2)
      | (simp only [hX1]; refine lw_mshadeOf hM hn (hxs _) (hxs _) ?_; intro k v S2 hA hF; have hk : S2.2.1 2 0 = z := hF.2.2.1.trans hA.1; have hk2 : mf S2 0 = z := hk; have hv : z = 0 → S2.2.1 3 0 = wr v := fun e => (congrFun hF.2.2.2 0).trans (hA.2 e); have hv2 : z = 0 → S2.2.1 3 (Int.toNat 0) = wr v := hv; have hw := wr_r v)
      | refine (⟨hF.2.1, ?_⟩ : MS _ ∧ _)
      | ((with_reducible show st1 _ _ _ _ _ _ _ _ _ _ _ _); conv => whnf)
      | ((with_reducible show shortK _ _); conv => whnf)
      | exact Nat.le_of_ble_eq_true rfl)
set_option maxHeartbeats 8000000 in
set_option maxRecDepth 100000 in
theorem cs_ofMachine {xs : Nat → Int} {Ln : Nat} (hLn : Ln ≤ 3584) (hxs : ∀ j, InR (xs j)) : ∀ N L st S c, iCase xs Ln N L st S c → stW eL_law spL_law wrL (601024, 7293034) krL (wpL eL_law spL_law wrL (601024, 7293034) krL (cutL (cutT xs Ln)) N 150) 1399 L st S c := by
  rintro N L st S c ⟨n, a5, a6, rfl, rfl, ⟨c1, c2⟩, hb, hLI, rfl⟩
  obtain ⟨h3, h10, hX⟩ := hLI.x
  have hn : (n : Int) + 1 ≤ 15000 := by omega
  have t1 := hLI.t1
  have ea4 : (spL_law 4).2.2.1 = 0 := rfl
  have eb4 : (spL_law 4).2.2.2.1 = 0 := rfl
  have ea24 : (spL_law 24).2.2.1 = 0 := rfl
  have eb24 : (spL_law 24).2.2.2.1 = 0 := rfl
  conv => whnf
  repeat' (first
      | ((with_reducible show wpL _ _ _ _ _ _ _ _ _ _ _ _ _); conv => whnf)
      | ((with_reducible show callK _ _ _ _ _ _ _ _ _); conv => whnf)
      | with_reducible apply And.intro
      | (intro c9; (try simp only [mg, mf, colK, stK, clK, mnK, shN] at c9))
      | ((with_reducible show condK _ _ _ _ _); conv => whnf)
      | refine Exists.intro _ (And.intro rfl ?_)
      | exact ⟨_, t1⟩
      | exact ⟨102, Ln, h10, Or.inr rfl, by omega, by omega⟩
      | exact ⟨102, Ln, hM.x.2.1, Or.inr rfl, by omega, by omega⟩
      | exact ⟨33, hM.m2⟩
      | exact ⟨33, hF.2.1.1⟩
      | exact ⟨1, hF.1.x.1, by omega, by omega⟩
      | exact ⟨3000 - 3 * n - 2, by omega, n, _, _, rfl, rfl, ⟨by omega, by omega⟩, by omega, hF.1, rfl⟩
      | omega
      | (simp only [hX]; refine lw_wofMachine hLI hn (hxs _) (hxs _) ?_; intro z S1 hz hM; have hX1 := hM.x.2.2)
      | (simp only [hX1]; refine lw_mofMachine hM hn (hxs _) (hxs _) ?_; intro k v S2 hA hF; have hk : S2.2.1 2 0 = z := hF.2.2.1.trans hA.1; have hk2 : mf S2 0 = z := hk; have hv : z = 0 → S2.2.1 3 0 = wr v := fun e => (congrFun hF.2.2.2 0).trans (hA.2 e); have hv2 : z = 0 → S2.2.1 3 (Int.toNat 0) = wr v := hv; have hw := wr_r v)
      | refine (⟨hF.2.1, ?_⟩ : MS _ ∧ _)
      | ((with_reducible show st1 _ _ _ _ _ _ _ _ _ _ _ _); conv => whnf)
      | ((with_reducible show shortK _ _); conv => whnf)
      | exact Nat.le_of_ble_eq_true rfl)
set_option maxHeartbeats 8000000 in
set_option maxRecDepth 100000 in
theorem cs_left {xs : Nat → Int} {Ln : Nat} (hLn : Ln ≤ 3584) (hxs : ∀ j, InR (xs j)) : ∀ N L st S c, iCase xs Ln N L st S c → stW eL_law spL_law wrL (601024, 7293034) krL (wpL eL_law spL_law wrL (601024, 7293034) krL (cutL (cutT xs Ln)) N 150) 1467 L st S c := by
  rintro N L st S c ⟨n, a5, a6, rfl, rfl, ⟨c1, c2⟩, hb, hLI, rfl⟩
  obtain ⟨h3, h10, hX⟩ := hLI.x
  have hn : (n : Int) + 1 ≤ 15000 := by omega
  have t1 := hLI.t1
  have ea4 : (spL_law 4).2.2.1 = 0 := rfl
  have eb4 : (spL_law 4).2.2.2.1 = 0 := rfl
  have ea25 : (spL_law 25).2.2.1 = 0 := rfl
  have eb25 : (spL_law 25).2.2.2.1 = 0 := rfl
  conv => whnf
  repeat' (first
      | ((with_reducible show wpL _ _ _ _ _ _ _ _ _ _ _ _ _); conv => whnf)
      | ((with_reducible show callK _ _ _ _ _ _ _ _ _); conv => whnf)
      | with_reducible apply And.intro
      | (intro c9; (try simp only [mg, mf, colK, stK, clK, mnK, shN] at c9))
      | ((with_reducible show condK _ _ _ _ _); conv => whnf)
      | refine Exists.intro _ (And.intro rfl ?_)
      | exact ⟨_, t1⟩
      | exact ⟨102, Ln, h10, Or.inr rfl, by omega, by omega⟩
      | exact ⟨102, Ln, hM.x.2.1, Or.inr rfl, by omega, by omega⟩
      | exact ⟨33, hM.m2⟩
      | exact ⟨33, hF.2.1.1⟩
      | exact ⟨1, hF.1.x.1, by omega, by omega⟩
      | exact ⟨3000 - 3 * n - 2, by omega, n, _, _, rfl, rfl, ⟨by omega, by omega⟩, by omega, hF.1, rfl⟩
      | omega
      | (simp only [hX]; refine lw_wleft hLI hn (hxs _) (hxs _) ?_; intro z S1 hz hM; have hX1 := hM.x.2.2)
      | (simp only [hX1]; refine lw_mleft hM hn (hxs _) (hxs _) ?_; intro k v S2 hA hF; have hk : S2.2.1 2 0 = z := hF.2.2.1.trans hA.1; have hk2 : mf S2 0 = z := hk; have hv : z = 0 → S2.2.1 3 0 = wr v := fun e => (congrFun hF.2.2.2 0).trans (hA.2 e); have hv2 : z = 0 → S2.2.1 3 (Int.toNat 0) = wr v := hv; have hw := wr_r v)
      | refine (⟨hF.2.1, ?_⟩ : MS _ ∧ _)
      | ((with_reducible show st1 _ _ _ _ _ _ _ _ _ _ _ _); conv => whnf)
      | ((with_reducible show shortK _ _); conv => whnf)
      | exact Nat.le_of_ble_eq_true rfl)
