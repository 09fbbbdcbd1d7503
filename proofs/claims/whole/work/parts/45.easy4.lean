theorem value_lo {σ : St} {w : Nat} (hw : w < 3) (g : Int32) : X5_value 1 (nI w) g σ = some (σ.1 1 w) := by
  rcases (show w = 0 ∨ w = 1 ∨ w = 2 by omega) with rfl | rfl | rfl <;> rfl
theorem change_lo {σ : St} {w : Nat} (hw : w < 3) (g v : Int32) : X5_change 1 (nI w) g v σ = some (up σ 1 w v) := by
  rcases (show w = 0 ∨ w = 1 ∨ w = 2 by omega) with rfl | rfl | rfl <;> rfl
theorem lays_lo {μ : St} {w : Nat} (hw : w < 3) (g v : Int32) : X10_lays (nI w) g v μ = some (up μ 4 w v) := by
  rcases (show w = 0 ∨ w = 1 ∨ w = 2 by omega) with rfl | rfl | rfl <;> rfl
theorem ix3 {g w : Nat} (hw : w = 3 ∨ w = 4 ∨ w = 5) : (3 : Int32) * nI g + nI w - 3 = nI (3 * g + (w - 3)) := by
  rw [show (3 : Int32) = nI 3 from rfl, pk_mul, nI_add, pk_sub (by omega), show 3 * g + w - 3 = 3 * g + (w - 3) by omega]
theorem lays_hi {μ : St} {w g : Nat} (hw : w = 3 ∨ w = 4 ∨ w = 5) (hg : g < 5) (v : Int32) : X10_lays (nI w) (nI g) v μ = some (up μ 6 (3 * g + (w - 3)) v) := by
  unfold X10_lays
  rw [if_pos (show (3 : Int32) ≤ nI w by rw [show (3 : Int32) = nI 3 from rfl, nI_leI (by decide) (by omega)]; omega), if_neg (show ¬ (6 : Int32) ≤ nI w by rw [show (6 : Int32) = nI 6 from rfl, nI_leI (by decide) (by omega)]; omega), ix3 hw, if_neg (show ¬ ob (nI (3 * g + (w - 3))) 15 by rw [ob_iff (by decide), tiI (by omega)]; omega), tnI (by omega)]
theorem lays_kind {μ : St} {g : Nat} (hg : g < 5) (v : Int32) : X10_lays 6 (nI g) v μ = some (up μ 5 g v) := by
  unfold X10_lays
  rw [if_pos (by decide), if_pos (by decide), if_pos rfl, if_neg (show ¬ ob (nI g) 5 by rw [ob_iff (by decide), tiI (by omega)]; omega), tnI (by omega)]
theorem lays_rule {μ : St} (g v : Int32) : X10_lays 7 g v μ = some (up μ 0 4 v) := rfl
theorem told_lo {μ : St} {w : Nat} (hw : w < 3) (g : Int32) : X10_told g (nI w) μ = some (μ.1 4 w, μ) := by
  unfold X10_told
  rw [in_i, Option.bind_some]
  rcases (show w = 0 ∨ w = 1 ∨ w = 2 by omega) with rfl | rfl | rfl <;> rfl
theorem told_hi {μ : St} {n w g : Nat} (hn : n ≤ 5) (h : μ.1 0 11 = nI n) (hw : w = 3 ∨ w = 4 ∨ w = 5) (hg : g < n) : X10_told (nI g) (nI w) μ = some (μ.1 6 (3 * g + (w - 3)), μ) := by
  unfold X10_told
  rw [in_i, Option.bind_some, show (0 : Int64).toInt = 0 by decide, show (8 : Int64).toInt = 8 by decide, tiI (by omega), if_pos (show (0 : Int) ≤ ((w : Nat) : Int) ∧ ((w : Nat) : Int) ≤ 8 by omega), if_neg (show ¬ (1 : Int32) = 0 by decide), if_neg (show ¬ nI w ≤ 2 by rw [show (2 : Int32) = nI 2 from rfl, nI_leI (by omega) (by decide)]; omega), isOne_eq hn h, Option.bind_some, tiI (by omega), if_pos (show (0 : Int) ≤ ((g : Nat) : Int) ∧ ((g : Nat) : Int) < (n : Int) by omega), if_neg (show ¬ (1 : Int32) = 0 by decide)]
  unfold X10_told_b29
  rw [if_neg (show ¬ (7 : Int32) ≤ nI w by rw [show (7 : Int32) = nI 7 from rfl, nI_leI (by decide) (by omega)]; omega), if_pos (show (3 : Int32) ≤ nI w by rw [show (3 : Int32) = nI 3 from rfl, nI_leI (by decide) (by omega)]; omega), if_neg (show ¬ (6 : Int32) ≤ nI w by rw [show (6 : Int32) = nI 6 from rfl, nI_leI (by decide) (by omega)]; omega), ix3 hw, if_neg (show ¬ ob (nI (3 * g + (w - 3))) 15 by rw [ob_iff (by decide), tiI (by omega)]; omega), tnI (by omega)]
theorem told_kind {μ : St} {n g : Nat} (hn : n ≤ 5) (h : μ.1 0 11 = nI n) (hg : g < n) : X10_told (nI g) 6 μ = some (μ.1 5 g, μ) := by
  unfold X10_told
  rw [in_i, Option.bind_some, show (0 : Int64).toInt = 0 by decide, show (8 : Int64).toInt = 8 by decide, if_pos (show (0 : Int) ≤ (6 : Int32).toInt ∧ (6 : Int32).toInt ≤ 8 by decide), if_neg (show ¬ (1 : Int32) = 0 by decide), if_neg (show ¬ (6 : Int32) ≤ 2 by decide), isOne_eq hn h, Option.bind_some, tiI (by omega), if_pos (show (0 : Int) ≤ ((g : Nat) : Int) ∧ ((g : Nat) : Int) < (n : Int) by omega), if_neg (show ¬ (1 : Int32) = 0 by decide)]
  unfold X10_told_b29
  rw [if_neg (by decide), if_pos (by decide), if_pos (by decide), if_neg (show ¬ ob (nI g) 5 by rw [ob_iff (by decide), tiI (by omega)]; omega), tnI (by omega)]
/-- least and most of what set() names -/
def leastW (w : Nat) : Int := if w = 1 then 1 else 0
def mostW (w : Nat) : Int := ([99, 99, 999, 9, 7, 1] : List Int).getD w 0
theorem mayBe_w {w : Nat} (hw : w < 6) (v : Int32) : X9_mayBe (nI w) v = some (if leastW w ≤ v.toInt ∧ v.toInt ≤ mostW w then 1 else 0) := by
  rcases (show w = 0 ∨ w = 1 ∨ w = 2 ∨ w = 3 ∨ w = 4 ∨ w = 5 by omega) with rfl | rfl | rfl | rfl | rfl | rfl
  · exact mayBe_eq (lo := 0) (hi := 99) (by decide) (by decide) (by decide) v
  · exact mayBe_eq (lo := 1) (hi := 99) (by decide) (by decide) (by decide) v
  · exact mayBe_eq (lo := 0) (hi := 999) (by decide) (by decide) (by decide) v
  · exact mayBe_eq (lo := 0) (hi := 9) (by decide) (by decide) (by decide) v
  · exact mayBe_eq (lo := 0) (hi := 7) (by decide) (by decide) (by decide) v
  · exact mayBe_eq (lo := 0) (hi := 1) (by decide) (by decide) (by decide) v
theorem b37_w {μ : St} {w : Nat} (hw : w < 6) (g v : Int32) : X10_set_b25 (nI w) g v μ = if leastW w ≤ v.toInt ∧ v.toInt ≤ mostW w then (X10_told g (nI w) μ).bind (fun x54 => (X10_lays (nI w) g v x54.2).bind (fun x63 => some (x54.1, x63))) else some (-2, μ) := by
  have hm : X10_mostOf (nI w) = some (Int32.ofInt (mostW w)) := by
    rcases (show w = 0 ∨ w = 1 ∨ w = 2 ∨ w = 3 ∨ w = 4 ∨ w = 5 by omega) with rfl | rfl | rfl | rfl | rfl | rfl <;> rfl
  have ht : (Int32.ofInt (mostW w)).toInt = mostW w := by
    rcases (show w = 0 ∨ w = 1 ∨ w = 2 ∨ w = 3 ∨ w = 4 ∨ w = 5 by omega) with rfl | rfl | rfl | rfl | rfl | rfl <;> decide
  have key : ∀ s0 : Int64, s0.toInt = leastW w → X10_set_b37 (nI w) g v s0 (Int32.toInt64 v) μ = if leastW w ≤ v.toInt ∧ v.toInt ≤ mostW w then (X10_told g (nI w) μ).bind (fun x54 => (X10_lays (nI w) g v x54.2).bind (fun x63 => some (x54.1, x63))) else some (-2, μ) := by
    intro s0 hs
    unfold X10_set_b37
    rw [hm, Option.bind_some, in_i, Option.bind_some, hs, Int32.toInt_toInt64, ht]
    by_cases c : leastW w ≤ v.toInt ∧ v.toInt ≤ mostW w
    · rw [if_pos c, if_pos c, if_neg (show ¬ (1 : Int32) = 0 by decide)]
    · rw [if_neg c, if_neg c, if_pos rfl]
  unfold X10_set_b25
  by_cases c : w = 1
  · subst c
    rw [if_pos (show nI 1 = 1 from rfl)]
    exact key 1 (by decide)
  · rw [if_neg (show ¬ nI w = 1 from fun h => c ((nI_eq (by omega) (by decide)).mp (h.trans (show (1 : Int32) = nI 1 from rfl))))]
    exact key 0 (by unfold leastW; rw [if_neg c]; decide)
theorem sim_set : Sim_set Rel := by
  intro a g v σ μ ⟨n, t, k, ev, hR⟩
  obtain ⟨h1, h2, h3, h4, h5, h6, h7⟩ := id hR
  obtain ⟨n1, n2, n3, n4, n5, n6, n7, n8, n9, n10⟩ := id h1
  obtain ⟨v1, v2, v3, v4, v5, v6, v7, r, r1, r2, r3⟩ := id h2
  have hRel : Rel σ μ := ⟨n, t, k, ev, hR⟩
  have bad : X9_set a g v σ = some (-2, σ) → X10_set a g v μ = some (-2, μ) → ∃ (r : Int32) (σ1 μ1 : St), X9_set a g v σ = some (r, σ1) ∧ X10_set a g v μ = some (r, μ1) ∧ Rel σ1 μ1 := fun e1 e2 => ⟨-2, σ, μ, e1, e2, hRel⟩
  by_cases c0 : 0 ≤ a.toInt ∧ a.toInt ≤ 5
  · rcases i_cases a with h | ⟨w, hw, rfl⟩
    · omega
    rw [tiI hw] at c0
    have w6 : w < 6 := by omega
    have eX : X9_set (nI w) g v σ = (if leastW w ≤ v.toInt ∧ v.toInt ≤ mostW w then (if w < 3 then X9_set_b39 (nI w) g v σ else (if 0 ≤ g.toInt ∧ g.toInt < n then X9_set_b39 (nI w) g v σ else some (-2, σ))) else some (-2, σ)) := by
      unfold X9_set
      rw [if_neg (nI_pos hw), if_neg (show ¬ 5 < nI w by rw [show (5 : Int32) = nI 5 from rfl, nI_ltI (by decide) hw]; omega), mayBe_w w6, Option.bind_some]
      by_cases c : leastW w ≤ v.toInt ∧ v.toInt ≤ mostW w
      · rw [if_pos c, if_pos c, if_neg (show ¬ (1 : Int32) = 0 by decide)]
        by_cases c3 : w < 3
        · rw [if_pos c3, if_pos (show nI w < 3 from nI_lt c3 (by decide))]
        · rw [if_neg c3, if_neg (show ¬ nI w < 3 by rw [show (3 : Int32) = nI 3 from rfl, nI_ltI hw (by decide)]; exact c3), has_eq n1 n5, Option.bind_some]
          by_cases c4 : 0 ≤ g.toInt ∧ g.toInt < n
          · rw [if_pos c4, if_pos c4, if_neg (show ¬ (1 : Int32) = 0 by decide)]
          · rw [if_neg c4, if_neg c4, if_pos rfl]
      · rw [if_neg c, if_neg c, if_pos rfl]
    have eM : X10_set (nI w) g v μ = (if w < 3 then X10_set_b25 (nI w) g v μ else (if 0 ≤ g.toInt ∧ g.toInt < n then X10_set_b25 (nI w) g v μ else some (-2, μ))) := by
      unfold X10_set
      rw [in_i, Option.bind_some, show (0 : Int64).toInt = 0 by decide, show (5 : Int64).toInt = 5 by decide, tiI hw, if_pos (show (0 : Int) ≤ ((w : Nat) : Int) ∧ ((w : Nat) : Int) ≤ 5 by omega), if_neg (show ¬ (1 : Int32) = 0 by decide)]
      by_cases c3 : w < 3
      · rw [if_pos c3, if_pos (show nI w ≤ 2 by rw [show (2 : Int32) = nI 2 from rfl, nI_leI hw (by decide)]; omega)]
      · rw [if_neg c3, if_neg (show ¬ nI w ≤ 2 by rw [show (2 : Int32) = nI 2 from rfl, nI_leI hw (by decide)]; omega), isOne_eq n1 n6, Option.bind_some]
        by_cases c4 : 0 ≤ g.toInt ∧ g.toInt < n
        · rw [if_pos c4, if_pos c4, if_neg (show ¬ (1 : Int32) = 0 by decide)]
        · rw [if_neg c4, if_neg c4, if_pos rfl]
    rw [eX, eM, b37_w w6]
    by_cases c : leastW w ≤ v.toInt ∧ v.toInt ≤ mostW w
    · by_cases c3 : w < 3
      · refine ⟨σ.1 1 w, up σ 1 w v, up μ 4 w v, ?_, ?_, n, t, k, ev, ?_⟩
        · rw [if_pos c, if_pos c3]
          unfold X9_set_b39
          rw [value_lo c3, change_lo c3]
          rfl
        · have e : σ.1 1 w = μ.1 4 w := by
            rcases (show w = 0 ∨ w = 1 ∨ w = 2 by omega) with rfl | rfl | rfl
            · exact v1
            · exact v3
            · exact v5
          rw [if_pos c3, if_pos c, told_lo c3]
          simp only [Option.bind_some]
          rw [lays_lo c3, e]
          rfl
        · refine ⟨?_, ?_, h3.keep (fun _ _ => rfl) (fun _ _ => rfl) (fun _ _ => rfl) (fun _ _ => rfl) (fun _ _ => rfl) (fun _ _ => rfl), h4.keep (fun _ _ => rfl) (fun _ _ => rfl), h5.keep (fun t _ j => up_lo (by omega)) (fun _ _ => rfl) (fun _ _ => rfl) (fun _ _ => rfl) (fun _ _ _ _ => rfl) (fun _ _ => rfl), h6.keep rfl (fun _ => rfl) (fun _ _ => rfl) (fun _ => rfl) (fun _ => rfl) (fun _ => rfl) (fun _ => rfl) rfl rfl rfl (fun _ => rfl) (fun _ => rfl), h7.keep (fun s _ => up_lo (by omega)) (fun s _ => up_lo (by omega)) (fun s _ j => up_lo (by omega)) (fun _ => rfl) (fun _ => rfl) (fun _ => rfl) (fun _ => rfl)⟩
          · exact ⟨n1, n2, n3, n4, by rw [up_pl (by omega)]; exact n5, n6, n7, n8, n9, n10⟩
          · rcases (show w = 0 ∨ w = 1 ∨ w = 2 by omega) with rfl | rfl | rfl
            · exact ⟨rfl, c, v3, v4, v5, v6, v7, r, r1, r2, r3⟩
            · exact ⟨v1, v2, rfl, c, v5, v6, v7, r, r1, r2, r3⟩
            · exact ⟨v1, v2, v3, v4, rfl, c, v7, r, r1, r2, r3⟩
      · by_cases c4 : 0 ≤ g.toInt ∧ g.toInt < n
        · rcases i_cases g with h | ⟨g, hg, rfl⟩
          · omega
          have gn : g < n := by rw [tiI hg] at c4; omega
          have w3 : w = 3 ∨ w = 4 ∨ w = 5 := by omega
          have w3' : w = 3 ∨ w = 4 ∨ w = 5 ∨ w = 6 := by omega
          obtain ⟨g1, g2, g3, g4, g5, g6, g7, g8⟩ := h3 g gn
          refine ⟨σ.1 w g, up σ w g v, up μ 6 (3 * g + (w - 3)) v, ?_, ?_, n, t, k, ev, ?_⟩
          · rw [if_pos c, if_neg c3, if_pos c4]
            unfold X9_set_b39
            rw [value_eq w3' (by omega), change_eq v w3' (by omega)]
            rcases w3 with rfl | rfl | rfl <;> rfl
          · have e : σ.1 w g = μ.1 6 (3 * g + (w - 3)) := by
              rcases w3 with rfl | rfl | rfl
              · exact g2
              · exact g3
              · exact g4
            rw [if_neg c3, if_pos c4, if_pos c, told_hi n1 n6 w3 gn]
            simp only [Option.bind_some]
            rw [lays_hi w3 (by omega), e]
            rfl
          · have hw1 : w < 15 := by omega
            refine ⟨?_, ?_, ?_, h4.keep (fun i _ => up_lo (by omega)) (fun _ _ => rfl), h5.keep (fun t _ j => up_lo (by omega)) (fun i _ => up_lo (by omega)) (fun i _ => up_lo (by omega)) (fun i _ => up_lo (by omega)) (fun _ _ _ _ => rfl) (fun _ _ => rfl), h6.keep (up_lo (by omega)) (fun i => up_lo (by omega)) (fun i _ => up_lo (by omega)) (fun i => up_lo (by omega)) (fun i => up_lo (by omega)) (fun i => up_lo (by omega)) (fun i => up_lo (by omega)) rfl rfl rfl (fun _ => rfl) (fun _ => rfl), h7.keep (fun s _ => up_lo (by omega)) (fun s _ => up_lo (by omega)) (fun s _ j => up_lo (by omega)) (fun _ => rfl) (fun _ => rfl) (fun _ => rfl) (fun _ => rfl)⟩
            · exact ⟨n1, n2, n3, n4, by rw [up_lo (by omega)]; exact n5, n6, by rw [up_lo (by omega)]; exact n7, n8, by rw [up_lo (by omega)]; exact n9, n10⟩
            · exact h2.keep (up_lo (by omega)) (up_lo (by omega)) (up_lo (by omega)) (up_lo (by omega)) (up_lo (by omega)) rfl rfl rfl rfl rfl
            · intro j hj
              obtain ⟨j1, j2, j3, j4, j5, j6, j7, j8⟩ := h3 j hj
              have m5 : (up μ 6 (3 * g + (w - 3)) v).1 5 j = μ.1 5 j := rfl
              by_cases e : j = g
              · subst e
                rcases w3 with rfl | rfl | rfl
                · exact ⟨j1, by rw [up_eq]; exact up_eq.symm, j3.trans (up_pl (by omega)).symm, j4.trans (up_pl (by omega)).symm, j5, by rw [up_eq]; exact c, j7, j8⟩
                · exact ⟨j1, j2.trans (up_pl (by omega)).symm, by rw [up_eq]; exact up_eq.symm, j4.trans (up_pl (by omega)).symm, j5, j6, by rw [up_eq]; exact c, j8⟩
                · exact ⟨j1, j2.trans (up_pl (by omega)).symm, j3.trans (up_pl (by omega)).symm, by rw [up_eq]; exact up_eq.symm, j5, j6, j7, by rw [up_eq]; exact c⟩
              · rw [up_pl e, up_pl e, up_pl e, up_pl e, m5, up_pl (by omega), up_pl (by omega), up_pl (by omega)]
                exact h3 j hj
        · refine ⟨-2, σ, μ, ?_, ?_, hRel⟩
          · rw [if_pos c, if_neg c3, if_neg c4]
          · rw [if_neg c3, if_neg c4]
    · refine ⟨-2, σ, μ, by rw [if_neg c], ?_, hRel⟩
      rw [if_neg c]
      split
      · rfl
      · split <;> rfl
  · refine bad ?_ ?_
    · unfold X9_set
      simp only [Int32.lt_iff_toInt_lt, t0, show (5 : Int32).toInt = 5 by decide]
      by_cases c1 : a.toInt < 0
      · rw [if_pos c1]
      · rw [if_neg c1, if_pos (by omega)]
    · unfold X10_set
      rw [in_i, Option.bind_some, show (0 : Int64).toInt = 0 by decide, show (5 : Int64).toInt = 5 by decide, if_neg c0, if_pos rfl]
