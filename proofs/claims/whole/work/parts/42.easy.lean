theorem t0 : (0 : Int32).toInt = 0 := by decide
theorem sim_feed : Sim_feed Rel := by
  intro a σ μ ⟨n, t, k, ev, hR⟩
  obtain ⟨h1, h2, h3, h4, h5, h6, h7⟩ := id hR
  obtain ⟨n1, n2, n3, n4, n5, n6, n7, n8, n9, n10⟩ := id h1
  unfold X9_feed X10_feed
  rw [in_i, Option.bind_some]
  simp only [Int32.lt_iff_toInt_lt, Int32.le_iff_toInt_le, t0, show (255 : Int32).toInt = 255 by decide, show (0 : Int64).toInt = 0 by decide, show (255 : Int64).toInt = 255 by decide]
  by_cases c1 : 0 ≤ a.toInt ∧ a.toInt ≤ 255
  · rw [if_neg (show ¬ a.toInt < 0 by omega), if_pos c1.2, if_pos c1, if_neg (by decide)]
    unfold X7_take
    rw [n7, n8]
    by_cases c2 : t < 160
    · rw [if_neg (by rw [Int32.lt_iff_toInt_lt, tiI (by omega)]; simp), if_pos (show nI t < 160 from nI_lt c2 (by decide)), if_neg (show ¬ ob (nI t) 160 by rw [ob_iff (by decide), tiI (by omega)]; omega)]
      rw [if_neg (show ¬ nI t = 160 from fun h => by have := (nI_eq (by omega) (by decide)).mp (h.trans (show (160 : Int32) = nI 160 from rfl)); omega), if_neg (show ¬ ob (nI t) 160 by rw [ob_iff (by decide), tiI (by omega)]; omega)]
      rw [tnI (show t < 2 ^ 31 by omega), nI_1, Option.bind_some]
      have e2 : (up μ 3 t a).1 0 6 = nI t := n8
      rw [e2, nI_1]
      refine ⟨nI (t + 1), _, _, rfl, rfl, n, t + 1, k, ev, ⟨n1, by omega, n3, n4, n5, n6, rfl, rfl, n9, n10⟩, h2.keep rfl rfl rfl rfl rfl rfl rfl rfl rfl rfl, h3.keep (fun _ _ => rfl) (fun _ _ => rfl) (fun _ _ => rfl) (fun _ _ => rfl) (fun _ _ => rfl) (fun _ _ => rfl), ?_, h5.keep ?_ (fun _ _ => rfl) (fun _ _ => rfl) (fun _ _ => rfl) (fun _ _ _ _ => rfl) (fun _ _ => rfl), h6.keep rfl (fun _ => rfl) (fun _ _ => rfl) (fun _ => rfl) (fun _ => rfl) (fun _ => rfl) (fun _ => rfl) rfl rfl rfl (fun _ => rfl) (fun _ => rfl), h7.keep ?_ ?_ ?_ (fun _ => rfl) (fun _ => rfl) (fun _ => rfl) (fun _ => rfl)⟩
      · intro i hi
        by_cases hit : i = t
        · subst hit
          rw [up_eq, up_lo (by decide), up_eq]
          exact ⟨rfl, c1⟩
        · rw [up_pl hit, up_lo (by decide), up_lo (by decide), up_pl hit]
          exact h4 i (by omega)
      · intro j hj i
        rw [up_lo (by omega), up_lo (by omega)]
      · intro s hs
        rw [up_lo (by omega), up_lo (by omega)]
      · intro s hs
        rw [up_lo (by omega), up_lo (by omega)]
      · intro s hs j
        rw [up_lo (by omega), up_lo (by omega)]
    · have e : t = 160 := by omega
      subst e
      rw [if_neg (by decide), if_neg (by decide), if_pos (by decide), Option.bind_some]
      exact ⟨-4, σ, μ, rfl, rfl, n, 160, k, ev, hR⟩
  · rw [if_neg c1, if_pos rfl]
    by_cases c2 : a.toInt < 0
    · rw [if_pos c2]
      exact ⟨-2, σ, μ, rfl, rfl, n, t, k, ev, hR⟩
    · rw [if_neg c2, if_neg (by omega)]
      exact ⟨-2, σ, μ, rfl, rfl, n, t, k, ev, hR⟩
theorem sim_force : Sim_force Rel := by
  intro a σ μ ⟨n, t, k, ev, hR⟩
  obtain ⟨h1, h2, h3, h4, h5, h6, h7⟩ := id hR
  obtain ⟨n1, n2, n3, n4, n5, n6, n7, n8, n9, n10⟩ := id h1
  obtain ⟨v1, v2, v3, v4, v5, v6, v7, r, r1, r2, r3⟩ := id h2
  unfold X9_force X10_force
  rw [in_i, Option.bind_some, n9, n10, Int32.toInt_toInt64, nI_sub1 k (by omega)]
  simp only [Int32.lt_iff_toInt_lt, t0, tiI (show k < 2 ^ 31 by omega), show (0 : Int64).toInt = 0 by decide]
  by_cases c1 : 0 ≤ a.toInt ∧ a.toInt < k
  · rw [if_neg (by omega), if_pos c1.2, if_pos (show 0 ≤ a.toInt ∧ a.toInt ≤ (k : Int) - 1 by omega), if_neg (by decide)]
    rcases i_cases a with h | ⟨j, hj, rfl⟩
    · omega
    rw [tiI hj] at c1
    refine ⟨nI r, up σ 1 4 (nI j), up μ 0 4 (nI j), by rw [r2], by rw [r3], n, t, k, ev, h1, ⟨v1, v2, v3, v4, v5, v6, v7, j, by omega, rfl, rfl⟩, h3.keep (fun _ _ => rfl) (fun _ _ => rfl) (fun _ _ => rfl) (fun _ _ => rfl) (fun _ _ => rfl) (fun _ _ => rfl), h4.keep (fun _ _ => rfl) (fun _ _ => rfl), h5.keep ?_ (fun _ _ => rfl) (fun _ _ => rfl) (fun _ _ => rfl) (fun _ _ _ _ => rfl) (fun _ _ => rfl), h6.keep rfl (fun _ => rfl) (fun _ _ => rfl) (fun _ => rfl) (fun _ => rfl) (fun _ => rfl) (fun _ => rfl) rfl rfl rfl (fun _ => rfl) (fun _ => rfl), h7.keep ?_ ?_ ?_ (fun _ => rfl) (fun _ => rfl) (fun _ => rfl) (fun _ => rfl)⟩
    · intro j hj i
      rw [up_lo (by omega)]
    · intro s hs
      rw [up_lo (by omega)]
    · intro s hs
      rw [up_lo (by omega)]
    · intro s hs j
      rw [up_lo (by omega)]
  · rw [if_neg (show ¬ (0 ≤ a.toInt ∧ a.toInt ≤ (k : Int) - 1) by omega), if_pos rfl]
    by_cases c2 : a.toInt < 0
    · rw [if_pos c2]
      exact ⟨-2, σ, μ, rfl, rfl, n, t, k, ev, hR⟩
    · rw [if_neg c2, if_neg (by omega)]
      exact ⟨-2, σ, μ, rfl, rfl, n, t, k, ev, hR⟩
