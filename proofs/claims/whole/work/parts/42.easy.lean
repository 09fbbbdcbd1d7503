theorem sim_feed : Sim_feed Rel := by
  intro a σ μ ⟨n, t, k, ev, hR⟩
  obtain ⟨h1, h2, h3, h4, h5, h6, h7⟩ := id hR
  obtain ⟨n1, n2, n3, n4, n5, n6, n7, n8, n9, n10⟩ := id h1
  unfold X9_feed X10_feed
  rw [in_i, Option.bind_some]
  simp only [Int32.lt_iff_toInt_lt, Int32.le_iff_toInt_le, show (0 : Int32).toInt = 0 by decide, show (255 : Int32).toInt = 255 by decide, show (0 : Int64).toInt = 0 by decide, show (255 : Int64).toInt = 255 by decide]
  by_cases c1 : 0 ≤ a.toInt ∧ a.toInt ≤ 255
  · rw [if_neg (show ¬ a.toInt < 0 by omega), if_pos c1.2, if_pos c1, if_neg (by decide)]
    unfold X7_take
    rw [n7, n8]
    by_cases c2 : t < 160
    · rw [if_neg (by rw [Int32.lt_iff_toInt_lt, tiI (by omega)]; simp), if_pos (show nI t < 160 from nI_lt c2 (by decide)), if_neg (show ¬ ob (nI t) 160 by rw [ob_iff (by decide), tiI (by omega)]; omega)]
      rw [if_neg (show ¬ nI t = 160 from fun h => by have := (nI_eq (by omega) (by decide)).mp (h.trans (show (160 : Int32) = nI 160 from rfl)); omega), if_neg (show ¬ ob (nI t) 160 by rw [ob_iff (by decide), tiI (by omega)]; omega)]
      have e1 : nI t + 1 = nI (t + 1) := nI_1 t
      simp only [up_get, tnI (show t < 2 ^ 31 by omega), e1, n8]
      refine ⟨nI (t + 1), _, _, rfl, rfl, n, t + 1, k, ev, ?_⟩
      sorry
    · sorry
  · sorry
