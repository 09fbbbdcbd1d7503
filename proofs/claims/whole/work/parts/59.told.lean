theorem begin_eq {e : Evg} (hr : e.r < 6) {σ : St} (h : EnvX e σ) : ∃ σ', X1_begin σ = some σ' ∧ HoldX e [] σ' ∧ EXu σ σ' := by
  have hx : EXu σ (up (up σ 27 8 0) 27 9 0) := fun a b _ q => by rw [up_lo (by omega), up_lo (by omega)]
  exact ⟨_, rfl, ⟨h.keep hr hx.ex, ⟨List.nodup_nil, fun g hg => absurd hg List.not_mem_nil⟩, rfl, ⟨0, by decide, rfl, fun g _ => by simp⟩, trivial⟩, hx⟩
theorem begins_eq {e : Evg} {μ : St} (h : EnvM e μ) : ∃ μ', X10_begins μ = some μ' ∧ HoldM e [] μ' ∧ EMu μ μ' := by
  have hx : EMu μ (up μ 8 0 (μ.1 4 0)) := fun a b q _ => up_lo (by omega)
  exact ⟨_, rfl, ⟨h.keep hx.em, ⟨List.nodup_nil, fun g hg => absurd hg List.not_mem_nil⟩, by show (up μ 8 0 (μ.1 4 0)).1 8 0 = e.w0; rw [up_eq]; exact h.2.1⟩, hx⟩
theorem agn0 {e : Evg} (ho : EnvOk e) {g : Nat} (hg : g < e.n) : agn e g [] = false := by
  unfold agn
  refine decide_eq_false (fun q => ?_)
  have q1 : (8 : Int32) = e.T g := q
  have q2 := (ho.2.2 g hg).1
  rw [← q1] at q2
  unfold rng at q2
  rw [show (8 : Int32).toInt = 8 by decide] at q2
  omega
theorem sim_told : Sim_told Rel := by
  intro g w σ μ ⟨n, t, k, ev, hR⟩
  obtain ⟨h1, h2, h3, h4, h5, h6, h7⟩ := id hR
  obtain ⟨n1, n2, n3, n4, n5, n6, n7, n8, n9, n10⟩ := id h1
  obtain ⟨v1, v2, v3, v4, v5, v6, v7, r, r1, r2, r3⟩ := id h2
  have hRel : Rel σ μ := ⟨n, t, k, ev, hR⟩
  have ne1 : ¬ (1 : Int32) = 0 := by decide
  by_cases c0 : 0 ≤ w.toInt ∧ w.toInt ≤ 8
  · rcases i_cases w with h | ⟨w, hw, rfl⟩
    · omega
    rw [tiI hw] at c0
    have eX : X9_told g (nI w) σ = if w < 3 then X9_told_b34 g (nI w) σ else if 0 ≤ g.toInt ∧ g.toInt < n then X9_told_b34 g (nI w) σ else some (-1000, σ) := by
      unfold X9_told
      rw [if_neg (nI_pos hw), if_pos (show nI w ≤ 8 by rw [show (8 : Int32) = nI 8 from rfl, nI_leI hw (by decide)]; omega), has_eq n1 n5, Option.bind_some]
      by_cases c : w < 3
      · rw [if_pos c, if_pos (show nI w < 3 from nI_lt c (by decide))]
      · rw [if_neg c, if_neg (show ¬ nI w < 3 by rw [show (3 : Int32) = nI 3 from rfl, nI_ltI hw (by decide)]; exact c)]
        by_cases c2 : 0 ≤ g.toInt ∧ g.toInt < n
        · rw [if_pos c2, if_pos c2, if_neg ne1]
        · rw [if_neg c2, if_neg c2, if_pos rfl]
    rw [eX]
    by_cases c : w < 3
    · rw [if_pos c, told_lo c]
      unfold X9_told_b34
      rw [if_neg (show ¬ 6 < nI w by rw [show (6 : Int32) = nI 6 from rfl, nI_ltI (by decide) hw]; omega), value_lo c]
      have e : σ.1 1 w = μ.1 4 w := by
        rcases (show w = 0 ∨ w = 1 ∨ w = 2 by omega) with rfl | rfl | rfl
        · exact v1
        · exact v3
        · exact v5
      exact ⟨μ.1 4 w, σ, μ, by rw [e]; rfl, rfl, hRel⟩
    · rw [if_neg c]
      by_cases c2 : 0 ≤ g.toInt ∧ g.toInt < n
      · rw [if_pos c2]
        rcases i_cases g with h | ⟨g, hg, rfl⟩
        · omega
        rw [tiI hg] at c2
        have gn : g < n := by omega
        obtain ⟨g1, g2, g3, g4, -⟩ := h3 g gn
        unfold X9_told_b34
        by_cases c3 : w ≤ 6
        · rw [if_neg (show ¬ 6 < nI w by rw [show (6 : Int32) = nI 6 from rfl, nI_ltI (by decide) hw]; omega), value_eq (show w = 3 ∨ w = 4 ∨ w = 5 ∨ w = 6 by omega) (show g < 5 by omega)]
          by_cases c4 : w = 6
          · subst c4
            rw [show X10_told (nI g) (nI 6) μ = _ from told_kind n1 n6 gn]
            exact ⟨μ.1 5 g, σ, μ, by rw [← g1]; rfl, rfl, hRel⟩
          · rw [told_hi n1 n6 (show w = 3 ∨ w = 4 ∨ w = 5 by omega) gn]
            refine ⟨μ.1 6 (3 * g + (w - 3)), σ, μ, ?_, rfl, hRel⟩
            rcases (show w = 3 ∨ w = 4 ∨ w = 5 by omega) with rfl | rfl | rfl
            · show some (σ.1 3 g, σ) = some (μ.1 6 (3 * g), σ); rw [g2]
            · show some (σ.1 4 g, σ) = some (μ.1 6 (3 * g + 1), σ); rw [g3]
            · show some (σ.1 5 g, σ) = some (μ.1 6 (3 * g + 2), σ); rw [g4]
        · obtain ⟨r, -, -, ho, hEX, hEM⟩ := env_of hR
          obtain ⟨σ1, a1, a2, a3⟩ := begin_eq ho.2.1 hEX
          obtain ⟨σ2, a4, a5, a6⟩ := hear_eq ho.1 ho.2.1 (show g < (envOf n r ev σ).n from gn) a2.1 (by decide) a2.2.2.1 a2.2.2.2.2
          have x2 : EXu σ1 σ2 := fun a b _ q => a5 a b (by omega)
          obtain ⟨μ1, b1', b2, b3⟩ := begins_eq hEM
          obtain ⟨μ2, b4, b5, b6⟩ := looks_eq ho.1 b2.2.1 (show g < (envOf n r ev σ).n from gn) b2.1 b2.2.2 (by decide)
          have y2 : EMu μ1 μ2 := fun a b _ q => b5 a b (by omega)
          have E2 := a2.1.keep ho.2.1 x2.ex
          have F2 := b2.1.keep y2.em
          obtain ⟨σ3, p1, p2⟩ := coolsX E2 a6
          obtain ⟨σ4, p3, p4⟩ := warmsX E2 a6
          obtain ⟨μ3, q1, q2⟩ := coolsM ho.1 (show g < (envOf n r ev σ).n from gn) F2 b6
          obtain ⟨μ4, q3, q4⟩ := warmsM ho.1 (show g < (envOf n r ev σ).n from gn) F2 b6
          rw [agn0 ho gn] at q1 q3
          have eM : X10_told (nI g) (nI w) μ = (X10_begins μ).bind (fun x78 => (X10_looks (nI g) 0 x78).bind (fun x84 => if nI w = 7 then ((X10_warmsOf (nI g) 0 x84).bind (fun x96 => some (x96.1, x96.2))) else ((X10_coolsOf (nI g) 0 x84).bind (fun x105 => some (x105.1, x105.2))))) := by
            unfold X10_told
            rw [in_i, Option.bind_some, show (0 : Int64).toInt = 0 by decide, show (8 : Int64).toInt = 8 by decide, tiI hw, if_pos (show (0 : Int) ≤ ((w : Nat) : Int) ∧ ((w : Nat) : Int) ≤ 8 by omega), if_neg ne1, if_neg (show ¬ nI w ≤ 2 by rw [show (2 : Int32) = nI 2 from rfl, nI_leI hw (by decide)]; omega), isOne_eq n1 n6, Option.bind_some, tiI hg, if_pos (show (0 : Int) ≤ ((g : Nat) : Int) ∧ ((g : Nat) : Int) < (n : Int) by omega), if_neg ne1]
            unfold X10_told_b29
            rw [if_pos (show (7 : Int32) ≤ nI w by rw [show (7 : Int32) = nI 7 from rfl, nI_leI (by decide) hw]; omega)]
          rw [eM, if_pos (show 6 < nI w by rw [show (6 : Int32) = nI 6 from rfl, nI_ltI (by decide) hw]; omega), a1, Option.bind_some, a4, Option.bind_some, b1', Option.bind_some, show X10_looks (nI g) 0 μ1 = _ from b4, Option.bind_some]
          rcases (show w = 7 ∨ w = 8 by omega) with rfl | rfl
          · rw [if_pos (show nI 7 = 7 from rfl), if_pos (show nI 7 = 7 from rfl), p3, show X10_warmsOf (nI g) 0 μ2 = _ from q3]
            refine ⟨_, σ4, μ4, rfl, rfl, n, t, k, ev, hR.frame ((a3.trans x2).trans (fun a b q _ => p4 a b q)).ex ((b3.trans y2).trans (fun a b _ q => q4 a b (by omega))).em⟩
          · rw [if_neg (show ¬ nI 8 = 7 by decide), if_neg (show ¬ nI 8 = 7 by decide), p1, show X10_coolsOf (nI g) 0 μ2 = _ from q1]
            refine ⟨_, σ3, μ3, rfl, rfl, n, t, k, ev, hR.frame ((a3.trans x2).trans (fun a b q _ => p2 a b q)).ex ((b3.trans y2).trans (fun a b _ q => q2 a b (by omega))).em⟩
      · rw [if_neg c2]
        refine ⟨-1000, σ, μ, rfl, ?_, hRel⟩
        unfold X10_told
        rw [in_i, Option.bind_some, show (0 : Int64).toInt = 0 by decide, show (8 : Int64).toInt = 8 by decide, tiI hw, if_pos (show (0 : Int) ≤ ((w : Nat) : Int) ∧ ((w : Nat) : Int) ≤ 8 by omega), if_neg ne1, if_neg (show ¬ nI w ≤ 2 by rw [show (2 : Int32) = nI 2 from rfl, nI_leI hw (by decide)]; omega), isOne_eq n1 n6, Option.bind_some, if_neg c2, if_pos rfl]
  · refine ⟨-1000, σ, μ, ?_, ?_, hRel⟩
    · unfold X9_told
      simp only [Int32.lt_iff_toInt_lt, Int32.le_iff_toInt_le, t0, show (8 : Int32).toInt = 8 by decide]
      by_cases c1 : w.toInt < 0
      · rw [if_pos c1]
      · rw [if_neg c1, if_neg (by omega)]
    · unfold X10_told
      rw [in_i, Option.bind_some, show (0 : Int64).toInt = 0 by decide, show (8 : Int64).toInt = 8 by decide, if_neg c0, if_pos rfl]
