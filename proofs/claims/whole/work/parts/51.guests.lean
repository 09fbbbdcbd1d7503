theorem nI_wrap {a : Nat} (h1 : 2 ^ 31 ≤ a) (h2 : a < 2 ^ 32) : (nI a).toInt = (a : Int) - 2 ^ 32 := by
  have e : (nI a).toInt = (a : Int).bmod (2 ^ 32) := by
    show (Int32.ofNat a).toInt = _
    rw [Int32.toInt_ofNat']
  rw [e, Int.bmod_def]
  omega
theorem guests_loop {t k s z : Nat} {ev : Nat → Nat → Nm → Int32} (hs : s < 4) (hz : z ≤ 40) {x m : Nat} (hx : x < 2 ^ 31) (hm : m ≤ 5) : ∀ (d i F F2 n : Nat) (r : Int32) (σ μ : St), RelN n t k ev σ μ → σ.1 (38 + 2 * s) 2 = nI z → μ.1 17 s = nI z → (∀ c, c < z → σ.1 (39 + 2 * s) c = μ.1 18 (40 * s + c)) → i + d = m → d < F → d < F2 → ∃ v σ1 μ1, X9_guests_b62 F (nI x) (nI m) (38 + 2 * s) r (nI i) σ = some (v, σ1) ∧ X10_guests_b75 F2 (nI s) (nI x) (nI m) r (nI i) μ = some (v, μ1) ∧ Rel σ1 μ1 := by
  intro d
  induction d with
  | zero =>
    intro i F F2 n r σ μ hR c1 c2 c3 hi hF hF2
    obtain ⟨F', rfl⟩ : ∃ F', F = F' + 1 := ⟨F - 1, by omega⟩
    obtain ⟨F2', rfl⟩ : ∃ F', F2 = F' + 1 := ⟨F2 - 1, by omega⟩
    rw [X9_guests_b62, X10_guests_b75, if_pos (show nI m ≤ nI i by rw [nI_leI (by omega) (by omega)]; omega), if_pos (show nI m ≤ nI i by rw [nI_leI (by omega) (by omega)]; omega)]
    exact ⟨r, σ, μ, rfl, rfl, n, t, k, ev, hR⟩
  | succ d ih =>
    intro i F F2 n r σ μ hR c1 c2 c3 hi hF hF2
    obtain ⟨F', rfl⟩ : ∃ F', F = F' + 1 := ⟨F - 1, by omega⟩
    obtain ⟨F2', rfl⟩ : ∃ F', F2 = F' + 1 := ⟨F2 - 1, by omega⟩
    have e3 : (3 : Int32) * nI i = nI (3 * i) := pk_mul 3 i
    have hob : ¬ ob (nI s) 4 := by rw [ob_iff (by decide), tiI (by omega)]; omega
    rw [X9_guests_b62, X10_guests_b75, if_neg (show ¬ nI m ≤ nI i by rw [nI_leI (by omega) (by omega)]; omega), if_neg (show ¬ nI m ≤ nI i by rw [nI_leI (by omega) (by omega)]; omega), if_neg (nI_pos hx), if_neg hob, if_pos (oS hs), e3, spans_eq hs hz c1, Option.bind_some, tnI (show s < 2 ^ 31 by omega), c2]
    have hsub : (nI z - nI (3 * i) - 3).toInt = (z : Int) - (3 * i + 3) := by
      rw [Int32.toInt_sub, sub_ti (by omega) (by omega), show (3 : Int32).toInt = 3 by decide]
      rw [Int.bmod_eq_of_le (by omega) (by omega)]
      omega
    by_cases c : x + 3 * i + 3 ≤ z
    · have hadd : nI x + nI (3 * i) = nI (x + 3 * i) := nI_add _ _
      rw [hadd, if_pos (show 0 ≤ (nI (x + 3 * i)).toInt ∧ 0 ≤ (3 : Int32).toInt ∧ (nI (x + 3 * i)).toInt + (3 : Int32).toInt ≤ (z : Int) by rw [tiI (by omega), show (3 : Int32).toInt = 3 by decide]; omega), if_neg (show ¬ (1 : Int32) = 0 by decide), if_pos (show nI x ≤ nI z - nI (3 * i) - 3 by rw [Int32.le_iff_toInt_le, hsub, tiI hx]; omega)]
      rw [ix40, nI_add, show (1 : Int32) = nI 1 from rfl, show (2 : Int32) = nI 2 from rfl, nI_add, nI_add, nI_add, nI_add, nI_add, item_eq hs hz (by omega) c1, item_eq hs hz (by omega) c1, item_eq hs hz (by omega) c1]
      simp only [Option.bind_some]
      rw [if_neg (show ¬ ob (nI (40 * s + x + 3 * i)) 160 by rw [ob_iff (by decide), tiI (by omega)]; omega), if_neg (show ¬ ob (nI (40 * s + x + 3 * i + 1)) 160 by rw [ob_iff (by decide), tiI (by omega)]; omega), if_neg (show ¬ ob (nI (40 * s + x + 3 * i + 2)) 160 by rw [ob_iff (by decide), tiI (by omega)]; omega), tnI (by omega), tnI (by omega), tnI (by omega)]
      rw [show 40 * s + x + 3 * i = 40 * s + (x + 3 * i) by omega, show 40 * s + (x + 3 * i) + 1 = 40 * s + (x + 3 * i + 1) by omega, show 40 * s + (x + 3 * i) + 2 = 40 * s + (x + 3 * i + 2) by omega, ← c3 _ (by omega), ← c3 _ (by omega), ← c3 _ (by omega)]
      obtain ⟨v, σ1, μ1, n', g1, g2, g3, g4, g5⟩ := guest_both hR (σ.1 (39 + 2 * s) (x + 3 * i)) (σ.1 (39 + 2 * s) (x + 3 * i + 1)) (σ.1 (39 + 2 * s) (x + 3 * i + 2))
      rw [g1, g2]
      simp only [Option.bind_some]
      unfold X10_guests_b158
      have step := fun r' => ih (i + 1) F' F2' n' r' σ1 μ1 g3 (by rw [g4 _ _ (by omega)]; exact c1) (by rw [g5 _ _ (by omega)]; exact c2) (fun c hc => by rw [g4 _ _ (by omega), g5 _ _ (by omega)]; exact c3 c hc) (by omega) (by omega) (by omega)
      by_cases cv : v < 0
      · rw [if_pos cv, if_pos cv, nI_1, show r + 0 = r from Int32.add_zero r]
        exact step r
      · rw [if_neg cv, if_neg cv, nI_1]
        exact step (r + nI 1)
    · have hno : ¬ (0 ≤ (nI x + nI (3 * i)).toInt ∧ 0 ≤ (3 : Int32).toInt ∧ (nI x + nI (3 * i)).toInt + (3 : Int32).toInt ≤ (z : Int)) := by
        rw [nI_add, show (3 : Int32).toInt = 3 by decide]
        by_cases c5 : x + 3 * i < 2 ^ 31
        · rw [tiI c5]
          omega
        · rw [nI_wrap (by omega) (by omega)]
          omega
      rw [if_neg hno, if_pos rfl, if_neg (show ¬ nI x ≤ nI z - nI (3 * i) - 3 by rw [Int32.le_iff_toInt_le, hsub, tiI hx]; omega)]
      exact ⟨-12, σ, μ, rfl, rfl, n, t, k, ev, hR⟩
theorem isSort_eq (o : Int32) : X6_isSort o = some (if 0 ≤ o.toInt ∧ o.toInt ≤ 2 then 1 else 0) := by
  unfold X6_isSort
  simp only [Int32.lt_iff_toInt_lt, t0, show (2 : Int32).toInt = 2 by decide]
  by_cases c : o.toInt < 0
  · rw [if_pos c, if_neg (by omega)]
  · rw [if_neg c]
    by_cases c2 : 2 < o.toInt
    · rw [if_pos c2, if_neg (by omega)]
    · rw [if_neg c2, if_pos (by omega)]
theorem sim_guests : Sim_guests Rel := by
  intro a o x m σ μ ⟨n, t, k, ev, hR⟩
  have hRel : Rel σ μ := ⟨n, t, k, ev, hR⟩
  have ne1 : ¬ (1 : Int32) = 0 := by decide
  by_cases c0 : 0 ≤ a.toInt ∧ a.toInt < 4
  · rcases i_cases a with h | ⟨s, hs, rfl⟩
    · omega
    rw [tiI hs] at c0
    have s4 : s < 4 := by omega
    have hob : ¬ ob (nI s) 4 := by rw [ob_iff (by decide), tiI (by omega)]; omega
    have eX : X9_guests (nI s) o x m σ = if 0 ≤ o.toInt ∧ o.toInt ≤ 2 then (if 0 ≤ m.toInt ∧ m.toInt ≤ 5 then ((X6_isMissing (38 + 2 * s) σ).bind (fun x35 => if x35 = 0 then (if σ.1 (38 + 2 * s) 1 = o then (X9_guests_b62 FU x m (38 + 2 * s) 0 0 σ) else (some ((-13), σ))) else (some ((-11), σ)))) else some (-2, σ)) else some (-2, σ) := by
      unfold X9_guests
      rw [sheetOf_s s4, Option.bind_some]
      dsimp only [Option.elim]
      rw [isSort_eq, Option.bind_some]
      by_cases c1 : 0 ≤ o.toInt ∧ o.toInt ≤ 2
      · rw [if_pos c1, if_pos c1, if_neg ne1]
        by_cases c2 : 0 ≤ m.toInt ∧ m.toInt ≤ 5
        · rw [if_pos c2, if_neg (show ¬ m < 0 by rw [Int32.lt_iff_toInt_lt, t0]; omega), if_pos (show m ≤ 5 by rw [Int32.le_iff_toInt_le, show (5 : Int32).toInt = 5 by decide]; omega), if_pos (oS s4)]
        · rw [if_neg c2]
          by_cases c3 : m < 0
          · rw [if_pos c3]
          · rw [Int32.lt_iff_toInt_lt, t0] at c3
            rw [if_neg (show ¬ m < 0 by rw [Int32.lt_iff_toInt_lt, t0]; omega), if_neg (show ¬ m ≤ 5 by rw [Int32.le_iff_toInt_le, show (5 : Int32).toInt = 5 by decide]; omega)]
      · rw [if_neg c1, if_neg c1, if_pos rfl]
    have eM : X10_guests (nI s) o x m μ = if 0 ≤ o.toInt ∧ o.toInt ≤ 2 then (if 0 ≤ m.toInt ∧ m.toInt ≤ 5 then (if μ.1 15 s = 0 then some (-11, μ) else if μ.1 16 s = o then X10_guests_b75 FU (nI s) x m 0 0 μ else some (-13, μ)) else some (-2, μ)) else some (-2, μ) := by
      unfold X10_guests
      rw [isSheet_eq, Option.bind_some, tiI hs, if_pos (show (0 : Int) ≤ ((s : Nat) : Int) ∧ ((s : Nat) : Int) < 4 by omega), if_neg ne1, in_i, in_i, Option.bind_some, Option.bind_some, show (0 : Int64).toInt = 0 by decide, show (2 : Int64).toInt = 2 by decide, show (5 : Int64).toInt = 5 by decide]
      unfold X10_guests_b57
      simp only [if_neg hob, tnI hs]
      by_cases c1 : 0 ≤ o.toInt ∧ o.toInt ≤ 2
      · rw [if_pos c1, if_pos c1, if_neg ne1]
        by_cases c2 : 0 ≤ m.toInt ∧ m.toInt ≤ 5
        · rw [if_pos c2, if_pos c2, if_neg ne1]
          by_cases c3 : μ.1 15 s = 0
          · rw [if_pos c3, if_pos c3, if_pos c3]
          · rw [if_neg c3, if_neg c3, if_neg c3]
        · rw [if_neg c2, if_neg c2, if_pos rfl]
      · rw [if_neg c1, if_neg c1, if_pos rfl]
    rw [eX, eM]
    clear eX eM
    by_cases c1 : 0 ≤ o.toInt ∧ o.toInt ≤ 2
    · rw [if_pos c1, if_pos c1]
      by_cases c2 : 0 ≤ m.toInt ∧ m.toInt ≤ 5
      · rw [if_pos c2, if_pos c2]
        rcases hR.2.2.2.2.2.2 s s4 with ⟨q1, q2⟩ | ⟨z, p, q1, q2, q3, q4, q5, q6, q7, q8⟩
        · rw [miss_yes s4 q1, q2, if_pos rfl]
          exact ⟨-11, σ, μ, rfl, rfl, hRel⟩
        rw [miss_no s4 q2 q3, q4, if_neg ne1, Option.bind_some, if_pos rfl, q3, q5]
        by_cases c3 : nI p = o
        · rw [if_pos c3, if_pos c3]
          rcases i_cases m with h | ⟨m, hm, rfl⟩
          · omega
          rw [tiI hm] at c2
          rcases i_cases x with h | ⟨x, hx, rfl⟩
          · rw [FU_eq, X9_guests_b62, X10_guests_b75]
            by_cases c4 : nI m ≤ 0
            · rw [if_pos c4, if_pos c4]
              exact ⟨0, σ, μ, rfl, rfl, hRel⟩
            · rw [if_neg c4, if_neg c4, if_pos (oS s4), show (3 : Int32) * 0 = 0 from rfl, show x + 0 = x from Int32.add_zero x, spans_eq s4 q1 q6, if_neg (show ¬ (0 ≤ x.toInt ∧ 0 ≤ (3 : Int32).toInt ∧ x.toInt + (3 : Int32).toInt ≤ (z : Int)) by omega), if_pos (show x < 0 by rw [Int32.lt_iff_toInt_lt]; exact h)]
              exact ⟨-12, σ, μ, rfl, rfl, hRel⟩
          · exact guests_loop s4 q1 hx (by omega) m 0 FU FU n 0 σ μ hR q6 q7 q8 (by omega) (by rw [FU_eq]; omega) (by rw [FU_eq]; omega)
        · rw [if_neg c3, if_neg c3]
          exact ⟨-13, σ, μ, rfl, rfl, hRel⟩
      · rw [if_neg c2, if_neg c2]
        exact ⟨-2, σ, μ, rfl, rfl, hRel⟩
    · rw [if_neg c1, if_neg c1]
      exact ⟨-2, σ, μ, rfl, rfl, hRel⟩
  · refine ⟨-2, σ, μ, ?_, ?_, hRel⟩
    · unfold X9_guests
      rw [sheetOf_no c0]
      rfl
    · unfold X10_guests
      rw [isSheet_eq, if_neg c0]
      rfl
