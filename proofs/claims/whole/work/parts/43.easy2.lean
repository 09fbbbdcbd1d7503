theorem FU_eq : FU = 4096 := rfl
/-- the guests' numbers as ints: n is below what a short loop's counter reaches -/
theorem nle {i n : Nat} (hi : i < 2 ^ 31) (hn : n < 2 ^ 31) : nI n ≤ nI i ↔ n ≤ i := nI_leI hn hi
theorem i3k {g n : Nat} (hn : n ≤ 5) (hg : g < n) : (3 : Int32) * nI g = nI (3 * g) := pk_mul 3 g
theorem count0 {μ : St} {n : Nat} (hn : n ≤ 5) (h : μ.1 0 11 = nI n) : ∀ (d i F : Nat), i + d = n → d < F → X10_count_b79 F 0 (nI i) (nI i) μ = some (nI n) := by
  intro d
  induction d with
  | zero =>
    intro i F hi hF
    obtain ⟨F', rfl⟩ : ∃ F', F = F' + 1 := ⟨F - 1, by omega⟩
    rw [X10_count_b79, h, if_pos (show nI n ≤ nI i by rw [nle (by omega) (by omega)]; omega)]
    rw [show i = n by omega]
  | succ d ih =>
    intro i F hi hF
    obtain ⟨F', rfl⟩ : ∃ F', F = F' + 1 := ⟨F - 1, by omega⟩
    rw [X10_count_b79, h, if_neg (show ¬ nI n ≤ nI i by rw [nle (by omega) (by omega)]; omega), if_pos rfl]
    unfold X10_count_b111
    rw [nI_1]
    exact ih (i + 1) F' (by omega) (by omega)
theorem b01 {x : Int32} (h : rng 0 1 x) : x = 0 ∨ x = 1 := by
  obtain ⟨h1, h2⟩ := h
  rcases (show x.toInt = 0 ∨ x.toInt = 1 by omega) with h | h
  · exact Or.inl (Int32.toInt_inj.mp (h.trans (by decide)))
  · exact Or.inr (Int32.toInt_inj.mp (h.trans (by decide)))
theorem count1 {σ μ : St} {n : Nat} (hn : n ≤ 5) (hσ : σ.1 1 5 = nI n) (h : μ.1 0 11 = nI n) (hg : RGst n σ μ) : ∀ (d i F F2 : Nat) (a : Int32), i + d = n → d < F → d < F2 → ∃ r, X5_likedGuests_b4 F 1 a (nI i) σ = some r ∧ X10_count_b79 F2 1 a (nI i) μ = some r := by
  intro d
  induction d with
  | zero =>
    intro i F F2 a hi hF hF2
    obtain ⟨F', rfl⟩ : ∃ F', F = F' + 1 := ⟨F - 1, by omega⟩
    obtain ⟨F2', rfl⟩ : ∃ F', F2 = F' + 1 := ⟨F2 - 1, by omega⟩
    rw [X10_count_b79, h, if_pos (show nI n ≤ nI i by rw [nle (by omega) (by omega)]; omega), X5_likedGuests_b4, if_pos oX1, hσ, if_pos (show nI n ≤ nI i by rw [nle (by omega) (by omega)]; omega)]
    exact ⟨a, rfl, rfl⟩
  | succ d ih =>
    intro i F F2 a hi hF hF2
    obtain ⟨F', rfl⟩ : ∃ F', F = F' + 1 := ⟨F - 1, by omega⟩
    obtain ⟨F2', rfl⟩ : ∃ F', F2 = F' + 1 := ⟨F2 - 1, by omega⟩
    have e3 : (3 : Int32) * nI i + 2 = nI (3 * i + 2) := by rw [show (3 : Int32) = nI 3 from rfl, pk_mul, show (2 : Int32) = nI 2 from rfl, nI_add]
    rw [X10_count_b79, h, if_neg (show ¬ nI n ≤ nI i by rw [nle (by omega) (by omega)]; omega), if_neg (by decide), e3, if_neg (show ¬ ob (nI (3 * i + 2)) 15 by rw [ob_iff (by decide), tiI (by omega)]; omega), tnI (by omega)]
    rw [X5_likedGuests_b4, if_pos oX1, hσ, if_neg (show ¬ nI n ≤ nI i by rw [nle (by omega) (by omega)]; omega), if_pos (by decide), if_neg (show ¬ Int32.ofNat (lnX (rfX 1 9)) ≤ nI i by rw [show Int32.ofNat (lnX (rfX 1 9)) = nI 5 from rfl, nle (by omega) (by omega)]; omega), if_neg (show ¬ ob (nI i) (lnX (rfX 1 9)) by rw [show lnX (rfX 1 9) = 5 from rfl, ob_iff (by decide), tiI (by omega)]; omega), tnI (by omega), nI_1]
    have hl := hg i (by omega)
    rw [show rfX 1 9 = 5 from rfl, ← hl.2.2.2.1]
    unfold X10_count_b111
    rw [nI_1]
    rcases b01 hl.2.2.2.2.2.2.2 with e | e
    · rw [e, if_neg (by decide)]
      exact ih (i + 1) F' F2' _ (by omega) (by omega) (by omega)
    · rw [e, if_pos rfl]
      exact ih (i + 1) F' F2' _ (by omega) (by omega) (by omega)
theorem sim_count : Sim_count Rel := by
  intro a σ μ ⟨n, t, k, ev, hR⟩
  obtain ⟨h1, h2, h3, h4, h5, h6, h7⟩ := id hR
  obtain ⟨n1, n2, n3, n4, n5, n6, n7, n8, n9, n10⟩ := id h1
  obtain ⟨v1, v2, v3, v4, v5, v6, v7, r, r1, r2, r3⟩ := id h2
  have hRel : Rel σ μ := ⟨n, t, k, ev, hR⟩
  by_cases c : 0 ≤ a.toInt ∧ a.toInt ≤ 6
  · have hm : X10_count a μ = (if a ≤ 1 then (X10_count_b79 FU a 0 0 μ) else (if a = 2 then (some (μ.1 0 8)) else (if a = 3 then (some (μ.1 4 (2 : Int32).toNatClampNeg)) else (if a = 4 then (some (μ.1 0 3)) else (if a = 5 then (some (μ.1 0 6)) else (some (μ.1 0 4))))))) := by
      unfold X10_count
      rw [in_i, Option.bind_some, show (0 : Int64).toInt = 0 by decide, show (6 : Int64).toInt = 6 by decide, if_pos c, if_neg (show ¬ (1 : Int32) = 0 by decide)]
    rw [hm]
    clear hm
    rcases i_cases a with h | ⟨j, hj, rfl⟩
    · omega
    rw [tiI hj] at c
    rcases (show j = 0 ∨ j = 1 ∨ j = 2 ∨ j = 3 ∨ j = 4 ∨ j = 5 ∨ j = 6 by omega) with rfl | rfl | rfl | rfl | rfl | rfl | rfl
    · refine ⟨nI n, ?_, ?_, hRel⟩
      · rw [← n5]
        rfl
      · exact count0 n1 n6 n 0 FU (by omega) (by rw [FU_eq]; omega)
    · obtain ⟨r, e1, e2⟩ := count1 n1 n5 n6 h3 n 0 FU FU 0 (by omega) (by rw [FU_eq]; omega) (by rw [FU_eq]; omega)
      refine ⟨r, ?_, e2, hRel⟩
      show (X5_likedGuests_b4 FU 1 0 (nI 0) σ).bind (fun x56 => some x56) = some r
      rw [e1]
      rfl
    · exact ⟨μ.1 0 8, v7 ▸ rfl, rfl, hRel⟩
    · exact ⟨μ.1 4 2, v5 ▸ rfl, rfl, hRel⟩
    · exact ⟨nI k, n9 ▸ rfl, n10 ▸ rfl, hRel⟩
    · exact ⟨nI t, n7 ▸ rfl, n8 ▸ rfl, hRel⟩
    · exact ⟨nI r, r2 ▸ rfl, r3 ▸ rfl, hRel⟩
  · have ne : ∀ z : Int32, rng 0 6 z → ¬ a = z := fun z hz h => c (by rw [h]; exact hz)
    refine ⟨-2, ?_, ?_, hRel⟩
    · unfold X9_count
      rw [if_neg (ne 0 (by unfold rng; decide)), if_neg (ne 1 (by unfold rng; decide)), if_neg (ne 2 (by unfold rng; decide)), if_neg (ne 3 (by unfold rng; decide)), if_neg (ne 4 (by unfold rng; decide)), if_neg (ne 5 (by unfold rng; decide)), if_neg (ne 6 (by unfold rng; decide))]
    · unfold X10_count
      rw [in_i, Option.bind_some, show (0 : Int64).toInt = 0 by decide, show (6 : Int64).toInt = 6 by decide, if_neg c, if_pos rfl]
theorem mayBe_eq {w lo hi : Int32} (hw : 0 ≤ w.toInt ∧ w.toInt < 7) (h0 : stv 0 w = lo) (h1 : stv 1 w = hi) (v : Int32) : X9_mayBe w v = some (if lo.toInt ≤ v.toInt ∧ v.toInt ≤ hi.toInt then 1 else 0) := by
  unfold X9_mayBe
  rw [h0, h1]
  have e7 : (7 : Int32).toInt = 7 := by decide
  simp only [Int32.lt_iff_toInt_lt, Int32.le_iff_toInt_le, t0, e7]
  rw [if_neg (by omega), if_neg (by omega), if_neg (by omega), if_neg (show ¬ ob w 7 by rw [ob_iff (by decide)]; omega)]
  by_cases c1 : v.toInt < lo.toInt
  · rw [if_pos c1, if_neg (by omega)]
  · rw [if_neg c1, if_neg (show ¬ ob w 7 by rw [ob_iff (by decide)]; omega)]
    by_cases c2 : hi.toInt < v.toInt
    · rw [if_pos c2, if_neg (by omega)]
    · rw [if_neg c2, if_pos (by omega)]
theorem under_eq {x y : Nat} (hx : x < 6) (hy : y < 6) : ∃ r : Int32, X9_isUnder (nI x) (nI y) = some r ∧ (r = 0 ∨ r = 1) ∧ ∀ (g : Int32) (μ : St), X10_taken_b33 FU g (nI y) (nI x) μ = if r = 1 then X10_taken_b51 g (nI y) (nI y) μ else some (-13) := by
  rcases (show x = 0 ∨ x = 1 ∨ x = 2 ∨ x = 3 ∨ x = 4 ∨ x = 5 by omega) with rfl | rfl | rfl | rfl | rfl | rfl <;> rcases (show y = 0 ∨ y = 1 ∨ y = 2 ∨ y = 3 ∨ y = 4 ∨ y = 5 by omega) with rfl | rfl | rfl | rfl | rfl | rfl <;> first | exact ⟨1, rfl, Or.inr rfl, fun g μ => rfl⟩ | exact ⟨0, rfl, Or.inl rfl, fun g μ => rfl⟩
theorem m6 (v : Int32) : X9_mayBe 6 v = some (if 0 ≤ v.toInt ∧ v.toInt ≤ 5 then 1 else 0) := mayBe_eq (lo := 0) (hi := 5) (by decide) (by decide) (by decide) v
theorem m3 (v : Int32) : X9_mayBe 3 v = some (if 0 ≤ v.toInt ∧ v.toInt ≤ 9 then 1 else 0) := mayBe_eq (lo := 0) (hi := 9) (by decide) (by decide) (by decide) v
theorem m4 (v : Int32) : X9_mayBe 4 v = some (if 0 ≤ v.toInt ∧ v.toInt ≤ 7 then 1 else 0) := mayBe_eq (lo := 0) (hi := 7) (by decide) (by decide) (by decide) v
/-- the value of a guest's thing -/
def rowX (w : Nat) : Nat := ([0, 0, 0, 3, 4, 5, 2] : List Nat).getD w 0
theorem value_eq {σ : St} {w j : Nat} (hw : w = 3 ∨ w = 4 ∨ w = 5 ∨ w = 6) (hj : j < 5) : X5_value 1 (nI w) (nI j) σ = some (σ.1 (rowX w) j) := by
  have hlt : ¬ nI j < 0 := nI_pos (by omega)
  have h5 : ¬ (Int32.ofNat 5) ≤ nI j := by rw [show Int32.ofNat 5 = nI 5 from rfl, nI_leI (by decide) (by omega)]; omega
  have hob : ¬ ob (nI j) 5 := by rw [ob_iff (by decide), tiI (by omega)]; omega
  rcases hw with rfl | rfl | rfl | rfl
  · show (if nI j < 0 then some (-1) else (if isA shX 3 20 then (if Int32.ofNat 5 ≤ nI j then some (-1) else (if ob (nI j) 5 then none else some (σ.1 3 (nI j).toNatClampNeg))) else none)) = some (σ.1 3 j)
    rw [if_neg hlt, if_pos (by decide), if_neg h5, if_neg hob, tnI (by omega)]
  · show (if nI j < 0 then some (-1) else (if isA shX 4 20 then (if Int32.ofNat 5 ≤ nI j then some (-1) else (if ob (nI j) 5 then none else some (σ.1 4 (nI j).toNatClampNeg))) else none)) = some (σ.1 4 j)
    rw [if_neg hlt, if_pos (by decide), if_neg h5, if_neg hob, tnI (by omega)]
  · show (if nI j < 0 then some (-1) else (if isA shX 5 20 then (if Int32.ofNat 5 ≤ nI j then some (-1) else (if ob (nI j) 5 then none else some (σ.1 5 (nI j).toNatClampNeg))) else none)) = some (σ.1 5 j)
    rw [if_neg hlt, if_pos (by decide), if_neg h5, if_neg hob, tnI (by omega)]
  · show (if nI j < 0 then some (-1) else (if isA shX 2 20 then (if Int32.ofNat 5 ≤ nI j then some (-1) else (if ob (nI j) 5 then none else some (σ.1 2 (nI j).toNatClampNeg))) else none)) = some (σ.1 2 j)
    rw [if_neg hlt, if_pos (by decide), if_neg h5, if_neg hob, tnI (by omega)]
theorem change_eq {σ : St} {w j : Nat} (v : Int32) (hw : w = 3 ∨ w = 4 ∨ w = 5 ∨ w = 6) (hj : j < 5) : X5_change 1 (nI w) (nI j) v σ = some (up σ (rowX w) j v) := by
  have hlt : ¬ nI j < 0 := nI_pos (by omega)
  have h5 : ¬ (Int32.ofNat 5) ≤ nI j := by rw [show Int32.ofNat 5 = nI 5 from rfl, nI_leI (by decide) (by omega)]; omega
  have hob : ¬ ob (nI j) 5 := by rw [ob_iff (by decide), tiI (by omega)]; omega
  rcases hw with rfl | rfl | rfl | rfl
  · show (if nI j < 0 then some σ else (if isA shX 3 20 then (if Int32.ofNat 5 ≤ nI j then some σ else (if ob (nI j) 5 then none else some (up σ 3 (nI j).toNatClampNeg v))) else none)) = some (up σ 3 j v)
    rw [if_neg hlt, if_pos (by decide), if_neg h5, if_neg hob, tnI (by omega)]
  · show (if nI j < 0 then some σ else (if isA shX 4 20 then (if Int32.ofNat 5 ≤ nI j then some σ else (if ob (nI j) 5 then none else some (up σ 4 (nI j).toNatClampNeg v))) else none)) = some (up σ 4 j v)
    rw [if_neg hlt, if_pos (by decide), if_neg h5, if_neg hob, tnI (by omega)]
  · show (if nI j < 0 then some σ else (if isA shX 5 20 then (if Int32.ofNat 5 ≤ nI j then some σ else (if ob (nI j) 5 then none else some (up σ 5 (nI j).toNatClampNeg v))) else none)) = some (up σ 5 j v)
    rw [if_neg hlt, if_pos (by decide), if_neg h5, if_neg hob, tnI (by omega)]
  · show (if nI j < 0 then some σ else (if isA shX 2 20 then (if Int32.ofNat 5 ≤ nI j then some σ else (if ob (nI j) 5 then none else some (up σ 2 (nI j).toNatClampNeg v))) else none)) = some (up σ 2 j v)
    rw [if_neg hlt, if_pos (by decide), if_neg h5, if_neg hob, tnI (by omega)]
theorem sim_taken : Sim_taken Rel := by
  intro g y σ μ ⟨n, t, k, ev, hR⟩
  obtain ⟨h1, h2, h3, h4, h5, h6, h7⟩ := id hR
  obtain ⟨n1, n2, n3, n4, n5, n6, n7, n8, n9, n10⟩ := id h1
  have hRel : Rel σ μ := ⟨n, t, k, ev, hR⟩
  unfold X9_taken X10_taken
  rw [m6, in_i, show (0 : Int64).toInt = 0 by decide, show (5 : Int64).toInt = 5 by decide, has_eq n1 n5, isOne_eq n1 n6]
  simp only [Option.bind_some]
  by_cases c1 : 0 ≤ y.toInt ∧ y.toInt ≤ 5
  · simp only [if_pos c1, if_neg (show ¬ (1 : Int32) = 0 by decide)]
    by_cases c2 : 0 ≤ g.toInt ∧ g.toInt < n
    · simp only [if_pos c2, if_neg (show ¬ (1 : Int32) = 0 by decide)]
      rcases i_cases y with h | ⟨y, hy, rfl⟩
      · omega
      rcases i_cases g with h | ⟨g, hg, rfl⟩
      · omega
      rw [tiI hy] at c1
      rw [tiI hg] at c2
      obtain ⟨e1, e2, e3, e4, q1, q2, q3, q4⟩ := h3 g (by omega)
      rcases i_cases (σ.1 2 g) with h | ⟨x, hx, ex⟩
      · unfold rng at q1; omega
      unfold rng at q1
      rw [ex, tiI hx] at q1
      obtain ⟨r, u1, u2, u3⟩ := under_eq (x := x) (y := y) (by omega) (by omega)
      rw [show (6 : Int32) = nI 6 from rfl, show (3 : Int32) = nI 3 from rfl, value_eq (Or.inr (Or.inr (Or.inr rfl))) (by omega), value_eq (Or.inl rfl) (by omega)]
      rw [show rowX 6 = 2 from rfl, show rowX 3 = 3 from rfl, ex]
      simp only [Option.bind_some]
      rw [u1, if_neg (show ¬ ob (nI g) 5 by rw [ob_iff (by decide), tiI (by omega)]; omega), tnI (by omega), ← e1, ex, u3]
      simp only [Option.bind_some]
      rcases u2 with rfl | rfl
      · exact ⟨-13, rfl, rfl, hRel⟩
      · refine ⟨σ.1 3 g, rfl, ?_, hRel⟩
        rw [if_pos rfl]
        unfold X10_taken_b51
        rw [if_pos rfl, show (3 : Int32) * nI g = nI (3 * g) from pk_mul 3 g, if_neg (show ¬ ob (nI (3 * g)) 15 by rw [ob_iff (by decide), tiI (by omega)]; omega), tnI (by omega), e2]
    · simp only [if_neg c2, if_pos]
      exact ⟨-11, rfl, rfl, hRel⟩
  · simp only [if_neg c1, if_pos]
    exact ⟨-2, rfl, rfl, hRel⟩
