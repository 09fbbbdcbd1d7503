/-! THE PURE PART: nothing of the machine below. Names and ranges -/
theorem up_get {σ : St} {k j : Nat} {v : Int32} {a b : Nat} : (up σ k j v).1 a b = if a = k ∧ b = j then v else σ.1 a b := rfl
theorem up_2 {σ : St} {k j : Nat} {v : Int32} : (up σ k j v).2 = σ.2 := rfl
theorem upL_get {σ : St} {w : Int64} {a b : Nat} : (upL σ w).1 a b = σ.1 a b := rfl
theorem upL_2 {σ : St} {w : Int64} : (upL σ w).2 = w := rfl
theorem upA_get {σ : St} {k : Nat} {f : Nat → Int32} {a b : Nat} : (upA σ k f).1 a b = if a = k then f b else σ.1 a b := rfl
theorem upA_2 {σ : St} {k : Nat} {f : Nat → Int32} : (upA σ k f).2 = σ.2 := rfl
theorem tn0 : (0 : Int32).toNatClampNeg = 0 := by decide
theorem tn1 : (1 : Int32).toNatClampNeg = 1 := by decide
theorem tn2 : (2 : Int32).toNatClampNeg = 2 := by decide
theorem tn5 : (5 : Int32).toNatClampNeg = 5 := by decide
theorem tnI {n : Nat} (h : n < 2 ^ 31) : (nI n).toNatClampNeg = n := nI_clamp h
theorem tiI {n : Nat} (h : n < 2 ^ 31) : (nI n).toInt = n := nI_toInt h
/-- an int is below 0 or a number -/
theorem i_cases (x : Int32) : x.toInt < 0 ∨ ∃ j : Nat, j < 2 ^ 31 ∧ x = nI j := by
  by_cases h : x < 0
  · exact Or.inl (by simpa [Int32.lt_iff_toInt_lt] using h)
  · exact Or.inr (nI_of h)
theorem ob_iff {x : Int32} {n : Nat} (hn : n < 2 ^ 31) : ob x n ↔ ¬ (0 ≤ x.toInt ∧ x.toInt < n) := by
  rcases i_cases x with h | ⟨j, hj, rfl⟩
  · refine ⟨fun _ => by omega, fun _ => Or.inl (by rw [Int32.lt_iff_toInt_lt]; exact h)⟩
  · rw [tiI hj]
    unfold ob
    rw [tnI hj]
    have h0 : ¬ nI j < 0 := nI_pos hj
    refine ⟨fun h => ?_, fun h => Or.inr (by omega)⟩
    rcases h with h | h
    · exact absurd h h0
    · omega
theorem tc_of {x : Int32} (h : 0 ≤ x.toInt) : x.toNatClampNeg = x.toInt.toNat := by
  rcases i_cases x with h1 | ⟨j, hj, rfl⟩
  · omega
  · rw [tnI hj, tiI hj]
    rfl
def rng (lo hi : Int) (x : Int32) : Prop := lo ≤ x.toInt ∧ x.toInt ≤ hi
theorem lg_lt (x y : Int64) : lg_cmp x y < 0 ↔ x.toInt < y.toInt := by
  unfold lg_cmp
  simp only [gt_iff_lt, Int64.lt_iff_toInt_lt]
  by_cases h1 : y.toInt < x.toInt
  · rw [if_pos h1]
    exact ⟨fun h => absurd h (by decide), fun h => by omega⟩
  · rw [if_neg h1]
    by_cases h3 : x = y
    · rw [if_pos h3, h3]
      exact ⟨fun h => absurd h (by decide), fun h => by omega⟩
    · have h4 : x.toInt ≠ y.toInt := fun h => h3 (Int64.toInt_inj.mp h)
      rw [if_neg h3]
      exact ⟨fun h => by omega, fun h => by decide⟩
theorem lg_gt (x y : Int64) : 0 < lg_cmp x y ↔ y.toInt < x.toInt := by
  unfold lg_cmp
  simp only [gt_iff_lt, Int64.lt_iff_toInt_lt]
  by_cases h1 : y.toInt < x.toInt
  · rw [if_pos h1]
    exact ⟨fun h => h1, fun h => by decide⟩
  · rw [if_neg h1]
    by_cases h3 : x = y
    · rw [if_pos h3]
      exact ⟨fun h => absurd h (by decide), fun h => by omega⟩
    · rw [if_neg h3]
      exact ⟨fun h => absurd h (by decide), fun h => by omega⟩
theorem in_eq (a b c : Int64) : X10_in a b c = some (if b.toInt ≤ a.toInt ∧ a.toInt ≤ c.toInt then 1 else 0) := by
  unfold X10_in
  by_cases h1 : a.toInt < b.toInt
  · rw [if_pos ((lg_lt a b).mpr h1), if_neg (by omega)]
  · rw [if_neg (fun h => h1 ((lg_lt a b).mp h))]
    by_cases h2 : c.toInt < a.toInt
    · rw [if_pos ((lg_gt a c).mpr h2), if_neg (by omega)]
    · rw [if_neg (fun h => h2 ((lg_gt a c).mp h)), if_pos (by omega)]
theorem in_i (a : Int32) (b c : Int64) : X10_in a.toInt64 b c = some (if b.toInt ≤ a.toInt ∧ a.toInt ≤ c.toInt then 1 else 0) := by
  rw [in_eq, Int32.toInt_toInt64]
theorem nI_sub1 (n : Nat) (h : n < 2 ^ 30) : (nI n - 1).toInt = (n : Int) - 1 := by
  have h1 : (1 : Int32) = nI 1 := rfl
  rw [h1, pk_sub_toInt h (by decide)]
  rfl
theorem isOne_eq {μ : St} {n : Nat} (hn : n ≤ 5) (h : μ.1 0 11 = nI n) (g : Int32) : X10_isOne g μ = some (if 0 ≤ g.toInt ∧ g.toInt < n then 1 else 0) := by
  unfold X10_isOne
  rw [in_i, Option.bind_some, h, Int32.toInt_toInt64, nI_sub1 n (by omega)]
  have e : ((0 : Int64).toInt ≤ g.toInt ∧ g.toInt ≤ (n : Int) - 1) ↔ (0 ≤ g.toInt ∧ g.toInt < n) := by
    have : (0 : Int64).toInt = 0 := by decide
    rw [this]
    omega
  by_cases h9 : 0 ≤ g.toInt ∧ g.toInt < n
  · rw [if_pos h9, if_pos (e.mpr h9)]
    rfl
  · rw [if_neg h9, if_neg (fun z => h9 (e.mp z))]
    rfl
theorem oX1 : isO shX 1 5 10 := oX_1
theorem has_eq {σ : St} {n : Nat} (hn : n ≤ 5) (h : σ.1 1 5 = nI n) (g : Int32) : X5_has 1 g σ = some (if 0 ≤ g.toInt ∧ g.toInt < n then 1 else 0) := by
  unfold X5_has
  rw [if_pos oX1, h]
  simp only [Int32.lt_iff_toInt_lt, Int32.le_iff_toInt_le, tiI (show n < 2 ^ 31 by omega)]
  have e0 : (0 : Int32).toInt = 0 := by decide
  have e5 : (5 : Int32).toInt = 5 := by decide
  rw [e0, e5]
  by_cases h1 : g.toInt < 0
  · rw [if_pos h1, if_neg (by omega)]
  · rw [if_neg h1]
    by_cases h2 : (n : Int) ≤ g.toInt
    · rw [if_pos h2, if_neg (by omega)]
    · rw [if_neg h2, if_neg (by omega), if_pos (by omega)]
