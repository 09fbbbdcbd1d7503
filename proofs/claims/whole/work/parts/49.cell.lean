theorem spans_eq {s z : Nat} (hs : s < 4) (hz : z ≤ 40) {σ : St} (h : σ.1 (38 + 2 * s) 2 = nI z) (i m : Int32) : X6_spans (38 + 2 * s) i m σ = some (if 0 ≤ i.toInt ∧ 0 ≤ m.toInt ∧ i.toInt + m.toInt ≤ z then 1 else 0) := by
  unfold X6_spans
  rw [if_pos (oS hs), h]
  rcases i_cases i with hi | ⟨i, hi, rfl⟩
  · rw [if_pos (show i < 0 by rw [Int32.lt_iff_toInt_lt]; exact hi), if_neg (by omega)]
  · rw [if_neg (nI_pos hi), tiI hi]
    rcases i_cases m with hm | ⟨m, hm, rfl⟩
    · rw [if_pos (show m < 0 by rw [Int32.lt_iff_toInt_lt]; exact hm), if_neg (by omega)]
    · rw [if_neg (nI_pos hm), tiI hm]
      by_cases c : z < m
      · rw [if_pos ((nI_ltI (by omega) hm).mpr c), if_neg (by omega)]
      · rw [if_neg (fun q => c ((nI_ltI (by omega) hm).mp q)), pk_sub (by omega)]
        by_cases c2 : z - m < i
        · rw [if_pos ((nI_ltI (by omega) hi).mpr c2), if_neg (by omega)]
        · rw [if_neg (fun q => c2 ((nI_ltI (by omega) hi).mp q)), if_pos (by omega)]
theorem item_eq {s z i : Nat} (hs : s < 4) (hz : z ≤ 40) (hi : i < z) {σ : St} (h : σ.1 (38 + 2 * s) 2 = nI z) : X6_item (38 + 2 * s) (nI i) σ = some (σ.1 (39 + 2 * s) i) := by
  unfold X6_item
  rw [if_neg (nI_pos (by omega)), if_pos (oS hs), h, rS hs, if_pos (aS hs), lS hs, if_neg (show ¬ nI z ≤ nI i by rw [nI_leI (by omega) (by omega)]; omega), if_neg (show ¬ Int32.ofNat 40 ≤ nI i by rw [show Int32.ofNat 40 = nI 40 from rfl, nI_leI (by decide) (by omega)]; omega), if_neg (show ¬ ob (nI i) 40 by rw [ob_iff (by decide), tiI (by omega)]; omega), tnI (by omega)]
theorem item_no {s z : Nat} (hs : s < 4) (hz : z ≤ 40) {i : Int32} (hi : ¬ (0 ≤ i.toInt ∧ i.toInt < z)) {σ : St} (h : σ.1 (38 + 2 * s) 2 = nI z) : X6_item (38 + 2 * s) i σ = some (-1) := by
  unfold X6_item
  rcases i_cases i with hj | ⟨j, hj, rfl⟩
  · rw [if_pos (show i < 0 by rw [Int32.lt_iff_toInt_lt]; exact hj)]
  · rw [tiI hj] at hi
    rw [if_neg (nI_pos hj), if_pos (oS hs), h, if_pos (show nI z ≤ nI j by rw [nI_leI (by omega) hj]; omega)]
theorem nar_eq {α : Type} {o : Nat} (ho : o ≤ 2) (v : Int32) (x : Int32 → Option α) : (if nI o = 0 then x (Int32.toInt8 v).toInt32 else if nI o = 1 then x (Int32.toInt16 v).toInt32 else x v) = x (if o = 0 then (Int32.toInt8 v).toInt32 else if o = 1 then (Int32.toInt16 v).toInt32 else v) := by
  rcases (show o = 0 ∨ o = 1 ∨ o = 2 by omega) with rfl | rfl | rfl <;> rfl
def nar (o : Nat) (v : Int32) : Int32 := if o = 0 then (Int32.toInt8 v).toInt32 else if o = 1 then (Int32.toInt16 v).toInt32 else v
theorem put_eq {s z o i : Nat} (hs : s < 4) (hz : z ≤ 40) (ho : o ≤ 2) (hi : i < z) {σ : St} (h1 : σ.1 (38 + 2 * s) 1 = nI o) (h : σ.1 (38 + 2 * s) 2 = nI z) (v : Int32) : X6_put (38 + 2 * s) (nI i) v σ = some (up σ (39 + 2 * s) i (nar o v)) := by
  unfold X6_put
  rw [if_neg (nI_pos (by omega)), if_pos (oS hs), h, h1, rS hs, if_pos (aS hs), lS hs, if_neg (show ¬ nI z ≤ nI i by rw [nI_leI (by omega) (by omega)]; omega), if_neg (show ¬ Int32.ofNat 40 ≤ nI i by rw [show Int32.ofNat 40 = nI 40 from rfl, nI_leI (by decide) (by omega)]; omega)]
  rw [nar_eq ho v (fun w => X6_put_b52 w (nI i) (39 + 2 * s) σ)]
  unfold X6_put_b52
  rw [if_pos (aS hs), lS hs, if_neg (show ¬ ob (nI i) 40 by rw [ob_iff (by decide), tiI (by omega)]; omega), tnI (by omega)]
  rfl
/-- one item of a sheet that is there -/
theorem put_she {n t k : Nat} {ev : Nat → Nat → Nm → Int32} {σ μ : St} (hR : RelN n t k ev σ μ) {s i : Nat} (hs : s < 4) (hi : i < 40) (v : Int32) : RelN n t k ev (up σ (39 + 2 * s) i v) (up μ 18 (40 * s + i) v) := by
  have hS := hR.2.2.2.2.2.2
  refine hR.she (fun x y h => up_lo (by omega)) (fun x y h => up_lo (by omega)) (RShe.one (s := s) hS (fun x y h1 h2 => up_lo h2) (fun j hj => up_lo (by decide)) (fun j hj => up_lo (by decide)) (fun j hj => up_lo (by decide)) (fun i hi => up_pl (by omega)) ?_)
  unfold RS1
  rw [up_lo (by omega), up_lo (by omega), up_lo (by omega), up_lo (by omega), up_lo (by omega)]
  rcases hS s hs with h | ⟨z, o, q1, q2, q3, q4, q5, q6, q7, q8⟩
  · exact Or.inl h
  · refine Or.inr ⟨z, o, q1, q2, q3, q4, q5, q6, q7, fun j hj => ?_⟩
    by_cases e : j = i
    · subst e
      rw [up_eq, up_eq]
    · rw [up_pl e, up_pl (by omega)]
      exact q8 j hj
theorem miss_yes {s : Nat} (hs : s < 4) {σ : St} (h : σ.1 (38 + 2 * s) 1 = -1) : X6_isMissing (38 + 2 * s) σ = some 1 := by
  unfold X6_isMissing
  rw [if_pos (oS hs), if_pos h]
theorem nI_ne1 {o : Nat} (h : o < 2 ^ 31) : ¬ nI o = -1 := fun e => absurd (congrArg Int32.toInt e) (by rw [tiI h, show (-1 : Int32).toInt = -1 by decide]; omega)
theorem miss_no {s o : Nat} (hs : s < 4) (ho : o ≤ 2) {σ : St} (h : σ.1 (38 + 2 * s) 1 = nI o) : X6_isMissing (38 + 2 * s) σ = some 0 := by
  unfold X6_isMissing
  rw [if_pos (oS hs), h, if_neg (nI_ne1 (by omega))]
theorem sim_cell : Sim_cell Rel := by
  intro a i v σ μ ⟨n, t, k, ev, hR⟩
  have hRel : Rel σ μ := ⟨n, t, k, ev, hR⟩
  have ne1 : ¬ (1 : Int32) = 0 := by decide
  by_cases c0 : 0 ≤ a.toInt ∧ a.toInt < 4
  · rcases i_cases a with h | ⟨s, hs, rfl⟩
    · omega
    rw [tiI hs] at c0
    have s4 : s < 4 := by omega
    have hob : ¬ ob (nI s) 4 := by rw [ob_iff (by decide), tiI (by omega)]; omega
    have eX : X9_cell (nI s) i v σ = (X6_isMissing (38 + 2 * s) σ).bind (fun x17 => if x17 = 0 then ((X6_spans (38 + 2 * s) i 1 σ).bind (fun x30 => if x30 = 0 then (some ((-12), σ)) else ((X6_put (38 + 2 * s) i v σ).bind (fun x43 => some (1, x43))))) else (some ((-11), σ))) := by
      unfold X9_cell
      rw [sheetOf_s s4, Option.bind_some]
      exact if_pos (oS s4)
    have eM : X10_cell (nI s) i v μ = (if μ.1 15 s = 0 then some (-11, μ) else ((X10_in (Int32.toInt64 i) 0 (Int32.toInt64 ((μ.1 17 s) - 1))).bind (fun x34 => if x34 = 0 then (some ((-12), μ)) else (if ob (nI s) 4 then none else (if (μ.1 16 s) = 0 then (X10_cell_b83 ((Int32.toInt8 v).toInt32) ((40 * nI s) + i) μ) else (if ob (nI s) 4 then none else (if (μ.1 16 s) = 1 then (X10_cell_b83 ((Int32.toInt16 v).toInt32) ((40 * nI s) + i) μ) else (X10_cell_b83 v ((40 * nI s) + i) μ)))))))) := by
      unfold X10_cell
      rw [isSheet_eq, Option.bind_some, tiI hs, if_pos (show (0 : Int) ≤ ((s : Nat) : Int) ∧ ((s : Nat) : Int) < 4 by omega), if_neg ne1, if_neg hob, if_neg hob]
      simp only [tnI hs]
    rw [eX, eM]
    rcases hR.2.2.2.2.2.2 s s4 with ⟨q1, q2⟩ | ⟨z, o, q1, q2, q3, q4, q5, q6, q7, q8⟩
    · rw [miss_yes s4 q1, q2, if_pos rfl]
      exact ⟨-11, σ, μ, rfl, rfl, hRel⟩
    · rw [miss_no s4 q2 q3, q4, if_neg ne1, Option.bind_some, if_pos rfl, spans_eq s4 q1 q6, in_i, q7, q5, Int32.toInt_toInt64, nI_sub1 z (by omega), Option.bind_some, Option.bind_some, show (0 : Int64).toInt = 0 by decide, show (1 : Int32).toInt = 1 by decide]
      by_cases c1 : 0 ≤ i.toInt ∧ i.toInt < z
      · rcases i_cases i with h | ⟨i, hi, rfl⟩
        · omega
        rw [tiI hi] at c1 ⊢
        rw [if_pos (show (0 : Int) ≤ ((i : Nat) : Int) ∧ (0 : Int) ≤ 1 ∧ ((i : Nat) : Int) + 1 ≤ (z : Int) by omega), if_neg ne1, if_pos (show (0 : Int) ≤ ((i : Nat) : Int) ∧ ((i : Nat) : Int) ≤ (z : Int) - 1 by omega), if_neg ne1, if_neg hob, if_neg hob, put_eq s4 q1 q2 (by omega) q3 q6, ix40]
        refine ⟨1, up σ (39 + 2 * s) i (nar o v), up μ 18 (40 * s + i) (nar o v), rfl, ?_, n, t, k, ev, put_she hR s4 (by omega) _⟩
        rw [nar_eq q2 v (fun w => X10_cell_b83 w (nI (40 * s + i)) μ)]
        unfold X10_cell_b83
        rw [if_neg (show ¬ ob (nI (40 * s + i)) 160 by rw [ob_iff (by decide), tiI (by omega)]; omega), tnI (by omega)]
        rfl
      · rw [if_neg (show ¬ ((0 : Int) ≤ i.toInt ∧ (0 : Int) ≤ 1 ∧ i.toInt + 1 ≤ (z : Int)) by omega), if_pos rfl, if_neg (show ¬ ((0 : Int) ≤ i.toInt ∧ i.toInt ≤ (z : Int) - 1) by omega), if_pos rfl]
        exact ⟨-12, σ, μ, rfl, rfl, hRel⟩
  · refine ⟨-2, σ, μ, ?_, ?_, hRel⟩
    · unfold X9_cell
      rw [sheetOf_no c0]
      rfl
    · unfold X10_cell
      rw [isSheet_eq, if_neg c0]
      rfl
