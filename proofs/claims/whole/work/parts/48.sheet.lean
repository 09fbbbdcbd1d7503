def RS1 (s : Nat) (σ μ : St) : Prop := (σ.1 (38 + 2 * s) 1 = -1 ∧ μ.1 15 s = 0) ∨ ∃ z o, z ≤ 40 ∧ o ≤ 2 ∧ σ.1 (38 + 2 * s) 1 = nI o ∧ μ.1 15 s = 1 ∧ μ.1 16 s = nI o ∧ σ.1 (38 + 2 * s) 2 = nI z ∧ μ.1 17 s = nI z ∧ ∀ i, i < z → σ.1 (39 + 2 * s) i = μ.1 18 (40 * s + i)
theorem RS1.keep {s : Nat} {σ μ σ' μ' : St} (h : RS1 s σ μ) (h1 : ∀ b, σ'.1 (38 + 2 * s) b = σ.1 (38 + 2 * s) b) (h2 : ∀ b, σ'.1 (39 + 2 * s) b = σ.1 (39 + 2 * s) b) (m15 : μ'.1 15 s = μ.1 15 s) (m16 : μ'.1 16 s = μ.1 16 s) (m17 : μ'.1 17 s = μ.1 17 s) (m18 : ∀ i, i < 40 → μ'.1 18 (40 * s + i) = μ.1 18 (40 * s + i)) : RS1 s σ' μ' := by
  unfold RS1 at h ⊢
  rw [h1, h1, m15, m16, m17]
  rcases h with h | ⟨z, o, q1, q2, q3, q4, q5, q6, q7, q8⟩
  · exact Or.inl h
  · refine Or.inr ⟨z, o, q1, q2, q3, q4, q5, q6, q7, fun i hi => ?_⟩
    rw [h2, m18 i (by omega)]
    exact q8 i hi
theorem RelN.she {n t k : Nat} {ev : Nat → Nat → Nm → Int32} {σ μ σ' μ' : St} (h : RelN n t k ev σ μ) (hX : ∀ a b, a < 38 → σ'.1 a b = σ.1 a b) (hM : ∀ a b, a < 15 → μ'.1 a b = μ.1 a b) (h7' : RShe σ' μ') : RelN n t k ev σ' μ' := by
  obtain ⟨h1, h2, h3, h4, h5, h6, h7⟩ := h
  obtain ⟨n1, n2, n3, n4, n5, n6, n7, n8, n9, n10⟩ := id h1
  refine ⟨⟨n1, n2, n3, n4, by rw [hX _ _ (by decide)]; exact n5, by rw [hM _ _ (by decide)]; exact n6, by rw [hX _ _ (by decide)]; exact n7, by rw [hM _ _ (by decide)]; exact n8, by rw [hX _ _ (by decide)]; exact n9, by rw [hM _ _ (by decide)]; exact n10⟩, h2.keep (hX _ _ (by decide)) (hX _ _ (by decide)) (hX _ _ (by decide)) (hX _ _ (by decide)) (hX _ _ (by decide)) (hM _ _ (by decide)) (hM _ _ (by decide)) (hM _ _ (by decide)) (hM _ _ (by decide)) (hM _ _ (by decide)), h3.keep (fun _ _ => hX _ _ (by decide)) (fun _ _ => hX _ _ (by decide)) (fun _ _ => hX _ _ (by decide)) (fun _ _ => hX _ _ (by decide)) (fun _ _ => hM _ _ (by decide)) (fun _ _ => hM _ _ (by decide)), h4.keep (fun _ _ => hX _ _ (by decide)) (fun _ _ => hM _ _ (by decide)), h5.keep (fun t ht j => hX _ _ (by omega)) (fun _ _ => hX _ _ (by decide)) (fun _ _ => hX _ _ (by decide)) (fun _ _ => hX _ _ (by decide)) (fun _ _ _ _ => hM _ _ (by decide)) (fun _ _ => hM _ _ (by decide)), h6.keep (hX _ _ (by decide)) (fun _ => hX _ _ (by decide)) (fun _ _ => hX _ _ (by decide)) (fun _ => hX _ _ (by decide)) (fun _ => hX _ _ (by decide)) (fun _ => hX _ _ (by decide)) (fun _ => hX _ _ (by decide)) (hM _ _ (by decide)) (hM _ _ (by decide)) (hM _ _ (by decide)) (fun _ => hM _ _ (by decide)) (fun _ => hM _ _ (by decide)), h7'⟩
theorem RShe.one {s : Nat} {σ μ σ' μ' : St} (h : RShe σ μ) (hX : ∀ a b, a ≠ 38 + 2 * s → a ≠ 39 + 2 * s → σ'.1 a b = σ.1 a b) (m15 : ∀ j, j ≠ s → μ'.1 15 j = μ.1 15 j) (m16 : ∀ j, j ≠ s → μ'.1 16 j = μ.1 16 j) (m17 : ∀ j, j ≠ s → μ'.1 17 j = μ.1 17 j) (m18 : ∀ i, i < 40 * s ∨ 40 * s + 40 ≤ i → μ'.1 18 i = μ.1 18 i) (hs : RS1 s σ' μ') : RShe σ' μ' := by
  intro j hj
  by_cases e : j = s
  · subst e
    exact hs
  · exact RS1.keep (h j hj) (fun b => hX _ b (by omega) (by omega)) (fun b => hX _ b (by omega) (by omega)) (m15 j e) (m16 j e) (m17 j e) (fun i hi => m18 _ (by omega))
theorem sheetOf_no {l : Int32} {σ : St} (h : ¬ (0 ≤ l.toInt ∧ l.toInt < 4)) : X9_sheetOf l σ = some none := by
  unfold X9_sheetOf
  simp only [Int32.lt_iff_toInt_lt, Int32.le_iff_toInt_le, t0, show (4 : Int32).toInt = 4 by decide]
  by_cases c : l.toInt < 0
  · rw [if_pos c]
  · rw [if_neg c, if_pos (by omega)]
theorem sheetOf_s {s : Nat} {σ : St} (h : s < 4) : X9_sheetOf (nI s) σ = some (some (38 + 2 * s)) := by
  rcases (show s = 0 ∨ s = 1 ∨ s = 2 ∨ s = 3 by omega) with rfl | rfl | rfl | rfl <;> rfl
theorem isSheet_eq (l : Int32) : X10_isSheet l = some (if 0 ≤ l.toInt ∧ l.toInt < 4 then 1 else 0) := by
  unfold X10_isSheet
  rw [in_i, Option.bind_some, show (0 : Int64).toInt = 0 by decide, show (3 : Int64).toInt = 3 by decide]
  by_cases c : 0 ≤ l.toInt ∧ l.toInt < 4
  · rw [if_pos c, if_pos (show 0 ≤ l.toInt ∧ l.toInt ≤ 3 by omega)]
    rfl
  · rw [if_neg c, if_neg (show ¬ (0 ≤ l.toInt ∧ l.toInt ≤ 3) by omega)]
    rfl
theorem oS {s : Nat} (h : s < 4) : isO shX (38 + 2 * s) 6 3 := by
  rcases (show s = 0 ∨ s = 1 ∨ s = 2 ∨ s = 3 by omega) with rfl | rfl | rfl | rfl <;> decide
theorem rS {s : Nat} (h : s < 4) : rfX (38 + 2 * s) 0 = 39 + 2 * s := by
  rcases (show s = 0 ∨ s = 1 ∨ s = 2 ∨ s = 3 by omega) with rfl | rfl | rfl | rfl <;> rfl
theorem aS {s : Nat} (h : s < 4) : isA shX (39 + 2 * s) 20 := by
  rcases (show s = 0 ∨ s = 1 ∨ s = 2 ∨ s = 3 by omega) with rfl | rfl | rfl | rfl <;> decide
theorem lS {s : Nat} (h : s < 4) : lnX (39 + 2 * s) = 40 := by
  rcases (show s = 0 ∨ s = 1 ∨ s = 2 ∨ s = 3 by omega) with rfl | rfl | rfl | rfl <;> rfl
/-- a row of noughts -/
def zro (k : Nat) : Nat → Nat → St → St
  | 0, _, μ => μ
  | m + 1, i, μ => zro k m (i + 1) (up μ k i 0)
theorem zro_o {k a b : Nat} (h : a ≠ k) : ∀ (m i : Nat) (μ : St), (zro k m i μ).1 a b = μ.1 a b := by
  intro m
  induction m with
  | zero => intros; rfl
  | succ m ih => intro i μ; rw [zro, ih, up_lo h]
theorem zro_get {k b : Nat} : ∀ (m i : Nat) (μ : St), (zro k m i μ).1 k b = if i ≤ b ∧ b < i + m then 0 else μ.1 k b := by
  intro m
  induction m with
  | zero => intro i μ; rw [if_neg (by omega)]; rfl
  | succ m ih =>
    intro i μ
    rw [zro, ih, up_get]
    by_cases c : b = i
    · subst c
      rw [if_neg (by omega), if_pos ⟨rfl, rfl⟩, if_pos (by omega)]
    · rw [if_neg (show ¬ (k = k ∧ b = i) from fun q => c q.2)]
      by_cases c2 : i + 1 ≤ b ∧ b < i + 1 + m
      · rw [if_pos c2, if_pos (by omega)]
      · rw [if_neg c2, if_neg (by omega)]
theorem become18 {s : Nat} (hs : s < 4) : ∀ (m i F : Nat) (σ : St), i + m = 40 → m < F → X6_become_b18 F (38 + 2 * s) (nI i) σ = some (zro (39 + 2 * s) m i σ) := by
  intro m
  induction m with
  | zero =>
    intro i F σ hi hF
    obtain ⟨F', rfl⟩ : ∃ F', F = F' + 1 := ⟨F - 1, by omega⟩
    rw [show i = 40 by omega, X6_become_b18, if_pos (oS hs), rS hs, if_pos (aS hs), lS hs, if_pos (by decide)]
    rfl
  | succ m ih =>
    intro i F σ hi hF
    obtain ⟨F', rfl⟩ : ∃ F', F = F' + 1 := ⟨F - 1, by omega⟩
    rw [X6_become_b18, if_pos (oS hs), rS hs, if_pos (aS hs), lS hs, if_neg (show ¬ Int32.ofNat 40 ≤ nI i by rw [show Int32.ofNat 40 = nI 40 from rfl, nI_leI (by decide) (by omega)]; omega), if_neg (show ¬ ob (nI i) 40 by rw [ob_iff (by decide), tiI (by omega)]; omega), tnI (by omega), nI_1]
    exact ih (i + 1) F' _ (by omega) (by omega)
theorem within_z {z : Nat} (h : z ≤ 40) : X9_within (nI z) 0 40 = some (nI z) := by
  unfold X9_within
  by_cases c : z < 40
  · rw [if_pos (show nI z < 40 from nI_lt c (by decide))]
    by_cases c0 : z = 0
    · subst c0
      rfl
    · rw [if_pos (show 0 < nI z from nI_lt (a := 0) (by omega) (by omega))]
  · rw [show z = 40 by omega]
    rfl
def becS (s z : Nat) (o : Int32) (σ : St) : St := zro (39 + 2 * s) 40 0 (up (up σ (38 + 2 * s) 1 o) (38 + 2 * s) 2 (nI z))
theorem become_eq {s z : Nat} (hs : s < 4) (hz : z ≤ 40) (o : Int32) (σ : St) : X6_become (38 + 2 * s) o (nI z) σ = some (becS s z o σ) := by
  unfold X6_become
  rw [if_pos (oS hs), within_z hz, Option.bind_some, show (0 : Int32) = nI 0 from rfl, become18 hs 40 0 FU _ rfl (by rw [FU_eq]; omega)]
  rfl
theorem becS_o {s z a b : Nat} {o : Int32} {σ : St} (h1 : a ≠ 38 + 2 * s) (h2 : a ≠ 39 + 2 * s) : (becS s z o σ).1 a b = σ.1 a b := by
  unfold becS
  rw [zro_o h2, up_lo h1, up_lo h1]
theorem becS_1 {s z : Nat} {o : Int32} {σ : St} : (becS s z o σ).1 (38 + 2 * s) 1 = o := by
  unfold becS
  rw [zro_o (by omega), up_pl (by decide), up_eq]
theorem becS_2 {s z : Nat} {o : Int32} {σ : St} : (becS s z o σ).1 (38 + 2 * s) 2 = nI z := by
  unfold becS
  rw [zro_o (by omega), up_eq]
theorem becS_r {s z i : Nat} {o : Int32} {σ : St} (h : i < 40) : (becS s z o σ).1 (39 + 2 * s) i = 0 := by
  unfold becS
  rw [zro_get, if_pos (by omega)]
theorem ix40 (s i : Nat) : (40 : Int32) * nI s + nI i = nI (40 * s + i) := by
  rw [show (40 : Int32) = nI 40 from rfl, pk_mul, nI_add]
theorem sheet77 {s o z : Nat} (hs : s < 4) (ho : o ≤ 2) (hz : z ≤ 40) : ∀ (m i F : Nat) (σ : St), i + m = z → m < F → X10_sheet_b77 F (nI s) (nI o) (nI z) (nI i) σ = some (1, zro 18 m (40 * s + i) σ) := by
  intro m
  induction m with
  | zero =>
    intro i F σ hi hF
    obtain ⟨F', rfl⟩ : ∃ F', F = F' + 1 := ⟨F - 1, by omega⟩
    rw [show i = z by omega, X10_sheet_b77, if_pos (show nI z ≤ nI z by rw [nI_leI (by omega) (by omega)]; omega)]
    rfl
  | succ m ih =>
    intro i F σ hi hF
    obtain ⟨F', rfl⟩ : ∃ F', F = F' + 1 := ⟨F - 1, by omega⟩
    rw [X10_sheet_b77, if_neg (show ¬ nI z ≤ nI i by rw [nI_leI (by omega) (by omega)]; omega), if_neg (nI_pos (by omega)), ix40, if_neg (show ¬ ob (nI (40 * s + i)) 160 by rw [ob_iff (by decide), tiI (by omega)]; omega), tnI (by omega), nI_1]
    exact ih (i + 1) F' _ (by omega) (by omega)
def lsM (s z : Nat) (o : Nat) (μ : St) : St := zro 18 z (40 * s) (up (up (up μ 15 s 1) 16 s (nI o)) 17 s (nI z))
theorem sheetM_eq {s z o : Nat} (hs : s < 4) (ho : o ≤ 2) (hz : z ≤ 40) (μ : St) : X10_sheet (nI s) (nI o) (nI z) μ = some (1, lsM s z o μ) := by
  unfold X10_sheet
  rw [isSheet_eq, Option.bind_some, tiI (by omega), if_pos (show (0 : Int) ≤ ((s : Nat) : Int) ∧ ((s : Nat) : Int) < 4 by omega), if_neg (show ¬ (1 : Int32) = 0 by decide), in_i, Option.bind_some, show (-1 : Int64).toInt = -1 by decide, show (2 : Int64).toInt = 2 by decide, tiI (by omega), if_pos (show (-1 : Int) ≤ ((o : Nat) : Int) ∧ ((o : Nat) : Int) ≤ 2 by omega), if_neg (show ¬ (1 : Int32) = 0 by decide), if_neg (nI_pos (by omega)), if_pos (show nI z ≤ 40 by rw [show (40 : Int32) = nI 40 from rfl, nI_leI (by omega) (by decide)]; omega)]
  unfold X10_sheet_b34
  rw [if_neg (nI_pos (by omega)), if_pos (show (0 : Int32) ≤ nI z by rw [show (0 : Int32) = nI 0 from rfl, nI_leI (by omega) (by omega)]; omega)]
  unfold X10_sheet_b45
  rw [if_neg (nI_pos (by omega))]
  unfold X10_sheet_b59
  have hob : ¬ ob (nI s) 4 := by rw [ob_iff (by decide), tiI (by omega)]; omega
  rw [if_neg hob, if_neg hob, if_neg hob, tnI (by omega), show (0 : Int32) = nI 0 from rfl, sheet77 hs ho hz z 0 FU _ (by omega) (by rw [FU_eq]; omega)]
  rfl
def shN (s : Nat) (l3 : Int32) (μ : St) : St := up (up (up μ 15 s 0) 16 s (-1)) 17 s l3
theorem sheetM_no {s : Nat} (hs : s < 4) (l3 : Int32) (μ : St) : X10_sheet (nI s) (-1) l3 μ = some (1, shN s l3 μ) := by
  unfold X10_sheet
  rw [isSheet_eq, Option.bind_some, tiI (by omega), if_pos (show (0 : Int) ≤ ((s : Nat) : Int) ∧ ((s : Nat) : Int) < 4 by omega), if_neg (show ¬ (1 : Int32) = 0 by decide), in_i, Option.bind_some, show (-1 : Int64).toInt = -1 by decide, show (2 : Int64).toInt = 2 by decide, if_pos (show (-1 : Int) ≤ (-1 : Int32).toInt ∧ (-1 : Int32).toInt ≤ 2 by decide), if_neg (show ¬ (1 : Int32) = 0 by decide), if_pos (show (-1 : Int32) < 0 by decide)]
  unfold X10_sheet_b34
  rw [if_pos (show (-1 : Int32) < 0 by decide)]
  unfold X10_sheet_b45
  rw [if_pos (show (-1 : Int32) < 0 by decide)]
  unfold X10_sheet_b59
  have hob : ¬ ob (nI s) 4 := by rw [ob_iff (by decide), tiI (by omega)]; omega
  rw [if_neg hob, if_neg hob, if_neg hob, tnI (by omega), FU_eq, X10_sheet_b77, if_pos (show (-1 : Int32) < 0 by decide)]
  have e : ∀ v : Option (Int32 × St), (if l3 ≤ 0 then v else v) = v := fun v => by split <;> rfl
  rw [e]
  rfl
theorem zr_she {n t k : Nat} {ev : Nat → Nat → Nm → Int32} {σ μ : St} (hR : RelN n t k ev σ μ) {s z o : Nat} (hs : s < 4) (ho : o ≤ 2) (hz : z ≤ 40) : RelN n t k ev (becS s z (nI o) σ) (lsM s z o μ) := by
  have m15 : ∀ x y, x < 15 → (lsM s z o μ).1 x y = μ.1 x y := fun x y h => by
    unfold lsM
    rw [zro_o (by omega), up_lo (by omega), up_lo (by omega), up_lo (by omega)]
  have q15 : ∀ y, (lsM s z o μ).1 15 y = if y = s then 1 else μ.1 15 y := fun y => by
    unfold lsM
    rw [zro_o (by omega), up_lo (by omega), up_lo (by omega), up_get]
    by_cases c : y = s
    · rw [if_pos ⟨rfl, c⟩, if_pos c]
    · rw [if_neg (fun q => c q.2), if_neg c]
  have q16 : ∀ y, (lsM s z o μ).1 16 y = if y = s then nI o else μ.1 16 y := fun y => by
    unfold lsM
    rw [zro_o (by omega), up_lo (by omega), up_get]
    by_cases c : y = s
    · rw [if_pos ⟨rfl, c⟩, if_pos c]
    · rw [if_neg (fun q => c q.2), if_neg c, up_lo (by omega)]
  have q17 : ∀ y, (lsM s z o μ).1 17 y = if y = s then nI z else μ.1 17 y := fun y => by
    unfold lsM
    rw [zro_o (by omega), up_get]
    by_cases c : y = s
    · rw [if_pos ⟨rfl, c⟩, if_pos c]
    · rw [if_neg (fun q => c q.2), if_neg c, up_lo (by omega), up_lo (by omega)]
  have q18 : ∀ y, (lsM s z o μ).1 18 y = if 40 * s ≤ y ∧ y < 40 * s + z then 0 else μ.1 18 y := fun y => by
    unfold lsM
    rw [zro_get, up_lo (by omega), up_lo (by omega), up_lo (by omega)]
  refine hR.she (fun x y h => becS_o (by omega) (by omega)) m15 (RShe.one (s := s) hR.2.2.2.2.2.2 (fun x y h1 h2 => becS_o h1 h2) (fun j hj => by rw [q15, if_neg hj]) (fun j hj => by rw [q16, if_neg hj]) (fun j hj => by rw [q17, if_neg hj]) (fun i hi => by rw [q18, if_neg (by omega)]) (Or.inr ⟨z, o, hz, ho, becS_1, by rw [q15, if_pos rfl], by rw [q16, if_pos rfl], becS_2, by rw [q17, if_pos rfl], fun i hi => ?_⟩))
  rw [becS_r (by omega), q18, if_pos (by omega)]
theorem sim_sheet : Sim_sheet Rel := by
  intro a o z σ μ ⟨n, t, k, ev, hR⟩
  have hRel : Rel σ μ := ⟨n, t, k, ev, hR⟩
  have ne1 : ¬ (1 : Int32) = 0 := by decide
  by_cases c0 : 0 ≤ a.toInt ∧ a.toInt < 4
  · rcases i_cases a with h | ⟨s, hs, rfl⟩
    · omega
    rw [tiI hs] at c0
    have s4 : s < 4 := by omega
    by_cases c1 : o = -1
    · subst c1
      refine ⟨1, becS s 0 (-1) σ, shN s z μ, ?_, sheetM_no s4 z μ, n, t, k, ev, ?_⟩
      · unfold X9_sheet
        rw [sheetOf_s s4, Option.bind_some]
        show (if (-1 : Int32) = -1 then X9_sheet_b27 (-1) z (38 + 2 * s) σ else (X6_isSort (-1)).bind (fun x18 => if x18 = 0 then some (-2, σ) else X9_sheet_b27 (-1) z (38 + 2 * s) σ)) = _
        rw [if_pos rfl]
        unfold X9_sheet_b27
        rw [if_pos rfl, if_pos (oS s4), show (0 : Int32) = nI 0 from rfl, become_eq s4 (by omega)]
        rfl
      · have q15 : ∀ x y, (x ≠ 15 ∧ x ≠ 16 ∧ x ≠ 17 ∨ y ≠ s) → (shN s z μ).1 x y = μ.1 x y := fun x y h => by
          unfold shN
          rw [up_get, if_neg (by omega), up_get, if_neg (by omega), up_get, if_neg (by omega)]
        refine hR.she (fun x y h => becS_o (by omega) (by omega)) (fun x y h => q15 x y (by omega)) (RShe.one (s := s) hR.2.2.2.2.2.2 (fun x y h1 h2 => becS_o h1 h2) (fun j hj => q15 _ _ (Or.inr hj)) (fun j hj => q15 _ _ (Or.inr hj)) (fun j hj => q15 _ _ (Or.inr hj)) (fun i hi => q15 _ _ (by omega)) (Or.inl ⟨becS_1, ?_⟩))
        unfold shN
        rw [up_lo (by decide), up_lo (by decide), up_eq]
    · by_cases c2 : 0 ≤ o.toInt ∧ o.toInt ≤ 2
      · rcases i_cases o with h | ⟨o, ho, rfl⟩
        · omega
        rw [tiI ho] at c2
        have o2 : o ≤ 2 := by omega
        have eX : X9_sheet (nI s) (nI o) z σ = if z ≤ 40 then (if 0 ≤ z then (X6_become (38 + 2 * s) (nI o) z σ).bind (fun x61 => some (1, x61)) else some (-14, σ)) else some (-2, σ) := by
          unfold X9_sheet
          rw [sheetOf_s s4, Option.bind_some]
          show (if nI o = -1 then X9_sheet_b27 (nI o) z (38 + 2 * s) σ else (X6_isSort (nI o)).bind (fun x18 => if x18 = 0 then some (-2, σ) else X9_sheet_b27 (nI o) z (38 + 2 * s) σ)) = _
          rw [if_neg c1]
          unfold X6_isSort
          rw [if_neg (nI_pos ho), if_neg (show ¬ 2 < nI o by rw [show (2 : Int32) = nI 2 from rfl, nI_ltI (by decide) ho]; omega), Option.bind_some, if_neg ne1]
          unfold X9_sheet_b27
          rw [if_neg c1, if_pos (oS s4)]
        rw [eX]
        by_cases c3 : z ≤ 40
        · rw [if_pos c3]
          by_cases c4 : 0 ≤ z
          · rw [if_pos c4]
            rcases i_cases z with h | ⟨z, hz, rfl⟩
            · rw [Int32.le_iff_toInt_le, t0] at c4
              omega
            have z40 : z ≤ 40 := (nI_leI hz (by decide)).mp c3
            refine ⟨1, becS s z (nI o) σ, lsM s z o μ, ?_, sheetM_eq s4 o2 z40 μ, n, t, k, ev, zr_she hR s4 o2 z40⟩
            rw [become_eq s4 z40]
            rfl
          · rw [if_neg c4]
            refine ⟨-14, σ, μ, rfl, ?_, hRel⟩
            unfold X10_sheet
            rw [isSheet_eq, Option.bind_some, tiI hs, if_pos (show (0 : Int) ≤ ((s : Nat) : Int) ∧ ((s : Nat) : Int) < 4 by omega), if_neg ne1, in_i, Option.bind_some, show (-1 : Int64).toInt = -1 by decide, show (2 : Int64).toInt = 2 by decide, tiI ho, if_pos (show (-1 : Int) ≤ ((o : Nat) : Int) ∧ ((o : Nat) : Int) ≤ 2 by omega), if_neg ne1, if_neg (nI_pos ho), if_pos c3]
            unfold X10_sheet_b34
            rw [if_neg (nI_pos ho), if_neg c4]
        · rw [if_neg c3]
          refine ⟨-2, σ, μ, rfl, ?_, hRel⟩
          unfold X10_sheet
          rw [isSheet_eq, Option.bind_some, tiI hs, if_pos (show (0 : Int) ≤ ((s : Nat) : Int) ∧ ((s : Nat) : Int) < 4 by omega), if_neg ne1, in_i, Option.bind_some, show (-1 : Int64).toInt = -1 by decide, show (2 : Int64).toInt = 2 by decide, tiI ho, if_pos (show (-1 : Int) ≤ ((o : Nat) : Int) ∧ ((o : Nat) : Int) ≤ 2 by omega), if_neg ne1, if_neg (nI_pos ho), if_neg c3]
      · have c3 : ¬ (-1 ≤ o.toInt ∧ o.toInt ≤ 2) := fun h => c1 (Int32.toInt_inj.mp (by rw [show (-1 : Int32).toInt = -1 by decide]; omega))
        refine ⟨-2, σ, μ, ?_, ?_, hRel⟩
        · unfold X9_sheet
          rw [sheetOf_s s4, Option.bind_some]
          show (if o = -1 then X9_sheet_b27 o z (38 + 2 * s) σ else (X6_isSort o).bind (fun x18 => if x18 = 0 then some (-2, σ) else X9_sheet_b27 o z (38 + 2 * s) σ)) = _
          rw [if_neg c1]
          have e : X6_isSort o = some 0 := by
            unfold X6_isSort
            simp only [Int32.lt_iff_toInt_lt, t0, show (2 : Int32).toInt = 2 by decide]
            by_cases c : o.toInt < 0
            · rw [if_pos c]
            · rw [if_neg c, if_pos (by omega)]
          rw [e]
          rfl
        · unfold X10_sheet
          rw [isSheet_eq, Option.bind_some, tiI hs, if_pos (show (0 : Int) ≤ ((s : Nat) : Int) ∧ ((s : Nat) : Int) < 4 by omega), if_neg ne1, in_i, Option.bind_some, show (-1 : Int64).toInt = -1 by decide, show (2 : Int64).toInt = 2 by decide, if_neg c3, if_pos rfl]
  · refine ⟨-2, σ, μ, ?_, ?_, hRel⟩
    · unfold X9_sheet
      rw [sheetOf_no c0]
      rfl
    · unfold X10_sheet
      rw [isSheet_eq, if_neg c0]
      rfl
