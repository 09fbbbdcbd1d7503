/-- the order that a row of items says, if it says one -/
def runO (n : Nat) (x : Nat → Int32) : Nat → Nat → List Nat → Option (List Nat)
  | 0, _, pre => some pre
  | d + 1, i, pre => if 0 ≤ (x i).toInt ∧ (x i).toInt < n ∧ (x i).toInt.toNat ∉ pre then runO n x d (i + 1) ((x i).toInt.toNat :: pre) else none
theorem runO_len {n : Nat} {x : Nat → Int32} : ∀ (d i : Nat) (pre pre' : List Nat), runO n x d i pre = some pre' → pre'.length = pre.length + d := by
  intro d
  induction d with
  | zero => intro i pre pre' h; have := Option.some.inj h; subst this; rfl
  | succ d ih =>
    intro i pre pre' h
    unfold runO at h
    split at h
    · have := ih _ _ _ h
      simp only [List.length_cons] at this
      omega
    · cases h
theorem runO_ok {e : Evg} {x : Nat → Int32} : ∀ (d i : Nat) (pre pre' : List Nat), OkP e pre → runO e.n x d i pre = some pre' → OkP e pre' := by
  intro d
  induction d with
  | zero => intro i pre pre' ho h; have := Option.some.inj h; subst this; exact ho
  | succ d ih =>
    intro i pre pre' ho h
    unfold runO at h
    split at h
    · rename_i c
      exact ih _ _ _ ⟨List.nodup_cons.mpr ⟨c.2.2, ho.1⟩, fun y hy => by
        rcases List.mem_cons.mp hy with rfl | hy
        · omega
        · exact ho.2 y hy⟩ h
    · cases h
theorem comeUp_come {e : Evg} {pre : List Nat} {σ : St} (ho : EnvOk e) (h : HoldX e pre σ) {g : Nat} (hg : g < e.n) (hp : g ∈ pre) : X1_comeUp (nI g) σ = some (0, σ) := by
  have hn := ho.1
  unfold X1_comeUp
  rw [has_eq hn h.1.1, Option.bind_some, tiI (by omega), if_pos (show (0 : Int) ≤ ((g : Nat) : Int) ∧ ((g : Nat) : Int) < (e.n : Int) by omega), if_neg (show ¬ (1 : Int32) = 0 by decide), hasCome_eq hn h hg, Option.bind_some, if_pos hp, if_neg (show ¬ (1 : Int32) = 0 by decide)]
theorem nI_of_toInt {v : Int32} (h : 0 ≤ v.toInt) : v = nI v.toInt.toNat ∧ v.toInt.toNat < 2 ^ 31 := by
  rcases i_cases v with q | ⟨j, hj, rfl⟩
  · omega
  · rw [tiI hj]
    exact ⟨rfl, hj⟩
theorem comeBy6 {e : Evg} (ho : EnvOk e) {s z : Nat} (hs : s < 4) (hz : z ≤ 40) {x : Nat → Int32} : ∀ (d i F : Nat) (pre : List Nat) (σ : St), HoldX e pre σ → σ.1 (38 + 2 * s) 2 = nI z → (∀ c, c < z → σ.1 (39 + 2 * s) c = x c) → i + d = z → d < F → match runO e.n x d i pre with
    | some pre' => ∃ σ', X1_comeBy_b6 F (38 + 2 * s) (nI i) σ = some (1, σ') ∧ HoldX e pre' σ' ∧ EXu σ σ'
    | none => ∃ σ', X1_comeBy_b6 F (38 + 2 * s) (nI i) σ = some (0, σ') ∧ EXu σ σ' := by
  intro d
  induction d with
  | zero =>
    intro i F pre σ h h2 hx hi hF
    obtain ⟨F', rfl⟩ : ∃ F', F = F' + 1 := ⟨F - 1, by omega⟩
    refine ⟨σ, ?_, h, EXu.refl σ⟩
    rw [X1_comeBy_b6, if_pos (oS hs), h2, if_pos (show nI z ≤ nI i by rw [nI_leI (by omega) (by omega)]; omega)]
  | succ d ih =>
    intro i F pre σ h h2 hx hi hF
    obtain ⟨F', rfl⟩ : ∃ F', F = F' + 1 := ⟨F - 1, by omega⟩
    rw [X1_comeBy_b6, if_pos (oS hs), h2, if_neg (show ¬ nI z ≤ nI i by rw [nI_leI (by omega) (by omega)]; omega), item_eq hs hz (by omega) h2, hx i (by omega), Option.bind_some]
    unfold runO
    by_cases c : 0 ≤ (x i).toInt ∧ (x i).toInt < e.n ∧ (x i).toInt.toNat ∉ pre
    · rw [if_pos c]
      obtain ⟨q1, q2⟩ := nI_of_toInt c.1
      obtain ⟨σ1, a1, a2, a3⟩ := comeUp_yes ho h (g := (x i).toInt.toNat) (by omega) c.2.2
      rw [← q1] at a1
      rw [a1, Option.bind_some, if_neg (show ¬ (1 : Int32) = 0 by decide), nI_1]
      have go := ih (i + 1) F' _ σ1 a2 ((a3 _ _ (by omega) (by omega)).trans h2) (fun c hc => (a3 _ _ (by omega) (by omega)).trans (hx c hc)) (by omega) (by omega)
      revert go
      cases runO e.n x d (i + 1) ((x i).toInt.toNat :: pre) with
      | none => exact fun ⟨σ', b1', b2⟩ => ⟨σ', b1', a3.trans b2⟩
      | some pre' => exact fun ⟨σ', b1', b2, b3⟩ => ⟨σ', b1', b2, a3.trans b3⟩
    · rw [if_neg c]
      refine ⟨σ, ?_, EXu.refl σ⟩
      have e0 : X1_comeUp (x i) σ = some (0, σ) := by
        by_cases c2 : 0 ≤ (x i).toInt ∧ (x i).toInt < e.n
        · obtain ⟨q1, q2⟩ := nI_of_toInt c2.1
          have q3 := comeUp_come ho h (g := (x i).toInt.toNat) (by omega) (Decidable.byContradiction fun q => c ⟨c2.1, c2.2, q⟩)
          rw [← q1] at q3
          exact q3
        · exact comeUp_no ho.1 h.1.1 c2
      rw [e0, Option.bind_some, if_pos rfl]
theorem order19 {n s z : Nat} (hn : n ≤ 5) (hs : s < 4) (hz : z ≤ 40) {x : Nat → Int32} {μ : St} (h11 : μ.1 0 11 = nI n) (h17 : μ.1 17 s = nI z) (hx : ∀ c, c < z → μ.1 18 (40 * s + c) = x c) : ∀ (d i F : Nat) (pre : List Nat) (M : Nat), M < 32 → (∀ g, g < 5 → M.testBit g = decide (g ∈ pre)) → i + d = z → d < F → X10_isOrder_b19 F (nI s) (nI M) (nI i) μ = some (if (runO n x d i pre).isSome then 1 else 0) := by
  have hob : ¬ ob (nI s) 4 := by rw [ob_iff (by decide), tiI (by omega)]; omega
  intro d
  induction d with
  | zero =>
    intro i F pre M hM hb hi hF
    obtain ⟨F', rfl⟩ : ∃ F', F = F' + 1 := ⟨F - 1, by omega⟩
    rw [X10_isOrder_b19, if_neg hob, tnI (by omega), h17, if_pos (show nI z ≤ nI i by rw [nI_leI (by omega) (by omega)]; omega)]
    rfl
  | succ d ih =>
    intro i F pre M hM hb hi hF
    obtain ⟨F', rfl⟩ : ∃ F', F = F' + 1 := ⟨F - 1, by omega⟩
    rw [X10_isOrder_b19, if_neg hob, tnI (by omega), h17, if_neg (show ¬ nI z ≤ nI i by rw [nI_leI (by omega) (by omega)]; omega), ix40, if_neg (show ¬ ob (nI (40 * s + i)) 160 by rw [ob_iff (by decide), tiI (by omega)]; omega), tnI (by omega), hx i (by omega), isOne_eq hn h11, Option.bind_some]
    unfold runO
    by_cases c2 : 0 ≤ (x i).toInt ∧ (x i).toInt < n
    · obtain ⟨q1, q2⟩ := nI_of_toInt c2.1
      have g5 : (x i).toInt.toNat < 5 := by omega
      rw [if_pos c2, if_neg (show ¬ (1 : Int32) = 0 by decide)]
      have br := bit_read M hM _ g5
      obtain ⟨s1, s2, s3⟩ := bit_set M hM _ g5
      rw [← q1] at br s1
      rw [hb _ g5] at br
      by_cases c3 : (x i).toInt.toNat ∈ pre
      · have b1' : (nI M >>> (x i &&& 31)) &&& 1 = 1 := by
          have hne : ¬ (nI M >>> (x i &&& 31)) &&& 1 = 0 := fun q => by have := br.mp q; rw [decide_eq_true c3] at this; cases this
          obtain ⟨j, hj, ej⟩ := pk_andE (nI M >>> (x i &&& 31)) (m := 1) 1 (by decide)
          rw [ej] at hne ⊢
          rcases (show j = 0 ∨ j = 1 by omega) with rfl | rfl
          · exact absurd rfl hne
          · rfl
        rw [if_pos b1', if_neg (show ¬ (0 ≤ (x i).toInt ∧ (x i).toInt < n ∧ (x i).toInt.toNat ∉ pre) from fun q => q.2.2 c3)]
        rfl
      · have b0 : (nI M >>> (x i &&& 31)) &&& 1 = 0 := br.mpr (decide_eq_false c3)
        rw [b0, if_neg (show ¬ (0 : Int32) = 1 by decide), s1, nI_1, if_pos (show 0 ≤ (x i).toInt ∧ (x i).toInt < n ∧ (x i).toInt.toNat ∉ pre from ⟨c2.1, c2.2, c3⟩)]
        exact ih (i + 1) F' _ _ s2 (fun g hg => by rw [s3 g hg, hb g hg]; exact (Bool.decide_or _ _).symm.trans (decide_eq_decide.mpr List.mem_cons.symm)) (by omega) (by omega)
    · rw [if_neg c2, if_pos rfl, if_neg (show ¬ (0 ≤ (x i).toInt ∧ (x i).toInt < n ∧ (x i).toInt.toNat ∉ pre) from fun q => c2 ⟨q.1, q.2.1⟩)]
      rfl
theorem goes6 {e : Evg} (ho : EnvOk e) {s z : Nat} (hs : s < 4) (hz : z ≤ 40) {x : Nat → Int32} : ∀ (d i F : Nat) (pre pre' : List Nat) (μ : St), HoldM e pre μ → pre.length = i → μ.1 17 s = nI z → (∀ c, c < z → μ.1 18 (40 * s + c) = x c) → i + d = z → d < F → runO e.n x d i pre = some pre' → ∃ μ', X10_goes_b6 F (nI s) (nI i) μ = some μ' ∧ HoldM e pre' μ' ∧ EMu μ μ' := by
  have hob : ¬ ob (nI s) 4 := by rw [ob_iff (by decide), tiI (by omega)]; omega
  intro d
  induction d with
  | zero =>
    intro i F pre pre' μ h hp h17 hx hi hF hr
    obtain ⟨F', rfl⟩ : ∃ F', F = F' + 1 := ⟨F - 1, by omega⟩
    have := Option.some.inj hr
    subst this
    refine ⟨μ, ?_, h, EMu.refl μ⟩
    rw [X10_goes_b6, if_neg hob, tnI (by omega), h17, if_pos (show nI z ≤ nI i by rw [nI_leI (by omega) (by omega)]; omega)]
  | succ d ih =>
    intro i F pre pre' μ h hp h17 hx hi hF hr
    obtain ⟨F', rfl⟩ : ∃ F', F = F' + 1 := ⟨F - 1, by omega⟩
    unfold runO at hr
    split at hr
    · rename_i c
      obtain ⟨q1, q2⟩ := nI_of_toInt c.1
      obtain ⟨μ1, a1, a2, a3⟩ := comes_eq ho h (g := (x i).toInt.toNat) (by omega) c.2.2
      rw [← q1, hp] at a1
      rw [X10_goes_b6, if_neg hob, tnI (by omega), h17, if_neg (show ¬ nI z ≤ nI i by rw [nI_leI (by omega) (by omega)]; omega), ix40, if_neg (show ¬ ob (nI (40 * s + i)) 160 by rw [ob_iff (by decide), tiI (by omega)]; omega), tnI (by omega), hx i (by omega), a1, Option.bind_some, nI_1]
      obtain ⟨μ', b1', b2, b3⟩ := ih (i + 1) F' _ pre' μ1 a2 (by rw [List.length_cons, hp]) ((a3 _ _ (by omega) (by omega)).trans h17) (fun c hc => (a3 _ _ (by omega) (by omega)).trans (hx c hc)) (by omega) (by omega) hr
      exact ⟨μ', b1', b2, a3.trans b3⟩
    · cases hr
