theorem nmX_eq {e : Evg} {g : Nat} {pre : List Nat} {w : Int32} {σ : St} (h : HeardX e g pre w σ) : nmX σ = nms e g pre w := by
  obtain ⟨h0, h1, h2, h3, h4, h5, -⟩ := h
  funext i
  unfold nmX
  by_cases c : i < 6
  · rw [if_pos c]
    rcases (show i = 0 ∨ i = 1 ∨ i = 2 ∨ i = 3 ∨ i = 4 ∨ i = 5 by omega) with rfl | rfl | rfl | rfl | rfl | rfl
    · exact h0
    · exact h1
    · exact h2
    · exact h3
    · exact h4
    · exact h5
  · rw [if_neg c]
    obtain ⟨j, rfl⟩ : ∃ j, i = j + 6 := ⟨i - 6, by omega⟩
    rfl
theorem HeardX.keep {e : Evg} {g : Nat} {pre : List Nat} {w : Int32} {σ σ' : St} (h : HeardX e g pre w σ) (k : ∀ b, σ'.1 28 b = σ.1 28 b) : HeardX e g pre w σ' := by
  unfold HeardX at h ⊢
  simp only [k]
  exact h
theorem colX_eq {e : Evg} {g : Nat} {pre : List Nat} {w v : Int32} {σ : St} (h : HeardX e g pre w σ) : X4_cools v σ = some (colP (e.K g) (e.N g) (agn e g pre) v) := by
  obtain ⟨h0, h1, h2, h3, h4, h5, h6, h7, h8⟩ := h
  unfold X4_cools colP X4_isAgain
  rw [h6, h3, h1, h0]
  unfold X4_cools_b62 agn
  by_cases k2 : e.K g = 2
  · rw [if_pos k2, if_pos k2]
  · rw [if_neg k2, if_neg k2]
    by_cases k3 : e.K g = 3
    · rw [if_pos k3, if_pos k3]
      by_cases c : lastT e pre = e.T g
      · rw [if_pos c, Option.bind_some, if_neg (show ¬ (1 : Int32) = 0 by decide), if_pos (show decide (lastT e pre = e.T g) = true from decide_eq_true c)]
      · rw [if_neg c, Option.bind_some, if_pos rfl, if_neg (show ¬ decide (lastT e pre = e.T g) = true from fun q => c (of_decide_eq_true q))]
    · rw [if_neg k3, if_neg k3]
      by_cases k4 : e.K g = 4
      · rw [if_pos k4, if_pos k4]
      · rw [if_neg k4, if_neg k4]
        by_cases k5 : e.K g = 5
        · rw [if_pos k5, if_pos k5]
        · rw [if_neg k5, if_neg k5]
theorem wrmX1_eq {e : Evg} {g : Nat} {pre : List Nat} {w s : Int32} {σ : St} (h : HeardX e g pre w σ) : X4_warms_b13 s σ = some (wrm1 (e.K g) (e.N g) (agn e g pre) e.odd s) := by
  obtain ⟨h0, h1, h2, h3, h4, h5, h6, h7, h8⟩ := h
  unfold X4_warms_b13 wrm1 X4_isAgain
  rw [h6, h3, h1, h0]
  unfold agn
  by_cases k1 : e.K g = 1
  · rw [if_pos k1, if_pos k1]
  · rw [if_neg k1, if_neg k1]
    by_cases k2 : e.K g = 2
    · rw [if_pos k2, if_pos k2]
    · rw [if_neg k2, if_neg k2]
      by_cases k3 : e.K g = 3
      · rw [if_pos k3, if_pos k3]
        by_cases c : lastT e pre = e.T g
        · rw [if_pos c, Option.bind_some, if_neg (show ¬ (1 : Int32) = 0 by decide), if_pos (show decide (lastT e pre = e.T g) = true from decide_eq_true c)]
        · rw [if_neg c, Option.bind_some, if_pos rfl, if_neg (show ¬ decide (lastT e pre = e.T g) = true from fun q => c (of_decide_eq_true q))]
      · rw [if_neg k3, if_neg k3]
        by_cases k4 : e.K g = 4
        · rw [if_pos k4, if_pos k4]
          by_cases c : e.odd = 0
          · rw [if_pos (h8.mpr c), if_pos c]
          · rw [if_neg (fun q => c (h8.mp q)), if_neg c]
        · rw [if_neg k4, if_neg k4]
          by_cases k5 : e.K g = 5
          · rw [if_pos k5, if_pos k5]
          · rw [if_neg k5, if_neg k5]
theorem wrmX_eq {e : Evg} {g : Nat} {pre : List Nat} {w v : Int32} {σ : St} (h : HeardX e g pre w σ) : X4_warms v σ = some (wrmP (e.K g) (e.N g) (agn e g pre) e.odd (e.L g) v) := by
  unfold X4_warms wrmP
  have h7 := h.2.2.2.2.2.2.2.1
  by_cases c : e.L g = 0
  · rw [if_pos (h7.mpr c), if_pos c]
    exact wrmX1_eq h
  · rw [if_neg (fun q => c (h7.mp q)), if_neg c]
    exact wrmX1_eq h
theorem tellX {e : Evg} {g : Nat} {pre : List Nat} {w : Int32} {σ : St} (hE : EnvX e σ) (h : HeardX e g pre w σ) {p : Nat} (hp : p < 3) : ∃ σ', X8_tell (σ.1 1 4) (pcode p) σ = some (e.ev p (nms e g pre w), σ') ∧ ∀ a b, a ≠ 24 → σ'.1 a b = σ.1 a b := by
  obtain ⟨σ', a1, a2⟩ := hE.2.2.2.2.2.2 σ (fun _ => rfl) rfl rfl rfl p hp
  rw [hE.2.2.2.2.1, a1, nmX_eq h]
  exact ⟨σ', rfl, a2⟩
theorem coolsX {e : Evg} {g : Nat} {pre : List Nat} {w : Int32} {σ : St} (hE : EnvX e σ) (h : HeardX e g pre w σ) : ∃ σ', X1_cools σ = some (colW e g pre w, σ') ∧ ∀ a b, a ≠ 24 → σ'.1 a b = σ.1 a b := by
  obtain ⟨σ', a1, a2⟩ := tellX hE h (p := 1) (by decide)
  refine ⟨σ', ?_, a2⟩
  unfold X1_cools
  rw [show (-17 : Int32) = pcode 1 from rfl, a1, Option.bind_some, withinX, Option.bind_some, colX_eq (h.keep (fun b => a2 _ _ (by decide)))]
  rfl
theorem warmsX {e : Evg} {g : Nat} {pre : List Nat} {w : Int32} {σ : St} (hE : EnvX e σ) (h : HeardX e g pre w σ) : ∃ σ', X1_warms σ = some (wrmW e g pre w, σ') ∧ ∀ a b, a ≠ 24 → σ'.1 a b = σ.1 a b := by
  obtain ⟨σ', a1, a2⟩ := tellX hE h (p := 0) (by decide)
  refine ⟨σ', ?_, a2⟩
  unfold X1_warms
  rw [show (-16 : Int32) = pcode 0 from rfl, a1, Option.bind_some, withinX, Option.bind_some, wrmX_eq (h.keep (fun b => a2 _ _ (by decide)))]
  rfl
