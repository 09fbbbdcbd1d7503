theorem read_X2 {B : Nat → Int32} {t kk f : Nat} {l0 l1 l2 : List Int32} (hp : pText B t = (some (l0, l1, l2), f)) {σ : St} (hT : TapX B t σ) (hk : kk < 6) (h5 : σ.1 13 5 = nI kk) : (∀ p, p < 3 → ∀ nm, ∃ v, Val nm (segP l0 l1 l2 p) v) ∧ ∃ σ', X2_read σ = some (nI kk, up (up σ' 11 1 0) 13 5 (nI (kk + 1))) ∧ DraftX kk l0 l1 l2 σ' ∧ FrP kk σ σ' := by
  have h := read_X hT hk h5
  rw [hp] at h
  exact h
theorem pt46 : pText (fun j => (wdW 0).getD j 0) 46 = (some ([5, -1, -12], [2], [-2, 4, -10]), 0) := by decide +kernel
theorem take_eq {i : Nat} (hi : i < 160) {σ : St} (h : σ.1 11 1 = nI i) (c : Int32) : ∃ r, X7_take c σ = some (r, up (up σ 11 1 (nI (i + 1))) 12 i c) := by
  unfold X7_take
  rw [h, if_neg (nI_pos (by omega)), if_pos (show nI i < 160 from nI_lt hi (by decide)), if_neg (show ¬ ob (nI i) 160 by rw [ob_iff (by decide), tiI (by omega)]; omega), tnI (by omega), nI_1]
  exact ⟨_, rfl⟩
theorem init169 : ∀ (c i F : Nat) (σ : St), i + c = 46 → c < F → σ.1 11 1 = nI i → (∀ j, j < i → σ.1 12 j = (wdW 0).getD j 0) → ∃ σ', X9_init_b169 F (nI i) σ = (X2_read σ').bind (fun x202 => some x202.2) ∧ σ'.1 11 1 = nI 46 ∧ (∀ j, j < 46 → σ'.1 12 j = (wdW 0).getD j 0) ∧ ∀ a b, ¬ (a = 11 ∧ b = 1) → a ≠ 12 → σ'.1 a b = σ.1 a b := by
  have l0 : (wdW 0).length = 46 := by decide +kernel
  have hs := (sLen_eq 0 (by decide)).1
  rw [l0] at hs
  intro c
  induction c with
  | zero =>
    intro i F σ hi hF h1 h2
    obtain ⟨F', rfl⟩ : ∃ F', F = F' + 1 := ⟨F - 1, by omega⟩
    have e : i = 46 := by omega
    subst e
    rw [X9_init_b169, hs, Option.bind_some, if_pos (show nI 46 ≤ nI 46 by decide)]
    exact ⟨σ, rfl, h1, h2, fun _ _ _ _ => rfl⟩
  | succ c ih =>
    intro i F σ hi hF h1 h2
    obtain ⟨F', rfl⟩ : ∃ F', F = F' + 1 := ⟨F - 1, by omega⟩
    obtain ⟨r, hr⟩ := take_eq (i := i) (by omega) h1 ((wdW 0).getD i 0)
    rw [X9_init_b169, hs, Option.bind_some, if_neg (show ¬ nI 46 ≤ nI i by rw [nI_leI (by decide) (by omega)]; omega), sCh_eq (k := 0) (by decide) (by omega), Option.bind_some, hr, Option.bind_some, nI_1]
    obtain ⟨σ', a1, a2, a3, a4⟩ := ih (i + 1) F' (up (up σ 11 1 (nI (i + 1))) 12 i ((wdW 0).getD i 0)) (by omega) (by omega) (by rw [up_lo (by decide), up_eq]) (fun j hj => by
      by_cases z : j = i
      · subst z
        rw [up_eq]
      · rw [up_pl z, up_lo (by decide)]
        exact h2 j (by omega))
    exact ⟨σ', a1, a2, a3, fun a b p q => by rw [a4 a b p q, up_lo q, up_get, if_neg p]⟩
def b48 (j : Nat) : Int32 := (wdW 0 ++ [32, 32]).getD j 0
theorem pt48 : pText b48 48 = (some ([5, -1, -12], [2], [-2, 4, -10]), 0) := by decide +kernel
def goodM (m : St) : Bool := decide (m.1 0 11 = 0) && (decide (m.1 0 6 = 0) && (decide (m.1 0 3 = 1) && (decide (m.1 4 0 = 20) && (decide (m.1 4 1 = 70) && (decide (m.1 4 2 = 0) && (decide (m.1 0 8 = 0) && (decide (m.1 0 4 = 0) && (decide (m.1 0 41 = -1) && (decide (m.1 2 0 = 48) && ((List.range 4).all (fun s => decide (m.1 15 s = 0)) && (List.range 48).all (fun j => decide (m.1 1 (160 * 0 + j) = b48 j))))))))))))
theorem init_M : (X10_init_b145 σM0).elim false goodM = true := by decide +kernel
theorem b48_rng : ∀ j, j < 48 → 0 ≤ (b48 j).toInt ∧ (b48 j).toInt ≤ 255 := by decide +kernel
theorem x0_vals : σX0.1 13 5 = 0 ∧ σX0.1 11 1 = 0 ∧ σX0.1 1 5 = 0 ∧ σX0.1 1 0 = 20 ∧ σX0.1 1 1 = 70 ∧ σX0.1 1 2 = 0 ∧ σX0.1 1 3 = 0 ∧ σX0.1 1 4 = 0 ∧ σX0.1 0 2 = 0 ∧ ∀ s, s < 4 → σX0.1 (38 + 2 * s) 1 = -1 := by decide +kernel
theorem pure_main : ∃ (Rel : St → St → Prop) (x0 m0 : St), Sim Rel ∧ X9_init_b169 FU 0 σX0 = some x0 ∧ X10_init_b145 σM0 = some m0 ∧ Rel x0 m0 := by
  obtain ⟨x1, x2, x3, x4, x5, x6, x7, x8, x9, x10⟩ := x0_vals
  obtain ⟨σ1, a1, a2, a3, a4⟩ := init169 46 0 FU σX0 rfl (by rw [FU_eq]; decide) x2 (fun j hj => absurd hj (by omega))
  have hT : TapX (fun j => (wdW 0).getD j 0) 46 σ1 := ⟨by decide, a2, a3⟩
  have h13 : σ1.1 13 5 = nI 0 := (a4 _ _ (by decide) (by decide)).trans x1
  obtain ⟨hval, σ2, b1', b2, b3⟩ := read_X2 pt46 hT (kk := 0) (by decide) h13
  have eX : X9_init_b169 FU 0 σX0 = some (up (up σ2 11 1 0) 13 5 (nI (0 + 1))) := by
    rw [show X9_init_b169 FU 0 σX0 = _ from a1]
    rw [b1', Option.bind_some]
  have hm := init_M
  cases hM : X10_init_b145 σM0 with
  | none =>
    rw [hM] at hm
    cases hm
  | some m0 =>
    rw [hM] at hm
    have hg : goodM m0 = true := hm
    unfold goodM at hg
    simp only [Bool.and_eq_true, decide_eq_true_eq, List.all_eq_true, List.mem_range] at hg
    obtain ⟨g1, g2, g3, g4, g5, g6, g7, g8, g9, g10, g11, g12⟩ := hg
    have hRow : RowM b48 48 0 m0 := ⟨by decide, by decide, b48_rng, g10, g12⟩
    have fx : ∀ a b, a ≠ 11 → a ≠ 12 → a ≠ 13 → ¬ (15 ≤ a ∧ a ≤ 23) → (up (up σ2 11 1 0) 13 5 (nI (0 + 1))).1 a b = σX0.1 a b := fun a b p1 p2 p3 p4 => by
      rw [up_lo p3, up_lo p1, b3 a b (by omega) (by omega) (by omega), a4 a b (by omega) p2]
    refine ⟨Rel, _, m0, ⟨sim_set, sim_guest, sim_told, sim_feed, sim_text, sim_force, sim_evening, sim_hold, sim_warmest, sim_soonest, sim_ratherNot, sim_topic, sim_turns, sim_tells, sim_film, sim_drawn, sim_chance, sim_image, sim_back, sim_count, sim_sheet, sim_cell, sim_copy, sim_guests, sim_taken⟩, eX, rfl, 0, 0, 1, fun _ => evT [5, -1, -12] [2] [-2, 4, -10], ⟨by decide, by decide, by decide, by decide, ?_, g1, ?_, g2, up_eq, g3⟩, ⟨?_, ?_, ?_, ?_, ?_, ?_, ?_, 0, by decide, ?_, g8⟩, fun g hg => absurd hg (by omega), fun i hi => absurd hi (by omega), fun j hj => ?_, Or.inl ⟨?_, g9⟩, fun s hs => Or.inl ⟨?_, g11 s hs⟩⟩
    · exact (fx _ _ (by decide) (by decide) (by decide) (by decide)).trans x3
    · rw [up_lo (by decide), up_eq]
      rfl
    · rw [fx _ _ (by decide) (by decide) (by decide) (by decide), x4, g4]
    · rw [g4]
      unfold rng
      decide
    · rw [fx _ _ (by decide) (by decide) (by decide) (by decide), x5, g5]
    · rw [g5]
      unfold rng
      decide
    · rw [fx _ _ (by decide) (by decide) (by decide) (by decide), x6, g6]
    · rw [g6]
      unfold rng
      decide
    · rw [fx _ _ (by decide) (by decide) (by decide) (by decide), x7, g7]
    · exact (fx _ _ (by decide) (by decide) (by decide) (by decide)).trans x8
    · have e : j = 0 := by omega
      subst e
      obtain ⟨e1, e2, e3, e4, e5, e6⟩ := b2
      exact ⟨draft_txt (σ := up (up σ2 11 1 0) 13 5 (nI (0 + 1))) ⟨e1, e2, by rw [up_lo (by decide), up_lo (by decide)]; exact e3, by rw [up_lo (by decide), up_lo (by decide)]; exact e4, by rw [up_lo (by decide), up_lo (by decide)]; exact e5, fun y hy => by rw [up_lo (by decide), up_lo (by decide)]; exact e6 y hy⟩ hval, row_txt hRow pt48⟩
    · exact (fx _ _ (by decide) (by decide) (by decide) (by decide)).trans x9
    · exact (fx _ _ (by omega) (by omega) (by omega) (by omega)).trans (x10 s hs)
