def imX (σ : St) : St := up (bec 6 1 7 2 σ) 0 2 1
def imP (μ : St) : St := cpr 14 6 15 0 (cpr 13 4 3 0 μ)
def imM (μ : St) : St := cp1 0 0 0 μ
theorem imX_o {σ : St} {a b : Nat} (h : a ≠ 6) (h2 : a < 7 ∨ 10 < a) (h3 : a ≠ 0 ∨ b ≠ 2) : (imX σ).1 a b = σ.1 a b := by
  unfold imX
  rw [up_get, if_neg (by omega), bec_o h h2]
theorem imX_6 {σ : St} {b : Nat} (h : b < 6) : (imX σ).1 6 b = σ.1 1 b := by
  unfold imX
  rw [up_lo (by decide), bec_f (by omega) (by omega) (by omega) h]
theorem imX_a {σ : St} {i b : Nat} (hi : i < 4) (h : b < 5) : (imX σ).1 (7 + i) b = σ.1 (2 + i) b := by
  unfold imX
  rw [up_lo (by omega), bec_a (by omega) (by omega) (by omega) hi h]
theorem imP_o {μ : St} {a b : Nat} (h : a ≠ 13) (h2 : a ≠ 14) : (imP μ).1 a b = μ.1 a b := by
  unfold imP
  rw [cpr_o h2, cpr_o h]
theorem imP_13 {μ : St} {b : Nat} (h : b < 3) : (imP μ).1 13 b = μ.1 4 b := by
  unfold imP
  rw [cpr_o (by decide), cpr_get (by decide), if_pos (by omega)]
theorem imP_14 {μ : St} {b : Nat} (h : b < 15) : (imP μ).1 14 b = μ.1 6 b := by
  unfold imP
  rw [cpr_get (by decide), if_pos (by omega), cpr_o (by decide)]
def imQ (μ : St) : St := up (up (up (imP μ) 0 41 (μ.1 0 11)) 0 42 (μ.1 0 8)) 0 43 (μ.1 0 4)
theorem imQ_o {μ : St} {a b : Nat} (h : a ≠ 13) (h2 : a ≠ 14) (h3 : a ≠ 0 ∨ (b ≠ 41 ∧ b ≠ 42 ∧ b ≠ 43)) : (imQ μ).1 a b = μ.1 a b := by
  unfold imQ
  rw [up_get, if_neg (by omega), up_get, if_neg (by omega), up_get, if_neg (by omega), imP_o h h2]
theorem imQ_13 {μ : St} {b : Nat} (h : b < 3) : (imQ μ).1 13 b = μ.1 4 b := by
  unfold imQ
  rw [up_lo (by decide), up_lo (by decide), up_lo (by decide), imP_13 h]
theorem imQ_14 {μ : St} {b : Nat} (h : b < 15) : (imQ μ).1 14 b = μ.1 6 b := by
  unfold imQ
  rw [up_lo (by decide), up_lo (by decide), up_lo (by decide), imP_14 h]
theorem imageM2 (μ : St) : X10_image μ = some (μ.1 0 11, imQ μ) := by
  have e8 : (imP μ).1 0 8 = μ.1 0 8 := imP_o (by decide) (by decide)
  have e4 : (imP μ).1 0 4 = μ.1 0 4 := imP_o (by decide) (by decide)
  have e11 : (imP μ).1 0 11 = μ.1 0 11 := imP_o (by decide) (by decide)
  rw [imageM_eq]
  show some ((imP μ).1 0 11, up (up (up (imP μ) 0 41 ((imP μ).1 0 11)) 0 42 ((imP μ).1 0 8)) 0 43 ((imP μ).1 0 4)) = _
  rw [e8, e4, e11]
  rfl
theorem sim_image : Sim_image Rel := by
  intro σ μ ⟨n, t, k, ev, hR⟩
  obtain ⟨h1, h2, h3, h4, h5, h6, h7⟩ := id hR
  obtain ⟨n1, n2, n3, n4, n5, n6, n7, n8, n9, n10⟩ := id h1
  obtain ⟨v1, v2, v3, v4, v5, v6, v7, r, r1, r2, r3⟩ := id h2
  have eX : X9_image σ = some ((imX σ).1 1 5, imX σ) := by
    unfold X9_image
    rw [bec_image]
    rfl
  have x5 : (imX σ).1 1 5 = nI n := by rw [imX_o (by decide) (by decide) (by decide), n5]
  refine ⟨nI n, imX σ, imQ μ, by rw [eX, x5], by rw [imageM2, n6], n, t, k, ev, ?_⟩
  have lo : ∀ x y, 10 < x → (imX σ).1 x y = σ.1 x y := fun x y h => imX_o (by omega) (by omega) (by omega)
  have lm : ∀ x y, x ≠ 13 → x ≠ 14 → x ≠ 0 → (imQ μ).1 x y = μ.1 x y := fun x y a b c => imQ_o a b (Or.inl c)
  have m0 : ∀ y, y < 41 → (imQ μ).1 0 y = μ.1 0 y := fun y h => imQ_o (by decide) (by decide) (Or.inr (by omega))
  have x1 : ∀ y, (imX σ).1 1 y = σ.1 1 y := fun y => imX_o (by decide) (by omega) (by omega)
  refine ⟨⟨n1, n2, n3, n4, x5, by rw [m0 _ (by decide)]; exact n6, by rw [lo _ _ (by decide)]; exact n7, by rw [m0 _ (by decide)]; exact n8, by rw [lo _ _ (by decide)]; exact n9, by rw [m0 _ (by decide)]; exact n10⟩, h2.keep (x1 _) (x1 _) (x1 _) (x1 _) (x1 _) (lm _ _ (by decide) (by decide) (by decide)) (lm _ _ (by decide) (by decide) (by decide)) (lm _ _ (by decide) (by decide) (by decide)) (m0 _ (by decide)) (m0 _ (by decide)), h3.keep (fun _ _ => imX_o (by decide) (by omega) (by omega)) (fun _ _ => imX_o (by decide) (by omega) (by omega)) (fun _ _ => imX_o (by decide) (by omega) (by omega)) (fun _ _ => imX_o (by decide) (by omega) (by omega)) (fun _ _ => lm _ _ (by decide) (by decide) (by decide)) (fun _ _ => lm _ _ (by decide) (by decide) (by decide)), h4.keep (fun _ _ => lo _ _ (by decide)) (fun _ _ => lm _ _ (by decide) (by decide) (by decide)), h5.keep (fun t _ j => lo _ _ (by omega)) (fun _ _ => lo _ _ (by decide)) (fun _ _ => lo _ _ (by decide)) (fun _ _ => lo _ _ (by decide)) (fun _ _ _ _ => lm _ _ (by decide) (by decide) (by decide)) (fun _ _ => lm _ _ (by decide) (by decide) (by decide)), ?_, h7.keep (fun s _ => lo _ _ (by omega)) (fun s _ => lo _ _ (by omega)) (fun s _ j => lo _ _ (by omega)) (fun _ => lm _ _ (by decide) (by decide) (by decide)) (fun _ => lm _ _ (by decide) (by decide) (by decide)) (fun _ => lm _ _ (by decide) (by decide) (by decide)) (fun _ => lm _ _ (by decide) (by decide) (by decide))⟩
  refine Or.inr ⟨rfl, n, Nat.le_refl n, ?_, ?_, ?_, ?_, ?_, ?_, ?_, ?_, ?_, ?_, ?_⟩
  · rw [imX_6 (by decide), n5]
  · show μ.1 0 11 = _
    exact n6
  · rw [imX_6 (by decide), imQ_13 (by decide), v1]
  · rw [imQ_13 (by decide)]; exact v2
  · rw [imX_6 (by decide), imQ_13 (by decide), v3]
  · rw [imQ_13 (by decide)]; exact v4
  · rw [imX_6 (by decide), imQ_13 (by decide), v5]
  · rw [imQ_13 (by decide)]; exact v6
  · rw [imX_6 (by decide), v7]; rfl
  · refine ⟨r, r1, ?_, ?_⟩
    · rw [imX_6 (by decide), r2]
    · exact r3
  · intro g hg
    obtain ⟨g1, g2, g3, g4, g5, g6, g7, g8⟩ := h3 g hg
    have a7 : (imX σ).1 7 g = σ.1 2 g := imX_a (i := 0) (by decide) (by omega)
    have a8 : (imX σ).1 8 g = σ.1 3 g := imX_a (i := 1) (by decide) (by omega)
    have a9 : (imX σ).1 9 g = σ.1 4 g := imX_a (i := 2) (by decide) (by omega)
    have a10 : (imX σ).1 10 g = σ.1 5 g := imX_a (i := 3) (by decide) (by omega)
    have b14 : ∀ y, y < 15 → (imQ μ).1 14 y = μ.1 6 y := fun y h => imQ_14 h
    rw [a7, a8, a9, a10, b14 _ (by omega), b14 _ (by omega), b14 _ (by omega), imX_o (by decide) (by decide) (by omega)]
    exact ⟨rfl, g2, g3, g4, g6, g7, g8⟩
def bkX (σ : St) : St := bec 1 6 2 7 σ
def bkP (μ : St) : St := cpr 6 14 15 0 (cpr 4 13 3 0 μ)
def bkQ (μ : St) : St := up (up (up (bkP μ) 0 11 (μ.1 0 41)) 0 8 (μ.1 0 42)) 0 4 (μ.1 0 43)
theorem bkP_o {μ : St} {a b : Nat} (h : a ≠ 4) (h2 : a ≠ 6) : (bkP μ).1 a b = μ.1 a b := by
  unfold bkP
  rw [cpr_o h2, cpr_o h]
theorem bkQ_o {μ : St} {a b : Nat} (h : a ≠ 4) (h2 : a ≠ 6) (h3 : a ≠ 0 ∨ (b ≠ 11 ∧ b ≠ 8 ∧ b ≠ 4)) : (bkQ μ).1 a b = μ.1 a b := by
  unfold bkQ
  rw [up_get, if_neg (by omega), up_get, if_neg (by omega), up_get, if_neg (by omega), bkP_o h h2]
theorem bkQ_4 {μ : St} {b : Nat} (h : b < 3) : (bkQ μ).1 4 b = μ.1 13 b := by
  unfold bkQ bkP
  rw [up_lo (by decide), up_lo (by decide), up_lo (by decide), cpr_o (by decide), cpr_get (by decide), if_pos (by omega)]
theorem bkQ_6 {μ : St} {b : Nat} (h : b < 15) : (bkQ μ).1 6 b = μ.1 14 b := by
  unfold bkQ bkP
  rw [up_lo (by decide), up_lo (by decide), up_lo (by decide), cpr_get (by decide), if_pos (by omega), cpr_o (by decide)]
theorem backM2 (μ : St) : X10_back_b13 FU 0 μ = some (μ.1 0 41, bkQ μ) := by
  have e8 : (bkP μ).1 0 42 = μ.1 0 42 := bkP_o (by decide) (by decide)
  have e4 : (bkP μ).1 0 43 = μ.1 0 43 := bkP_o (by decide) (by decide)
  have e11 : (bkP μ).1 0 41 = μ.1 0 41 := bkP_o (by decide) (by decide)
  rw [backM_eq]
  show some ((bkP μ).1 0 41, up (up (up (bkP μ) 0 11 ((bkP μ).1 0 41)) 0 8 ((bkP μ).1 0 42)) 0 4 ((bkP μ).1 0 43)) = _
  rw [e8, e4, e11]
  rfl
theorem sim_back : Sim_back Rel := by
  intro σ μ ⟨n, t, k, ev, hR⟩
  obtain ⟨h1, h2, h3, h4, h5, h6, h7⟩ := id hR
  obtain ⟨n1, n2, n3, n4, n5, n6, n7, n8, n9, n10⟩ := id h1
  obtain ⟨v1, v2, v3, v4, v5, v6, v7, r, r1, r2, r3⟩ := id h2
  unfold X9_back X10_back
  rcases h6 with ⟨i1, i2⟩ | ⟨i1, q, q1, q2, q3, p1, p2, p3, p4, p5, p6, p7, ⟨r', p8, p9, p10⟩, p11⟩
  · rw [if_pos i1, if_pos i2]
    exact ⟨-3, σ, μ, rfl, rfl, n, t, k, ev, hR⟩
  rw [if_neg (by rw [i1]; decide), if_neg (by rw [q3]; intro e; exact absurd (congrArg Int32.toInt e) (by rw [tiI (by omega), show (-1 : Int32).toInt = -1 by decide]; omega)), bec_back, backM2, q3]
  have f : ∀ b, b < 6 → (bkX σ).1 1 b = σ.1 6 b := fun b hb => bec_f (by omega) (by omega) (by omega) hb
  have fa : ∀ i b, i < 4 → b < 5 → (bkX σ).1 (2 + i) b = σ.1 (7 + i) b := fun i b hi hb => bec_a (by omega) (by omega) (by omega) hi hb
  have lo : ∀ x y, x ≠ 1 → (x < 2 ∨ 5 < x) → (bkX σ).1 x y = σ.1 x y := fun x y h h2 => bec_o h (by omega)
  have x5 : (bkX σ).1 1 5 = nI q := by rw [f _ (by decide), q2]
  have m0 : ∀ y, (y ≠ 11 ∧ y ≠ 8 ∧ y ≠ 4) → (bkQ μ).1 0 y = μ.1 0 y := fun y h => bkQ_o (by decide) (by decide) (Or.inr h)
  have lm : ∀ x y, x ≠ 4 → x ≠ 6 → x ≠ 0 → (bkQ μ).1 x y = μ.1 x y := fun x y a b c => bkQ_o a b (Or.inl c)
  refine ⟨nI q, bkX σ, bkQ μ, ?_, rfl, q, t, k, ev, ?_⟩
  · rw [Option.bind_some]
    show some ((bkX σ).1 1 5, bkX σ) = _
    rw [x5]
  have g2 : ∀ g, g < q → (bkX σ).1 2 g = σ.1 7 g := fun g hg => fa 0 g (by decide) (by omega)
  have g3 : ∀ g, g < q → (bkX σ).1 3 g = σ.1 8 g := fun g hg => fa 1 g (by decide) (by omega)
  have g4 : ∀ g, g < q → (bkX σ).1 4 g = σ.1 9 g := fun g hg => fa 2 g (by decide) (by omega)
  have g5 : ∀ g, g < q → (bkX σ).1 5 g = σ.1 10 g := fun g hg => fa 3 g (by decide) (by omega)
  have b6 : ∀ y, y < 15 → (bkQ μ).1 6 y = μ.1 14 y := fun y h => bkQ_6 h
  refine ⟨⟨by omega, n2, n3, n4, x5, q3, by rw [lo _ _ (by decide) (by decide)]; exact n7, by rw [m0 _ (by decide)]; exact n8, by rw [lo _ _ (by decide) (by decide)]; exact n9, by rw [m0 _ (by decide)]; exact n10⟩, ?_, ?_, h4.keep (fun _ _ => lo _ _ (by decide) (by decide)) (fun _ _ => lm _ _ (by decide) (by decide) (by decide)), h5.keep (fun t _ j => lo _ _ (by omega) (by omega)) (fun _ _ => lo _ _ (by decide) (by decide)) (fun _ _ => lo _ _ (by decide) (by decide)) (fun _ _ => lo _ _ (by decide) (by decide)) (fun _ _ _ _ => lm _ _ (by decide) (by decide) (by decide)) (fun _ _ => lm _ _ (by decide) (by decide) (by decide)), ?_, h7.keep (fun s _ => lo _ _ (by omega) (by omega)) (fun s _ => lo _ _ (by omega) (by omega)) (fun s _ j => lo _ _ (by omega) (by omega)) (fun _ => lm _ _ (by decide) (by decide) (by decide)) (fun _ => lm _ _ (by decide) (by decide) (by decide)) (fun _ => lm _ _ (by decide) (by decide) (by decide)) (fun _ => lm _ _ (by decide) (by decide) (by decide))⟩
  · unfold RVal
    rw [f _ (by decide), f _ (by decide), f _ (by decide), f _ (by decide), f _ (by decide), bkQ_4 (by decide), bkQ_4 (by decide), bkQ_4 (by decide)]
    exact ⟨p1, p2, p3, p4, p5, p6, p7, r', p8, p9, p10⟩
  · intro g hg
    obtain ⟨a1, a2, a3, a4, a5, a6, a7⟩ := p11 g hg
    obtain ⟨c1, c2, c3, c4, c5, -⟩ := h3 g (by omega)
    rw [g2 g hg, g3 g hg, g4 g hg, g5 g hg, lm _ _ (by decide) (by decide) (by decide), b6 _ (by omega), b6 _ (by omega), b6 _ (by omega), a1]
    exact ⟨c1, a2, a3, a4, c5, a5, a6, a7⟩
  · refine Or.inr ⟨?_, q, Nat.le_refl q, ?_, ?_, ?_, ?_, ?_, ?_, ?_, ?_, ?_, ?_, ?_⟩
    · rw [lo _ _ (by decide) (by decide), i1]
    · rw [lo _ _ (by decide) (by decide), q2]
    · rw [m0 _ (by decide), q3]
    · rw [lo _ _ (by decide) (by decide), lm _ _ (by decide) (by decide) (by decide), p1]
    · rw [lm _ _ (by decide) (by decide) (by decide)]; exact p2
    · rw [lo _ _ (by decide) (by decide), lm _ _ (by decide) (by decide) (by decide), p3]
    · rw [lm _ _ (by decide) (by decide) (by decide)]; exact p4
    · rw [lo _ _ (by decide) (by decide), lm _ _ (by decide) (by decide) (by decide), p5]
    · rw [lm _ _ (by decide) (by decide) (by decide)]; exact p6
    · rw [lo _ _ (by decide) (by decide), m0 _ (by decide), p7]
    · rw [lo _ _ (by decide) (by decide), m0 _ (by decide)]; exact ⟨r', p8, p9, p10⟩
    · intro g hg
      rw [g2 g hg, lo 7 _ (by decide) (by decide), lo 8 _ (by decide) (by decide), lo 9 _ (by decide) (by decide), lo 10 _ (by decide) (by decide), lm 14 _ (by decide) (by decide) (by decide), lm 14 _ (by decide) (by decide) (by decide), lm 14 _ (by decide) (by decide) (by decide)]
      exact ⟨rfl, (p11 g hg).2⟩
