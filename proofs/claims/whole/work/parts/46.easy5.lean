def cp1 (d s j : Nat) (σ : St) : St := up σ d j (σ.1 s j)
def cpA (d s : Nat) (σ : St) : St := upA σ d (va_cpy (σ.1 s) (σ.1 d) 0 0 5)
def bec (d s d2 s2 : Nat) (σ : St) : St := cpA (d2 + 3) (s2 + 3) (cpA (d2 + 2) (s2 + 2) (cpA (d2 + 1) (s2 + 1) (cpA d2 s2 (cp1 d s 5 (cp1 d s 4 (cp1 d s 3 (cp1 d s 2 (cp1 d s 1 (cp1 d s 0 σ)))))))))
theorem bec_image (σ : St) : X5_becomeAs 6 1 σ = some (bec 6 1 7 2 σ) := rfl
theorem bec_back (σ : St) : X5_becomeAs 1 6 σ = some (bec 1 6 2 7 σ) := rfl
theorem cp1_o {d s j a b : Nat} {σ : St} (h : a ≠ d) : (cp1 d s j σ).1 a b = σ.1 a b := up_lo h
theorem cp1_get {d s j b : Nat} {σ : St} : (cp1 d s j σ).1 d b = if b = j then σ.1 s j else σ.1 d b := by
  unfold cp1
  rw [up_get]
  by_cases h : b = j
  · rw [if_pos ⟨rfl, h⟩, if_pos h]
  · rw [if_neg (fun q => h q.2), if_neg h]
theorem cpA_o {d s a b : Nat} {σ : St} (h : a ≠ d) : (cpA d s σ).1 a b = σ.1 a b := by
  unfold cpA
  rw [upA_get, if_neg h]
theorem cpA_get {d s b : Nat} {σ : St} : (cpA d s σ).1 d b = if b < 5 then σ.1 s b else σ.1 d b := by
  unfold cpA
  rw [upA_get, if_pos rfl]
  unfold va_cpy
  by_cases h : b < 5
  · rw [if_pos (by omega), if_pos h, show 0 + (b - 0) = b by omega]
  · rw [if_neg (by omega), if_neg h]
theorem bec_f {d s d2 s2 b : Nat} {σ : St} (h1 : d < d2 ∨ d2 + 3 < d) (h2 : s < d2 ∨ d2 + 3 < s) (h3 : d ≠ s) (hb : b < 6) : (bec d s d2 s2 σ).1 d b = σ.1 s b := by
  unfold bec
  rw [cpA_o (by omega), cpA_o (by omega), cpA_o (by omega), cpA_o (by omega)]
  simp only [cp1_get, cp1_o (Ne.symm h3)]
  rcases (show b = 0 ∨ b = 1 ∨ b = 2 ∨ b = 3 ∨ b = 4 ∨ b = 5 by omega) with rfl | rfl | rfl | rfl | rfl | rfl <;> rfl
theorem bec_a {d s d2 s2 i b : Nat} {σ : St} (h1 : d < d2 ∨ d2 + 3 < d) (h2 : d < s2 ∨ s2 + 3 < d) (h3 : s2 + 3 < d2 ∨ d2 + 3 < s2) (hi : i < 4) (hb : b < 5) : (bec d s d2 s2 σ).1 (d2 + i) b = σ.1 (s2 + i) b := by
  have e : ∀ x y, x ≠ d → (cp1 d s 5 (cp1 d s 4 (cp1 d s 3 (cp1 d s 2 (cp1 d s 1 (cp1 d s 0 σ)))))).1 x y = σ.1 x y := fun x y h => by
    rw [cp1_o h, cp1_o h, cp1_o h, cp1_o h, cp1_o h, cp1_o h]
  unfold bec
  rcases (show i = 0 ∨ i = 1 ∨ i = 2 ∨ i = 3 by omega) with rfl | rfl | rfl | rfl
  · rw [cpA_o (by omega), cpA_o (by omega), cpA_o (by omega), show d2 + 0 = d2 from rfl, cpA_get, if_pos hb, e _ _ (by omega)]
    rfl
  · rw [cpA_o (by omega), cpA_o (by omega), cpA_get, if_pos hb, cpA_o (by omega), e _ _ (by omega)]
  · rw [cpA_o (by omega), cpA_get, if_pos hb, cpA_o (by omega), cpA_o (by omega), e _ _ (by omega)]
  · rw [cpA_get, if_pos hb, cpA_o (by omega), cpA_o (by omega), cpA_o (by omega), e _ _ (by omega)]
theorem bec_o {d s d2 s2 a b : Nat} {σ : St} (h1 : a ≠ d) (h2 : a < d2 ∨ d2 + 3 < a) : (bec d s d2 s2 σ).1 a b = σ.1 a b := by
  unfold bec
  rw [cpA_o (by omega), cpA_o (by omega), cpA_o (by omega), cpA_o (by omega), cp1_o h1, cp1_o h1, cp1_o h1, cp1_o h1, cp1_o h1, cp1_o h1]
/-- the reference's image: three and fifteen copied -/
def cpr (d s : Nat) : Nat → Nat → St → St
  | 0, _, μ => μ
  | m + 1, i, μ => cpr d s m (i + 1) (cp1 d s i μ)
theorem cpr_o {d s a b : Nat} (h : a ≠ d) : ∀ (m i : Nat) (μ : St), (cpr d s m i μ).1 a b = μ.1 a b := by
  intro m
  induction m with
  | zero => intros; rfl
  | succ m ih => intro i μ; rw [cpr, ih, cp1_o h]
theorem cpr_get {d s b : Nat} (h : s ≠ d) : ∀ (m i : Nat) (μ : St), (cpr d s m i μ).1 d b = if i ≤ b ∧ b < i + m then μ.1 s b else μ.1 d b := by
  intro m
  induction m with
  | zero => intro i μ; rw [if_neg (by omega)]; rfl
  | succ m ih =>
    intro i μ
    rw [cpr, ih, cp1_get, cp1_o h]
    by_cases c : b = i
    · subst c
      rw [if_neg (by omega), if_pos rfl, if_pos (by omega)]
    · rw [if_neg c]
      by_cases c2 : i + 1 ≤ b ∧ b < i + 1 + m
      · rw [if_pos c2, if_pos (by omega)]
      · rw [if_neg c2, if_neg (by omega)]
def imEnd (σ : St) : St := cp1 0 0 4 σ
theorem image27 : ∀ (m i F : Nat) (σ : St), i + m = 15 → m < F → X10_image_b27 F (nI i) σ = X10_image_b27 1 15 (cpr 14 6 m i σ) := by
  intro m
  induction m with
  | zero =>
    intro i F σ hi hF
    obtain ⟨F', rfl⟩ : ∃ F', F = F' + 1 := ⟨F - 1, by omega⟩
    rw [show i = 15 by omega]
    rfl
  | succ m ih =>
    intro i F σ hi hF
    obtain ⟨F', rfl⟩ : ∃ F', F = F' + 1 := ⟨F - 1, by omega⟩
    rw [X10_image_b27, if_neg (show ¬ (15 : Int32) ≤ nI i by rw [show (15 : Int32) = nI 15 from rfl, nI_leI (by decide) (by omega)]; omega), if_neg (show ¬ ob (nI i) 15 by rw [ob_iff (by decide), tiI (by omega)]; omega), if_neg (show ¬ ob (nI i) 15 by rw [ob_iff (by decide), tiI (by omega)]; omega), tnI (by omega), nI_1]
    exact ih (i + 1) F' _ (by omega) (by omega)
theorem image2 : ∀ (m i F : Nat) (σ : St), i + m = 3 → m < F → X10_image_b2 F (nI i) σ = X10_image_b27 FU 0 (cpr 13 4 m i σ) := by
  intro m
  induction m with
  | zero =>
    intro i F σ hi hF
    obtain ⟨F', rfl⟩ : ∃ F', F = F' + 1 := ⟨F - 1, by omega⟩
    rw [show i = 3 by omega, X10_image_b2, if_pos (by decide)]
    rfl
  | succ m ih =>
    intro i F σ hi hF
    obtain ⟨F', rfl⟩ : ∃ F', F = F' + 1 := ⟨F - 1, by omega⟩
    rw [X10_image_b2, if_neg (show ¬ (3 : Int32) ≤ nI i by rw [show (3 : Int32) = nI 3 from rfl, nI_leI (by decide) (by omega)]; omega), if_neg (show ¬ ob (nI i) 3 by rw [ob_iff (by decide), tiI (by omega)]; omega), if_neg (show ¬ ob (nI i) 3 by rw [ob_iff (by decide), tiI (by omega)]; omega), tnI (by omega), nI_1]
    exact ih (i + 1) F' _ (by omega) (by omega)
theorem imageM_eq (μ : St) : X10_image μ = X10_image_b27 1 15 (cpr 14 6 15 0 (cpr 13 4 3 0 μ)) := by
  unfold X10_image
  rw [show (0 : Int32) = nI 0 from rfl, image2 3 0 FU μ rfl (by rw [FU_eq]; omega), show (0 : Int32) = nI 0 from rfl, image27 15 0 FU _ rfl (by rw [FU_eq]; omega)]
theorem back38 : ∀ (m i F : Nat) (σ : St), i + m = 15 → m < F → X10_back_b38 F (nI i) σ = X10_back_b38 1 15 (cpr 6 14 m i σ) := by
  intro m
  induction m with
  | zero =>
    intro i F σ hi hF
    obtain ⟨F', rfl⟩ : ∃ F', F = F' + 1 := ⟨F - 1, by omega⟩
    rw [show i = 15 by omega]
    rfl
  | succ m ih =>
    intro i F σ hi hF
    obtain ⟨F', rfl⟩ : ∃ F', F = F' + 1 := ⟨F - 1, by omega⟩
    rw [X10_back_b38, if_neg (show ¬ (15 : Int32) ≤ nI i by rw [show (15 : Int32) = nI 15 from rfl, nI_leI (by decide) (by omega)]; omega), if_neg (show ¬ ob (nI i) 15 by rw [ob_iff (by decide), tiI (by omega)]; omega), if_neg (show ¬ ob (nI i) 15 by rw [ob_iff (by decide), tiI (by omega)]; omega), tnI (by omega), nI_1]
    exact ih (i + 1) F' _ (by omega) (by omega)
theorem back13 : ∀ (m i F : Nat) (σ : St), i + m = 3 → m < F → X10_back_b13 F (nI i) σ = X10_back_b38 FU 0 (cpr 4 13 m i σ) := by
  intro m
  induction m with
  | zero =>
    intro i F σ hi hF
    obtain ⟨F', rfl⟩ : ∃ F', F = F' + 1 := ⟨F - 1, by omega⟩
    rw [show i = 3 by omega, X10_back_b13, if_pos (by decide)]
    rfl
  | succ m ih =>
    intro i F σ hi hF
    obtain ⟨F', rfl⟩ : ∃ F', F = F' + 1 := ⟨F - 1, by omega⟩
    rw [X10_back_b13, if_neg (show ¬ (3 : Int32) ≤ nI i by rw [show (3 : Int32) = nI 3 from rfl, nI_leI (by decide) (by omega)]; omega), if_neg (show ¬ ob (nI i) 3 by rw [ob_iff (by decide), tiI (by omega)]; omega), if_neg (show ¬ ob (nI i) 3 by rw [ob_iff (by decide), tiI (by omega)]; omega), tnI (by omega), nI_1]
    exact ih (i + 1) F' _ (by omega) (by omega)
theorem backM_eq (μ : St) : X10_back_b13 FU 0 μ = X10_back_b38 1 15 (cpr 6 14 15 0 (cpr 4 13 3 0 μ)) := by
  rw [show (0 : Int32) = nI 0 from rfl, back13 3 0 FU μ rfl (by rw [FU_eq]; omega), show (0 : Int32) = nI 0 from rfl, back38 15 0 FU _ rfl (by rw [FU_eq]; omega)]
