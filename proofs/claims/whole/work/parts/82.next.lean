/-- a text, as the reference reads it -/
def TapM (B : Nat → Int32) (t base : Nat) (μ : St) : Prop := (t ≤ 160 ∧ base + t ≤ 960) ∧ (∀ j, j < t → rng 0 255 (B j)) ∧ μ.1 0 18 = nI base ∧ μ.1 0 19 = nI t ∧ ∀ j, j < t → μ.1 1 (base + j) = B j
def KindM (B : Nat → Int32) (t f : Nat) (μ : St) : Prop := (t ≤ f ∧ μ.1 0 21 = 0) ∨ (f < t ∧ lettr (B f) = true ∧ μ.1 0 21 = 1 ∧ μ.1 0 20 = nI (tkN B t f)) ∨ (f < t ∧ ¬ lettr (B f) = true ∧ digt (B f) = true ∧ ((¬ 4 < spn digt B (t - f) f - f ∧ μ.1 0 21 = 2 ∧ μ.2 = lN (numN B (spn digt B (t - f) f - f) f 0)) ∨ (4 < spn digt B (t - f) f - f ∧ μ.1 0 21 = 4))) ∨ (f < t ∧ ¬ lettr (B f) = true ∧ ¬ digt (B f) = true ∧ ((sgn (B f) ≠ -23 ∧ μ.1 0 21 = 3 ∧ μ.2 = (B f).toInt64) ∨ (sgn (B f) = -23 ∧ μ.1 0 21 = 4)))
def TokM (B : Nat → Int32) (t base pos : Nat) (μ : St) : Prop := TapM B t base μ ∧ pos ≤ t ∧ μ.1 0 22 = nI (tokF B t pos) ∧ (tokC B t pos ≠ -23 → μ.1 0 20 = nI (tokN B t pos)) ∧ KindM B t (tokF B t pos) μ
def FrN (μ μ' : St) : Prop := ∀ a b, ¬ (a = 0 ∧ 20 ≤ b ∧ b ≤ 22) → μ'.1 a b = μ.1 a b
theorem FrN.refl (μ : St) : FrN μ μ := fun _ _ _ => rfl
theorem FrN.trans {a b c : St} (h1 : FrN a b) (h2 : FrN b c) : FrN a c := fun i j h => (h2 i j h).trans (h1 i j h)
theorem TapM.keep {B : Nat → Int32} {t base : Nat} {μ μ' : St} (h : TapM B t base μ) (k18 : μ'.1 0 18 = μ.1 0 18) (k19 : μ'.1 0 19 = μ.1 0 19) (k1 : ∀ j, μ'.1 1 j = μ.1 1 j) : TapM B t base μ' := ⟨h.1, h.2.1, k18.trans h.2.2.1, k19.trans h.2.2.2.1, fun j hj => (k1 _).trans (h.2.2.2.2 j hj)⟩
theorem TapM.n {B : Nat → Int32} {t base : Nat} {μ μ' : St} (h : TapM B t base μ) (k : FrN μ μ') : TapM B t base μ' := h.keep (k _ _ (by decide)) (k _ _ (by decide)) (fun j => k _ _ (by omega))
theorem byteM {B : Nat → Int32} {t base i : Nat} {μ : St} (h : TapM B t base μ) (hi : i < t) : X10_byteAt (nI i) μ = some (B i) := by
  obtain ⟨⟨h1, h1'⟩, h2, h3, h4, h5⟩ := h
  unfold X10_byteAt
  rw [h4, if_neg (show ¬ nI t ≤ nI i by rw [nI_leI (by omega) (by omega)]; omega), h3, nI_add, if_neg (show ¬ ob (nI (base + i)) 960 by rw [ob_iff (by decide), tiI (by omega)]; omega), tnI (by omega), h5 i hi]
theorem byteMno {B : Nat → Int32} {t base i : Nat} {μ : St} (h : TapM B t base μ) (hi : t ≤ i) (hi2 : i < 2 ^ 31) : X10_byteAt (nI i) μ = some (-1) := by
  have ht := h.1.1
  unfold X10_byteAt
  rw [h.2.2.2.1, if_pos (show nI t ≤ nI i by rw [nI_leI (by omega) (by omega)]; omega)]
theorem inLet (b : Int32) : X10_in b.toInt64 97 122 = some (if lettr b = true then 1 else 0) := by
  rw [in_i, show (97 : Int64).toInt = 97 by decide, show (122 : Int64).toInt = 122 by decide]
  unfold lettr
  by_cases c : 97 ≤ b.toInt ∧ b.toInt ≤ 122
  · rw [if_pos c, if_pos (decide_eq_true c)]
  · rw [if_neg c, if_neg (fun q => c (of_decide_eq_true q))]
theorem inDig (b : Int32) : X10_in b.toInt64 48 57 = some (if digt b = true then 1 else 0) := by
  rw [in_i, show (48 : Int64).toInt = 48 by decide, show (57 : Int64).toInt = 57 by decide]
  unfold digt
  by_cases c : 48 ≤ b.toInt ∧ b.toInt ≤ 57
  · rw [if_pos c, if_pos (decide_eq_true c)]
  · rw [if_neg c, if_neg (fun q => c (of_decide_eq_true q))]
theorem lettersM {B : Nat → Int32} {t base : Nat} : ∀ (d i F : Nat) (μ : St), i + d = t → d < F → TapM B t base μ → μ.1 0 20 = nI i → ∃ μ', X10_next_b100 F μ = some μ' ∧ μ'.1 0 20 = nI (spn lettr B d i) ∧ ∀ a b, ¬ (a = 0 ∧ b = 20) → μ'.1 a b = μ.1 a b := by
  intro d
  induction d with
  | zero =>
    intro i F μ hi hF hT h4
    have ht := hT.1.1
    obtain ⟨F', rfl⟩ : ∃ F', F = F' + 1 := ⟨F - 1, by omega⟩
    rw [X10_next_b100, h4, byteMno hT (by omega) (by omega), Option.bind_some, inLet, Option.bind_some, if_neg (show ¬ lettr (-1) = true by decide), if_pos rfl]
    exact ⟨μ, rfl, h4, fun _ _ _ => rfl⟩
  | succ d ih =>
    intro i F μ hi hF hT h4
    have ht := hT.1.1
    obtain ⟨F', rfl⟩ : ∃ F', F = F' + 1 := ⟨F - 1, by omega⟩
    rw [X10_next_b100, h4, byteM hT (by omega), Option.bind_some, inLet, Option.bind_some, nI_1]
    unfold spn
    by_cases c : lettr (B i) = true
    · rw [if_pos c, if_neg ne10, if_pos c]
      obtain ⟨μ', a1, a2, a3⟩ := ih (i + 1) F' (up μ 0 20 (nI (i + 1))) (by omega) (by omega) (hT.keep (up_pl (by decide)) (up_pl (by decide)) (fun j => up_lo (by decide))) up_eq
      exact ⟨μ', a1, a2, fun a b q => by rw [a3 a b q, up_get, if_neg q]⟩
    · rw [if_neg c, if_pos rfl, if_neg c]
      exact ⟨μ, rfl, h4, fun _ _ _ => rfl⟩
theorem digitsM {B : Nat → Int32} {t base f : Nat} : ∀ (d i F a : Nat) (μ : St), i + d = t → d < F → f ≤ i → TapM B t base μ → μ.1 0 20 = nI i → (i - f ≤ 4 → μ.2 = lN a) → ∃ μ', X10_next_b160 F (nI (i - f)) μ = some μ' ∧ μ'.1 0 20 = nI (spn digt B d i) ∧ μ'.1 0 21 = (if 4 < spn digt B d i - f then 4 else 2) ∧ (¬ 4 < spn digt B d i - f → μ'.2 = lN (numN B (spn digt B d i - i) i a)) ∧ ∀ a b, ¬ (a = 0 ∧ (b = 20 ∨ b = 21)) → μ'.1 a b = μ.1 a b := by
  have fin : ∀ (i a : Nat) (μ : St), i ≤ 160 → f ≤ i → μ.1 0 20 = nI i → (i - f ≤ 4 → μ.2 = lN a) → ∃ μ', (if nI (i - f) ≤ 4 then X10_next_b246 2 μ else X10_next_b246 4 μ) = some μ' ∧ μ'.1 0 20 = nI i ∧ μ'.1 0 21 = (if 4 < i - f then 4 else 2) ∧ (¬ 4 < i - f → μ'.2 = lN a) ∧ ∀ a b, ¬ (a = 0 ∧ (b = 20 ∨ b = 21)) → μ'.1 a b = μ.1 a b := fun i a μ hi hf h4 hw => by
    unfold X10_next_b246
    by_cases c : 4 < i - f
    · rw [if_neg (show ¬ nI (i - f) ≤ 4 by rw [show (4 : Int32) = nI 4 from rfl, nI_leI (by omega) (by decide)]; omega)]
      exact ⟨_, rfl, (up_pl (by decide)).trans h4, by rw [up_eq, if_pos c], fun q => absurd c q, fun a b q => by rw [up_get, if_neg (by omega)]⟩
    · rw [if_pos (show nI (i - f) ≤ 4 by rw [show (4 : Int32) = nI 4 from rfl, nI_leI (by omega) (by decide)]; omega)]
      exact ⟨_, rfl, (up_pl (by decide)).trans h4, by rw [up_eq, if_neg c], fun q => hw (by omega), fun a b q => by rw [up_get, if_neg (by omega)]⟩
  intro d
  induction d with
  | zero =>
    intro i F a μ hi hF hf hT h4 hw
    have ht := hT.1.1
    obtain ⟨F', rfl⟩ : ∃ F', F = F' + 1 := ⟨F - 1, by omega⟩
    rw [X10_next_b160, h4, byteMno hT (by omega) (by omega), Option.bind_some, inDig, Option.bind_some, if_neg (show ¬ digt (-1) = true by decide), if_pos rfl]
    obtain ⟨μ', a1, a2, a3, a4, a5⟩ := fin i a μ (by omega) hf h4 hw
    unfold spn
    rw [Nat.sub_self]
    exact ⟨μ', a1, a2, a3, a4, a5⟩
  | succ d ih =>
    intro i F a μ hi hF hf hT h4 hw
    have ht := hT.1.1
    obtain ⟨F', rfl⟩ : ∃ F', F = F' + 1 := ⟨F - 1, by omega⟩
    rw [X10_next_b160, h4, byteM hT (by omega), Option.bind_some, inDig, Option.bind_some]
    unfold spn
    by_cases c : digt (B i) = true
    · obtain ⟨x, x1, x2, x3⟩ := digtN c
      rw [if_pos c, if_neg ne10, if_pos c, Option.bind_some]
      unfold X10_next_b216
      have h1 := (spn_le digt B d (i + 1)).1
      have e20 : ∀ s0 : Int64, (upL μ s0).1 0 20 = nI i := fun s0 => h4
      rw [e20, e20, nI_1, nI_1, show i - f + 1 = i + 1 - f by omega, show spn digt B d (i + 1) - i = (spn digt B d (i + 1) - (i + 1)) + 1 by omega]
      have go : ∀ s0 : Int64, (i + 1 - f ≤ 4 → s0 = lN (a * 10 + ((B i).toInt.toNat - 48))) → ∃ μ', X10_next_b160 F' (nI (i + 1 - f)) (up (upL μ s0) 0 20 (nI (i + 1))) = some μ' ∧ μ'.1 0 20 = nI (spn digt B d (i + 1)) ∧ μ'.1 0 21 = (if 4 < spn digt B d (i + 1) - f then 4 else 2) ∧ (¬ 4 < spn digt B d (i + 1) - f → μ'.2 = lN (numN B ((spn digt B d (i + 1) - (i + 1)) + 1) i a)) ∧ ∀ a b, ¬ (a = 0 ∧ (b = 20 ∨ b = 21)) → μ'.1 a b = μ.1 a b := fun s0 hs => by
        obtain ⟨μ', a1, a2, a3, a4, a5⟩ := ih (i + 1) F' (a * 10 + ((B i).toInt.toNat - 48)) (up (upL μ s0) 0 20 (nI (i + 1))) (by omega) (by omega) (by omega) (hT.keep (up_pl (by decide)) (up_pl (by decide)) (fun j => up_lo (by decide))) up_eq hs
        refine ⟨μ', a1, a2, a3, a4, fun a b q => ?_⟩
        rw [a5 a b q, up_get, if_neg (by omega)]
        rfl
      by_cases c4 : 4 ≤ i - f
      · rw [if_pos (show 4 ≤ nI (i - f) by rw [show (4 : Int32) = nI 4 from rfl, nI_leI (by decide) (by omega)]; omega)]
        exact go _ (fun q => by omega)
      · rw [if_neg (show ¬ 4 ≤ nI (i - f) by rw [show (4 : Int32) = nI 4 from rfl, nI_leI (by decide) (by omega)]; omega)]
        refine go _ (fun q => ?_)
        rw [hw (by omega), x3, nI_l (by omega), show (10 : Int64) = lN 10 from rfl, lN_mul, lN_add, show (48 : Int64) = lN 48 from rfl, lN_sub (by omega), tiI (by omega)]
        rw [show 10 * a + x - 48 = a * 10 + (((x : Nat) : Int).toNat - 48) by omega]
    · rw [if_neg c, if_pos rfl, if_neg c, Nat.sub_self]
      exact fin i a μ (by omega) hf h4 hw
theorem sgn_cases (b : Int32) : (sgn b = -23 ∧ ¬ (b = 40 ∨ b = 41 ∨ b = 42 ∨ b = 43 ∨ b = 45 ∨ b = 59 ∨ b = 60 ∨ b = 61)) ∨ b = 40 ∨ b = 41 ∨ b = 42 ∨ b = 43 ∨ b = 45 ∨ b = 59 ∨ b = 60 ∨ b = 61 := by
  by_cases h : b = 40 ∨ b = 41 ∨ b = 42 ∨ b = 43 ∨ b = 45 ∨ b = 59 ∨ b = 60 ∨ b = 61
  · exact Or.inr h
  · refine Or.inl ⟨?_, h⟩
    unfold sgn
    rw [if_neg (fun q => h (by simp [q])), if_neg (fun q => h (by simp [q])), if_neg (fun q => h (by simp [q])), if_neg (fun q => h (by simp [q])), if_neg (fun q => h (by simp [q])), if_neg (fun q => h (by simp [q])), if_neg (fun q => h (by simp [q])), if_neg (fun q => h (by simp [q]))]
theorem next_b0 {B : Nat → Int32} {t base : Nat} : ∀ (d i F : Nat) (μ : St), i + d = t → d < F → TapM B t base μ → μ.1 0 20 = nI i → ∃ μ', X10_next_b0 F μ = some μ' ∧ μ'.1 0 22 = nI (spn blnk B d i) ∧ (tkC B t (spn blnk B d i) ≠ -23 → μ'.1 0 20 = nI (tkN B t (spn blnk B d i))) ∧ KindM B t (spn blnk B d i) μ' ∧ FrN μ μ' := by
  -- behind the blanks
  have fin : ∀ (f : Nat) (μ : St), f ≤ t → t ≤ 160 → TapM B t base μ → μ.1 0 20 = nI f → ∃ μ', ((X10_byteAt ((up μ 0 22 (nI f)).1 0 20) (up μ 0 22 (nI f))).bind (fun x52 => if 0 ≤ x52 then ((X10_in (Int32.toInt64 x52) 97 122).bind (fun x89 => if x89 = 0 then ((X10_in (Int32.toInt64 x52) 48 57).bind (fun x142 => if x142 = 0 then (if x52 = 40 then (X10_next_b300 x52 (up (up μ 0 22 (nI f)) 0 21 4)) else (if x52 = 41 then (X10_next_b300 x52 (up (up μ 0 22 (nI f)) 0 21 4)) else (if x52 = 59 then (X10_next_b300 x52 (up (up μ 0 22 (nI f)) 0 21 4)) else (if x52 = 43 then (X10_next_b300 x52 (up (up μ 0 22 (nI f)) 0 21 4)) else (if x52 = 45 then (X10_next_b300 x52 (up (up μ 0 22 (nI f)) 0 21 4)) else (if x52 = 42 then (X10_next_b300 x52 (up (up μ 0 22 (nI f)) 0 21 4)) else (if x52 = 60 then (X10_next_b300 x52 (up (up μ 0 22 (nI f)) 0 21 4)) else (if x52 = 61 then (X10_next_b300 x52 (up (up μ 0 22 (nI f)) 0 21 4)) else (some (up (up μ 0 22 (nI f)) 0 21 4)))))))))) else (X10_next_b160 FU 0 (upL (up (up (up μ 0 22 (nI f)) 0 21 4) 0 21 2) 0)))) else (X10_next_b100 FU (up (up (up μ 0 22 (nI f)) 0 21 4) 0 21 1)))) else (some (up (up (up (up μ 0 22 (nI f)) 0 21 4) 0 21 0) 0 22 ((up (up (up μ 0 22 (nI f)) 0 21 4) 0 21 0).1 0 19))))) = some μ' ∧ μ'.1 0 22 = nI f ∧ (tkC B t f ≠ -23 → μ'.1 0 20 = nI (tkN B t f)) ∧ KindM B t f μ' ∧ FrN μ μ' := fun f μ hf ht hT h4 => by
    have T1 : TapM B t base (up μ 0 22 (nI f)) := hT.keep (up_pl (by decide)) (up_pl (by decide)) (fun j => up_lo (by decide))
    have q4 : (up μ 0 22 (nI f)).1 0 20 = nI f := (up_pl (by decide)).trans h4
    rw [q4]
    by_cases c : t ≤ f
    · rw [byteMno T1 c (by omega), Option.bind_some, if_neg (show ¬ (0 : Int32) ≤ -1 by decide)]
      refine ⟨_, rfl, ?_, fun _ => ?_, Or.inl ⟨c, ?_⟩, fun a b q => ?_⟩
      · rw [up_eq, up_pl (by decide), up_pl (by decide), T1.2.2.2.1, show t = f by omega]
      · unfold tkN
        rw [if_pos c, up_pl (by decide), up_pl (by decide), up_pl (by decide), q4]
      · rw [up_pl (by decide), up_eq]
      · rw [up_get, if_neg (by omega), up_get, if_neg (by omega), up_get, if_neg (by omega), up_get, if_neg (by omega)]
    · have hb := hT.2.1 f (by omega)
      rw [byteM T1 (by omega), Option.bind_some, if_pos (show 0 ≤ B f by rw [Int32.le_iff_toInt_le, t0]; exact hb.1), inLet, Option.bind_some]
      by_cases c1 : lettr (B f) = true
      · rw [if_pos c1, if_neg ne10]
        have T2 : TapM B t base (up (up (up μ 0 22 (nI f)) 0 21 4) 0 21 1) := (T1.keep (up_pl (by decide)) (up_pl (by decide)) (fun j => up_lo (by decide))).keep (up_pl (by decide)) (up_pl (by decide)) (fun j => up_lo (by decide))
        obtain ⟨μ', a1, a2, a3⟩ := lettersM (t - f) f FU _ (by omega) (by rw [FU_eq]; omega) T2 (by rw [up_pl (by decide), up_pl (by decide)]; exact q4)
        have en : tkN B t f = spn lettr B (t - f) f := by
          unfold tkN
          rw [if_neg c, if_pos c1]
        refine ⟨μ', a1, ?_, fun _ => by rw [en]; exact a2, Or.inr (Or.inl ⟨by omega, c1, ?_, by rw [en]; exact a2⟩), fun a b q => ?_⟩
        · rw [a3 _ _ (by decide), up_pl (by decide), up_pl (by decide), up_eq]
        · rw [a3 _ _ (by decide), up_eq]
        · rw [a3 a b (by omega), up_get, if_neg (by omega), up_get, if_neg (by omega), up_get, if_neg (by omega)]
      · rw [if_neg c1, if_pos rfl, inDig, Option.bind_some]
        by_cases c2 : digt (B f) = true
        · rw [if_pos c2, if_neg ne10]
          have T2 : TapM B t base (upL (up (up (up μ 0 22 (nI f)) 0 21 4) 0 21 2) 0) := T1.keep (by rw [upL_get, up_pl (by decide), up_pl (by decide)]) (by rw [upL_get, up_pl (by decide), up_pl (by decide)]) (fun j => by rw [upL_get, up_lo (by decide), up_lo (by decide)])
          obtain ⟨μ', a1, a2, a3, a4, a5⟩ := digitsM (f := f) (t - f) f FU 0 _ (by omega) (by rw [FU_eq]; omega) (Nat.le_refl _) T2 (show (up (up (up μ 0 22 (nI f)) 0 21 4) 0 21 2).1 0 20 = nI f by rw [up_pl (by decide), up_pl (by decide)]; exact q4) (fun _ => rfl)
          rw [Nat.sub_self] at a1
          have en : tkN B t f = spn digt B (t - f) f := by
            unfold tkN
            rw [if_neg c, if_neg c1, if_pos c2]
          refine ⟨μ', a1, ?_, fun _ => by rw [en]; exact a2, Or.inr (Or.inr (Or.inl ⟨by omega, c1, c2, ?_⟩)), fun a b q => ?_⟩
          · rw [a5 _ _ (by decide)]
            show (up (up (up μ 0 22 (nI f)) 0 21 4) 0 21 2).1 0 22 = nI f
            rw [up_pl (by decide), up_pl (by decide), up_eq]
          · by_cases c5 : 4 < spn digt B (t - f) f - f
            · exact Or.inr ⟨c5, by rw [a3, if_pos c5]⟩
            · exact Or.inl ⟨c5, by rw [a3, if_neg c5], a4 c5⟩
          · rw [a5 a b (by omega)]
            show (up (up (up μ 0 22 (nI f)) 0 21 4) 0 21 2).1 a b = μ.1 a b
            rw [up_get, if_neg (by omega), up_get, if_neg (by omega), up_get, if_neg (by omega)]
        · rw [if_neg c2, if_pos rfl]
          have en : tkN B t f = f + 1 := by
            unfold tkN
            rw [if_neg c, if_neg c1, if_neg c2]
          have ec : tkC B t f = sgn (B f) := by
            unfold tkC
            rw [if_neg c, if_neg c1, if_neg c2]
          have sign : sgn (B f) ≠ -23 → ∃ μ', X10_next_b300 (B f) (up (up μ 0 22 (nI f)) 0 21 4) = some μ' ∧ μ'.1 0 22 = nI f ∧ (tkC B t f ≠ -23 → μ'.1 0 20 = nI (tkN B t f)) ∧ KindM B t f μ' ∧ FrN μ μ' := fun hs => by
            unfold X10_next_b300
            refine ⟨_, rfl, ?_, fun _ => ?_, Or.inr (Or.inr (Or.inr ⟨by omega, c1, c2, Or.inl ⟨hs, ?_, rfl⟩⟩)), fun a b q => ?_⟩
            · rw [up_pl (by decide), upL_get, up_pl (by decide), up_pl (by decide), up_eq]
            · rw [up_eq, upL_get, up_pl (by decide), up_pl (by decide), q4, nI_1, en]
            · rw [up_pl (by decide), upL_get, up_eq]
            · rw [up_get, if_neg (by omega), upL_get, up_get, if_neg (by omega), up_get, if_neg (by omega), up_get, if_neg (by omega)]
          rcases sgn_cases (B f) with ⟨h, hno⟩ | h | h | h | h | h | h | h | h
          · rw [if_neg (fun q => hno (by simp [q])), if_neg (fun q => hno (by simp [q])), if_neg (fun q => hno (by simp [q])), if_neg (fun q => hno (by simp [q])), if_neg (fun q => hno (by simp [q])), if_neg (fun q => hno (by simp [q])), if_neg (fun q => hno (by simp [q])), if_neg (fun q => hno (by simp [q]))]
            refine ⟨_, rfl, ?_, fun q => absurd (ec.trans h) q, Or.inr (Or.inr (Or.inr ⟨by omega, c1, c2, Or.inr ⟨h, up_eq⟩⟩)), fun a b q => ?_⟩
            · rw [up_pl (by decide), up_eq]
            · rw [up_get, if_neg (by omega), up_get, if_neg (by omega)]
          · rw [if_pos h]
            exact sign (by rw [h]; decide)
          · rw [if_neg (show ¬ B f = 40 by rw [h]; decide), if_pos h]
            exact sign (by rw [h]; decide)
          · rw [if_neg (show ¬ B f = 40 by rw [h]; decide), if_neg (show ¬ B f = 41 by rw [h]; decide), if_neg (show ¬ B f = 59 by rw [h]; decide), if_neg (show ¬ B f = 43 by rw [h]; decide), if_neg (show ¬ B f = 45 by rw [h]; decide), if_pos h]
            exact sign (by rw [h]; decide)
          · rw [if_neg (show ¬ B f = 40 by rw [h]; decide), if_neg (show ¬ B f = 41 by rw [h]; decide), if_neg (show ¬ B f = 59 by rw [h]; decide), if_pos h]
            exact sign (by rw [h]; decide)
          · rw [if_neg (show ¬ B f = 40 by rw [h]; decide), if_neg (show ¬ B f = 41 by rw [h]; decide), if_neg (show ¬ B f = 59 by rw [h]; decide), if_neg (show ¬ B f = 43 by rw [h]; decide), if_pos h]
            exact sign (by rw [h]; decide)
          · rw [if_neg (show ¬ B f = 40 by rw [h]; decide), if_neg (show ¬ B f = 41 by rw [h]; decide), if_pos h]
            exact sign (by rw [h]; decide)
          · rw [if_neg (show ¬ B f = 40 by rw [h]; decide), if_neg (show ¬ B f = 41 by rw [h]; decide), if_neg (show ¬ B f = 59 by rw [h]; decide), if_neg (show ¬ B f = 43 by rw [h]; decide), if_neg (show ¬ B f = 45 by rw [h]; decide), if_neg (show ¬ B f = 42 by rw [h]; decide), if_pos h]
            exact sign (by rw [h]; decide)
          · rw [if_neg (show ¬ B f = 40 by rw [h]; decide), if_neg (show ¬ B f = 41 by rw [h]; decide), if_neg (show ¬ B f = 59 by rw [h]; decide), if_neg (show ¬ B f = 43 by rw [h]; decide), if_neg (show ¬ B f = 45 by rw [h]; decide), if_neg (show ¬ B f = 42 by rw [h]; decide), if_neg (show ¬ B f = 60 by rw [h]; decide), if_pos h]
            exact sign (by rw [h]; decide)
  intro d
  induction d with
  | zero =>
    intro i F μ hi hF hT h4
    have ht := hT.1.1
    obtain ⟨F', rfl⟩ : ∃ F', F = F' + 1 := ⟨F - 1, by omega⟩
    rw [X10_next_b0, h4, byteMno hT (by omega) (by omega), Option.bind_some, if_neg (show ¬ (-1 : Int32) = 32 by decide), Option.bind_some, if_neg (show ¬ (-1 : Int32) = 10 by decide)]
    exact fin i μ (by omega) ht hT h4
  | succ d ih =>
    intro i F μ hi hF hT h4
    have ht := hT.1.1
    obtain ⟨F', rfl⟩ : ∃ F', F = F' + 1 := ⟨F - 1, by omega⟩
    rw [X10_next_b0, h4, byteM hT (by omega), Option.bind_some]
    unfold X10_next_b26 spn
    rw [h4, nI_1, Option.bind_some]
    have more : ∃ μ', X10_next_b0 F' (up μ 0 20 (nI (i + 1))) = some μ' ∧ μ'.1 0 22 = nI (spn blnk B d (i + 1)) ∧ (tkC B t (spn blnk B d (i + 1)) ≠ -23 → μ'.1 0 20 = nI (tkN B t (spn blnk B d (i + 1)))) ∧ KindM B t (spn blnk B d (i + 1)) μ' ∧ FrN μ μ' := by
      obtain ⟨μ', a1, a2, a3, a4, a5⟩ := ih (i + 1) F' (up μ 0 20 (nI (i + 1))) (by omega) (by omega) (hT.keep (up_pl (by decide)) (up_pl (by decide)) (fun j => up_lo (by decide))) up_eq
      exact ⟨μ', a1, a2, a3, a4, fun a b q => by rw [a5 a b q, up_get, if_neg (by omega)]⟩
    by_cases c : B i = 32
    · rw [if_pos c, if_pos (show blnk (B i) = true from decide_eq_true (Or.inl c))]
      exact more
    · rw [if_neg c]
      by_cases c2 : B i = 10
      · rw [if_pos c2, if_pos (show blnk (B i) = true from decide_eq_true (Or.inr c2))]
        exact more
      · rw [if_neg c2, if_neg (show ¬ blnk (B i) = true from fun q => (of_decide_eq_true q).elim c c2)]
        exact fin i μ (by omega) ht hT h4
theorem nextM {B : Nat → Int32} {t base pos : Nat} (hp : pos ≤ t) {μ : St} (hT : TapM B t base μ) (h4 : μ.1 0 20 = nI pos) : ∃ μ', X10_next μ = some μ' ∧ TokM B t base pos μ' ∧ FrN μ μ' := by
  have ht := hT.1.1
  obtain ⟨μ', a1, a2, a3, a4, a5⟩ := next_b0 (t - pos) pos FU μ (by omega) (by rw [FU_eq]; omega) hT h4
  exact ⟨μ', a1, ⟨hT.n a5, hp, a2, a3, a4⟩, a5⟩
theorem TokM.next {B : Nat → Int32} {t base pos : Nat} {μ : St} (h : TokM B t base pos μ) (hc : tokC B t pos ≠ -23) : ∃ μ', X10_next μ = some μ' ∧ TokM B t base (tokN B t pos) μ' ∧ FrN μ μ' := nextM (tokN_le h.2.1).2 h.1 (h.2.2.2.1 hc)
