def FrL (σ σ' : St) : Prop := ∀ a b, ¬ (a = 11 ∧ 2 ≤ b) → σ'.1 a b = σ.1 a b
theorem FrL.refl (σ : St) : FrL σ σ := fun _ _ _ => rfl
theorem FrL.trans {a b c : St} (h1 : FrL a b) (h2 : FrL b c) : FrL a c := fun i j h => (h2 i j h).trans (h1 i j h)
theorem TapX.fr {B : Nat → Int32} {t : Nat} {σ σ' : St} (h : TapX B t σ) (k : FrL σ σ') : TapX B t σ' := h.keep (k _ _ (by decide)) (fun j => k _ _ (by omega))
/-- only where it stands has changed -/
def Fr4 (σ σ' : St) : Prop := ∀ a b, ¬ (a = 11 ∧ b = 4) → σ'.1 a b = σ.1 a b
theorem Fr4.l {σ σ' : St} (h : Fr4 σ σ') : FrL σ σ' := fun a b q => h a b (by omega)
theorem blanks {B : Nat → Int32} {t : Nat} : ∀ (d i F : Nat) (σ : St), i + d = t → d < F → TapX B t σ → σ.1 11 4 = nI i → ∃ σ', X7_step_b0 F σ = X7_step_b38 σ' ∧ σ'.1 11 4 = nI (spn blnk B d i) ∧ Fr4 σ σ' := by
  intro d
  induction d with
  | zero =>
    intro i F σ hi hF hT h4
    have ht := hT.1
    obtain ⟨F', rfl⟩ : ∃ F', F = F' + 1 := ⟨F - 1, by omega⟩
    rw [X7_step_b0, hT.2.1, h4, if_pos (show nI t ≤ nI i by rw [nI_leI (by omega) (by omega)]; omega)]
    exact ⟨σ, rfl, h4, fun _ _ _ => rfl⟩
  | succ d ih =>
    intro i F σ hi hF hT h4
    have ht := hT.1
    obtain ⟨F', rfl⟩ : ∃ F', F = F' + 1 := ⟨F - 1, by omega⟩
    rw [X7_step_b0, hT.2.1, h4, if_neg (show ¬ nI t ≤ nI i by rw [nI_leI (by omega) (by omega)]; omega), byteX hT (by omega), Option.bind_some, blankX, Option.bind_some, nI_1]
    unfold spn
    by_cases c : blnk (B i) = true
    · rw [if_pos c, if_neg ne10, if_pos c]
      obtain ⟨σ', a1, a2, a3⟩ := ih (i + 1) F' (up σ 11 4 (nI (i + 1))) (by omega) (by omega) (hT.keep (up_pl (by decide)) (fun j => up_lo (by decide))) up_eq
      exact ⟨σ', a1, a2, fun a b q => by rw [a3 a b q, up_get, if_neg q]⟩
    · rw [if_neg c, if_pos rfl, if_neg c]
      exact ⟨σ, rfl, h4, fun _ _ _ => rfl⟩
theorem letters {B : Nat → Int32} {t f : Nat} : ∀ (d i F : Nat) (σ : St), i + d = t → d < F → f ≤ i → TapX B t σ → σ.1 11 3 = nI f → σ.1 11 4 = nI i → ∃ σ', X7_wordFromHere_b0 F σ = some (wCode B f (spn lettr B d i), σ') ∧ σ'.1 11 4 = nI (spn lettr B d i) ∧ Fr4 σ σ' := by
  intro d
  induction d with
  | zero =>
    intro i F σ hi hF hf hT h3 h4
    have ht := hT.1
    obtain ⟨F', rfl⟩ : ∃ F', F = F' + 1 := ⟨F - 1, by omega⟩
    rw [X7_wordFromHere_b0, hT.2.1, h4, if_pos (show nI t ≤ nI i by rw [nI_leI (by omega) (by omega)]; omega), word38 hT h3 h4 hf (by omega)]
    exact ⟨σ, rfl, h4, fun _ _ _ => rfl⟩
  | succ d ih =>
    intro i F σ hi hF hf hT h3 h4
    have ht := hT.1
    obtain ⟨F', rfl⟩ : ∃ F', F = F' + 1 := ⟨F - 1, by omega⟩
    rw [X7_wordFromHere_b0, hT.2.1, h4, if_neg (show ¬ nI t ≤ nI i by rw [nI_leI (by omega) (by omega)]; omega), byteX hT (by omega), Option.bind_some, letterX, Option.bind_some, nI_1]
    unfold spn
    by_cases c : lettr (B i) = true
    · rw [if_pos c, if_neg ne10, if_pos c]
      obtain ⟨σ', a1, a2, a3⟩ := ih (i + 1) F' (up σ 11 4 (nI (i + 1))) (by omega) (by omega) (by omega) (hT.keep (up_pl (by decide)) (fun j => up_lo (by decide))) ((up_pl (by decide)).trans h3) up_eq
      exact ⟨σ', a1, a2, fun a b q => by rw [a3 a b q, up_get, if_neg q]⟩
    · rw [if_neg c, if_pos rfl, if_neg c, word38 hT h3 h4 hf (by omega)]
      exact ⟨σ, rfl, h4, fun _ _ _ => rfl⟩
theorem digtN {b : Int32} (h : digt b = true) : ∃ x, 48 ≤ x ∧ x ≤ 57 ∧ b = nI x := by
  have h1 := of_decide_eq_true h
  obtain ⟨q1, q2⟩ := nI_of_toInt (show 0 ≤ b.toInt by omega)
  exact ⟨b.toInt.toNat, by omega, by omega, q1⟩
theorem num57 {B : Nat → Int32} {f n : Nat} (hf : f ≤ n) (hn : n ≤ 160) {v : Nat} {σ : St} (h3 : σ.1 11 3 = nI f) (h4 : σ.1 11 4 = nI n) : X7_numberFromHere_b57 (nI v) σ = some (if 4 < n - f then -23 else nI v, σ) := by
  unfold X7_numberFromHere_b57
  rw [h3, h4, pk_sub hf]
  by_cases c : 4 < n - f
  · rw [if_pos c, if_neg (show ¬ nI (n - f) ≤ 4 by rw [show (4 : Int32) = nI 4 from rfl, nI_leI (by omega) (by decide)]; omega)]
  · rw [if_neg c, if_pos (show nI (n - f) ≤ 4 by rw [show (4 : Int32) = nI 4 from rfl, nI_leI (by omega) (by decide)]; omega)]
theorem digits {B : Nat → Int32} {t f : Nat} : ∀ (d i F a : Nat) (σ : St), i + d = t → d < F → f ≤ i → TapX B t σ → σ.1 11 3 = nI f → σ.1 11 4 = nI i → ∃ σ', X7_numberFromHere_b2 F (nI a) σ = some (if 4 < spn digt B d i - f then -23 else nI (numN B (spn digt B d i - i) i a), σ') ∧ σ'.1 11 4 = nI (spn digt B d i) ∧ Fr4 σ σ' := by
  intro d
  induction d with
  | zero =>
    intro i F a σ hi hF hf hT h3 h4
    have ht := hT.1
    obtain ⟨F', rfl⟩ : ∃ F', F = F' + 1 := ⟨F - 1, by omega⟩
    rw [X7_numberFromHere_b2, hT.2.1, h4, if_pos (show nI t ≤ nI i by rw [nI_leI (by omega) (by omega)]; omega), num57 (B := B) hf (by omega) h3 h4]
    refine ⟨σ, ?_, h4, fun _ _ _ => rfl⟩
    unfold spn
    rw [Nat.sub_self]
    rfl
  | succ d ih =>
    intro i F a σ hi hF hf hT h3 h4
    have ht := hT.1
    obtain ⟨F', rfl⟩ : ∃ F', F = F' + 1 := ⟨F - 1, by omega⟩
    rw [X7_numberFromHere_b2, hT.2.1, h4, if_neg (show ¬ nI t ≤ nI i by rw [nI_leI (by omega) (by omega)]; omega), byteX hT (by omega), Option.bind_some, digitX, Option.bind_some, nI_1]
    unfold spn
    by_cases c : digt (B i) = true
    · obtain ⟨x, x1, x2, x3⟩ := digtN c
      have e1 : nI a * 10 + B i - 48 = nI (a * 10 + ((B i).toInt.toNat - 48)) := by
        rw [x3, show (10 : Int32) = nI 10 from rfl, pk_mul, nI_add, show (48 : Int32) = nI 48 from rfl, pk_sub (by omega), tiI (by omega)]
        rw [show a * 10 + x - 48 = a * 10 + (((x : Nat) : Int).toNat - 48) by omega]
      rw [if_pos c, if_neg ne10, Option.bind_some, e1, if_pos c]
      obtain ⟨σ', a1, a2, a3⟩ := ih (i + 1) F' (a * 10 + ((B i).toInt.toNat - 48)) (up σ 11 4 (nI (i + 1))) (by omega) (by omega) (by omega) (hT.keep (up_pl (by decide)) (fun j => up_lo (by decide))) ((up_pl (by decide)).trans h3) up_eq
      refine ⟨σ', ?_, a2, fun a b q => by rw [a3 a b q, up_get, if_neg q]⟩
      have h1 := (spn_le digt B d (i + 1)).1
      rw [show spn digt B d (i + 1) - i = (spn digt B d (i + 1) - (i + 1)) + 1 by omega]
      exact a1
    · rw [if_neg c, if_pos rfl, if_neg c, num57 (B := B) hf (by omega) h3 h4, Nat.sub_self]
      exact ⟨σ, rfl, h4, fun _ _ _ => rfl⟩
theorem step38 {B : Nat → Int32} {t f : Nat} (hf : f ≤ t) {σ : St} (hT : TapX B t σ) (h4 : σ.1 11 4 = nI f) : ∃ σ', X7_step_b38 σ = some σ' ∧ σ'.1 11 2 = tkC B t f ∧ σ'.1 11 3 = nI f ∧ σ'.1 11 4 = nI (tkN B t f) ∧ FrL σ σ' := by
  have ht := hT.1
  have hT3 : TapX B t (up σ 11 3 (nI f)) := hT.keep (up_pl (by decide)) (fun j => up_lo (by decide))
  have q4 : (up σ 11 3 (nI f)).1 11 4 = nI f := (up_pl (by decide)).trans h4
  have fr3 : FrL σ (up σ 11 3 (nI f)) := fun a b q => by rw [up_get, if_neg (by omega)]
  have fr2 : ∀ (τ : St) v, FrL τ (up τ 11 2 v) := fun τ v a b q => by rw [up_get, if_neg (by omega)]
  unfold X7_step_b38 tkC tkN
  rw [h4, q4, hT3.2.1]
  by_cases c : t ≤ f
  · rw [if_neg (show ¬ nI f < nI t by rw [nI_ltI (by omega) (by omega)]; omega), if_pos c, if_pos c]
    exact ⟨_, rfl, up_eq, by rw [up_pl (by decide), up_eq], by rw [up_pl (by decide)]; exact q4, fr3.trans (fr2 _ _)⟩
  · rw [if_pos (show nI f < nI t by rw [nI_ltI (by omega) (by omega)]; omega), if_neg c, if_neg c, byteX hT3 (by omega), Option.bind_some, letterX, Option.bind_some]
    by_cases c1 : lettr (B f) = true
    · rw [if_pos c1, if_neg ne10, if_pos c1, if_pos c1]
      obtain ⟨σ', a1, a2, a3⟩ := letters (f := f) (t - f) f FU (up σ 11 3 (nI f)) (by omega) (by rw [FU_eq]; omega) (Nat.le_refl _) hT3 up_eq q4
      unfold X7_wordFromHere
      rw [a1, Option.bind_some]
      exact ⟨_, rfl, up_eq, by rw [up_pl (by decide), a3 _ _ (by decide), up_eq], by rw [up_pl (by decide)]; exact a2, (fr3.trans a3.l).trans (fr2 _ _)⟩
    · rw [if_neg c1, if_pos rfl, if_neg c1, if_neg c1, Option.bind_some, digitX, Option.bind_some]
      by_cases c2 : digt (B f) = true
      · rw [if_pos c2, if_neg ne10, if_pos c2, if_pos c2]
        obtain ⟨σ', a1, a2, a3⟩ := digits (f := f) (t - f) f FU 0 (up σ 11 3 (nI f)) (by omega) (by rw [FU_eq]; omega) (Nat.le_refl _) hT3 up_eq q4
        unfold X7_numberFromHere
        rw [show X7_numberFromHere_b2 FU 0 (up σ 11 3 (nI f)) = _ from a1, Option.bind_some]
        exact ⟨_, rfl, up_eq, by rw [up_pl (by decide), a3 _ _ (by decide), up_eq], by rw [up_pl (by decide)]; exact a2, (fr3.trans a3.l).trans (fr2 _ _)⟩
      · rw [if_neg c2, if_pos rfl, if_neg c2, if_neg c2, Option.bind_some, signX, Option.bind_some]
        have q5 : (up (up σ 11 3 (nI f)) 11 2 (sgn (B f))).1 11 4 = nI f := (up_pl (by decide)).trans q4
        rw [q5, nI_1]
        refine ⟨_, rfl, by rw [up_pl (by decide), up_eq], by rw [up_pl (by decide), up_pl (by decide), up_eq], up_eq, (fr3.trans (fr2 _ _)).trans (fun a b q => by rw [up_get, if_neg (by omega)])⟩
theorem stepX {B : Nat → Int32} {t pos : Nat} (hp : pos ≤ t) {σ : St} (hT : TapX B t σ) (h4 : σ.1 11 4 = nI pos) : ∃ σ', X7_step σ = some σ' ∧ LexX B t pos σ' ∧ FrL σ σ' := by
  have ht := hT.1
  obtain ⟨σ1, a1, a2, a3⟩ := blanks (t - pos) pos FU σ (by omega) (by rw [FU_eq]; omega) hT h4
  obtain ⟨σ2, b1', b2, b3, b4, b5⟩ := step38 (B := B) (t := t) (f := tokF B t pos) (tokF_le hp).2 (hT.fr a3.l) a2
  refine ⟨σ2, ?_, ⟨(hT.fr a3.l).fr b5, hp, b2, b3, b4⟩, a3.l.trans b5⟩
  unfold X7_step
  rw [a1]
  exact b1'
theorem LexX.step {B : Nat → Int32} {t pos : Nat} {σ : St} (h : LexX B t pos σ) : ∃ σ', X7_step σ = some σ' ∧ LexX B t (tokN B t pos) σ' ∧ FrL σ σ' := stepX (tokN_le h.2.1).2 h.1 h.2.2.2.2
