def FrP (kk : Nat) (σ σ' : St) : Prop := ∀ a b, ¬ (a = 11 ∧ 2 ≤ b) → a ≠ 15 + kk → ¬ ((a = 21 ∨ a = 22 ∨ a = 23) ∧ b = kk) → σ'.1 a b = σ.1 a b
theorem FrP.trans {kk : Nat} {a b c : St} (h1 : FrP kk a b) (h2 : FrP kk b c) : FrP kk a c := fun i j p q r => (h2 i j p q r).trans (h1 i j p q r)
theorem FrW.p {kk : Nat} {σ σ' : St} (h : FrW kk σ σ') : FrP kk σ σ' := fun a b p q r => h a b p q (by omega)
theorem begPart {kk : Nat} {l : List Int32} {σ : St} (h : WrX kk l σ) {key : Int32} (hk : key = -16 ∨ key = -17 ∨ key = -18) : ∃ σ', X8_beginPart key σ = some σ' ∧ (∀ a b, ¬ ((a = 21 ∨ a = 22) ∧ b = kk) → σ'.1 a b = σ.1 a b) ∧ σ'.1 21 kk = (if key = -17 then nI l.length else σ.1 21 kk) ∧ σ'.1 22 kk = (if key = -18 then nI l.length else σ.1 22 kk) := by
  obtain ⟨h1, h2, h3, h4⟩ := h
  have o6 : ¬ ob (nI kk) 6 := by rw [ob_iff (by decide), tiI (by omega)]; omega
  unfold X8_beginPart
  rw [fullX h1 h2, Option.bind_some, if_pos rfl, h2]
  simp only [if_neg o6, tnI (show kk < 2 ^ 31 by omega), h3]
  rcases hk with rfl | rfl | rfl
  · rw [if_neg (by decide), if_neg (by decide)]
    exact ⟨σ, rfl, fun _ _ _ => rfl, (if_neg (by decide)).symm, (if_neg (by decide)).symm⟩
  · rw [if_pos rfl]
    exact ⟨_, rfl, fun a b q => by rw [up_get, if_neg (by omega)], by rw [up_eq, if_pos rfl], by rw [up_lo (by decide)]; exact (if_neg (by decide)).symm⟩
  · rw [if_neg (by decide), if_pos rfl]
    exact ⟨_, rfl, fun a b q => by rw [up_get, if_neg (by omega)], by rw [up_lo (by decide)]; exact (if_neg (by decide)).symm, by rw [up_eq, if_pos rfl]⟩
def SpP (B : Nat → Int32) (t kk : Nat) (key : Int32) (r : PR) (l : List Int32) (σ : St) (o : Option (Int32 × St)) : Prop := match r with
  | (none, q) => ∃ σ', o = some (0, σ') ∧ LexX B t q σ' ∧ FrP kk σ σ'
  | (some l', q) => ∃ σ', o = some (1, σ') ∧ LexX B t q σ' ∧ WrX kk (l ++ l') σ' ∧ FrP kk σ σ' ∧ σ'.1 21 kk = (if key = -17 then nI l.length else σ.1 21 kk) ∧ σ'.1 22 kk = (if key = -18 then nI l.length else σ.1 22 kk)
theorem part_X {B : Nat → Int32} {t kk pos : Nat} {key : Int32} (hk : key = -16 ∨ key = -17 ∨ key = -18) {σ : St} {l : List Int32} (hL : LexX B t pos σ) (hW : WrX kk l σ) (hl : l.length ≤ tokF B t pos) : SpP B t kk key (pPart B t key pos) l σ (X2_readPart key σ) := by
  have hp := hL.2.1
  have hk6 := hW.1
  obtain ⟨σ1, a1, a2, a3, a4⟩ := begPart hW hk
  have L1 : LexX B t pos σ1 := hL.keep (fun a b q => a2 a b (by omega))
  have W1 : WrX kk l σ1 := hW.keep (a2 _ _ (by omega)) (a2 _ _ (by omega)) (fun j => a2 _ _ (by omega))
  have f1 : FrP kk σ σ1 := fun a b p q r => a2 a b (by omega)
  unfold pPart X2_readPart
  rw [a1, Option.bind_some]
  unfold X2_readToken
  rw [L1.2.2.1]
  by_cases c1 : tokC B t pos = key
  · obtain ⟨σ2, b1', b2, b3⟩ := L1.step
    have W2 := W1.l b3
    have hn := tokF_next (B := B) hp (by rw [c1]; rcases hk with rfl | rfl | rfl <;> decide)
    have h := top_X (tokN B t pos) σ2 l b2 W2 (by omega)
    rw [if_pos c1, if_pos c1, b1', Option.bind_some, Option.bind_some, if_neg ne10]
    dsimp only at h ⊢
    revert h
    rcases pOr B t (fun a b => recP B t 5 a b) 5 (tokN B t pos) with ⟨_ | l', q⟩
    · intro h
      obtain ⟨σ3, d1, d2, d3⟩ := h
      rw [d1, Option.bind_some, if_pos rfl]
      exact ⟨σ3, rfl, d2, f1.trans (b3.w.trans d3).p⟩
    · intro h
      obtain ⟨σ3, d1, d2, d3, d4⟩ := h
      have fw : FrW kk σ1 σ3 := b3.w.trans d4
      rw [d1, Option.bind_some, if_neg ne10]
      show SpP B t kk key (if tokC B t q = -21 then (some l', tokN B t q) else (none, q)) l σ _
      dsimp only
      rw [d2.2.2.1]
      by_cases c4 : tokC B t q = -21
      · obtain ⟨σ4, e1, e2, e3⟩ := d2.step
        have fx : FrW kk σ1 σ4 := fw.trans e3.w
        rw [if_pos c4, if_pos c4, e1, Option.bind_some, Option.bind_some, if_neg ne10]
        exact ⟨σ4, rfl, e2, d3.l e3, f1.trans fx.p, (fx _ _ (by omega) (by omega) (by omega)).trans a3, (fx _ _ (by omega) (by omega) (by omega)).trans a4⟩
      · rw [if_neg c4, if_neg c4, Option.bind_some, if_pos rfl]
        exact ⟨σ3, rfl, d2, f1.trans fw.p⟩
  · rw [if_neg c1, if_neg c1, Option.bind_some, if_pos rfl]
    exact ⟨σ1, rfl, L1, f1⟩
/-- a text: its parts, or the place of its fault -/
def pText (B : Nat → Int32) (t : Nat) : Option (List Int32 × List Int32 × List Int32) × Nat := match pPart B t (-16) 0 with
  | (none, q) => (none, tokF B t q)
  | (some l0, q0) => match pPart B t (-17) q0 with
    | (none, q) => (none, tokF B t q)
    | (some l1, q1) => match pPart B t (-18) q1 with
      | (none, q) => (none, tokF B t q)
      | (some l2, q2) => if tokC B t q2 = -22 then (some (l0, l1, l2), 0) else (none, tokF B t q2)
theorem LexX.f_le {B : Nat → Int32} {t q : Nat} {σ : St} (h : LexX B t q σ) : tokF B t q ≤ t := (tokF_le h.2.1).2
theorem read_X {B : Nat → Int32} {t kk : Nat} {σ : St} (hT : TapX B t σ) (hk : kk < 6) (h5 : σ.1 13 5 = nI kk) : match pText B t with
    | (none, f) => f ≤ t ∧ ∃ σ', X2_read σ = some ((-100) - nI f, up σ' 11 1 0) ∧ FrP kk σ σ'
    | (some (l0, l1, l2), _) => (∀ p, p < 3 → ∀ nm, ∃ v, Val nm (segP l0 l1 l2 p) v) ∧ ∃ σ', X2_read σ = some (nI kk, up (up σ' 11 1 0) 13 5 (nI (kk + 1))) ∧ DraftX kk l0 l1 l2 σ' ∧ FrP kk σ σ' := by
  have ht := hT.1
  have o6 : ¬ ob (nI kk) 6 := by rw [ob_iff (by decide), tiI (by omega)]; omega
  have e0 : X8_beginDraft σ = some (up σ 23 kk 0) := by
    unfold X8_beginDraft
    rw [fullX hk h5, Option.bind_some, if_pos rfl, h5, if_neg o6, tnI (by omega)]
  have T1 : TapX B t (up (up σ 23 kk 0) 11 4 0) := hT.keep (by rw [up_pl (by decide), up_lo (by decide)]) (fun j => by rw [up_lo (by decide), up_lo (by decide)])
  obtain ⟨σ1, a1, a2, a3⟩ := stepX (pos := 0) (Nat.zero_le t) T1 up_eq
  have W0 : WrX kk [] (up (up σ 23 kk 0) 11 4 0) := ⟨hk, by rw [up_lo (by decide), up_lo (by decide)]; exact h5, by rw [up_lo (by decide), up_eq]; rfl, fun j hj => by simp at hj⟩
  have W1 := W0.l a3
  have f1 : FrP kk σ σ1 := fun a b p q r => by rw [a3 a b p, up_get, if_neg (by omega), up_get, if_neg (by omega)]
  have er : X7_rewind (up σ 23 kk 0) = some σ1 := by
    unfold X7_rewind
    rw [a1, Option.bind_some]
  have fault : ∀ {q : Nat} {τ : St}, LexX B t q τ → X2_read_b58 0 τ = some ((-100) - nI (tokF B t q), up τ 11 1 0) := fun {q τ} h => by
    unfold X2_read_b58 X7_clear
    rw [Option.bind_some, if_pos rfl, up_pl (by decide), h.2.2.2.1]
  have kept : ∀ {τ : St}, τ.1 13 5 = nI kk → X2_read_b58 1 τ = some (nI kk, up (up τ 11 1 0) 13 5 (nI (kk + 1))) := fun {τ} h => by
    have t13 : (up τ 11 1 0).1 13 5 = nI kk := by
      rw [up_lo (by decide)]
      exact h
    unfold X2_read_b58 X7_clear X8_keepDraft
    rw [Option.bind_some, if_neg ne10, fullX hk t13, Option.bind_some, if_pos rfl, Option.bind_some, t13, nI_1]
  unfold X2_read
  rw [e0, Option.bind_some, er, Option.bind_some]
  have h1 := part_X (key := -16) (Or.inl rfl) a2 W1 (by simp)
  have g1 := good_part (B := B) (t := t) (key := -16) (by decide) 0 (Nat.zero_le t)
  unfold pText
  dsimp only at g1
  revert h1 g1
  rcases pPart B t (-16) 0 with ⟨_ | l0, q0⟩
  · intro h1 g1
    obtain ⟨σ2, b1', b2, b3⟩ := h1
    rw [b1', Option.bind_some, if_pos rfl]
    dsimp only
    exact ⟨b2.f_le, σ2, fault b2, f1.trans b3⟩
  · intro h1 g1
    obtain ⟨σ2, b1', b2, b3, b4, b5, b6⟩ := h1
    obtain ⟨m1, m2⟩ := g1.2 l0 rfl
    dsimp only at m1
    rw [List.nil_append] at b3
    rw [b1', Option.bind_some, if_neg ne10]
    dsimp only
    have h2 := part_X (key := -17) (Or.inr (Or.inl rfl)) b2 b3 (by omega)
    have g2 := good_part (B := B) (t := t) (key := -17) (by decide) q0 b2.2.1
    dsimp only at g2
    revert h2 g2
    rcases pPart B t (-17) q0 with ⟨_ | l1, q1⟩
    · intro h2 g2
      obtain ⟨σ3, c1', c2, c3⟩ := h2
      rw [c1', Option.bind_some, if_pos rfl]
      dsimp only
      exact ⟨c2.f_le, σ3, fault c2, (f1.trans b4).trans c3⟩
    · intro h2 g2
      obtain ⟨σ3, c1', c2, c3, c4, c5, c6⟩ := h2
      obtain ⟨m3, m4⟩ := g2.2 l1 rfl
      dsimp only at m3
      rw [c1', Option.bind_some, if_neg ne10]
      dsimp only
      have h3 := part_X (key := -18) (Or.inr (Or.inr rfl)) c2 c3 (by rw [List.length_append]; omega)
      have g3 := good_part (B := B) (t := t) (key := -18) (by decide) q1 c2.2.1
      dsimp only at g3
      revert h3 g3
      rcases pPart B t (-18) q1 with ⟨_ | l2, q2⟩
      · intro h3 g3
        obtain ⟨σ4, d1, d2, d3⟩ := h3
        rw [d1, Option.bind_some, if_pos rfl]
        dsimp only
        exact ⟨d2.f_le, σ4, fault d2, ((f1.trans b4).trans c4).trans d3⟩
      · intro h3 g3
        obtain ⟨σ4, d1, d2, d3, d4, d5, d6⟩ := h3
        obtain ⟨m5, m6⟩ := g3.2 l2 rfl
        dsimp only at m5
        have hend := d2.f_le
        have ff := ((f1.trans b4).trans c4).trans d4
        rw [d1, Option.bind_some, if_neg ne10, d2.2.2.1]
        dsimp only
        by_cases z : tokC B t q2 = -22
        · rw [if_pos z, if_pos z]
          dsimp only
          have hlen : (l0 ++ l1 ++ l2).length = l0.length + l1.length + l2.length := by rw [List.length_append, List.length_append]
          refine ⟨fun p hp nm => ?_, σ4, kept d3.2.1, ⟨hk, by omega, ?_, ?_, ?_, fun j hj => d3.2.2.2 j (by omega)⟩, ff⟩
          · rcases (show p = 0 ∨ p = 1 ∨ p = 2 by omega) with rfl | rfl | rfl
            · exact m2 nm
            · exact m4 nm
            · exact m6 nm
          · rw [d5, if_neg (by decide), c5, if_pos rfl]
          · rw [d6, if_pos rfl, List.length_append]
          · rw [d3.2.2.1, hlen]
        · rw [if_neg z, if_neg z]
          dsimp only
          exact ⟨hend, σ4, fault d2, ff⟩
