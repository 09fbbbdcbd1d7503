def HeardX (e : Evg) (g : Nat) (pre : List Nat) (w : Int32) (σ : St) : Prop := σ.1 28 0 = e.T g ∧ σ.1 28 1 = lastT e pre ∧ σ.1 28 2 = w ∧ σ.1 28 3 = e.N g ∧ σ.1 28 4 = nI (saidN e g pre) ∧ σ.1 28 5 = nI pre.length ∧ σ.1 28 6 = e.K g ∧ (σ.1 28 7 = 0 ↔ e.L g = 0) ∧ (σ.1 28 8 = 0 ↔ e.odd = 0)
theorem hear105 {e : Evg} {pre : List Nat} (hl : pre.length ≤ 5) {g : Nat} {σ : St} (hE : σ.1 1 0 = e.w0) (h8 : σ.1 27 8 = nI pre.length) (hc : CellsX e σ pre) (h0 : σ.1 28 0 = e.T g) {s0 : Int32} (hs : s0 = 0 ∨ s0 = 1) : ∃ σ', X1_hear_b105 s0 σ = some σ' ∧ (∀ a b, ¬ (a = 28 ∧ (b = 1 ∨ b = 2 ∨ b = 4 ∨ b = 5 ∨ b = 8)) → σ'.1 a b = σ.1 a b) ∧ σ'.1 28 8 = s0 ∧ σ'.1 28 2 = wmt e pre ∧ σ'.1 28 5 = nI pre.length ∧ σ'.1 28 1 = lastT e pre ∧ σ'.1 28 4 = nI (saidN e g pre) := by
  unfold X1_hear_b105
  rw [if_pos hs, now_eq (e := e) (pre := pre) hl (by rw [up_lo (by decide)]; exact hE) (by rw [up_lo (by decide)]; exact h8) (hc.keep (fun x y p q _ => by rw [up_lo (by omega)])), Option.bind_some]
  have q8 : (up (up σ 28 8 s0) 28 2 (wmt e pre)).1 27 8 = nI pre.length := by rw [up_lo (by decide), up_lo (by decide)]; exact h8
  rw [q8]
  obtain ⟨σ', a1, a2, a3, a4⟩ := hear149 hl (g := g) pre.length 0 FU (up (up (up (up (up σ 28 8 s0) 28 2 (wmt e pre)) 28 5 (nI pre.length)) 28 1 8) 28 4 0) (by omega) (by rw [FU_eq]; omega) (by rw [up_lo (by decide), up_lo (by decide), up_lo (by decide), up_lo (by decide), up_lo (by decide)]; exact h8) (hc.keep (fun x y p q _ => by rw [up_lo (by omega), up_lo (by omega), up_lo (by omega), up_lo (by omega), up_lo (by omega)])) (by rw [up_pl (by decide), up_pl (by decide), up_pl (by decide), up_pl (by decide), up_pl (by decide)]; exact h0) (by rw [up_pl (by decide), up_eq, List.drop_length]; rfl) (by rw [up_eq, List.drop_length]; rfl)
  refine ⟨σ', a1, fun a b hab => ?_, ?_, ?_, ?_, a3, a4⟩
  · rw [a2 a b (by omega), up_get, if_neg (by omega), up_get, if_neg (by omega), up_get, if_neg (by omega), up_get, if_neg (by omega), up_get, if_neg (by omega)]
  · rw [a2 _ _ (by decide), up_pl (by decide), up_pl (by decide), up_pl (by decide), up_pl (by decide), up_eq]
  · rw [a2 _ _ (by decide), up_pl (by decide), up_pl (by decide), up_pl (by decide), up_eq]
  · rw [a2 _ _ (by decide), up_pl (by decide), up_pl (by decide), up_eq]
theorem hear81 {e : Evg} {pre : List Nat} (hl : pre.length ≤ 5) {g : Nat} {σ : St} (hE : EnvX e σ) (h8 : σ.1 27 8 = nI pre.length) (hc : CellsX e σ pre) (h0 : σ.1 28 0 = e.T g) (h3 : σ.1 28 3 = e.N g) (h6 : σ.1 28 6 = e.K g) {s0 : Int32} (hs : s0 = 0 ∨ s0 = 1) (hL : s0 = 0 ↔ e.L g = 0) : ∃ σ', X1_hear_b81 s0 σ = some σ' ∧ (∀ a b, a ≠ 28 → σ'.1 a b = σ.1 a b) ∧ HeardX e g pre (wmt e pre) σ' := by
  unfold X1_hear_b81
  rw [if_pos hs, up_lo (by decide)]
  have go : ∀ z : Int32, (z = 0 ∨ z = 1) → (z = 0 ↔ e.odd = 0) → ∃ σ', X1_hear_b105 z (up σ 28 7 s0) = some σ' ∧ (∀ a b, a ≠ 28 → σ'.1 a b = σ.1 a b) ∧ HeardX e g pre (wmt e pre) σ' := fun z hz hzo => by
    obtain ⟨σ', a1, a2, a3, a4, a5, a6, a7⟩ := hear105 (e := e) (pre := pre) (g := g) (σ := up σ 28 7 s0) hl (by rw [up_lo (by decide)]; exact hE.2.1) (by rw [up_lo (by decide)]; exact h8) (hc.keep (fun x y p q _ => by rw [up_lo (by omega)])) (by rw [up_pl (by decide)]; exact h0) hz
    refine ⟨σ', a1, fun a b hab => ?_, ?_, a6, a4, ?_, a7, a5, ?_, ?_, ?_⟩
    · rw [a2 a b (by omega), up_lo hab]
    · rw [a2 _ _ (by decide), up_pl (by decide)]; exact h0
    · rw [a2 _ _ (by decide), up_pl (by decide)]; exact h3
    · rw [a2 _ _ (by decide), up_pl (by decide)]; exact h6
    · rw [a2 _ _ (by decide), up_eq]; exact hL
    · rw [a3]; exact hzo
  by_cases c : σ.1 1 2 - σ.1 1 2 / 2 * 2 = 0
  · rw [if_pos c]
    exact go 0 (Or.inl rfl) ⟨fun _ => hE.2.2.2.1.mp c, fun _ => rfl⟩
  · rw [if_neg c]
    exact go 1 (Or.inr rfl) ⟨fun h => absurd h (by decide), fun h => absurd (hE.2.2.2.1.mpr h) c⟩
theorem hear_eq {e : Evg} {pre : List Nat} (hn : e.n ≤ 5) (hr : e.r < 6) {g : Nat} (hg : g < e.n) {σ : St} (hE : EnvX e σ) (hl : pre.length ≤ 5) (h8 : σ.1 27 8 = nI pre.length) (hc : CellsX e σ pre) : ∃ σ', X1_hear (nI g) σ = some σ' ∧ (∀ a b, a ≠ 28 → σ'.1 a b = σ.1 a b) ∧ HeardX e g pre (wmt e pre) σ' := by
  unfold X1_hear
  have hob : ¬ ob (nI g) 5 := by rw [ob_iff (by decide), tiI (by omega)]; omega
  obtain ⟨e1, e2, e3, e4⟩ := hE.2.2.2.2.2.1 g hg
  rw [has_eq hn hE.1, Option.bind_some, tiI (by omega), if_pos (show (0 : Int) ≤ ((g : Nat) : Int) ∧ ((g : Nat) : Int) < (e.n : Int) by omega), if_neg (show ¬ (1 : Int32) = 0 by decide), if_neg hob, if_neg hob, if_neg hob, if_neg hob]
  simp only [tnI (show g < 2 ^ 31 by omega)]
  have q : ∀ x y, x ≠ 28 → ∀ v1 v2 v3 : Int32, (up (up (up σ 28 6 v1) 28 3 v2) 28 0 v3).1 x y = σ.1 x y := fun x y h v1 v2 v3 => by rw [up_lo h, up_lo h, up_lo h]
  have q3 : (up σ 28 6 (σ.1 2 g)).1 3 g = e.N g := by rw [up_lo (by decide)]; exact e2
  have q4 : (up (up σ 28 6 (σ.1 2 g)) 28 3 ((up σ 28 6 (σ.1 2 g)).1 3 g)).1 4 g = e.T g := by rw [up_lo (by decide), up_lo (by decide)]; exact e3
  rw [q4, q3, e1, q _ _ (by decide), e4]
  have go : ∀ s0 : Int32, (s0 = 0 ∨ s0 = 1) → (s0 = 0 ↔ e.L g = 0) → ∃ σ', X1_hear_b81 s0 (up (up (up σ 28 6 (e.K g)) 28 3 (e.N g)) 28 0 (e.T g)) = some σ' ∧ (∀ a b, a ≠ 28 → σ'.1 a b = σ.1 a b) ∧ HeardX e g pre (wmt e pre) σ' := fun s0 hs hL => by
    have hEX : EnvX e (up (up (up σ 28 6 (e.K g)) 28 3 (e.N g)) 28 0 (e.T g)) := by
      exact hE.keep hr (fun a b h => q a b (fun z => by subst z; exact Bool.noConfusion (show true = false from h)) _ _ _)
    obtain ⟨σ', a1, a2, a3⟩ := hear81 (e := e) (pre := pre) (g := g) hl hEX (by rw [q _ _ (by decide)]; exact h8) (hc.keep (fun x y p r _ => q x y (by omega) _ _ _)) up_eq (by rw [up_pl (by decide), up_eq]) (by rw [up_pl (by decide), up_pl (by decide), up_eq]) hs hL
    exact ⟨σ', a1, fun a b hab => (a2 a b hab).trans (q a b hab _ _ _), a3⟩
  by_cases c : e.L g = 0
  · rw [if_pos c]
    exact go 0 (Or.inl rfl) ⟨fun _ => c, fun _ => rfl⟩
  · rw [if_neg c]
    exact go 1 (Or.inr rfl) ⟨fun h => absurd h (by decide), fun h => absurd h c⟩
