/-- what the class's searches and readings may use up -/
def scX (a b : Nat) : Bool := (a == 24) || ((Nat.ble 27 a && Nat.ble a 37) || (a == 11 && Nat.ble 2 b))
/-- what the reference's may -/
def scM (a b : Nat) : Bool := (Nat.ble 7 a && Nat.ble a 12) || (a == 0 && ((Nat.ble 12 b && Nat.ble b 26) || (Nat.ble 31 b && Nat.ble b 36)))
def EX (σ σ' : St) : Prop := ∀ a b, scX a b = false → σ'.1 a b = σ.1 a b
def EM (μ μ' : St) : Prop := ∀ a b, scM a b = false → μ'.1 a b = μ.1 a b
theorem EX.refl (σ : St) : EX σ σ := fun _ _ _ => rfl
theorem EM.refl (μ : St) : EM μ μ := fun _ _ _ => rfl
theorem EX.trans {a b c : St} (h1 : EX a b) (h2 : EX b c) : EX a c := fun i j h => (h2 i j h).trans (h1 i j h)
theorem EM.trans {a b c : St} (h1 : EM a b) (h2 : EM b c) : EM a c := fun i j h => (h2 i j h).trans (h1 i j h)
abbrev Nm : Type := Nat → Int32
def nmX (σ : St) : Nm := fun i => if i < 6 then σ.1 28 i else 0
def nmM (μ : St) : Nm := fun i => if i < 6 then μ.1 0 (12 + i) else 0
def pcode (p : Nat) : Int32 := ([-16, -17, -18] : List Int32).getD p 0
/-- what a kept text tells, in any state that keeps it -/
def TxtX (t : Nat) (ev : Nat → Nm → Int32) (σ : St) : Prop := ∀ σ' : St, (∀ j, σ'.1 (15 + t) j = σ.1 (15 + t) j) → σ'.1 21 t = σ.1 21 t → σ'.1 22 t = σ.1 22 t → σ'.1 23 t = σ.1 23 t → ∀ p, p < 3 → ∃ σ'' : St, X8_tell (nI t) (pcode p) σ' = some (ev p (nmX σ'), σ'') ∧ ∀ a b, a ≠ 24 → σ''.1 a b = σ'.1 a b
def TxtM (t : Nat) (ev : Nat → Nm → Int32) (μ : St) : Prop := ∀ μ' : St, (∀ j, j < 160 → μ'.1 1 (160 * t + j) = μ.1 1 (160 * t + j)) → μ'.1 2 t = μ.1 2 t → ∀ p, p < 3 → ∃ μ'' : St, X10_read (nI t) (nI p) μ' = some (ev p (nmM μ'), μ'') ∧ ∀ a b, ¬ (a = 0 ∧ 18 ≤ b ∧ b ≤ 26) → μ''.1 a b = μ'.1 a b
theorem TxtX.keep {t : Nat} {ev : Nat → Nm → Int32} {σ σ1 : St} (h : TxtX t ev σ) (h1 : ∀ j, σ1.1 (15 + t) j = σ.1 (15 + t) j) (h2 : σ1.1 21 t = σ.1 21 t) (h3 : σ1.1 22 t = σ.1 22 t) (h4 : σ1.1 23 t = σ.1 23 t) : TxtX t ev σ1 := fun σ' a b c d => h σ' (fun j => (a j).trans (h1 j)) (b.trans h2) (c.trans h3) (d.trans h4)
theorem TxtM.keep {t : Nat} {ev : Nat → Nm → Int32} {μ μ1 : St} (h : TxtM t ev μ) (h1 : ∀ j, j < 160 → μ1.1 1 (160 * t + j) = μ.1 1 (160 * t + j)) (h2 : μ1.1 2 t = μ.1 2 t) : TxtM t ev μ1 := fun μ' a b => h μ' (fun j hj => (a j hj).trans (h1 j hj)) (b.trans h2)
def RNum (n t k : Nat) (σ μ : St) : Prop := n ≤ 5 ∧ t ≤ 160 ∧ 1 ≤ k ∧ k ≤ 6 ∧ σ.1 1 5 = nI n ∧ μ.1 0 11 = nI n ∧ σ.1 11 1 = nI t ∧ μ.1 0 6 = nI t ∧ σ.1 13 5 = nI k ∧ μ.1 0 3 = nI k
def RVal (k : Nat) (σ μ : St) : Prop := σ.1 1 0 = μ.1 4 0 ∧ rng 0 99 (μ.1 4 0) ∧ σ.1 1 1 = μ.1 4 1 ∧ rng 1 99 (μ.1 4 1) ∧ σ.1 1 2 = μ.1 4 2 ∧ rng 0 999 (μ.1 4 2) ∧ σ.1 1 3 = μ.1 0 8 ∧ ∃ r, r < k ∧ σ.1 1 4 = nI r ∧ μ.1 0 4 = nI r
def RGst (n : Nat) (σ μ : St) : Prop := ∀ g, g < n → σ.1 2 g = μ.1 5 g ∧ σ.1 3 g = μ.1 6 (3 * g) ∧ σ.1 4 g = μ.1 6 (3 * g + 1) ∧ σ.1 5 g = μ.1 6 (3 * g + 2) ∧ rng 0 5 (σ.1 2 g) ∧ rng 0 9 (σ.1 3 g) ∧ rng 0 7 (σ.1 4 g) ∧ rng 0 1 (σ.1 5 g)
def RTape (t : Nat) (σ μ : St) : Prop := ∀ i, i < t → σ.1 12 i = μ.1 3 i ∧ rng 0 255 (σ.1 12 i)
def RTxt (k : Nat) (ev : Nat → Nat → Nm → Int32) (σ μ : St) : Prop := ∀ j, j < k → TxtX j (ev j) σ ∧ TxtM j (ev j) μ
def RImg (n k : Nat) (σ μ : St) : Prop := (σ.1 0 2 = 0 ∧ μ.1 0 41 = -1) ∨ (σ.1 0 2 = 1 ∧ ∃ q, q ≤ n ∧ σ.1 6 5 = nI q ∧ μ.1 0 41 = nI q ∧ σ.1 6 0 = μ.1 13 0 ∧ rng 0 99 (μ.1 13 0) ∧ σ.1 6 1 = μ.1 13 1 ∧ rng 1 99 (μ.1 13 1) ∧ σ.1 6 2 = μ.1 13 2 ∧ rng 0 999 (μ.1 13 2) ∧ σ.1 6 3 = μ.1 0 42 ∧ (∃ r, r < k ∧ σ.1 6 4 = nI r ∧ μ.1 0 43 = nI r) ∧ ∀ g, g < q → σ.1 7 g = σ.1 2 g ∧ σ.1 8 g = μ.1 14 (3 * g) ∧ σ.1 9 g = μ.1 14 (3 * g + 1) ∧ σ.1 10 g = μ.1 14 (3 * g + 2) ∧ rng 0 9 (σ.1 8 g) ∧ rng 0 7 (σ.1 9 g) ∧ rng 0 1 (σ.1 10 g))
def RShe (σ μ : St) : Prop := ∀ s, s < 4 → (σ.1 (38 + 2 * s) 1 = -1 ∧ μ.1 15 s = 0) ∨ ∃ z o, z ≤ 40 ∧ o ≤ 2 ∧ σ.1 (38 + 2 * s) 1 = nI o ∧ μ.1 15 s = 1 ∧ μ.1 16 s = nI o ∧ σ.1 (38 + 2 * s) 2 = nI z ∧ μ.1 17 s = nI z ∧ ∀ i, i < z → σ.1 (39 + 2 * s) i = μ.1 18 (40 * s + i)
def RelN (n t k : Nat) (ev : Nat → Nat → Nm → Int32) (σ μ : St) : Prop := RNum n t k σ μ ∧ RVal k σ μ ∧ RGst n σ μ ∧ RTape t σ μ ∧ RTxt k ev σ μ ∧ RImg n k σ μ ∧ RShe σ μ
def Rel (σ μ : St) : Prop := ∃ n t k ev, RelN n t k ev σ μ
theorem sc_she {s : Nat} (h : s < 4) (b : Nat) : scX (38 + 2 * s) b = false ∧ scX (39 + 2 * s) b = false := by
  rcases (show s = 0 ∨ s = 1 ∨ s = 2 ∨ s = 3 by omega) with rfl | rfl | rfl | rfl <;> exact ⟨rfl, rfl⟩
theorem sc_row {t : Nat} (h : t < 6) (b : Nat) : scX (15 + t) b = false := by
  rcases (show t = 0 ∨ t = 1 ∨ t = 2 ∨ t = 3 ∨ t = 4 ∨ t = 5 by omega) with rfl | rfl | rfl | rfl | rfl | rfl <;> rfl
theorem RelN.frame {n t k : Nat} {ev : Nat → Nat → Nm → Int32} {σ μ σ' μ' : St} (h : RelN n t k ev σ μ) (hX : EX σ σ') (hM : EM μ μ') : RelN n t k ev σ' μ' := by
  obtain ⟨h1, h2, h3, h4, h5, h6, h7⟩ := h
  refine ⟨?_, ?_, ?_, ?_, ?_, ?_, ?_⟩
  · unfold RNum at h1 ⊢
    rw [hX 1 5 rfl, hM 0 11 rfl, hX 11 1 rfl, hM 0 6 rfl, hX 13 5 rfl, hM 0 3 rfl]
    exact h1
  · unfold RVal at h2 ⊢
    rw [hX 1 0 rfl, hX 1 1 rfl, hX 1 2 rfl, hX 1 3 rfl, hX 1 4 rfl, hM 4 0 rfl, hM 4 1 rfl, hM 4 2 rfl, hM 0 8 rfl, hM 0 4 rfl]
    exact h2
  · intro g hg
    rw [hX 2 g rfl, hX 3 g rfl, hX 4 g rfl, hX 5 g rfl, hM 5 g rfl, hM 6 _ rfl, hM 6 _ rfl, hM 6 _ rfl]
    exact h3 g hg
  · intro i hi
    rw [hX 12 i rfl, hM 3 i rfl]
    exact h4 i hi
  · intro j hj
    have hk : j < 6 := by have := h1.2.2.2.1; omega
    exact ⟨(h5 j hj).1.keep (fun i => hX _ _ (sc_row hk i)) (hX 21 _ rfl) (hX 22 _ rfl) (hX 23 _ rfl), (h5 j hj).2.keep (fun i _ => hM 1 _ rfl) (hM 2 _ rfl)⟩
  · unfold RImg at h6 ⊢
    simp only [hX 0 2 rfl, hM 0 41 rfl, hX 6 5 rfl, hX 6 0 rfl, hX 6 1 rfl, hX 6 2 rfl, hX 6 3 rfl, hX 6 4 rfl, hM 13 0 rfl, hM 13 1 rfl, hM 13 2 rfl, hM 0 42 rfl, hM 0 43 rfl, fun g => hX 7 g rfl, fun g => hX 8 g rfl, fun g => hX 9 g rfl, fun g => hX 10 g rfl, fun g => hX 2 g rfl, fun g => hM 14 g rfl]
    exact h6
  · intro s hs
    obtain ⟨e1, e2⟩ := sc_she hs 0
    have e3 := fun b => hX (38 + 2 * s) b (sc_she hs b).1
    have e4 := fun b => hX (39 + 2 * s) b (sc_she hs b).2
    rw [e3, e3, hM 15 _ rfl, hM 16 _ rfl, hM 17 _ rfl]
    rcases h7 s hs with h | ⟨z, o, q⟩
    · exact Or.inl h
    · refine Or.inr ⟨z, o, q.1, q.2.1, q.2.2.1, q.2.2.2.1, q.2.2.2.2.1, q.2.2.2.2.2.1, q.2.2.2.2.2.2.1, fun i hi => ?_⟩
      rw [e4, hM 18 _ rfl]
      exact q.2.2.2.2.2.2.2 i hi
theorem RVal.keep {k : Nat} {σ μ σ' μ' : St} (h : RVal k σ μ) (h0 : σ'.1 1 0 = σ.1 1 0) (h1 : σ'.1 1 1 = σ.1 1 1) (h2 : σ'.1 1 2 = σ.1 1 2) (h3 : σ'.1 1 3 = σ.1 1 3) (h4 : σ'.1 1 4 = σ.1 1 4) (m0 : μ'.1 4 0 = μ.1 4 0) (m1 : μ'.1 4 1 = μ.1 4 1) (m2 : μ'.1 4 2 = μ.1 4 2) (m8 : μ'.1 0 8 = μ.1 0 8) (m4 : μ'.1 0 4 = μ.1 0 4) : RVal k σ' μ' := by
  unfold RVal at h ⊢
  rw [h0, h1, h2, h3, h4, m0, m1, m2, m8, m4]
  exact h
theorem RVal.more {k : Nat} {σ μ : St} (h : RVal k σ μ) : RVal (k + 1) σ μ := by
  obtain ⟨a1, a2, a3, a4, a5, a6, a7, r, b1, b2⟩ := h
  exact ⟨a1, a2, a3, a4, a5, a6, a7, r, by omega, b2⟩
theorem RGst.keep {n : Nat} {σ μ σ' μ' : St} (h : RGst n σ μ) (h2 : ∀ g, g < n → σ'.1 2 g = σ.1 2 g) (h3 : ∀ g, g < n → σ'.1 3 g = σ.1 3 g) (h4 : ∀ g, g < n → σ'.1 4 g = σ.1 4 g) (h5 : ∀ g, g < n → σ'.1 5 g = σ.1 5 g) (m5 : ∀ g, g < n → μ'.1 5 g = μ.1 5 g) (m6 : ∀ g, g < 3 * n → μ'.1 6 g = μ.1 6 g) : RGst n σ' μ' := by
  intro g hg
  rw [h2 g hg, h3 g hg, h4 g hg, h5 g hg, m5 g hg, m6 _ (by omega), m6 _ (by omega), m6 _ (by omega)]
  exact h g hg
theorem RTape.keep {t : Nat} {σ μ σ' μ' : St} (h : RTape t σ μ) (h1 : ∀ i, i < t → σ'.1 12 i = σ.1 12 i) (h2 : ∀ i, i < t → μ'.1 3 i = μ.1 3 i) : RTape t σ' μ' := fun i hi => by
  rw [h1 i hi, h2 i hi]
  exact h i hi
theorem RTxt.keep {k : Nat} {ev : Nat → Nat → Nm → Int32} {σ μ σ' μ' : St} (h : RTxt k ev σ μ) (h1 : ∀ t, t < k → ∀ j, σ'.1 (15 + t) j = σ.1 (15 + t) j) (h2 : ∀ t, t < k → σ'.1 21 t = σ.1 21 t) (h3 : ∀ t, t < k → σ'.1 22 t = σ.1 22 t) (h4 : ∀ t, t < k → σ'.1 23 t = σ.1 23 t) (m1 : ∀ t, t < k → ∀ j, j < 160 → μ'.1 1 (160 * t + j) = μ.1 1 (160 * t + j)) (m2 : ∀ t, t < k → μ'.1 2 t = μ.1 2 t) : RTxt k ev σ' μ' := fun j hj =>
  ⟨(h j hj).1.keep (h1 j hj) (h2 j hj) (h3 j hj) (h4 j hj), (h j hj).2.keep (m1 j hj) (m2 j hj)⟩
theorem RImg.keep {n k : Nat} {σ μ σ' μ' : St} (h : RImg n k σ μ) (h02 : σ'.1 0 2 = σ.1 0 2) (h6 : ∀ j, σ'.1 6 j = σ.1 6 j) (h2 : ∀ g, g < n → σ'.1 2 g = σ.1 2 g) (h7 : ∀ j, σ'.1 7 j = σ.1 7 j) (h8 : ∀ j, σ'.1 8 j = σ.1 8 j) (h9 : ∀ j, σ'.1 9 j = σ.1 9 j) (h10 : ∀ j, σ'.1 10 j = σ.1 10 j) (m41 : μ'.1 0 41 = μ.1 0 41) (m42 : μ'.1 0 42 = μ.1 0 42) (m43 : μ'.1 0 43 = μ.1 0 43) (m13 : ∀ j, μ'.1 13 j = μ.1 13 j) (m14 : ∀ j, μ'.1 14 j = μ.1 14 j) : RImg n k σ' μ' := by
  unfold RImg at h ⊢
  simp only [h02, h6, h7, h8, h9, h10, m41, m42, m43, m13, m14]
  rcases h with h | ⟨a, q, b1, b2, b3, b4, b5, b6, b7, b8, b9, b10, b11, b12⟩
  · exact Or.inl h
  · refine Or.inr ⟨a, q, b1, b2, b3, b4, b5, b6, b7, b8, b9, b10, b11, fun g hg => ?_⟩
    rw [h2 g (by omega)]
    exact b12 g hg
theorem RImg.moreN {n n' k : Nat} {σ μ : St} (h : RImg n k σ μ) (hn : n ≤ n') : RImg n' k σ μ := by
  rcases h with h | ⟨a, q, b1, b2⟩
  · exact Or.inl h
  · exact Or.inr ⟨a, q, by omega, b2⟩
theorem RImg.moreK {n k : Nat} {σ μ : St} (h : RImg n k σ μ) : RImg n (k + 1) σ μ := by
  rcases h with h | ⟨a, q, b1, b2, b3, b4, b5, b6, b7, b8, b9, b10, ⟨r, c1, c2⟩, b12⟩
  · exact Or.inl h
  · exact Or.inr ⟨a, q, b1, b2, b3, b4, b5, b6, b7, b8, b9, b10, ⟨r, by omega, c2⟩, b12⟩
theorem RShe.keep {σ μ σ' μ' : St} (h : RShe σ μ) (h1 : ∀ s, s < 4 → σ'.1 (38 + 2 * s) 1 = σ.1 (38 + 2 * s) 1) (h2 : ∀ s, s < 4 → σ'.1 (38 + 2 * s) 2 = σ.1 (38 + 2 * s) 2) (h3 : ∀ s, s < 4 → ∀ j, σ'.1 (39 + 2 * s) j = σ.1 (39 + 2 * s) j) (m15 : ∀ s, μ'.1 15 s = μ.1 15 s) (m16 : ∀ s, μ'.1 16 s = μ.1 16 s) (m17 : ∀ s, μ'.1 17 s = μ.1 17 s) (m18 : ∀ j, μ'.1 18 j = μ.1 18 j) : RShe σ' μ' := by
  intro s hs
  rw [h1 s hs, h2 s hs, m15, m16, m17]
  rcases h s hs with h | ⟨z, o, q⟩
  · exact Or.inl h
  · refine Or.inr ⟨z, o, q.1, q.2.1, q.2.2.1, q.2.2.2.1, q.2.2.2.2.1, q.2.2.2.2.2.1, q.2.2.2.2.2.2.1, fun i hi => ?_⟩
    rw [h3 s hs, m18]
    exact q.2.2.2.2.2.2.2 i hi
/-- one cell's place written, of small number: no sheet, no text's row is touched -/
theorem up_lo {σ : St} {k j : Nat} {v : Int32} {a b : Nat} (h : a ≠ k) : (up σ k j v).1 a b = σ.1 a b := by
  rw [up_get, if_neg (fun q => h q.1)]
theorem up_pl {σ : St} {k j : Nat} {v : Int32} {a b : Nat} (h : b ≠ j) : (up σ k j v).1 a b = σ.1 a b := by
  rw [up_get, if_neg (fun q => h q.2)]
theorem up_eq {σ : St} {k j : Nat} {v : Int32} : (up σ k j v).1 k j = v := by
  rw [up_get, if_pos ⟨rfl, rfl⟩]
