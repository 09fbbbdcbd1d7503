theorem part_M {B : Nat → Int32} {t base pos : Nat} {key : Int32} (hk : ¬ key = -23) {μ : St} (hL : LexM B t base 0 pos μ) : SpM B t base 0 (nmM μ) (pPart B t key pos) μ (X10_part (if tokC B t pos = key then 1 else 0) μ) := by
  unfold pPart X10_part
  by_cases c1 : tokC B t pos = key
  · rw [i1_eq c1, if_neg ne10, if_pos c1]
    unfold X10_part_b8
    obtain ⟨μ1, a1, a2, a3⟩ := nextL hL (by rw [c1]; exact hk)
    rw [hL.2.1, if_pos rfl, a1, Option.bind_some]
    unfold X10_part_b19
    rw [a2.2.1, if_pos rfl]
    have h := top_M (tokN B t pos) μ1 a2
    rw [a3.nm] at h
    dsimp only at h
    revert h
    rcases pOr B t (fun a b => recP B t 5 a b) 5 (tokN B t pos) with ⟨_ | l, q⟩
    · intro h
      obtain ⟨v, μ2, b1', b2, b3⟩ := h
      rw [b1', Option.bind_some]
      unfold X10_part_b34 X10_part_b48
      dsimp only
      rw [signB b2, Option.bind_some, if_pos rfl, failB b2, Option.bind_some, b2.1, if_neg ne10]
      exact ⟨v, μ2, rfl, b2, a3.trans b3⟩
    · intro h
      obtain ⟨v, μ2, b1', b2, b3, b4⟩ := h
      rw [b1', Option.bind_some]
      unfold X10_part_b34 X10_part_b48
      dsimp only
      rw [sM59 b2.1 b2.2.1, Option.bind_some]
      show SpM B t base 0 (nmM μ) (if tokC B t q = -21 then (some l, tokN B t q) else (none, q)) μ _
      by_cases c4 : tokC B t q = -21
      · rw [i1_eq c4, if_neg ne10, if_pos c4, b2.2.1, if_pos rfl]
        obtain ⟨μ3, d1, d2, d3⟩ := nextL b2 (by rw [c4]; decide)
        rw [d1, Option.bind_some]
        exact ⟨v, μ3, rfl, d2, b3, (a3.trans b4).trans d3⟩
      · rw [i0_eq c4, if_pos rfl, if_neg c4]
        obtain ⟨μ3, d1, d2, d3⟩ := failM b2
        rw [d1, Option.bind_some, d2.1, if_neg ne10]
        exact ⟨v, μ3, rfl, d2, (a3.trans b4).trans d3⟩
  · rw [i0_eq c1, if_pos rfl, if_neg c1]
    obtain ⟨μ1, a1, a2, a3⟩ := failM hL
    rw [a1, Option.bind_some]
    unfold X10_part_b8
    rw [a2.1, if_neg ne10]
    unfold X10_part_b19
    rw [a2.1, if_neg ne10]
    unfold X10_part_b34 X10_part_b48
    rw [signB a2, Option.bind_some, if_pos rfl, failB a2, Option.bind_some, a2.1, if_neg ne10]
    exact ⟨_, μ1, rfl, a2, a3⟩
def FrR (μ μ' : St) : Prop := ∀ a b, ¬ (a = 0 ∧ 18 ≤ b ∧ b ≤ 26) → μ'.1 a b = μ.1 a b
theorem FrR.nm {μ μ' : St} (h : FrR μ μ') : nmM μ' = nmM μ := by
  funext i
  unfold nmM
  by_cases c : i < 6
  · rw [if_pos c, if_pos c, h _ _ (by omega)]
  · rw [if_neg c, if_neg c]
def pick (p : Nat) (a b c : Int32) : Int32 := if p = 0 then a else if p = 1 then b else c
theorem read148 (p : Nat) (hp : p < 3) (a b c : Int32) (μ : St) : X10_read_b148 (nI p) a b c μ = some (pick p a b c, μ) := by
  unfold X10_read_b148 pick
  rcases (show p = 0 ∨ p = 1 ∨ p = 2 by omega) with rfl | rfl | rfl <;> rfl
/-- the text that stands in the reference's row i -/
def RowM (B : Nat → Int32) (t i : Nat) (μ : St) : Prop := i < 6 ∧ t ≤ 160 ∧ (∀ j, j < t → rng 0 255 (B j)) ∧ μ.1 2 i = nI t ∧ ∀ j, j < t → μ.1 1 (160 * i + j) = B j
theorem read_M {B : Nat → Int32} {t i : Nat} {μ : St} (hR : RowM B t i μ) (p : Nat) (hp : p < 3) : match pText B t with
    | (none, f) => ∃ v μ', X10_read (nI i) (nI p) μ = some (v, μ') ∧ BadM f μ' ∧ FrR μ μ'
    | (some (l0, l1, l2), _) => ∃ v0 v1 v2 μ', X10_read (nI i) (nI p) μ = some (pick p v0 v1 v2, μ') ∧ (Val (nmM μ) l0 v0 ∧ Val (nmM μ) l1 v1 ∧ Val (nmM μ) l2 v2) ∧ μ'.1 0 25 = 0 ∧ FrR μ μ' := by
  obtain ⟨r1, r2, r3, r4, r5⟩ := hR
  have e160 : (160 : Int32) * nI i = nI (160 * i) := pk_mul 160 i
  have f0 : FrR μ (up (up (up (up (up μ 0 18 (nI (160 * i))) 0 19 (nI t)) 0 20 0) 0 24 0) 0 25 0) := fun a b q => by
    rw [up_get, if_neg (by omega), up_get, if_neg (by omega), up_get, if_neg (by omega), up_get, if_neg (by omega), up_get, if_neg (by omega)]
  have T0 : TapM B t (160 * i) (up (up (up (up (up μ 0 18 (nI (160 * i))) 0 19 (nI t)) 0 20 0) 0 24 0) 0 25 0) := by
    refine ⟨⟨r2, by omega⟩, r3, ?_, ?_, fun j hj => ?_⟩
    · rw [up_pl (by decide), up_pl (by decide), up_pl (by decide), up_pl (by decide), up_eq]
    · rw [up_pl (by decide), up_pl (by decide), up_pl (by decide), up_eq]
    · rw [f0 1 _ (by omega)]
      exact r5 j hj
  obtain ⟨μ1, a1, a2, a3⟩ := nextM (pos := 0) (Nat.zero_le t) T0 (by rw [up_pl (by decide), up_pl (by decide), up_eq]; rfl)
  have L1 : LexM B t (160 * i) 0 0 μ1 := ⟨a2, by rw [a3 _ _ (by decide), up_eq], by rw [a3 _ _ (by decide), up_pl (by decide), up_eq]; rfl⟩
  have fr1 : FrR μ μ1 := fun a b q => by rw [a3 a b (by omega), f0 a b q]
  have e0 : X10_read (nI i) (nI p) μ = (X10_isWord 119 97 114 109 115 0 0 0 μ1).bind (fun x53 => (X10_part x53 μ1).bind (fun x56 => if (x56.2.1 0 25) = 0 then ((X10_isWord 99 111 111 108 115 0 0 0 x56.2).bind (fun x86 => (X10_part x86 x56.2).bind (fun x89 => X10_read_b92 (nI p) x56.1 x89.1 x89.2))) else (X10_read_b92 (nI p) x56.1 0 x56.2))) := by
    unfold X10_read
    rw [if_neg (show ¬ ob (nI i) 6 by rw [ob_iff (by decide), tiI (by omega)]; omega), tnI (by omega), e160, up_lo (show (2 : Nat) ≠ 0 by decide), r4, a1, Option.bind_some]
  have fm : ∀ {τ τ' : St}, FrR μ τ → FrM τ τ' → FrR μ τ' := fun h k a b q => (k a b (by omega)).trans (h a b q)
  have bad92 : ∀ (a b : Int32) {f : Nat} {τ : St}, BadM f τ → ∃ v, X10_read_b92 (nI p) a b τ = some (v, τ) := fun a b {f τ} h => by
    unfold X10_read_b92 X10_read_b128
    rw [h.1, if_neg ne10, if_neg ne10, read148 p hp]
    exact ⟨_, rfl⟩
  have bad128 : ∀ (a b c : Int32) {f : Nat} {τ : St}, BadM f τ → ∃ v, X10_read_b128 (nI p) a b c τ = some (v, τ) := fun a b c {f τ} h => by
    unfold X10_read_b128
    rw [h.1, if_neg ne10, read148 p hp]
    exact ⟨_, rfl⟩
  rw [e0, wM7 L1.1 L1.2.1, Option.bind_some]
  have h1 := part_M (key := -16) (by decide) L1
  rw [fr1.nm] at h1
  unfold pText
  revert h1
  rcases pPart B t (-16) 0 with ⟨_ | l0, q0⟩
  · intro h1
    obtain ⟨v, μ2, b1', b2, b3⟩ := h1
    dsimp only
    obtain ⟨v', e92⟩ := bad92 v 0 b2
    rw [b1', Option.bind_some]
    dsimp only
    rw [b2.1, if_neg ne10, e92]
    exact ⟨v', μ2, rfl, b2, fm fr1 b3⟩
  · intro h1
    obtain ⟨v0, μ2, b1', b2, b3, b4⟩ := h1
    have fr2 := fm fr1 b4
    dsimp only
    rw [b1', Option.bind_some]
    dsimp only
    rw [b2.2.1, if_pos rfl, wM8 b2.1 b2.2.1, Option.bind_some]
    have h2 := part_M (key := -17) (by decide) b2
    rw [fr2.nm] at h2
    revert h2
    rcases pPart B t (-17) q0 with ⟨_ | l1, q1⟩
    · intro h2
      obtain ⟨v, μ3, c1', c2, c3⟩ := h2
      dsimp only
      obtain ⟨v', e92⟩ := bad92 v0 v c2
      rw [c1', Option.bind_some]
      dsimp only
      rw [e92]
      exact ⟨v', μ3, rfl, c2, fm fr2 c3⟩
    · intro h2
      obtain ⟨v1, μ3, c1', c2, c3, c4⟩ := h2
      have fr3 := fm fr2 c4
      dsimp only
      rw [c1', Option.bind_some]
      unfold X10_read_b92
      dsimp only
      rw [c2.2.1, if_pos rfl, wM9 c2.1 c2.2.1, Option.bind_some]
      have h3 := part_M (key := -18) (by decide) c2
      rw [fr3.nm] at h3
      revert h3
      rcases pPart B t (-18) q1 with ⟨_ | l2, q2⟩
      · intro h3
        obtain ⟨v, μ4, d1, d2, d3⟩ := h3
        dsimp only
        obtain ⟨v', e128⟩ := bad128 v0 v1 v d2
        rw [d1, Option.bind_some]
        dsimp only
        rw [e128]
        exact ⟨v', μ4, rfl, d2, fm fr3 d3⟩
      · intro h3
        obtain ⟨v2, μ4, d1, d2, d3, d4⟩ := h3
        have fr4 := fm fr3 d4
        dsimp only
        rw [d1, Option.bind_some]
        unfold X10_read_b128
        dsimp only
        rw [d2.2.1, if_pos rfl]
        have k0 := kind0 d2.1
        by_cases z : tokC B t q2 = -22
        · rw [if_pos (k0.mpr z), if_pos z, read148 p hp]
          exact ⟨v0, v1, v2, μ4, rfl, ⟨b3, c3, d3⟩, d2.2.1, fr4⟩
        · obtain ⟨μ5, f1, f2, f3⟩ := failM d2
          rw [if_neg (fun q => z (k0.mp q)), if_neg z, f1, Option.bind_some, read148 p hp]
          exact ⟨_, μ5, rfl, f2, fm fr4 f3⟩
theorem row_txt {B : Nat → Int32} {t i : Nat} {μ : St} {l0 l1 l2 : List Int32} {f : Nat} (hR : RowM B t i μ) (hp : pText B t = (some (l0, l1, l2), f)) : TxtM i (evT l0 l1 l2) μ := by
  intro μ' k1 k2 p hp3
  have hR' : RowM B t i μ' := ⟨hR.1, hR.2.1, hR.2.2.1, k2.trans hR.2.2.2.1, fun j hj => (k1 j (by have := hR.2.1; omega)).trans (hR.2.2.2.2 j hj)⟩
  have h := read_M hR' p hp3
  rw [hp] at h
  obtain ⟨v0, v1, v2, μ'', a1, ⟨a2, a3, a4⟩, a5, a6⟩ := h
  refine ⟨μ'', ?_, a6⟩
  rw [a1]
  rcases (show p = 0 ∨ p = 1 ∨ p = 2 by omega) with rfl | rfl | rfl
  · rw [evT_of (p := 0) (show Val (nmM μ') (segP l0 l1 l2 0) v0 from a2)]
    rfl
  · rw [evT_of (p := 1) (show Val (nmM μ') (segP l0 l1 l2 1) v1 from a3)]
    rfl
  · rw [evT_of (p := 2) (show Val (nmM μ') (segP l0 l1 l2 2) v2 from a4)]
    rfl
theorem text14 {k t : Nat} (hk : k < 6) (ht : t ≤ 160) : ∀ (c i F : Nat) (μ : St), i + c = t → c < F → μ.1 0 3 = nI k → μ.1 0 6 = nI t → (∀ j, j < i → μ.1 1 (160 * k + j) = μ.1 3 j) → ∃ μ', X10_text_b14 F (nI i) μ = (X10_read (nI k) 0 (up (up μ' 2 k (nI t)) 0 6 0)).bind (fun x73 => if (x73.2.1 0 25) = 0 then (some ((((up x73.2 0 3 ((x73.2.1 0 3) + 1)).1 0 3) - 1), (up x73.2 0 3 ((x73.2.1 0 3) + 1)))) else (some (((-100) - (x73.2.1 0 26)), x73.2))) ∧ (∀ j, j < t → μ'.1 1 (160 * k + j) = μ.1 3 j) ∧ ∀ a b, ¬ (a = 1 ∧ 160 * k ≤ b) → μ'.1 a b = μ.1 a b := by
  have o6 : ¬ ob (nI k) 6 := by rw [ob_iff (by decide), tiI (by omega)]; omega
  intro c
  induction c with
  | zero =>
    intro i F μ hi hF h3 h6 hc
    obtain ⟨F', rfl⟩ : ∃ F', F = F' + 1 := ⟨F - 1, by omega⟩
    refine ⟨μ, ?_, fun j hj => hc j (by omega), fun _ _ _ => rfl⟩
    rw [X10_text_b14, h6, if_pos (show nI t ≤ nI i by rw [nI_leI (by omega) (by omega)]; omega), h3, if_neg o6, tnI (by omega)]
    have e3 : (up (up μ 2 k (nI t)) 0 6 0).1 0 3 = nI k := by rw [up_pl (by decide), up_lo (by decide)]; exact h3
    rw [e3]
  | succ c ih =>
    intro i F μ hi hF h3 h6 hc
    obtain ⟨F', rfl⟩ : ∃ F', F = F' + 1 := ⟨F - 1, by omega⟩
    have e160 : (160 : Int32) * nI k = nI (160 * k) := pk_mul 160 k
    rw [X10_text_b14, h6, if_neg (show ¬ nI t ≤ nI i by rw [nI_leI (by omega) (by omega)]; omega), if_neg (show ¬ ob (nI i) 160 by rw [ob_iff (by decide), tiI (by omega)]; omega), h3, e160, nI_add, if_neg (show ¬ ob (nI (160 * k + i)) 960 by rw [ob_iff (by decide), tiI (by omega)]; omega), tnI (by omega), tnI (by omega), nI_1]
    obtain ⟨μ', a1, a2, a3⟩ := ih (i + 1) F' (up μ 1 (160 * k + i) (μ.1 3 i)) (by omega) (by omega) ((up_lo (by decide)).trans h3) ((up_lo (by decide)).trans h6) (fun j hj => by
      by_cases z : j = i
      · subst z
        rw [up_eq, up_lo (by decide)]
      · rw [up_pl (by omega), up_lo (by decide)]
        exact hc j (by omega))
    exact ⟨μ', a1, fun j hj => (a2 j hj).trans (up_lo (by decide)), fun a b q => by rw [a3 a b q, up_get, if_neg (by omega)]⟩
theorem RVal.le {k k' : Nat} {σ μ : St} (h : RVal k σ μ) (hk : k ≤ k') : RVal k' σ μ := by
  obtain ⟨a1, a2, a3, a4, a5, a6, a7, r, b1, b2⟩ := h
  exact ⟨a1, a2, a3, a4, a5, a6, a7, r, by omega, b2⟩
theorem RImg.le {n k k' : Nat} {σ μ : St} (h : RImg n k σ μ) (hk : k ≤ k') : RImg n k' σ μ := by
  rcases h with h | ⟨a, q, b1, b2, b3, b4, b5, b6, b7, b8, b9, b10, ⟨r, c1, c2⟩, b12⟩
  · exact Or.inl h
  · exact Or.inr ⟨a, q, b1, b2, b3, b4, b5, b6, b7, b8, b9, b10, ⟨r, by omega, c2⟩, b12⟩
theorem RelN.txt {n t k k' : Nat} {ev ev' : Nat → Nat → Nm → Int32} {σ μ σ' μ' : St} (h : RelN n t k ev σ μ) (hk : k ≤ k') (hk6 : k' ≤ 6) (hX : ∀ a b, a ≠ 11 → ¬ (15 ≤ a ∧ a ≤ 23) → a ≠ 13 → σ'.1 a b = σ.1 a b) (hM : ∀ a b, a ≠ 1 → a ≠ 2 → ¬ (a = 0 ∧ (b = 6 ∨ b = 3 ∨ (18 ≤ b ∧ b ≤ 26))) → μ'.1 a b = μ.1 a b) (x11 : σ'.1 11 1 = 0) (m6 : μ'.1 0 6 = 0) (x13 : σ'.1 13 5 = nI k') (m3 : μ'.1 0 3 = nI k') (hT : RTxt k' ev' σ' μ') : RelN n 0 k' ev' σ' μ' := by
  obtain ⟨h1, h2, h3, h4, h5, h6, h7⟩ := h
  obtain ⟨n1, n2, n3, n4, n5, n6, n7, n8, n9, n10⟩ := id h1
  have x : ∀ a b, a < 11 ∨ 24 ≤ a → σ'.1 a b = σ.1 a b := fun a b q => hX a b (by omega) (by omega) (by omega)
  have m0 : ∀ b, ¬ (b = 6 ∨ b = 3 ∨ (18 ≤ b ∧ b ≤ 26)) → μ'.1 0 b = μ.1 0 b := fun b q => hM 0 b (by decide) (by decide) (fun z => q z.2)
  have m : ∀ a b, 3 ≤ a → μ'.1 a b = μ.1 a b := fun a b q => hM a b (by omega) (by omega) (by omega)
  refine ⟨⟨n1, by omega, by omega, hk6, (x _ _ (by decide)).trans n5, (m0 _ (by decide)).trans n6, x11, m6, x13, m3⟩, ?_, ?_, fun i hi => absurd hi (by omega), hT, ?_, ?_⟩
  · exact (h2.le hk).keep (x _ _ (by decide)) (x _ _ (by decide)) (x _ _ (by decide)) (x _ _ (by decide)) (x _ _ (by decide)) (m _ _ (by decide)) (m _ _ (by decide)) (m _ _ (by decide)) (m0 _ (by decide)) (m0 _ (by decide))
  · exact h3.keep (fun _ _ => x _ _ (by decide)) (fun _ _ => x _ _ (by decide)) (fun _ _ => x _ _ (by decide)) (fun _ _ => x _ _ (by decide)) (fun _ _ => m _ _ (by decide)) (fun _ _ => m _ _ (by decide))
  · exact (h6.le hk).keep (x _ _ (by decide)) (fun _ => x _ _ (by decide)) (fun _ _ => x _ _ (by decide)) (fun _ => x _ _ (by decide)) (fun _ => x _ _ (by decide)) (fun _ => x _ _ (by decide)) (fun _ => x _ _ (by decide)) (m0 _ (by decide)) (m0 _ (by decide)) (m0 _ (by decide)) (fun _ => m _ _ (by decide)) (fun _ => m _ _ (by decide))
  · exact h7.keep (fun s _ => x _ _ (by omega)) (fun s _ => x _ _ (by omega)) (fun s _ j => x _ _ (by omega)) (fun _ => m _ _ (by decide)) (fun _ => m _ _ (by decide)) (fun _ => m _ _ (by decide)) (fun _ => m _ _ (by decide))
theorem sim_text : Sim_text Rel := by
  intro σ μ ⟨n, t, k, ev, hR⟩
  have hRel : Rel σ μ := ⟨n, t, k, ev, hR⟩
  obtain ⟨n1, n2, n3, n4, n5, n6, n7, n8, n9, n10⟩ := id hR.1
  by_cases k6 : k < 6
  · have hT : TapX (fun j => σ.1 12 j) t σ := ⟨n2, n7, fun j _ => rfl⟩
    have hrd := read_X hT k6 n9
    obtain ⟨μ1, a1, a2, a3⟩ := text14 k6 n2 t 0 FU μ (by omega) (by rw [FU_eq]; omega) n10 n8 (fun j hj => by omega)
    have hRow : RowM (fun j => σ.1 12 j) t k (up (up μ1 2 k (nI t)) 0 6 0) := by
      refine ⟨k6, n2, fun j hj => (hR.2.2.2.1 j hj).2, by rw [up_lo (by decide), up_eq], fun j hj => ?_⟩
      rw [up_lo (by decide), up_lo (by decide), a2 j hj]
      exact (hR.2.2.2.1 j hj).1.symm
    have hrm := read_M hRow 0 (by decide)
    have eX : X9_text σ = (X2_read σ).bind (fun x19 => some (x19.1, x19.2)) := by
      unfold X9_text
      rw [fullX k6 n9, Option.bind_some, if_pos rfl]
    have eM : X10_text μ = (X10_read (nI k) (nI 0) (up (up μ1 2 k (nI t)) 0 6 0)).bind (fun x73 => if (x73.2.1 0 25) = 0 then (some ((((up x73.2 0 3 ((x73.2.1 0 3) + 1)).1 0 3) - 1), (up x73.2 0 3 ((x73.2.1 0 3) + 1)))) else (some (((-100) - (x73.2.1 0 26)), x73.2))) := by
      unfold X10_text
      rw [n10, if_neg (show ¬ nI k = 6 by rw [show (6 : Int32) = nI 6 from rfl, nI_eq (by omega) (by decide)]; omega)]
      exact a1
    rw [eX, eM]
    have mfr : ∀ μ2, FrR (up (up μ1 2 k (nI t)) 0 6 0) μ2 → ∀ a b, ¬ (a = 1 ∧ 160 * k ≤ b) → ¬ (a = 2 ∧ b = k) → ¬ (a = 0 ∧ (b = 6 ∨ (18 ≤ b ∧ b ≤ 26))) → μ2.1 a b = μ.1 a b := fun μ2 q a b p1 p2 p3 => by
      rw [q a b (by omega), up_get, if_neg (by omega), up_get, if_neg (by omega), a3 a b p1]
    have old : ∀ (σ2 μ2 : St), FrP k σ σ2 → (∀ a b, ¬ (a = 1 ∧ 160 * k ≤ b) → ¬ (a = 2 ∧ b = k) → ¬ (a = 0 ∧ (b = 6 ∨ b = 3 ∨ (18 ≤ b ∧ b ≤ 26))) → μ2.1 a b = μ.1 a b) → RTxt k ev σ2 μ2 := fun σ2 μ2 q1 q2 => hR.2.2.2.2.1.keep (fun j hj y => q1 _ _ (by omega) (by omega) (by omega)) (fun j hj => q1 _ _ (by omega) (by omega) (by omega)) (fun j hj => q1 _ _ (by omega) (by omega) (by omega)) (fun j hj => q1 _ _ (by omega) (by omega) (by omega)) (fun j hj y hy => q2 _ _ (by omega) (by omega) (by omega)) (fun j hj => q2 _ _ (by omega) (by omega) (by omega))
    revert hrd hrm
    cases hpt : pText (fun j => σ.1 12 j) t with
    | mk res f =>
      cases res with
      | none =>
        intro hrd hrm
        obtain ⟨hf, σ1, b1', b2⟩ := hrd
        obtain ⟨v, μ2, c1, c2, c3⟩ := hrm
        rw [b1', Option.bind_some, c1, Option.bind_some]
        dsimp only
        rw [c2.1, if_neg ne10, c2.2]
        refine ⟨_, _, _, rfl, rfl, n, 0, k, ev, hR.txt (Nat.le_refl k) n4 (fun a b q1 q2 q3 => ?_) (fun a b q1 q2 q3 => mfr μ2 c3 a b (by omega) (by omega) (by omega)) up_eq ?_ ?_ ?_ ?_⟩
        · rw [up_lo q1, b2 a b (by omega) (by omega) (by omega)]
        · rw [c3 _ _ (by decide), up_eq]
        · rw [up_lo (by decide), b2 _ _ (by omega) (by omega) (by omega)]
          exact n9
        · rw [mfr μ2 c3 _ _ (by omega) (by omega) (by omega)]
          exact n10
        · exact (old σ1 μ2 b2 (fun a b q1 q2 q3 => mfr μ2 c3 a b q1 q2 (by omega))).keep (fun _ _ _ => up_lo (by omega)) (fun _ _ => up_lo (by decide)) (fun _ _ => up_lo (by decide)) (fun _ _ => up_lo (by decide)) (fun _ _ _ _ => rfl) (fun _ _ => rfl)
      | some ls =>
        obtain ⟨l0, l1, l2⟩ := ls
        intro hrd hrm
        obtain ⟨hval, σ1, b1', b2, b3⟩ := hrd
        obtain ⟨v0, v1, v2, μ2, c1, c2, c3, c4⟩ := hrm
        have t3 : μ2.1 0 3 = nI k := by
          rw [mfr μ2 c4 _ _ (by omega) (by omega) (by omega)]
          exact n10
        rw [b1', Option.bind_some, c1, Option.bind_some]
        dsimp only
        rw [c3, if_pos rfl, t3, nI_1, up_eq, nI_pred]
        refine ⟨_, _, _, rfl, rfl, n, 0, k + 1, fun j => if j = k then evT l0 l1 l2 else ev j, hR.txt (Nat.le_succ k) k6 (fun a b q1 q2 q3 => ?_) (fun a b q1 q2 q3 => ?_) ?_ ?_ up_eq up_eq ?_⟩
        · rw [up_lo q3, up_lo q1, b3 a b (by omega) (by omega) (by omega)]
        · rw [up_get, if_neg (by omega), mfr μ2 c4 a b (by omega) (by omega) (by omega)]
        · rw [up_lo (by decide), up_eq]
        · rw [up_pl (by decide), c4 _ _ (by decide), up_eq]
        · intro j hj
          by_cases z : j = k
          · subst z
            simp only [if_pos]
            have d1 : DraftX j l0 l1 l2 (up (up σ1 11 1 0) 13 5 (nI (j + 1))) := by
              obtain ⟨e1, e2, e3, e4, e5, e6⟩ := b2
              exact ⟨e1, e2, by rw [up_lo (by decide), up_lo (by decide)]; exact e3, by rw [up_lo (by decide), up_lo (by decide)]; exact e4, by rw [up_lo (by decide), up_lo (by decide)]; exact e5, fun y hy => by rw [up_lo (by omega), up_lo (by omega)]; exact e6 y hy⟩
            have d2 : RowM (fun j => σ.1 12 j) t j (up μ2 0 3 (nI (j + 1))) := by
              obtain ⟨e1, e2, e3, e4, e5⟩ := hRow
              exact ⟨e1, e2, e3, by rw [up_lo (by decide), c4 _ _ (by omega)]; exact e4, fun y hy => by rw [up_lo (by decide), c4 _ _ (by omega)]; exact e5 y hy⟩
            exact ⟨draft_txt d1 hval, row_txt d2 hpt⟩
          · simp only [if_neg z]
            have o := old σ1 μ2 b3 (fun a b q1 q2 q3 => mfr μ2 c4 a b q1 q2 (by omega)) j (by omega)
            exact ⟨o.1.keep (fun y => by rw [up_lo (by omega), up_lo (by omega)]) (by rw [up_lo (by decide), up_lo (by decide)]) (by rw [up_lo (by decide), up_lo (by decide)]) (by rw [up_lo (by decide), up_lo (by decide)]), o.2.keep (fun y _ => up_lo (by decide)) (up_lo (by decide))⟩
  · have e6 : k = 6 := by omega
    subst e6
    refine ⟨-4, σ, μ, ?_, ?_, hRel⟩
    · unfold X9_text X8_isFull
      rw [n9, if_neg (nI_pos (by decide)), if_neg (show ¬ nI 6 < 6 by decide)]
      rfl
    · unfold X10_text
      rw [n10, if_pos (show nI 6 = 6 from rfl)]
