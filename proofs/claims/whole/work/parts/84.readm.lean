def LexM (B : Nat → Int32) (t base o pos : Nat) (μ : St) : Prop := TokM B t base pos μ ∧ μ.1 0 25 = 0 ∧ μ.1 0 24 = nI o
def BadM (f : Nat) (μ : St) : Prop := μ.1 0 25 = 1 ∧ μ.1 0 26 = nI f
def FrM (μ μ' : St) : Prop := ∀ a b, ¬ (a = 0 ∧ 20 ≤ b ∧ b ≤ 26) → μ'.1 a b = μ.1 a b
theorem FrM.refl (μ : St) : FrM μ μ := fun _ _ _ => rfl
theorem FrM.trans {a b c : St} (h1 : FrM a b) (h2 : FrM b c) : FrM a c := fun i j h => (h2 i j h).trans (h1 i j h)
theorem FrN.m {μ μ' : St} (h : FrN μ μ') : FrM μ μ' := fun a b q => h a b (by omega)
theorem FrM.nm {μ μ' : St} (h : FrM μ μ') : nmM μ' = nmM μ := by
  funext i
  unfold nmM
  by_cases c : i < 6
  · rw [if_pos c, if_pos c, h _ _ (by omega)]
  · rw [if_neg c, if_neg c]
theorem TokM.k {B : Nat → Int32} {t base pos : Nat} {μ μ' : St} (h : TokM B t base pos μ) (k : ∀ a b, ¬ (a = 0 ∧ 24 ≤ b ∧ b ≤ 26) → μ'.1 a b = μ.1 a b) (k2 : μ'.2 = μ.2) : TokM B t base pos μ' := by
  obtain ⟨h1, h2, h3, h4, h5⟩ := h
  refine ⟨h1.keep (k _ _ (by decide)) (k _ _ (by decide)) (fun j => k _ _ (by omega)), h2, (k _ _ (by decide)).trans h3, fun q => (k _ _ (by decide)).trans (h4 q), ?_⟩
  unfold KindM at h5 ⊢
  rw [k 0 21 (by decide), k 0 20 (by decide), k2]
  exact h5
theorem up24 {μ : St} {v : Int32} : FrM μ (up μ 0 24 v) := fun a b q => by rw [up_get, if_neg (by omega)]
theorem LexM.o {B : Nat → Int32} {t base o pos : Nat} {μ : St} (h : LexM B t base o pos μ) (o' : Nat) : LexM B t base o' pos (up μ 0 24 (nI o')) := ⟨h.1.k (fun a b q => by rw [up_get, if_neg (by omega)]) rfl, (up_pl (by decide)).trans h.2.1, up_eq⟩
theorem BadM.o {f : Nat} {μ : St} (h : BadM f μ) (v : Int32) : BadM f (up μ 0 24 v) := ⟨(up_pl (by decide)).trans h.1, (up_pl (by decide)).trans h.2⟩
theorem failM {B : Nat → Int32} {t base o pos : Nat} {μ : St} (h : LexM B t base o pos μ) : ∃ μ', X10_fail μ = some μ' ∧ BadM (tokF B t pos) μ' ∧ FrM μ μ' := by
  unfold X10_fail
  rw [h.2.1, if_pos rfl]
  refine ⟨_, rfl, ⟨by rw [up_pl (by decide), up_eq], ?_⟩, fun a b q => by rw [up_get, if_neg (by omega), up_get, if_neg (by omega)]⟩
  rw [up_eq, up_pl (by decide)]
  exact h.1.2.2.1
theorem failB {f : Nat} {μ : St} (h : BadM f μ) : X10_fail μ = some μ := by
  unfold X10_fail
  rw [h.1, if_neg ne10]
theorem signB {f : Nat} {μ : St} (h : BadM f μ) (s : Int32) : X10_isSign s μ = some 0 := by
  unfold X10_isSign
  rw [h.1, if_neg ne10]
theorem wordB {f : Nat} {μ : St} (h : BadM f μ) (a b c d e g i j : Int32) : X10_isWord a b c d e g i j μ = some 0 := by
  unfold X10_isWord
  rw [h.1, if_neg ne10]
theorem nextL {B : Nat → Int32} {t base o pos : Nat} {μ : St} (h : LexM B t base o pos μ) (hc : tokC B t pos ≠ -23) : ∃ μ', X10_next μ = some μ' ∧ LexM B t base o (tokN B t pos) μ' ∧ FrM μ μ' := by
  obtain ⟨μ', a1, a2, a3⟩ := h.1.next hc
  exact ⟨μ', a1, ⟨a2, (a3 _ _ (by decide)).trans h.2.1, (a3 _ _ (by decide)).trans h.2.2⟩, a3.m⟩
theorem opensM {B : Nat → Int32} {t base o pos : Nat} {μ : St} (h : LexM B t base o pos μ) (hc : tokC B t pos ≠ -23) (ho : o ≤ 5) : (o = 5 → ∃ μ', X10_opens μ = some (0, μ') ∧ BadM (tokF B t pos) μ' ∧ FrM μ μ') ∧ (o ≠ 5 → ∃ μ', X10_opens μ = some (1, μ') ∧ LexM B t base (o + 1) (tokN B t pos) μ' ∧ FrM μ μ') := by
  unfold X10_opens
  rw [h.2.2]
  refine ⟨fun q => ?_, fun q => ?_⟩
  · obtain ⟨μ', a1, a2, a3⟩ := failM h
    rw [if_pos (show nI o = 5 by rw [q]; rfl), a1, Option.bind_some]
    exact ⟨μ', rfl, a2, a3⟩
  · rw [if_neg (show ¬ nI o = 5 by rw [show (5 : Int32) = nI 5 from rfl, nI_eq (by omega) (by decide)]; exact q), nI_1]
    obtain ⟨μ', a1, a2, a3⟩ := nextL (h.o (o + 1)) hc
    rw [a1, Option.bind_some]
    exact ⟨μ', rfl, a2, up24.trans a3⟩
/-- what a reading method of the reference does -/
def SpM (B : Nat → Int32) (t base o : Nat) (nm : Nm) (r : PR) (μ : St) (x : Option (Int32 × St)) : Prop := match r with
  | (none, q) => ∃ v μ', x = some (v, μ') ∧ BadM (tokF B t q) μ' ∧ FrM μ μ'
  | (some l, q) => ∃ v μ', x = some (v, μ') ∧ LexM B t base o q μ' ∧ Val nm l v ∧ FrM μ μ'
def RdM (B : Nat → Int32) (t base o : Nat) (p : Nat → PR) (X : St → Option (Int32 × St)) : Prop := ∀ pos μ, LexM B t base o pos μ → SpM B t base o (nmM μ) (p pos) μ (X μ)
theorem SpM.fr {B : Nat → Int32} {t base o : Nat} {nm : Nm} {r : PR} {μ μ1 : St} {x : Option (Int32 × St)} (h : SpM B t base o nm r μ1 x) (k : FrM μ μ1) : SpM B t base o nm r μ x := by
  rcases r with ⟨_ | l, q⟩
  · obtain ⟨v, μ', a1, a2, a3⟩ := h
    exact ⟨v, μ', a1, a2, k.trans a3⟩
  · obtain ⟨v, μ', a1, a2, a3, a4⟩ := h
    exact ⟨v, μ', a1, a2, a3, k.trans a4⟩
theorem tok_cases (B : Nat → Int32) (t pos : Nat) : 0 ≤ (tokC B t pos).toInt ∨ (∃ k, 1 ≤ k ∧ k ≤ 6 ∧ tokC B t pos = cdW k) ∨ (tokC B t pos).toInt ≤ -7 := by
  show 0 ≤ (tkC B t (tokF B t pos)).toInt ∨ (∃ k, 1 ≤ k ∧ k ≤ 6 ∧ tkC B t (tokF B t pos) = cdW k) ∨ (tkC B t (tokF B t pos)).toInt ≤ -7
  by_cases a1 : t ≤ tokF B t pos
  · rw [tkC_end' a1]
    exact Or.inr (Or.inr (by decide))
  · by_cases a2 : lettr (B (tokF B t pos)) = true
    · rw [tkC_w (by omega) a2]
      rcases wCode_cases B (tokF B t pos) (tkN B t (tokF B t pos)) with ⟨k, k1, k2, e⟩ | e
      · rw [e]
        have := (cdW_neg k k2 k1).2.2
        by_cases c : k ≤ 6
        · exact Or.inr (Or.inl ⟨k, k1, c, rfl⟩)
        · exact Or.inr (Or.inr (by omega))
      · rw [e]
        exact Or.inr (Or.inr (by decide))
    · by_cases a3 : digt (B (tokF B t pos)) = true
      · rw [tkC_d (by omega) a2 a3]
        by_cases z : 4 < spn digt B (t - tokF B t pos) (tokF B t pos) - tokF B t pos
        · rw [if_pos z]
          exact Or.inr (Or.inr (by decide))
        · rw [if_neg z, tiI (by have := numT_lt z; omega)]
          exact Or.inl (by omega)
      · rw [tkC_s (by omega) a2 a3]
        have := (sgn_neg (B (tokF B t pos))).1
        exact Or.inr (Or.inr (by omega))
theorem cdW_lo : ∀ k, k < 7 → 1 ≤ k → cdW k = -nI k ∧ ¬ cdW k ≤ -7 ∧ cdW k < 0 ∧ ¬ cdW k = -23 := by
  intro k h1 h2
  rcases (show k = 1 ∨ k = 2 ∨ k = 3 ∨ k = 4 ∨ k = 5 ∨ k = 6 by omega) with rfl | rfl | rfl | rfl | rfl | rfl <;> decide
theorem wM1 {B : Nat → Int32} {t base pos : Nat} {μ : St} (h : TokM B t base pos μ) (h0 : μ.1 0 25 = 0) : X10_isWord 116 111 112 105 99 0 0 0 μ = some (if tokC B t pos = (-1) then 1 else 0) := wordM (k := 1) h h0 (by decide) (by decide)
theorem wM2 {B : Nat → Int32} {t base pos : Nat} {μ : St} (h : TokM B t base pos μ) (h0 : μ.1 0 25 = 0) : X10_isWord 108 97 115 116 0 0 0 0 μ = some (if tokC B t pos = (-2) then 1 else 0) := wordM (k := 2) h h0 (by decide) (by decide)
theorem wM3 {B : Nat → Int32} {t base pos : Nat} {μ : St} (h : TokM B t base pos μ) (h0 : μ.1 0 25 = 0) : X10_isWord 119 97 114 109 116 104 0 0 μ = some (if tokC B t pos = (-3) then 1 else 0) := wordM (k := 3) h h0 (by decide) (by decide)
theorem wM4 {B : Nat → Int32} {t base pos : Nat} {μ : St} (h : TokM B t base pos μ) (h0 : μ.1 0 25 = 0) : X10_isWord 110 117 109 98 101 114 0 0 μ = some (if tokC B t pos = (-4) then 1 else 0) := wordM (k := 4) h h0 (by decide) (by decide)
theorem wM5 {B : Nat → Int32} {t base pos : Nat} {μ : St} (h : TokM B t base pos μ) (h0 : μ.1 0 25 = 0) : X10_isWord 115 97 105 100 0 0 0 0 μ = some (if tokC B t pos = (-5) then 1 else 0) := wordM (k := 5) h h0 (by decide) (by decide)
theorem wM6 {B : Nat → Int32} {t base pos : Nat} {μ : St} (h : TokM B t base pos μ) (h0 : μ.1 0 25 = 0) : X10_isWord 112 108 97 99 101 0 0 0 μ = some (if tokC B t pos = (-6) then 1 else 0) := wordM (k := 6) h h0 (by decide) (by decide)
theorem wM7 {B : Nat → Int32} {t base pos : Nat} {μ : St} (h : TokM B t base pos μ) (h0 : μ.1 0 25 = 0) : X10_isWord 119 97 114 109 115 0 0 0 μ = some (if tokC B t pos = (-16) then 1 else 0) := wordM (k := 7) h h0 (by decide) (by decide)
theorem wM8 {B : Nat → Int32} {t base pos : Nat} {μ : St} (h : TokM B t base pos μ) (h0 : μ.1 0 25 = 0) : X10_isWord 99 111 111 108 115 0 0 0 μ = some (if tokC B t pos = (-17) then 1 else 0) := wordM (k := 8) h h0 (by decide) (by decide)
theorem wM9 {B : Nat → Int32} {t base pos : Nat} {μ : St} (h : TokM B t base pos μ) (h0 : μ.1 0 25 = 0) : X10_isWord 115 99 114 101 97 109 115 0 μ = some (if tokC B t pos = (-18) then 1 else 0) := wordM (k := 9) h h0 (by decide) (by decide)
theorem wM10 {B : Nat → Int32} {t base pos : Nat} {μ : St} (h : TokM B t base pos μ) (h0 : μ.1 0 25 = 0) : X10_isWord 111 114 0 0 0 0 0 0 μ = some (if tokC B t pos = (-7) then 1 else 0) := wordM (k := 10) h h0 (by decide) (by decide)
theorem wM11 {B : Nat → Int32} {t base pos : Nat} {μ : St} (h : TokM B t base pos μ) (h0 : μ.1 0 25 = 0) : X10_isWord 97 110 100 0 0 0 0 0 μ = some (if tokC B t pos = (-8) then 1 else 0) := wordM (k := 11) h h0 (by decide) (by decide)
theorem wM12 {B : Nat → Int32} {t base pos : Nat} {μ : St} (h : TokM B t base pos μ) (h0 : μ.1 0 25 = 0) : X10_isWord 110 111 116 0 0 0 0 0 μ = some (if tokC B t pos = (-9) then 1 else 0) := wordM (k := 12) h h0 (by decide) (by decide)
theorem nameM {B : Nat → Int32} {t base o pos : Nat} {μ : St} (h : LexM B t base o pos μ) : (∀ k, 1 ≤ k → k ≤ 6 → tokC B t pos = cdW k → X10_name μ = some (namedV (nmM μ) (cdW k), μ)) ∧ ((∀ k, 1 ≤ k → k ≤ 6 → tokC B t pos ≠ cdW k) → X10_name μ = (X10_fail μ).bind (fun x151 => some (0, x151))) := by
  unfold X10_name
  rw [wM1 h.1 h.2.1, Option.bind_some, wM2 h.1 h.2.1, Option.bind_some, wM3 h.1 h.2.1, Option.bind_some, wM4 h.1 h.2.1, Option.bind_some, wM5 h.1 h.2.1, Option.bind_some, wM6 h.1 h.2.1, Option.bind_some]
  refine ⟨fun k h1 h2 e => ?_, fun hno => ?_⟩
  · rw [e]
    rcases (show k = 1 ∨ k = 2 ∨ k = 3 ∨ k = 4 ∨ k = 5 ∨ k = 6 by omega) with rfl | rfl | rfl | rfl | rfl | rfl <;> rfl
  · rw [if_neg (show ¬ tokC B t pos = (-1) from hno 1 (by decide) (by decide)), if_pos rfl, if_neg (show ¬ tokC B t pos = (-2) from hno 2 (by decide) (by decide)), if_pos rfl, if_neg (show ¬ tokC B t pos = (-3) from hno 3 (by decide) (by decide)), if_pos rfl, if_neg (show ¬ tokC B t pos = (-4) from hno 4 (by decide) (by decide)), if_pos rfl, if_neg (show ¬ tokC B t pos = (-5) from hno 5 (by decide) (by decide)), if_pos rfl, if_neg (show ¬ tokC B t pos = (-6) from hno 6 (by decide) (by decide)), if_pos rfl]
theorem sM40 {B : Nat → Int32} {t base pos : Nat} {μ : St} (h : TokM B t base pos μ) (h0 : μ.1 0 25 = 0) : X10_isSign 40 μ = some (if tokC B t pos = (-19) then 1 else 0) := signM h h0 (by decide) (by decide)
theorem sM41 {B : Nat → Int32} {t base pos : Nat} {μ : St} (h : TokM B t base pos μ) (h0 : μ.1 0 25 = 0) : X10_isSign 41 μ = some (if tokC B t pos = (-20) then 1 else 0) := signM h h0 (by decide) (by decide)
theorem sM42 {B : Nat → Int32} {t base pos : Nat} {μ : St} (h : TokM B t base pos μ) (h0 : μ.1 0 25 = 0) : X10_isSign 42 μ = some (if tokC B t pos = (-14) then 1 else 0) := signM h h0 (by decide) (by decide)
theorem sM43 {B : Nat → Int32} {t base pos : Nat} {μ : St} (h : TokM B t base pos μ) (h0 : μ.1 0 25 = 0) : X10_isSign 43 μ = some (if tokC B t pos = (-12) then 1 else 0) := signM h h0 (by decide) (by decide)
theorem sM45 {B : Nat → Int32} {t base pos : Nat} {μ : St} (h : TokM B t base pos μ) (h0 : μ.1 0 25 = 0) : X10_isSign 45 μ = some (if tokC B t pos = (-13) then 1 else 0) := signM h h0 (by decide) (by decide)
theorem sM59 {B : Nat → Int32} {t base pos : Nat} {μ : St} (h : TokM B t base pos μ) (h0 : μ.1 0 25 = 0) : X10_isSign 59 μ = some (if tokC B t pos = (-21) then 1 else 0) := signM h h0 (by decide) (by decide)
theorem sM60 {B : Nat → Int32} {t base pos : Nat} {μ : St} (h : TokM B t base pos μ) (h0 : μ.1 0 25 = 0) : X10_isSign 60 μ = some (if tokC B t pos = (-10) then 1 else 0) := signM h h0 (by decide) (by decide)
theorem sM61 {B : Nat → Int32} {t base pos : Nat} {μ : St} (h : TokM B t base pos μ) (h0 : μ.1 0 25 = 0) : X10_isSign 61 μ = some (if tokC B t pos = (-11) then 1 else 0) := signM h h0 (by decide) (by decide)
theorem i1_eq {c : Prop} [Decidable c] (h : c) : (if c then (1 : Int32) else 0) = 1 := if_pos h
theorem i0_eq {c : Prop} [Decidable c] (h : ¬ c) : (if c then (1 : Int32) else 0) = 0 := if_neg h
theorem cls {a b : Nat} (h : a = b + 1) : nI a - 1 = nI b := by rw [h, nI_pred]
theorem atom_M {B : Nat → Int32} {t base k o : Nat} (ho : o + k = 5) {rp : Nat → Nat → PR} {rec : Nat → St → Option (Int32 × St)} (hr : k ≠ 0 → ∀ ty, RdM B t base (o + 1) (rp ty) (fun μ => rec ty μ)) : RdM B t base o (fun p => pOne B t rp k p) (fun μ => X10_atom rec μ) := by
  intro pos μ hL
  show SpM B t base o (nmM μ) (pOne B t rp k pos) μ (X10_atom rec μ)
  unfold pOne X10_atom
  rw [sM45 hL.1 hL.2.1, Option.bind_some]
  by_cases c2 : tokC B t pos = -13
  · rw [i1_eq c2, if_neg ne10, if_pos (show tokC B t pos ≤ -7 by rw [c2]; decide), if_pos c2]
    have op := opensM hL (by rw [c2]; decide) (by omega)
    by_cases k0 : k = 0
    · obtain ⟨μ1, a1, a2, a3⟩ := op.1 (by omega)
      rw [if_pos k0, a1, Option.bind_some, if_pos rfl]
      exact ⟨_, μ1, rfl, a2, a3⟩
    · obtain ⟨μ1, a1, a2, a3⟩ := op.2 (by omega)
      rw [if_neg k0, a1, Option.bind_some, if_neg ne10]
      have h := hr k0 0 (tokN B t pos) μ1 a2
      rw [a3.nm] at h
      dsimp only at h ⊢
      revert h
      rcases rp 0 (tokN B t pos) with ⟨_ | l, q⟩
      · intro h
        obtain ⟨v, μ2, b1', b2, b3⟩ := h
        rw [b1', Option.bind_some]
        exact ⟨_, _, rfl, b2.o _, (a3.trans b3).trans up24⟩
      · intro h
        obtain ⟨v, μ2, b1', b2, b3, b4⟩ := h
        rw [b1', Option.bind_some, b2.2.2, nI_pred]
        exact ⟨_, _, rfl, b2.o o, Val_neg b3, (a3.trans b4).trans up24⟩
  · rw [i0_eq c2, if_pos rfl, sM40 hL.1 hL.2.1, Option.bind_some]
    by_cases c3 : tokC B t pos = -19
    · rw [i1_eq c3, if_neg ne10, if_pos (show tokC B t pos ≤ -7 by rw [c3]; decide), if_neg c2, if_pos c3]
      have op := opensM hL (by rw [c3]; decide) (by omega)
      by_cases k0 : k = 0
      · obtain ⟨μ1, a1, a2, a3⟩ := op.1 (by omega)
        rw [if_pos k0, a1, Option.bind_some, if_pos rfl]
        exact ⟨_, μ1, rfl, a2, a3⟩
      · obtain ⟨μ1, a1, a2, a3⟩ := op.2 (by omega)
        rw [if_neg k0, a1, Option.bind_some, if_neg ne10]
        have h := hr k0 1 (tokN B t pos) μ1 a2
        rw [a3.nm] at h
        dsimp only at h ⊢
        revert h
        rcases rp 1 (tokN B t pos) with ⟨_ | l, q⟩
        · intro h
          obtain ⟨v, μ2, b1', b2, b3⟩ := h
          rw [b1', Option.bind_some, signB b2, Option.bind_some, if_pos rfl, failB b2, Option.bind_some]
          unfold X10_atom_b71
          rw [(b2.o _).1, if_neg ne10]
          exact ⟨_, _, rfl, b2.o _, (a3.trans b3).trans up24⟩
        · intro h
          obtain ⟨v, μ2, b1', b2, b3, b4⟩ := h
          rw [b1', Option.bind_some, sM41 b2.1 b2.2.1, Option.bind_some]
          show SpM B t base o (nmM μ) (if tokC B t q = -20 then (some l, tokN B t q) else (none, q)) μ _
          by_cases c4 : tokC B t q = -20
          · rw [if_pos c4, if_pos c4, if_neg ne10]
            unfold X10_atom_b71
            dsimp only
            rw [b2.2.2, nI_pred, (b2.o o).2.1, if_pos rfl]
            obtain ⟨μ3, d1, d2, d3⟩ := nextL (b2.o o) (by rw [c4]; decide)
            rw [d1, Option.bind_some]
            exact ⟨_, μ3, rfl, d2, b3, ((a3.trans b4).trans up24).trans d3⟩
          · rw [if_neg c4, if_neg c4, if_pos rfl]
            obtain ⟨μ3, d1, d2, d3⟩ := failM b2
            rw [d1, Option.bind_some]
            unfold X10_atom_b71
            rw [(d2.o _).1, if_neg ne10]
            exact ⟨_, _, rfl, d2.o _, ((a3.trans b4).trans d3).trans up24⟩
    · rw [i0_eq c3, if_pos rfl, hL.2.1, if_pos rfl]
      have bad : (tokC B t pos).toInt ≤ -7 → ∀ x, (x = (X10_fail μ).bind (fun x158 => some ((0 : Int32), x158))) → SpM B t base o (nmM μ) (if tokC B t pos ≤ -7 then (if tokC B t pos = -13 then (if k = 0 then (none, pos) else pApp (-15) (rp 0 (tokN B t pos))) else if tokC B t pos = -19 then (if k = 0 then (none, pos) else pPar B t (rp 1 (tokN B t pos))) else (none, pos)) else (some [tokC B t pos], tokN B t pos)) μ x := fun hc x hx => by
        obtain ⟨μ1, a1, a2, a3⟩ := failM hL
        rw [if_pos (show tokC B t pos ≤ -7 by rw [Int32.le_iff_toInt_le]; exact hc), if_neg c2, if_neg c3, hx, a1, Option.bind_some]
        exact ⟨_, μ1, rfl, a2, a3⟩
      by_cases n2 : μ.1 0 21 = 2
      · have hc := (kind2 hL.1).mp n2
        rw [if_pos n2, if_neg (show ¬ tokC B t pos ≤ -7 by rw [Int32.le_iff_toInt_le, show (-7 : Int32).toInt = -7 by decide]; omega)]
        obtain ⟨μ1, a1, a2, a3⟩ := nextL hL (fun q => by rw [q, show (-23 : Int32).toInt = -23 by decide] at hc; omega)
        rw [a1, Option.bind_some, worth2 hL.1 n2]
        have hv := Val_one (nm := nmM μ) (c := tokC B t pos) (show ¬ tokC B t pos ≤ -7 by rw [Int32.le_iff_toInt_le, show (-7 : Int32).toInt = -7 by decide]; omega)
        unfold pushV at hv
        rw [if_neg (show ¬ tokC B t pos < 0 by rw [lt0I]; omega)] at hv
        exact ⟨_, μ1, rfl, a2, hv, a3⟩
      · have hc : ¬ 0 ≤ (tokC B t pos).toInt := fun q => n2 ((kind2 hL.1).mpr q)
        rw [if_neg n2]
        unfold X10_atom_b123 X10_atom_b157
        rw [hL.2.1, if_pos rfl]
        rcases tok_cases B t pos with q | ⟨kk, k1, k2, e⟩ | q
        · exact absurd q hc
        · obtain ⟨z1, z2, z3, z4⟩ := cdW_lo kk (by omega) k1
          rw [if_pos ((kind1 hL.1).2 ⟨kk, k1, k2, e⟩), (nameM hL).1 kk k1 k2 e, Option.bind_some]
          dsimp only
          rw [hL.2.1, if_pos rfl, e, if_neg z2]
          obtain ⟨μ1, a1, a2, a3⟩ := nextL hL (by rw [e]; exact z4)
          rw [a1, Option.bind_some]
          have hv := Val_one (nm := nmM μ) z2
          unfold pushV at hv
          rw [if_pos z3] at hv
          exact ⟨_, μ1, rfl, a2, hv, a3⟩
        · have hno : ∀ k, 1 ≤ k → k ≤ 6 → tokC B t pos ≠ cdW k := fun k k1 k2 e => by
            have := (cdW_lo k (by omega) k1).2.1
            rw [← e, Int32.le_iff_toInt_le] at this
            exact this q
          by_cases n1 : μ.1 0 21 = 1
          · obtain ⟨μ1, a1, a2, a3⟩ := failM hL
            rw [if_pos n1, (nameM hL).2 hno, a1, Option.bind_some, Option.bind_some]
            dsimp only
            rw [a2.1, if_neg ne10]
            exact bad q _ (by rw [a1, Option.bind_some])
          · rw [if_neg n1]
            exact bad q _ rfl
theorem end160 {B : Nat → Int32} {t pos : Nat} (ht : t ≤ 160) (h : 160 ≤ tokF B t pos) : tokC B t pos = -22 := tkC_end' (by omega)
theorem termM_loop {B : Nat → Int32} {t base o : Nat} {rec : Nat → St → Option (Int32 × St)} {sub : Nat → PR} (hg : GoodP B t sub) (hs : RdM B t base o sub (fun μ => X10_atom rec μ)) {nm : Nm} : ∀ (d F pos : Nat) (l : List Int32) (v : Int32) (μ : St), 160 ≤ d + tokF B t pos → d < F → LexM B t base o pos μ → Val nm l v → nmM μ = nm → SpM B t base o nm (pLoop B t okT sub d l pos) μ (X10_term_b5 rec F v μ) := by
  intro d
  induction d with
  | zero =>
    intro F pos l v μ hd hF hL hv hn
    obtain ⟨F', rfl⟩ : ∃ F', F = F' + 1 := ⟨F - 1, by omega⟩
    have ht := hL.1.1.1.1
    rw [X10_term_b5, sM42 hL.1 hL.2.1, Option.bind_some, if_neg (show ¬ tokC B t pos = (-14) by rw [end160 ht (by omega)]; decide), if_pos rfl]
    exact ⟨v, μ, rfl, hL, hv, FrM.refl μ⟩
  | succ d ih =>
    intro F pos l v μ hd hF hL hv hn
    obtain ⟨F', rfl⟩ : ∃ F', F = F' + 1 := ⟨F - 1, by omega⟩
    have hp := hL.1.2.1
    rw [X10_term_b5, sM42 hL.1 hL.2.1, Option.bind_some]
    unfold pLoop
    by_cases c : tokC B t pos = (-14)
    · obtain ⟨μ1, a1, a2, a3⟩ := nextL hL (by rw [c]; decide)
      have hN := tokN_le (B := B) hp
      have hnx := tokF_next (B := B) hp (by rw [c]; decide)
      have g := hg _ hN.2
      have h := hs (tokN B t pos) μ1 a2
      rw [a3.nm, hn] at h
      rw [if_pos c, if_neg ne10, if_pos (show okT (tokC B t pos) = true from decide_eq_true c), c, a1, Option.bind_some]
      dsimp only at h ⊢
      revert h g
      rcases sub (tokN B t pos) with ⟨_ | l2, q⟩
      · intro g h
        obtain ⟨w, μ2, b1', b2, b3⟩ := h
        obtain ⟨F2, rfl⟩ : ∃ F2, F' = F2 + 1 := ⟨F' - 1, by omega⟩
        have stop : ∀ x, X10_term_b5 rec (F2 + 1) x μ2 = some (x, μ2) := fun x => by
          rw [X10_term_b5, signB b2 _, Option.bind_some, if_pos rfl]
        rw [b1', Option.bind_some]
        exact ⟨v * w, μ2, stop _, b2, a3.trans b3⟩
      · intro g h
        obtain ⟨w, μ2, b1', b2, b3, b4⟩ := h
        have g1 := (g.2 l2 rfl).1
        dsimp only at g1
        have hb := Val_bin (c := (-14)) hv b3 (by decide) (by decide) (by decide)
        rw [b1', Option.bind_some]
        have go := fun x (hx : Val nm (l ++ (l2 ++ [(-14 : Int32)])) x) => SpM.fr (ih F' q (l ++ (l2 ++ [-14])) x μ2 (by omega) (by omega) b2 hx (b4.nm.trans (a3.nm.trans hn))) (a3.trans b4)
        exact go (v * w) hb
    · rw [if_neg c, if_pos rfl, if_neg (show ¬ okT (tokC B t pos) = true from fun q => c (of_decide_eq_true q))]
      exact ⟨v, μ, rfl, hL, hv, FrM.refl μ⟩
theorem termM_chain {B : Nat → Int32} {t base o : Nat} {rec : Nat → St → Option (Int32 × St)} {sub : Nat → PR} (hg : GoodP B t sub) (hs : RdM B t base o sub (fun μ => X10_atom rec μ)) : RdM B t base o (fun p => pChain B t okT sub p) (fun μ => X10_term rec μ) := by
  intro pos μ hL
  show SpM B t base o (nmM μ) (pChain B t okT sub pos) μ (X10_term rec μ)
  have h := hs pos μ hL
  have g := hg pos hL.1.2.1
  unfold pChain X10_term
  dsimp only at h
  revert h g
  rcases sub pos with ⟨_ | l2, q⟩
  · intro h g
    obtain ⟨w, μ2, b1', b2, b3⟩ := h
    rw [b1', Option.bind_some]
    dsimp only
    rw [FU_eq, X10_term_b5, signB b2 _, Option.bind_some]
    exact ⟨w, μ2, rfl, b2, b3⟩
  · intro h g
    obtain ⟨w, μ2, b1', b2, b3, b4⟩ := h
    rw [b1', Option.bind_some]
    exact SpM.fr (termM_loop hg hs 160 FU q l2 w μ2 (by omega) (by rw [FU_eq]; omega) b2 b3 b4.nm) b4
theorem sumM_loop {B : Nat → Int32} {t base o : Nat} {rec : Nat → St → Option (Int32 × St)} {sub : Nat → PR} (hg : GoodP B t sub) (hs : RdM B t base o sub (fun μ => X10_term rec μ)) {nm : Nm} : ∀ (d F pos : Nat) (l : List Int32) (v : Int32) (μ : St), 160 ≤ d + tokF B t pos → d < F → LexM B t base o pos μ → Val nm l v → nmM μ = nm → SpM B t base o nm (pLoop B t okS sub d l pos) μ (X10_added_b5 rec F v μ) := by
  intro d
  induction d with
  | zero =>
    intro F pos l v μ hd hF hL hv hn
    obtain ⟨F', rfl⟩ : ∃ F', F = F' + 1 := ⟨F - 1, by omega⟩
    have ht := hL.1.1.1.1
    rw [X10_added_b5, sM43 hL.1 hL.2.1, Option.bind_some, if_neg (show ¬ tokC B t pos = (-12) by rw [end160 ht (by omega)]; decide), if_pos rfl, sM45 hL.1 hL.2.1, Option.bind_some, if_neg (show ¬ tokC B t pos = (-13) by rw [end160 ht (by omega)]; decide), if_pos rfl]
    exact ⟨v, μ, rfl, hL, hv, FrM.refl μ⟩
  | succ d ih =>
    intro F pos l v μ hd hF hL hv hn
    obtain ⟨F', rfl⟩ : ∃ F', F = F' + 1 := ⟨F - 1, by omega⟩
    have hp := hL.1.2.1
    have core : ∀ (s0 c : Int32), tokC B t pos = c → c ≤ -7 ∧ ¬ c = -9 ∧ ¬ c = -15 ∧ ¬ c = -22 ∧ ¬ c = -23 → (∀ x y : Int32, joinV c x y = if s0 = 0 then x - y else x + y) → SpM B t base o nm (pBind (sub (tokN B t pos)) (fun l2 q => pLoop B t okS sub d (l ++ (l2 ++ [tokC B t pos])) q)) μ (X10_added_b39 rec (X10_added_b5 rec F') v s0 μ) := fun s0 c hc hc2 hj => by
      obtain ⟨o1, o2, o3, o4, o5⟩ := hc2
      obtain ⟨μ1, a1, a2, a3⟩ := nextL hL (by rw [hc]; exact o5)
      have hN := tokN_le (B := B) hp
      have hnx := tokF_next (B := B) hp (by rw [hc]; exact o4)
      have g := hg _ hN.2
      have h := hs (tokN B t pos) μ1 a2
      rw [a3.nm, hn] at h
      unfold X10_added_b39 X10_added_b62
      rw [hc, a1, Option.bind_some]
      dsimp only at h ⊢
      revert h g
      rcases sub (tokN B t pos) with ⟨_ | l2, q⟩
      · intro g h
        obtain ⟨w, μ2, b1', b2, b3⟩ := h
        obtain ⟨F2, rfl⟩ : ∃ F2, F' = F2 + 1 := ⟨F' - 1, by omega⟩
        have stop : ∀ x, X10_added_b5 rec (F2 + 1) x μ2 = some (x, μ2) := fun x => by
          rw [X10_added_b5, signB b2 _, Option.bind_some, if_pos rfl, signB b2 _, Option.bind_some, if_pos rfl]
        rw [b1', Option.bind_some]
        dsimp only
        rw [stop, stop]
        by_cases z : s0 = 0
        · rw [if_pos z]
          exact ⟨_, μ2, rfl, b2, a3.trans b3⟩
        · rw [if_neg z]
          exact ⟨_, μ2, rfl, b2, a3.trans b3⟩
      · intro g h
        obtain ⟨w, μ2, b1', b2, b3, b4⟩ := h
        have g1 := (g.2 l2 rfl).1
        dsimp only at g1
        have hb := Val_bin (c := c) hv b3 o1 o2 o3
        rw [hj] at hb
        rw [b1', Option.bind_some]
        have go := fun x (hx : Val nm (l ++ (l2 ++ [c])) x) => SpM.fr (ih F' q (l ++ (l2 ++ [c])) x μ2 (by omega) (by omega) b2 hx (b4.nm.trans (a3.nm.trans hn))) (a3.trans b4)
        by_cases z : s0 = 0
        · rw [if_pos z] at hb ⊢
          exact go _ hb
        · rw [if_neg z] at hb ⊢
          exact go _ hb
    rw [X10_added_b5, sM43 hL.1 hL.2.1, Option.bind_some, sM45 hL.1 hL.2.1, Option.bind_some]
    unfold pLoop X10_added_b23
    by_cases c : tokC B t pos = -12
    · have w3 : μ.2 = 43 := (worth3 hL.1 (s := 43) (c := -12) (by decide) (by decide) (fun k k1 k2 => by
        intro q
        exact cd_sgn k k1 k2 43 q.symm) c).trans (by decide)
      rw [if_pos c, if_neg ne10, if_pos ((lg_eq _ _).mpr w3), if_pos (show okS (tokC B t pos) = true from decide_eq_true (Or.inl c))]
      exact core 1 (-12) c (by decide) (fun x y => rfl)
    · rw [if_neg c, if_pos rfl]
      by_cases c' : tokC B t pos = -13
      · have w3 : μ.2 = 45 := (worth3 hL.1 (s := 45) (c := -13) (by decide) (by decide) (fun k k1 k2 => by
          intro q
          exact cd_sgn k k1 k2 45 q.symm) c').trans (by decide)
        rw [if_pos c', if_neg ne10, if_neg (show ¬ lg_cmp μ.2 43 = 0 by rw [w3]; decide), if_pos (show okS (tokC B t pos) = true from decide_eq_true (Or.inr c'))]
        exact core 0 (-13) c' (by decide) (fun x y => rfl)
      · rw [if_neg c', if_pos rfl, if_neg (show ¬ okS (tokC B t pos) = true from fun q => (of_decide_eq_true q).elim c c')]
        exact ⟨v, μ, rfl, hL, hv, FrM.refl μ⟩
theorem sumM_chain {B : Nat → Int32} {t base o : Nat} {rec : Nat → St → Option (Int32 × St)} {sub : Nat → PR} (hg : GoodP B t sub) (hs : RdM B t base o sub (fun μ => X10_term rec μ)) : RdM B t base o (fun p => pChain B t okS sub p) (fun μ => X10_added rec μ) := by
  intro pos μ hL
  show SpM B t base o (nmM μ) (pChain B t okS sub pos) μ (X10_added rec μ)
  have h := hs pos μ hL
  have g := hg pos hL.1.2.1
  unfold pChain X10_added
  dsimp only at h
  revert h g
  rcases sub pos with ⟨_ | l2, q⟩
  · intro h g
    obtain ⟨w, μ2, b1', b2, b3⟩ := h
    rw [b1', Option.bind_some]
    dsimp only
    rw [FU_eq, X10_added_b5, signB b2 _, Option.bind_some, if_pos rfl, signB b2 _, Option.bind_some]
    exact ⟨w, μ2, rfl, b2, b3⟩
  · intro h g
    obtain ⟨w, μ2, b1', b2, b3, b4⟩ := h
    rw [b1', Option.bind_some]
    exact SpM.fr (sumM_loop hg hs 160 FU q l2 w μ2 (by omega) (by rw [FU_eq]; omega) b2 b3 b4.nm) b4
theorem not_M {B : Nat → Int32} {t base k o : Nat} (ho : o + k = 5) {rp : Nat → Nat → PR} {rec : Nat → St → Option (Int32 × St)} (hg : k ≠ 0 → ∀ ty, GoodP B t (rp ty)) (hr : k ≠ 0 → ∀ ty, RdM B t base (o + 1) (rp ty) (fun μ => rec ty μ)) : RdM B t base o (fun p => pNot B t rp k p) (fun μ => X10_not rec μ) := by
  have hsum : RdM B t base o (fun p => pSum B t rp k p) (fun μ => X10_added rec μ) := sumM_chain (good_chain opT (good_one hg)) (termM_chain (good_one hg) (atom_M ho hr))
  have gsum := good_sum hg
  intro pos μ hL
  show SpM B t base o (nmM μ) (pNot B t rp k pos) μ (X10_not rec μ)
  have hp := hL.1.2.1
  unfold pNot X10_not
  rw [wM12 hL.1 hL.2.1, Option.bind_some]
  by_cases c1 : tokC B t pos = -9
  · rw [i1_eq c1, if_neg ne10, if_pos c1]
    have op := opensM hL (by rw [c1]; decide) (by omega)
    by_cases k0 : k = 0
    · obtain ⟨μ1, a1, a2, a3⟩ := op.1 (by omega)
      rw [if_pos k0, a1, Option.bind_some, if_pos rfl]
      exact ⟨_, μ1, rfl, a2, a3⟩
    · obtain ⟨μ1, a1, a2, a3⟩ := op.2 (by omega)
      rw [if_neg k0, a1, Option.bind_some, if_neg ne10]
      have h := hr k0 2 (tokN B t pos) μ1 a2
      rw [a3.nm] at h
      dsimp only at h ⊢
      revert h
      rcases rp 2 (tokN B t pos) with ⟨_ | l, q⟩
      · intro h
        obtain ⟨v, μ2, b1', b2, b3⟩ := h
        rw [b1', Option.bind_some]
        dsimp only
        by_cases z : v = 0
        · rw [if_pos z]
          exact ⟨_, _, rfl, b2.o _, (a3.trans b3).trans up24⟩
        · rw [if_neg z]
          exact ⟨_, _, rfl, b2.o _, (a3.trans b3).trans up24⟩
      · intro h
        obtain ⟨v, μ2, b1', b2, b3, b4⟩ := h
        rw [b1', Option.bind_some]
        dsimp only
        rw [b2.2.2, nI_pred]
        have hv := Val_not b3
        unfold notV at hv
        by_cases z : v = 0
        · rw [if_pos z] at hv ⊢
          exact ⟨_, _, rfl, b2.o o, hv, (a3.trans b4).trans up24⟩
        · rw [if_neg z] at hv ⊢
          exact ⟨_, _, rfl, b2.o o, hv, (a3.trans b4).trans up24⟩
  · rw [i0_eq c1, if_pos rfl, if_neg c1]
    have h := hsum pos μ hL
    have g := gsum pos hp
    dsimp only at h g
    revert h g
    rcases pSum B t rp k pos with ⟨_ | l2, q⟩
    · intro h g
      obtain ⟨w, μ2, b1', b2, b3⟩ := h
      rw [b1', Option.bind_some]
      dsimp only
      rw [signB b2, Option.bind_some, if_pos rfl, signB b2, Option.bind_some, if_pos rfl]
      exact ⟨w, μ2, rfl, b2, b3⟩
    · intro h g
      obtain ⟨w, μ2, b1', b2, b3, b4⟩ := h
      rw [b1', Option.bind_some]
      dsimp only
      rw [sM60 b2.1 b2.2.1, Option.bind_some, sM61 b2.1 b2.2.1, Option.bind_some]
      show SpM B t base o (nmM μ) (if tokC B t q = -10 ∨ tokC B t q = -11 then pBind (pSum B t rp k (tokN B t q)) (fun l3 q2 => (some (l2 ++ (l3 ++ [tokC B t q])), q2)) else (some l2, q)) μ _
      unfold X10_not_b77
      have go : ∀ (s0 c : Int32), tokC B t q = c → c ≤ -7 ∧ ¬ c = -9 ∧ ¬ c = -15 ∧ ¬ c = -22 ∧ ¬ c = -23 → (∀ x y : Int32, joinV c x y = if s0 = 0 then (if x = y then 1 else 0) else (if y ≤ x then 0 else 1)) → SpM B t base o (nmM μ) (pBind (pSum B t rp k (tokN B t q)) (fun l3 q2 => (some (l2 ++ (l3 ++ [tokC B t q])), q2))) μ (X10_not_b93 rec w s0 μ2) := fun s0 c hc hc2 hj => by
        obtain ⟨o1, o2, o3, o4, o5⟩ := hc2
        obtain ⟨μ3, d1, d2, d3⟩ := nextL b2 (by rw [hc]; exact o5)
        have h' := hsum (tokN B t q) μ3 d2
        rw [d3.nm, b4.nm] at h'
        dsimp only at h'
        unfold X10_not_b93
        rw [d1, Option.bind_some, hc]
        revert h'
        rcases pSum B t rp k (tokN B t q) with ⟨_ | l3, q2⟩
        · intro h'
          obtain ⟨w2, μ4, f1, f2, f3⟩ := h'
          rw [f1, Option.bind_some]
          dsimp only
          have fr := (b4.trans d3).trans f3
          split
          · split
            · exact ⟨_, μ4, rfl, f2, fr⟩
            · exact ⟨_, μ4, rfl, f2, fr⟩
          · split
            · exact ⟨_, μ4, rfl, f2, fr⟩
            · exact ⟨_, μ4, rfl, f2, fr⟩
        · intro h'
          obtain ⟨w2, μ4, f1, f2, f3, f4⟩ := h'
          have hb := Val_bin (c := c) b3 f3 o1 o2 o3
          rw [hj] at hb
          have fr := (b4.trans d3).trans f4
          rw [f1, Option.bind_some]
          dsimp only
          by_cases z : s0 = 0
          · rw [if_pos z] at hb ⊢
            by_cases y : w = w2
            · rw [if_pos y] at hb ⊢
              exact ⟨_, μ4, rfl, f2, hb, fr⟩
            · rw [if_neg y] at hb ⊢
              exact ⟨_, μ4, rfl, f2, hb, fr⟩
          · rw [if_neg z] at hb ⊢
            by_cases y : w2 ≤ w
            · rw [if_pos y] at hb ⊢
              exact ⟨_, μ4, rfl, f2, hb, fr⟩
            · rw [if_neg y] at hb ⊢
              exact ⟨_, μ4, rfl, f2, hb, fr⟩
      by_cases c2 : tokC B t q = -10
      · have w3 : μ2.2 = 60 := (worth3 b2.1 (s := 60) (c := -10) (by decide) (by decide) (fun k k1 k2 => by
          intro q
          exact cd_sgn k k1 k2 60 q.symm) c2).trans (by decide)
        rw [if_pos (Or.inl c2), if_pos c2, if_neg ne10, if_pos ((lg_eq _ _).mpr w3)]
        exact go 1 (-10) c2 (by decide) (fun x y => rfl)
      · rw [if_neg c2, if_pos rfl]
        by_cases c3 : tokC B t q = -11
        · have w3 : μ2.2 = 61 := (worth3 b2.1 (s := 61) (c := -11) (by decide) (by decide) (fun k k1 k2 => by
            intro q
            exact cd_sgn k k1 k2 61 q.symm) c3).trans (by decide)
          rw [if_pos (Or.inr c3), if_pos c3, if_neg ne10, if_neg (show ¬ lg_cmp μ2.2 60 = 0 by rw [w3]; decide)]
          exact go 0 (-11) c3 (by decide) (fun x y => rfl)
        · rw [if_neg (fun z => z.elim c2 c3), if_neg c3, if_pos rfl]
          exact ⟨w, μ2, rfl, b2, b3, b4⟩
theorem bothM_loop {B : Nat → Int32} {t base o : Nat} {rec : Nat → St → Option (Int32 × St)} {sub : Nat → PR} (hg : GoodP B t sub) (hs : RdM B t base o sub (fun μ => X10_not rec μ)) {nm : Nm} : ∀ (d F pos : Nat) (l : List Int32) (v : Int32) (μ : St), 160 ≤ d + tokF B t pos → d < F → LexM B t base o pos μ → Val nm l v → nmM μ = nm → SpM B t base o nm (pLoop B t okA sub d l pos) μ (X10_both_b5 rec F v μ) := by
  intro d
  induction d with
  | zero =>
    intro F pos l v μ hd hF hL hv hn
    obtain ⟨F', rfl⟩ : ∃ F', F = F' + 1 := ⟨F - 1, by omega⟩
    have ht := hL.1.1.1.1
    rw [X10_both_b5, wM11 hL.1 hL.2.1, Option.bind_some, if_neg (show ¬ tokC B t pos = (-8) by rw [end160 ht (by omega)]; decide), if_pos rfl]
    exact ⟨v, μ, rfl, hL, hv, FrM.refl μ⟩
  | succ d ih =>
    intro F pos l v μ hd hF hL hv hn
    obtain ⟨F', rfl⟩ : ∃ F', F = F' + 1 := ⟨F - 1, by omega⟩
    have hp := hL.1.2.1
    rw [X10_both_b5, wM11 hL.1 hL.2.1, Option.bind_some]
    unfold pLoop
    by_cases c : tokC B t pos = (-8)
    · obtain ⟨μ1, a1, a2, a3⟩ := nextL hL (by rw [c]; decide)
      have hN := tokN_le (B := B) hp
      have hnx := tokF_next (B := B) hp (by rw [c]; decide)
      have g := hg _ hN.2
      have h := hs (tokN B t pos) μ1 a2
      rw [a3.nm, hn] at h
      rw [if_pos c, if_neg ne10, if_pos (show okA (tokC B t pos) = true from decide_eq_true c), c, a1, Option.bind_some]
      dsimp only at h ⊢
      revert h g
      rcases sub (tokN B t pos) with ⟨_ | l2, q⟩
      · intro g h
        obtain ⟨w, μ2, b1', b2, b3⟩ := h
        obtain ⟨F2, rfl⟩ : ∃ F2, F' = F2 + 1 := ⟨F' - 1, by omega⟩
        have stop : ∀ x, X10_both_b5 rec (F2 + 1) x μ2 = some (x, μ2) := fun x => by
          rw [X10_both_b5, wordB b2, Option.bind_some, if_pos rfl]
        rw [b1', Option.bind_some]
        unfold X10_both_b45
        dsimp only
        rw [stop, stop]
        split
        · exact ⟨_, μ2, rfl, b2, a3.trans b3⟩
        · split
          · exact ⟨_, μ2, rfl, b2, a3.trans b3⟩
          · exact ⟨_, μ2, rfl, b2, a3.trans b3⟩
      · intro g h
        obtain ⟨w, μ2, b1', b2, b3, b4⟩ := h
        have g1 := (g.2 l2 rfl).1
        dsimp only at g1
        have hb := Val_bin (c := (-8)) hv b3 (by decide) (by decide) (by decide)
        rw [b1', Option.bind_some]
        have go := fun x (hx : Val nm (l ++ (l2 ++ [(-8 : Int32)])) x) => SpM.fr (ih F' q (l ++ (l2 ++ [-8])) x μ2 (by omega) (by omega) b2 hx (b4.nm.trans (a3.nm.trans hn))) (a3.trans b4)
        rw [show joinV (-8) v w = (if v = 0 then 0 else if w = 0 then 0 else 1) from rfl] at hb
        unfold X10_both_b45
        dsimp only
        by_cases z : v = 0
        · rw [if_pos z] at hb ⊢
          exact go _ hb
        · rw [if_neg z] at hb ⊢
          by_cases y : w = 0
          · rw [if_pos y] at hb ⊢
            exact go _ hb
          · rw [if_neg y] at hb ⊢
            exact go _ hb
    · rw [if_neg c, if_pos rfl, if_neg (show ¬ okA (tokC B t pos) = true from fun q => c (of_decide_eq_true q))]
      exact ⟨v, μ, rfl, hL, hv, FrM.refl μ⟩
theorem bothM_chain {B : Nat → Int32} {t base o : Nat} {rec : Nat → St → Option (Int32 × St)} {sub : Nat → PR} (hg : GoodP B t sub) (hs : RdM B t base o sub (fun μ => X10_not rec μ)) : RdM B t base o (fun p => pChain B t okA sub p) (fun μ => X10_both rec μ) := by
  intro pos μ hL
  show SpM B t base o (nmM μ) (pChain B t okA sub pos) μ (X10_both rec μ)
  have h := hs pos μ hL
  have g := hg pos hL.1.2.1
  unfold pChain X10_both
  dsimp only at h
  revert h g
  rcases sub pos with ⟨_ | l2, q⟩
  · intro h g
    obtain ⟨w, μ2, b1', b2, b3⟩ := h
    rw [b1', Option.bind_some]
    dsimp only
    rw [FU_eq, X10_both_b5, wordB b2, Option.bind_some]
    exact ⟨w, μ2, rfl, b2, b3⟩
  · intro h g
    obtain ⟨w, μ2, b1', b2, b3, b4⟩ := h
    rw [b1', Option.bind_some]
    exact SpM.fr (bothM_loop hg hs 160 FU q l2 w μ2 (by omega) (by rw [FU_eq]; omega) b2 b3 b4.nm) b4
theorem eitherM_loop {B : Nat → Int32} {t base o : Nat} {rec : Nat → St → Option (Int32 × St)} {sub : Nat → PR} (hg : GoodP B t sub) (hs : RdM B t base o sub (fun μ => X10_both rec μ)) {nm : Nm} : ∀ (d F pos : Nat) (l : List Int32) (v : Int32) (μ : St), 160 ≤ d + tokF B t pos → d < F → LexM B t base o pos μ → Val nm l v → nmM μ = nm → SpM B t base o nm (pLoop B t okO sub d l pos) μ (X10_either_b5 rec F v μ) := by
  intro d
  induction d with
  | zero =>
    intro F pos l v μ hd hF hL hv hn
    obtain ⟨F', rfl⟩ : ∃ F', F = F' + 1 := ⟨F - 1, by omega⟩
    have ht := hL.1.1.1.1
    rw [X10_either_b5, wM10 hL.1 hL.2.1, Option.bind_some, if_neg (show ¬ tokC B t pos = (-7) by rw [end160 ht (by omega)]; decide), if_pos rfl]
    exact ⟨v, μ, rfl, hL, hv, FrM.refl μ⟩
  | succ d ih =>
    intro F pos l v μ hd hF hL hv hn
    obtain ⟨F', rfl⟩ : ∃ F', F = F' + 1 := ⟨F - 1, by omega⟩
    have hp := hL.1.2.1
    rw [X10_either_b5, wM10 hL.1 hL.2.1, Option.bind_some]
    unfold pLoop
    by_cases c : tokC B t pos = (-7)
    · obtain ⟨μ1, a1, a2, a3⟩ := nextL hL (by rw [c]; decide)
      have hN := tokN_le (B := B) hp
      have hnx := tokF_next (B := B) hp (by rw [c]; decide)
      have g := hg _ hN.2
      have h := hs (tokN B t pos) μ1 a2
      rw [a3.nm, hn] at h
      rw [if_pos c, if_neg ne10, if_pos (show okO (tokC B t pos) = true from decide_eq_true c), c, a1, Option.bind_some]
      dsimp only at h ⊢
      revert h g
      rcases sub (tokN B t pos) with ⟨_ | l2, q⟩
      · intro g h
        obtain ⟨w, μ2, b1', b2, b3⟩ := h
        obtain ⟨F2, rfl⟩ : ∃ F2, F' = F2 + 1 := ⟨F' - 1, by omega⟩
        have stop : ∀ x, X10_either_b5 rec (F2 + 1) x μ2 = some (x, μ2) := fun x => by
          rw [X10_either_b5, wordB b2, Option.bind_some, if_pos rfl]
        rw [b1', Option.bind_some]
        unfold X10_either_b44
        dsimp only
        rw [stop, stop]
        split
        · split
          · exact ⟨_, μ2, rfl, b2, a3.trans b3⟩
          · exact ⟨_, μ2, rfl, b2, a3.trans b3⟩
        · exact ⟨_, μ2, rfl, b2, a3.trans b3⟩
      · intro g h
        obtain ⟨w, μ2, b1', b2, b3, b4⟩ := h
        have g1 := (g.2 l2 rfl).1
        dsimp only at g1
        have hb := Val_bin (c := (-7)) hv b3 (by decide) (by decide) (by decide)
        rw [b1', Option.bind_some]
        have go := fun x (hx : Val nm (l ++ (l2 ++ [(-7 : Int32)])) x) => SpM.fr (ih F' q (l ++ (l2 ++ [-7])) x μ2 (by omega) (by omega) b2 hx (b4.nm.trans (a3.nm.trans hn))) (a3.trans b4)
        rw [show joinV (-7) v w = (if v = 0 then (if w = 0 then 0 else 1) else 1) from rfl] at hb
        unfold X10_either_b44
        dsimp only
        by_cases z : v = 0
        · rw [if_pos z] at hb ⊢
          by_cases y : w = 0
          · rw [if_pos y] at hb ⊢
            exact go _ hb
          · rw [if_neg y] at hb ⊢
            exact go _ hb
        · rw [if_neg z] at hb ⊢
          exact go _ hb
    · rw [if_neg c, if_pos rfl, if_neg (show ¬ okO (tokC B t pos) = true from fun q => c (of_decide_eq_true q))]
      exact ⟨v, μ, rfl, hL, hv, FrM.refl μ⟩
theorem eitherM_chain {B : Nat → Int32} {t base o : Nat} {rec : Nat → St → Option (Int32 × St)} {sub : Nat → PR} (hg : GoodP B t sub) (hs : RdM B t base o sub (fun μ => X10_both rec μ)) : RdM B t base o (fun p => pChain B t okO sub p) (fun μ => X10_either rec μ) := by
  intro pos μ hL
  show SpM B t base o (nmM μ) (pChain B t okO sub pos) μ (X10_either rec μ)
  have h := hs pos μ hL
  have g := hg pos hL.1.2.1
  unfold pChain X10_either
  dsimp only at h
  revert h g
  rcases sub pos with ⟨_ | l2, q⟩
  · intro h g
    obtain ⟨w, μ2, b1', b2, b3⟩ := h
    rw [b1', Option.bind_some]
    dsimp only
    rw [FU_eq, X10_either_b5, wordB b2, Option.bind_some]
    exact ⟨w, μ2, rfl, b2, b3⟩
  · intro h g
    obtain ⟨w, μ2, b1', b2, b3, b4⟩ := h
    rw [b1', Option.bind_some]
    exact SpM.fr (eitherM_loop hg hs 160 FU q l2 w μ2 (by omega) (by rw [FU_eq]; omega) b2 b3 b4.nm) b4
theorem or_M {B : Nat → Int32} {t base k o : Nat} (ho : o + k = 5) {rp : Nat → Nat → PR} {rec : Nat → St → Option (Int32 × St)} (hg : k ≠ 0 → ∀ ty, GoodP B t (rp ty)) (hr : k ≠ 0 → ∀ ty, RdM B t base (o + 1) (rp ty) (fun μ => rec ty μ)) : RdM B t base o (fun p => pOr B t rp k p) (fun μ => X10_either rec μ) := eitherM_chain (good_chain opA (good_not hg)) (bothM_chain (good_not hg) (not_M ho hg hr))
theorem rec_M {B : Nat → Int32} {t base : Nat} : ∀ (k o m : Nat), o + k = 5 → k ≤ m → ∀ ty, k ≠ 0 → RdM B t base (o + 1) (fun p => recP B t k ty p) (fun μ => md_K m ty μ) := by
  intro k
  induction k with
  | zero => intro o m _ _ ty h; exact absurd rfl h
  | succ k ih =>
    intro o m ho hm ty _ pos μ hL
    obtain ⟨m', rfl⟩ : ∃ m', m = m' + 1 := ⟨m - 1, by omega⟩
    have hg : k ≠ 0 → ∀ ty, GoodP B t ((fun a b => recP B t k a b) ty) := fun _ ty => good_rec k ty
    have hr : k ≠ 0 → ∀ ty, RdM B t base (o + 1 + 1) ((fun a b => recP B t k a b) ty) (fun μ => md_K m' ty μ) := fun h ty => ih (o + 1) m' (by omega) (by omega) ty h
    show SpM B t base (o + 1) (nmM μ) (if ty = 0 then pOne B t (fun a b => recP B t k a b) k pos else if ty = 1 then pOr B t (fun a b => recP B t k a b) k pos else pNot B t (fun a b => recP B t k a b) k pos) μ (if ty = 0 then X10_atom (md_K m') μ else if ty = 1 then X10_either (md_K m') μ else X10_not (md_K m') μ)
    by_cases c : ty = 0
    · rw [if_pos c, if_pos c]
      exact atom_M (show (o + 1) + k = 5 by omega) hr pos μ hL
    · rw [if_neg c, if_neg c]
      by_cases c2 : ty = 1
      · rw [if_pos c2, if_pos c2]
        exact or_M (show (o + 1) + k = 5 by omega) hg hr pos μ hL
      · rw [if_neg c2, if_neg c2]
        exact not_M (show (o + 1) + k = 5 by omega) hg hr pos μ hL
theorem top_M {B : Nat → Int32} {t base : Nat} : RdM B t base 0 (fun p => pOr B t (fun a b => recP B t 5 a b) 5 p) (fun μ => X10_either (md_K FR) μ) := or_M (o := 0) (k := 5) rfl (fun _ ty => good_rec 5 ty) (fun h ty => rec_M 5 0 8 rfl (by decide) ty h)
