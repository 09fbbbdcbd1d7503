/-! THE TEXTS. Words, tokens -/
def wdW (k : Nat) : List Int32 := strB.getD k []
def cdW (k : Nat) : Int32 := ([0, -1, -2, -3, -4, -5, -6, -16, -17, -18, -7, -8, -9] : List Int32).getD k 0
/-- a word's bytes stand at f -/
def mtW (B : Nat → Int32) : Nat → List Int32 → Bool
  | _, [] => true
  | f, x :: r => if B f = x then mtW B (f + 1) r else false
def isW (B : Nat → Int32) (f n : Nat) (l : List Int32) : Bool := if n = f + l.length then mtW B f l else false
def wCodeF (B : Nat → Int32) (f n : Nat) : Nat → Nat → Int32
  | 0, _ => -23
  | d + 1, k => if isW B f n (wdW k) = true then cdW k else wCodeF B f n d (k + 1)
def wCode (B : Nat → Int32) (f n : Nat) : Int32 := wCodeF B f n 12 1
def lettr (b : Int32) : Bool := decide (97 ≤ b.toInt ∧ b.toInt ≤ 122)
def digt (b : Int32) : Bool := decide (48 ≤ b.toInt ∧ b.toInt ≤ 57)
def blnk (b : Int32) : Bool := decide (b = 32 ∨ b = 10)
def spn (p : Int32 → Bool) (B : Nat → Int32) : Nat → Nat → Nat
  | 0, i => i
  | d + 1, i => if p (B i) = true then spn p B d (i + 1) else i
def numN (B : Nat → Int32) : Nat → Nat → Nat → Nat
  | 0, _, a => a
  | d + 1, i, a => numN B d (i + 1) (a * 10 + ((B i).toInt.toNat - 48))
def sgn (b : Int32) : Int32 := if b = 40 then -19 else if b = 41 then -20 else if b = 42 then -14 else if b = 43 then -12 else if b = 45 then -13 else if b = 59 then -21 else if b = 60 then -10 else if b = 61 then -11 else -23
def tokF (B : Nat → Int32) (t pos : Nat) : Nat := spn blnk B (t - pos) pos
def tkC (B : Nat → Int32) (t f : Nat) : Int32 := if t ≤ f then -22 else if lettr (B f) = true then wCode B f (spn lettr B (t - f) f) else if digt (B f) = true then (if 4 < spn digt B (t - f) f - f then -23 else nI (numN B (spn digt B (t - f) f - f) f 0)) else sgn (B f)
def tkN (B : Nat → Int32) (t f : Nat) : Nat := if t ≤ f then f else if lettr (B f) = true then spn lettr B (t - f) f else if digt (B f) = true then spn digt B (t - f) f else f + 1
def tokC (B : Nat → Int32) (t pos : Nat) : Int32 := tkC B t (tokF B t pos)
def tokN (B : Nat → Int32) (t pos : Nat) : Nat := tkN B t (tokF B t pos)
theorem spn_le (p : Int32 → Bool) (B : Nat → Int32) : ∀ (d i : Nat), i ≤ spn p B d i ∧ spn p B d i ≤ i + d := by
  intro d
  induction d with
  | zero => intro i; exact ⟨Nat.le_refl _, Nat.le_refl _⟩
  | succ d ih =>
    intro i
    unfold spn
    have h := ih (i + 1)
    by_cases c : p (B i) = true
    · rw [if_pos c]; omega
    · rw [if_neg c]; omega
theorem spn_lt (p : Int32 → Bool) (B : Nat → Int32) {d i : Nat} (hd : 0 < d) (h : p (B i) = true) : i < spn p B d i := by
  obtain ⟨d', rfl⟩ : ∃ d', d = d' + 1 := ⟨d - 1, by omega⟩
  unfold spn
  rw [if_pos h]
  have := (spn_le p B d' (i + 1)).1
  omega
theorem spn_in (p : Int32 → Bool) (B : Nat → Int32) : ∀ (d i j : Nat), i ≤ j → j < spn p B d i → p (B j) = true := by
  intro d
  induction d with
  | zero => intro i j h1 h2; unfold spn at h2; omega
  | succ d ih =>
    intro i j h1 h2
    unfold spn at h2
    by_cases c : p (B i) = true
    · rw [if_pos c] at h2
      by_cases z : j = i
      · rw [z]; exact c
      · exact ih (i + 1) j (by omega) h2
    · rw [if_neg c] at h2
      omega
theorem spn_end (p : Int32 → Bool) (B : Nat → Int32) : ∀ (d i : Nat), spn p B d i < i + d → ¬ p (B (spn p B d i)) = true := by
  intro d
  induction d with
  | zero => intro i h; unfold spn at h; omega
  | succ d ih =>
    intro i h
    unfold spn at h ⊢
    by_cases c : p (B i) = true
    · rw [if_pos c] at h ⊢
      exact ih (i + 1) (by omega)
    · rw [if_neg c] at h ⊢
      exact c
theorem tokF_le {B : Nat → Int32} {t pos : Nat} (h : pos ≤ t) : pos ≤ tokF B t pos ∧ tokF B t pos ≤ t := by
  have := spn_le blnk B (t - pos) pos
  unfold tokF
  omega
theorem tkN_le {B : Nat → Int32} {t f : Nat} (h : f < t) : f < tkN B t f ∧ tkN B t f ≤ t := by
  unfold tkN
  rw [if_neg (by omega)]
  by_cases c : lettr (B f) = true
  · rw [if_pos c]
    have h1 := spn_lt lettr B (d := t - f) (by omega) c
    have h2 := (spn_le lettr B (t - f) f).2
    omega
  · rw [if_neg c]
    by_cases c2 : digt (B f) = true
    · rw [if_pos c2]
      have h1 := spn_lt digt B (d := t - f) (by omega) c2
      have h2 := (spn_le digt B (t - f) f).2
      omega
    · rw [if_neg c2]
      omega
theorem tokN_le {B : Nat → Int32} {t pos : Nat} (h : pos ≤ t) : tokF B t pos ≤ tokN B t pos ∧ tokN B t pos ≤ t := by
  have h1 := tokF_le (B := B) h
  unfold tokN
  by_cases c : tokF B t pos < t
  · have := tkN_le (B := B) c
    omega
  · unfold tkN
    rw [if_pos (by omega)]
    omega
/-- words: one at most stands there -/
theorem mtW_eq {B : Nat → Int32} : ∀ (l l' : List Int32) (f : Nat), l.length = l'.length → mtW B f l = true → mtW B f l' = true → l = l'
  | [], [], _, _, _, _ => rfl
  | [], _ :: _, _, h, _, _ => by simp at h
  | _ :: _, [], _, h, _, _ => by simp at h
  | x :: r, y :: r', f, h, h1, h2 => by
    unfold mtW at h1 h2
    by_cases c : B f = x
    · rw [if_pos c] at h1
      by_cases c2 : B f = y
      · rw [if_pos c2] at h2
        rw [mtW_eq r r' (f + 1) (by simpa using h) h1 h2, ← c, c2]
      · rw [if_neg c2] at h2
        cases h2
    · rw [if_neg c] at h1
      cases h1
theorem wdW_inj : ∀ k, k < 13 → ∀ k', k' < 13 → (k = k' ∨ ¬ wdW k = wdW k') := by decide +kernel
theorem cdW_inj : ∀ k, k < 13 → ∀ k', k' < 13 → (k = k' ∨ ¬ cdW k = cdW k') := by decide +kernel
theorem cdW_23 : ∀ k, k < 13 → ¬ (-23 : Int32) = cdW k := by decide +kernel
theorem isW_uniq {B : Nat → Int32} {f n k k' : Nat} (hk : k < 13) (hk' : k' < 13) (h : isW B f n (wdW k) = true) (h' : isW B f n (wdW k') = true) : k = k' := by
  unfold isW at h h'
  by_cases c : n = f + (wdW k).length
  · rw [if_pos c] at h
    by_cases c2 : n = f + (wdW k').length
    · rw [if_pos c2] at h'
      exact (wdW_inj k hk k' hk').elim id (fun q => absurd (mtW_eq _ _ f (by omega) h h') q)
    · rw [if_neg c2] at h'
      cases h'
  · rw [if_neg c] at h
    cases h
theorem wCodeF_iff {B : Nat → Int32} {f n k0 : Nat} (h0 : k0 < 13) : ∀ (d k : Nat), k + d = 13 → k ≤ k0 → (wCodeF B f n d k = cdW k0 ↔ isW B f n (wdW k0) = true) := by
  intro d
  induction d with
  | zero => intro k h1 h2; omega
  | succ d ih =>
    intro k h1 h2
    unfold wCodeF
    by_cases c : isW B f n (wdW k) = true
    · rw [if_pos c]
      refine ⟨fun q => ?_, fun q => ?_⟩
      · rcases cdW_inj k (by omega) k0 h0 with z | z
        · rw [← z]; exact c
        · exact absurd q z
      · rw [isW_uniq (by omega) h0 c q]
    · rw [if_neg c]
      by_cases z : k = k0
      · subst z
        refine ⟨fun q => ?_, fun q => absurd q c⟩
        exfalso
        have far : ∀ (d k' : Nat), k' + d = 13 → k < k' → ¬ wCodeF B f n d k' = cdW k := by
          intro d
          induction d with
          | zero => intro k' _ _ q; exact cdW_23 k (by omega) q
          | succ d ihd =>
            intro k' e1 e2
            unfold wCodeF
            by_cases c2 : isW B f n (wdW k') = true
            · rw [if_pos c2]
              intro q
              rcases cdW_inj k' (by omega) k (by omega) with y | y
              · omega
              · exact y q
            · rw [if_neg c2]
              exact ihd (k' + 1) (by omega) (by omega)
        exact far d (k + 1) (by omega) (by omega) q
      · exact ih (k + 1) (by omega) (by omega)
theorem wCode_iff {B : Nat → Int32} {f n k : Nat} (h1 : 1 ≤ k) (h2 : k < 13) : wCode B f n = cdW k ↔ isW B f n (wdW k) = true := wCodeF_iff h2 12 1 rfl h1
theorem wCodeF_cases {B : Nat → Int32} {f n : Nat} : ∀ (d k : Nat), k + d = 13 → (∃ k', k ≤ k' ∧ k' < 13 ∧ wCodeF B f n d k = cdW k') ∨ wCodeF B f n d k = -23 := by
  intro d
  induction d with
  | zero => intro k _; exact Or.inr rfl
  | succ d ih =>
    intro k h
    unfold wCodeF
    by_cases c : isW B f n (wdW k) = true
    · rw [if_pos c]
      exact Or.inl ⟨k, Nat.le_refl _, by omega, rfl⟩
    · rw [if_neg c]
      rcases ih (k + 1) (by omega) with ⟨k', a, b, e⟩ | e
      · exact Or.inl ⟨k', by omega, b, e⟩
      · exact Or.inr e
theorem wCode_cases (B : Nat → Int32) (f n : Nat) : (∃ k, 1 ≤ k ∧ k < 13 ∧ wCode B f n = cdW k) ∨ wCode B f n = -23 := wCodeF_cases 12 1 rfl
theorem cdW_neg : ∀ k, k < 13 → 1 ≤ k → (cdW k).toInt < 0 ∧ -19 < (cdW k).toInt ∧ ((cdW k).toInt ≤ -7 ∨ k ≤ 6) := by
  intro k hk h1
  rcases (show k = 1 ∨ k = 2 ∨ k = 3 ∨ k = 4 ∨ k = 5 ∨ k = 6 ∨ k = 7 ∨ k = 8 ∨ k = 9 ∨ k = 10 ∨ k = 11 ∨ k = 12 by omega) with rfl | rfl | rfl | rfl | rfl | rfl | rfl | rfl | rfl | rfl | rfl | rfl <;> decide
theorem sgn_neg (b : Int32) : (sgn b).toInt ≤ -10 ∧ sgn b ≠ -22 := by
  unfold sgn
  repeat' split
  all_goals decide
theorem tkC_end {B : Nat → Int32} {t f : Nat} (h : tkC B t f ≠ -22) : f < t := by
  unfold tkC at h
  by_cases c : t ≤ f
  · rw [if_pos c] at h
    exact absurd rfl h
  · omega
theorem tokC_lt {B : Nat → Int32} {t pos : Nat} (h : tokC B t pos ≠ -22) : tokF B t pos < t := tkC_end h
/-- behind a token that is there the next one begins later -/
theorem tokF_next {B : Nat → Int32} {t pos : Nat} (hp : pos ≤ t) (h : tokC B t pos ≠ -22) : tokF B t pos < tokF B t (tokN B t pos) := by
  have h1 := tkN_le (B := B) (tokC_lt h)
  have h2 := tokF_le (B := B) (tokN_le (B := B) hp).2
  have : tokN B t pos = tkN B t (tokF B t pos) := rfl
  omega
/-- THE TAPE, as the class reads it: its token was read from pos on -/
def TapX (B : Nat → Int32) (t : Nat) (σ : St) : Prop := t ≤ 160 ∧ σ.1 11 1 = nI t ∧ ∀ j, j < t → σ.1 12 j = B j
def LexX (B : Nat → Int32) (t pos : Nat) (σ : St) : Prop := TapX B t σ ∧ pos ≤ t ∧ σ.1 11 2 = tokC B t pos ∧ σ.1 11 3 = nI (tokF B t pos) ∧ σ.1 11 4 = nI (tokN B t pos)
theorem TapX.keep {B : Nat → Int32} {t : Nat} {σ σ' : St} (h : TapX B t σ) (k1 : σ'.1 11 1 = σ.1 11 1) (k2 : ∀ j, σ'.1 12 j = σ.1 12 j) : TapX B t σ' := ⟨h.1, k1.trans h.2.1, fun j hj => (k2 j).trans (h.2.2 j hj)⟩
theorem byteX {B : Nat → Int32} {t i : Nat} {σ : St} (h : TapX B t σ) (hi : i < t) : X7_byteAt (nI i) σ = some (B i) := by
  obtain ⟨h1, h2, h3⟩ := h
  unfold X7_byteAt
  rw [if_neg (nI_pos (by omega)), h2, if_neg (show ¬ nI t ≤ nI i by rw [nI_leI (by omega) (by omega)]; omega), if_neg (show ¬ 160 ≤ nI i by rw [show (160 : Int32) = nI 160 from rfl, nI_leI (by decide) (by omega)]; omega), if_neg (show ¬ ob (nI i) 160 by rw [ob_iff (by decide), tiI (by omega)]; omega), tnI (by omega), h3 i hi]
theorem blankX (b : Int32) : X7_isBlank b = some (if blnk b = true then 1 else 0) := by
  unfold X7_isBlank blnk
  by_cases c : b = 32
  · rw [if_pos c, if_pos (decide_eq_true (Or.inl c))]
  · rw [if_neg c]
    by_cases c2 : b = 10
    · rw [if_pos c2, if_pos (decide_eq_true (Or.inr c2))]
    · rw [if_neg c2, if_neg (fun q => (of_decide_eq_true q).elim c c2)]
theorem letterX (b : Int32) : X7_isLetter b = some (if lettr b = true then 1 else 0) := by
  unfold X7_isLetter lettr
  simp only [Int32.lt_iff_toInt_lt, show (97 : Int32).toInt = 97 by decide, show (122 : Int32).toInt = 122 by decide]
  by_cases c : b.toInt < 97
  · rw [if_pos c, if_neg (fun q => by have := of_decide_eq_true q; omega)]
  · rw [if_neg c]
    by_cases c2 : 122 < b.toInt
    · rw [if_pos c2, if_neg (fun q => by have := of_decide_eq_true q; omega)]
    · rw [if_neg c2, if_pos (decide_eq_true ⟨by omega, by omega⟩)]
theorem digitX (b : Int32) : X7_isDigit b = some (if digt b = true then 1 else 0) := by
  unfold X7_isDigit digt
  simp only [Int32.lt_iff_toInt_lt, show (48 : Int32).toInt = 48 by decide, show (57 : Int32).toInt = 57 by decide]
  by_cases c : b.toInt < 48
  · rw [if_pos c, if_neg (fun q => by have := of_decide_eq_true q; omega)]
  · rw [if_neg c]
    by_cases c2 : 57 < b.toInt
    · rw [if_pos c2, if_neg (fun q => by have := of_decide_eq_true q; omega)]
    · rw [if_neg c2, if_pos (decide_eq_true ⟨by omega, by omega⟩)]
theorem signX (b : Int32) : X7_signOf b = some (sgn b) := by
  by_cases c40 : b = 40
  · subst c40; rfl
  by_cases c41 : b = 41
  · subst c41; rfl
  by_cases c42 : b = 42
  · subst c42; rfl
  by_cases c43 : b = 43
  · subst c43; rfl
  by_cases c44 : b = 44
  · subst c44; rfl
  by_cases c45 : b = 45
  · subst c45; rfl
  by_cases c46 : b = 46
  · subst c46; rfl
  by_cases c47 : b = 47
  · subst c47; rfl
  by_cases c48 : b = 48
  · subst c48; rfl
  by_cases c49 : b = 49
  · subst c49; rfl
  by_cases c50 : b = 50
  · subst c50; rfl
  by_cases c51 : b = 51
  · subst c51; rfl
  by_cases c52 : b = 52
  · subst c52; rfl
  by_cases c53 : b = 53
  · subst c53; rfl
  by_cases c54 : b = 54
  · subst c54; rfl
  by_cases c55 : b = 55
  · subst c55; rfl
  by_cases c56 : b = 56
  · subst c56; rfl
  by_cases c57 : b = 57
  · subst c57; rfl
  by_cases c58 : b = 58
  · subst c58; rfl
  by_cases c59 : b = 59
  · subst c59; rfl
  by_cases c60 : b = 60
  · subst c60; rfl
  by_cases c61 : b = 61
  · subst c61; rfl
  unfold X7_signOf sgn
  rw [if_neg c40, if_neg c41, if_neg c42, if_neg c43, if_neg c44, if_neg c45, if_neg c46, if_neg c47, if_neg c48, if_neg c49, if_neg c50, if_neg c51, if_neg c52, if_neg c53, if_neg c54, if_neg c55, if_neg c56, if_neg c57, if_neg c58, if_neg c59, if_neg c60, if_neg c61, if_neg c40, if_neg c41, if_neg c42, if_neg c43, if_neg c45, if_neg c59, if_neg c60, if_neg c61]
/-- a word of the class's, byte by byte -/
theorem sLen_eq : ∀ k, k < 13 → sLen k = some (nI (wdW k).length) ∧ (wdW k).length < 160 := by decide +kernel
theorem sCh_eq {k j : Nat} (hk : k < 13) (hj : j < (wdW k).length) : sCh k (nI j) = some ((wdW k).getD j 0) := by
  have hl : ∀ k, k < 13 → strL.getD k 0 = (wdW k).length := by decide +kernel
  have hl2 := (sLen_eq k hk).2
  unfold sCh
  rw [if_pos hk, hl k hk, if_neg (show ¬ ob (nI j) (wdW k).length by rw [ob_iff (by omega), tiI (by omega)]; omega), tnI (by omega)]
  rfl
theorem mtW_drop {B : Nat → Int32} : ∀ (l : List Int32) (f j : Nat), j < l.length → mtW B f (l.drop j) = if B f = l.getD j 0 then mtW B (f + 1) (l.drop (j + 1)) else false := by
  intro l f j hj
  rw [List.drop_eq_getElem_cons hj]
  rw [show l.getD j 0 = l[j] by simp [List.getD, hj]]
  rfl
theorem word20 {B : Nat → Int32} {t f k : Nat} (hk : k < 13) {σ : St} (hT : TapX B t σ) (h3 : σ.1 11 3 = nI f) (hf : f + (wdW k).length ≤ t) : ∀ (d j F : Nat), j + d = (wdW k).length → d < F → X7_isWord_b20 F k (nI j) σ = some (if mtW B (f + j) ((wdW k).drop j) = true then 1 else 0) := by
  obtain ⟨l1, l2⟩ := sLen_eq k hk
  have ht := hT.1
  intro d
  induction d with
  | zero =>
    intro j F hj hF
    obtain ⟨F', rfl⟩ : ∃ F', F = F' + 1 := ⟨F - 1, by omega⟩
    rw [X7_isWord_b20, l1, Option.bind_some, if_pos (show nI (wdW k).length ≤ nI j by rw [nI_leI (by omega) (by omega)]; omega), show j = (wdW k).length by omega, List.drop_length]
    rfl
  | succ d ih =>
    intro j F hj hF
    obtain ⟨F', rfl⟩ : ∃ F', F = F' + 1 := ⟨F - 1, by omega⟩
    rw [X7_isWord_b20, l1, Option.bind_some, if_neg (show ¬ nI (wdW k).length ≤ nI j by rw [nI_leI (by omega) (by omega)]; omega), h3, nI_add, if_neg (nI_pos (by omega)), if_neg (show ¬ 160 ≤ nI (f + j) by rw [show (160 : Int32) = nI 160 from rfl, nI_leI (by decide) (by omega)]; omega), if_neg (show ¬ ob (nI (f + j)) 160 by rw [ob_iff (by decide), tiI (by omega)]; omega), sCh_eq hk (by omega), Option.bind_some, tnI (by omega), hT.2.2 (f + j) (by omega), nI_1, mtW_drop _ _ _ (show j < (wdW k).length by omega)]
    by_cases c : B (f + j) = (wdW k).getD j 0
    · rw [if_pos c, if_pos c]
      exact ih (j + 1) F' (by omega) (by omega)
    · rw [if_neg c, if_neg c]
      rfl
theorem wordX {B : Nat → Int32} {t f n k : Nat} (hk : k < 13) {σ : St} (hT : TapX B t σ) (h3 : σ.1 11 3 = nI f) (h4 : σ.1 11 4 = nI n) (hfn : f ≤ n) (hn : n ≤ t) : X7_isWord k σ = some (if isW B f n (wdW k) = true then 1 else 0) := by
  obtain ⟨l1, l2⟩ := sLen_eq k hk
  have ht := hT.1
  unfold X7_isWord isW
  rw [l1, Option.bind_some, h3, h4, pk_sub hfn]
  by_cases c : n = f + (wdW k).length
  · rw [if_pos (show nI (n - f) = nI (wdW k).length by rw [show n - f = (wdW k).length by omega]), if_pos c]
    have h := word20 hk hT h3 (by omega) (wdW k).length 0 FU (by omega) (by rw [FU_eq]; omega)
    rw [Nat.add_zero, List.drop_zero] at h
    exact h
  · rw [if_neg (show ¬ nI (n - f) = nI (wdW k).length by rw [nI_eq (by omega) (by omega)]; omega), if_neg c]
    rfl
theorem word38 {B : Nat → Int32} {t f n : Nat} {σ : St} (hT : TapX B t σ) (h3 : σ.1 11 3 = nI f) (h4 : σ.1 11 4 = nI n) (hfn : f ≤ n) (hn : n ≤ t) : X7_wordFromHere_b38 σ = some (wCode B f n, σ) := by
  have w : ∀ k, k < 13 → X7_isWord k σ = some (if isW B f n (wdW k) = true then 1 else 0) := fun k hk => wordX hk hT h3 h4 hfn hn
  unfold X7_wordFromHere_b38 wCode
  rw [w 1 (by decide), Option.bind_some]
  unfold wCodeF
  by_cases c1 : isW B f n (wdW 1) = true
  · rw [if_pos c1, if_pos c1, if_neg ne10]
    rfl
  rw [if_neg c1, if_neg c1, if_pos rfl]
  rw [w 2 (by decide), Option.bind_some]
  unfold wCodeF
  by_cases c2 : isW B f n (wdW 2) = true
  · rw [if_pos c2, if_pos c2, if_neg ne10]
    rfl
  rw [if_neg c2, if_neg c2, if_pos rfl]
  rw [w 3 (by decide), Option.bind_some]
  unfold wCodeF
  by_cases c3 : isW B f n (wdW 3) = true
  · rw [if_pos c3, if_pos c3, if_neg ne10]
    rfl
  rw [if_neg c3, if_neg c3, if_pos rfl]
  rw [w 4 (by decide), Option.bind_some]
  unfold wCodeF
  by_cases c4 : isW B f n (wdW 4) = true
  · rw [if_pos c4, if_pos c4, if_neg ne10]
    rfl
  rw [if_neg c4, if_neg c4, if_pos rfl]
  rw [w 5 (by decide), Option.bind_some]
  unfold wCodeF
  by_cases c5 : isW B f n (wdW 5) = true
  · rw [if_pos c5, if_pos c5, if_neg ne10]
    rfl
  rw [if_neg c5, if_neg c5, if_pos rfl]
  rw [w 6 (by decide), Option.bind_some]
  unfold wCodeF
  by_cases c6 : isW B f n (wdW 6) = true
  · rw [if_pos c6, if_pos c6, if_neg ne10]
    rfl
  rw [if_neg c6, if_neg c6, if_pos rfl]
  rw [w 7 (by decide), Option.bind_some]
  unfold wCodeF
  by_cases c7 : isW B f n (wdW 7) = true
  · rw [if_pos c7, if_pos c7, if_neg ne10]
    rfl
  rw [if_neg c7, if_neg c7, if_pos rfl]
  rw [w 8 (by decide), Option.bind_some]
  unfold wCodeF
  by_cases c8 : isW B f n (wdW 8) = true
  · rw [if_pos c8, if_pos c8, if_neg ne10]
    rfl
  rw [if_neg c8, if_neg c8, if_pos rfl]
  rw [w 9 (by decide), Option.bind_some]
  unfold wCodeF
  by_cases c9 : isW B f n (wdW 9) = true
  · rw [if_pos c9, if_pos c9, if_neg ne10]
    rfl
  rw [if_neg c9, if_neg c9, if_pos rfl]
  rw [w 10 (by decide), Option.bind_some]
  unfold wCodeF
  by_cases c10 : isW B f n (wdW 10) = true
  · rw [if_pos c10, if_pos c10, if_neg ne10]
    rfl
  rw [if_neg c10, if_neg c10, if_pos rfl]
  rw [w 11 (by decide), Option.bind_some]
  unfold wCodeF
  by_cases c11 : isW B f n (wdW 11) = true
  · rw [if_pos c11, if_pos c11, if_neg ne10]
    rfl
  rw [if_neg c11, if_neg c11, if_pos rfl]
  rw [w 12 (by decide), Option.bind_some]
  unfold wCodeF
  by_cases c12 : isW B f n (wdW 12) = true
  · rw [if_pos c12, if_pos c12, if_neg ne10]
    rfl
  rw [if_neg c12, if_neg c12, if_pos rfl]
  rfl
