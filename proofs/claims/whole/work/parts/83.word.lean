theorem lg_eq (x y : Int64) : lg_cmp x y = 0 ↔ x = y := by
  unfold lg_cmp
  simp only [gt_iff_lt, Int64.lt_iff_toInt_lt]
  by_cases h1 : y.toInt < x.toInt
  · rw [if_pos h1]
    exact ⟨fun h => absurd h (by decide), fun h => by rw [h] at h1; omega⟩
  · rw [if_neg h1]
    by_cases h3 : x = y
    · rw [if_pos h3]
      exact ⟨fun _ => h3, fun _ => rfl⟩
    · rw [if_neg h3]
      exact ⟨fun h => absurd h (by decide), fun h => absurd h h3⟩
theorem i64_inj {x y : Int32} : x.toInt64 = y.toInt64 ↔ x = y := by
  refine ⟨fun h => ?_, fun h => by rw [h]⟩
  have := congrArg Int64.toInt h
  rw [Int32.toInt_toInt64, Int32.toInt_toInt64] at this
  exact Int32.toInt_inj.mp this
theorem sgn_inj {a b : Int32} (h : sgn a = sgn b) (hb : sgn b ≠ -23) : a = b := by
  rcases sgn_cases b with ⟨hb2, _⟩ | hb2 | hb2 | hb2 | hb2 | hb2 | hb2 | hb2 | hb2
  · exact absurd hb2 hb
  all_goals
    subst hb2
    rcases sgn_cases a with ⟨ha, _⟩ | ha | ha | ha | ha | ha | ha | ha | ha
    · rw [ha] at h
      exact absurd h (by decide)
    all_goals
      subst ha
      first | rfl | exact absurd h (by decide)
theorem cd_sgn : ∀ k, k < 13 → 1 ≤ k → ∀ b : Int32, sgn b ≠ cdW k := by
  intro k h1 h2 b q
  rcases sgn_cases b with ⟨hb, _⟩ | hb | hb | hb | hb | hb | hb | hb | hb
  · exact cdW_23 k h1 (hb.symm.trans q)
  all_goals
    subst hb
    rcases (show k = 1 ∨ k = 2 ∨ k = 3 ∨ k = 4 ∨ k = 5 ∨ k = 6 ∨ k = 7 ∨ k = 8 ∨ k = 9 ∨ k = 10 ∨ k = 11 ∨ k = 12 by omega) with rfl | rfl | rfl | rfl | rfl | rfl | rfl | rfl | rfl | rfl | rfl | rfl <;> exact absurd q (by decide)
theorem w_sgn {B : Nat → Int32} {f n : Nat} {b : Int32} (hb : sgn b ≠ -23) : wCode B f n ≠ sgn b := by
  rcases wCode_cases B f n with ⟨k, h1, h2, e⟩ | e
  · rw [e]
    exact fun q => cd_sgn k h2 h1 b q.symm
  · rw [e]
    exact fun q => hb q.symm
theorem num_neg {a : Nat} {c : Int32} (h : c.toInt < 0) (ha : a < 2 ^ 31) : nI a ≠ c := fun q => by rw [← q, tiI ha] at h; omega
theorem numN_lt {B : Nat → Int32} : ∀ (d i a : Nat), (∀ j, i ≤ j → j < i + d → digt (B j) = true) → numN B d i a < (a + 1) * 10 ^ d := by
  intro d
  induction d with
  | zero => intro i a _; unfold numN; omega
  | succ d ih =>
    intro i a h
    obtain ⟨x, x1, x2, x3⟩ := digtN (h i (Nat.le_refl _) (by omega))
    unfold numN
    refine Nat.lt_of_lt_of_le (ih (i + 1) _ (fun j h1 h2 => h j (by omega) (by omega))) ?_
    rw [x3, tiI (by omega), Nat.pow_succ, Nat.mul_comm (10 ^ d) 10, ← Nat.mul_assoc]
    exact Nat.mul_le_mul_right _ (by omega)
theorem numT_lt {B : Nat → Int32} {t f : Nat} (h : ¬ 4 < spn digt B (t - f) f - f) : numN B (spn digt B (t - f) f - f) f 0 < 10000 := by
  have h1 := numN_lt (B := B) (spn digt B (t - f) f - f) f 0 (fun j h1 h2 => spn_in digt B (t - f) f j h1 (by omega))
  have h2 : (10 : Nat) ^ (spn digt B (t - f) f - f) ≤ 10 ^ 4 := Nat.pow_le_pow_right (by decide) (by omega)
  omega
/-- the code of the token at hand, by its kind -/
theorem tkC_end' {B : Nat → Int32} {t f : Nat} (h : t ≤ f) : tkC B t f = -22 := if_pos h
theorem tkC_w {B : Nat → Int32} {t f : Nat} (h : f < t) (h1 : lettr (B f) = true) : tkC B t f = wCode B f (tkN B t f) := by
  unfold tkC tkN
  rw [if_neg (by omega), if_pos h1, if_neg (by omega), if_pos h1]
theorem tkC_d {B : Nat → Int32} {t f : Nat} (h : f < t) (h1 : ¬ lettr (B f) = true) (h2 : digt (B f) = true) : tkC B t f = if 4 < spn digt B (t - f) f - f then -23 else nI (numN B (spn digt B (t - f) f - f) f 0) := by
  unfold tkC
  rw [if_neg (by omega), if_neg h1, if_pos h2]
theorem tkC_s {B : Nat → Int32} {t f : Nat} (h : f < t) (h1 : ¬ lettr (B f) = true) (h2 : ¬ digt (B f) = true) : tkC B t f = sgn (B f) := by
  unfold tkC
  rw [if_neg (by omega), if_neg h1, if_neg h2]
theorem signM {B : Nat → Int32} {t base pos : Nat} {μ : St} (h : TokM B t base pos μ) (h0 : μ.1 0 25 = 0) {s c : Int32} (hs : sgn s = c) (hc : c ≠ -23) : X10_isSign s μ = some (if tokC B t pos = c then 1 else 0) := by
  have hc0 := (sgn_neg s)
  unfold X10_isSign
  rw [h0, if_pos rfl]
  have no : ¬ μ.1 0 21 = 3 → tokC B t pos ≠ c → (if μ.1 0 21 = 3 then if lg_cmp μ.2 (Int32.toInt64 s) = 0 then some (1 : Int32) else some 0 else some 0) = some (if tokC B t pos = c then 1 else 0) := fun a b => by rw [if_neg a, if_neg b]
  rcases h.2.2.2.2 with ⟨a1, a2⟩ | ⟨a1, a2, a3, a4⟩ | ⟨a1, a2, a3, a4⟩ | ⟨a1, a2, a3, a4⟩
  · refine no (by rw [a2]; decide) ?_
    show tkC B t (tokF B t pos) ≠ c
    rw [tkC_end' a1, ← hs]
    exact hc0.2.symm
  · refine no (by rw [a3]; decide) ?_
    show tkC B t (tokF B t pos) ≠ c
    rw [tkC_w a1 a2, ← hs]
    exact w_sgn (by rw [hs]; exact hc)
  · have e : tokC B t pos ≠ c := by
      show tkC B t (tokF B t pos) ≠ c
      rw [tkC_d a1 a2 a3]
      by_cases z : 4 < spn digt B (t - tokF B t pos) (tokF B t pos) - tokF B t pos
      · rw [if_pos z]; exact hc.symm
      · rw [if_neg z]
        have := numT_lt z
        exact num_neg (by rw [← hs]; omega) (by omega)
    rcases a4 with ⟨b1', b2, b3⟩ | ⟨b1', b2⟩
    · exact no (by rw [b2]; decide) e
    · exact no (by rw [b2]; decide) e
  · have ec : tokC B t pos = sgn (B (tokF B t pos)) := tkC_s a1 a2 a3
    rcases a4 with ⟨b1', b2, b3⟩ | ⟨b1', b2⟩
    · rw [b2, if_pos rfl, b3, ec]
      by_cases z : B (tokF B t pos) = s
      · rw [if_pos ((lg_eq _ _).mpr (by rw [z])), if_pos (by rw [z]; exact hs)]
      · rw [if_neg (fun q => z (i64_inj.mp ((lg_eq _ _).mp q))), if_neg (fun q => z (sgn_inj (q.trans hs.symm) (by rw [hs]; exact hc)))]
    · refine no (by rw [b2]; decide) ?_
      rw [ec, b1']
      exact hc.symm
/-- a word, letter by letter -/
def letP (B : Nat → Int32) (f n j : Nat) (x : Int32) : Prop := if n ≤ f + j then x = 0 else B (f + j) = x
theorem letM {B : Nat → Int32} {t base f n : Nat} {μ : St} (hT : TapM B t base μ) (h22 : μ.1 0 22 = nI f) (h20 : μ.1 0 20 = nI n) (hn : n ≤ t) (hf : f ≤ 160) {j : Nat} (hj : j < 8) (x : Int32) : (letP B f n j x → X10_isLetter (nI j) x μ = some 1) ∧ (¬ letP B f n j x → X10_isLetter (nI j) x μ = some 0) := by
  have ht := hT.1.1
  unfold X10_isLetter letP
  rw [h22, h20, nI_add]
  by_cases c : n ≤ f + j
  · rw [if_pos (show nI n ≤ nI (f + j) by rw [nI_leI (by omega) (by omega)]; exact c), if_pos c]
    exact ⟨fun q => if_pos q, fun q => if_neg q⟩
  · rw [if_neg (show ¬ nI n ≤ nI (f + j) by rw [nI_leI (by omega) (by omega)]; exact c), if_neg c, byteM hT (by omega), Option.bind_some]
    exact ⟨fun q => if_pos q, fun q => if_neg q⟩
theorem mtW_iff {B : Nat → Int32} : ∀ (l : List Int32) (f : Nat), mtW B f l = true ↔ ∀ j, j < l.length → B (f + j) = l.getD j 0
  | [], f => ⟨fun _ j h => by simp at h, fun _ => rfl⟩
  | x :: r, f => by
    unfold mtW
    by_cases c : B f = x
    · rw [if_pos c, mtW_iff r (f + 1)]
      refine ⟨fun h j hj => ?_, fun h j hj => ?_⟩
      · cases j with
        | zero => exact c
        | succ j =>
          have := h j (by simpa using hj)
          rw [show f + (j + 1) = f + 1 + j by omega, this]
          rfl
      · have := h (j + 1) (by simpa using hj)
        rw [show f + 1 + j = f + (j + 1) by omega, this]
        rfl
    · rw [if_neg c]
      refine ⟨fun h => (by cases h), fun h => ?_⟩
      exact absurd (h 0 (by simp)) c
theorem wd_ok : ∀ k, k < 13 → 1 ≤ k → (wdW k).length ≤ 7 ∧ 1 ≤ (wdW k).length ∧ ∀ j, j < 8 → (j < (wdW k).length ∨ (wdW k).getD j 0 = 0) := by
  intro k h1 h2
  rcases (show k = 1 ∨ k = 2 ∨ k = 3 ∨ k = 4 ∨ k = 5 ∨ k = 6 ∨ k = 7 ∨ k = 8 ∨ k = 9 ∨ k = 10 ∨ k = 11 ∨ k = 12 by omega) with rfl | rfl | rfl | rfl | rfl | rfl | rfl | rfl | rfl | rfl | rfl | rfl <;> decide +kernel
theorem wd_nz : ∀ k, k < 13 → ∀ j, j < 8 → ((wdW k).length ≤ j ∨ (wdW k).getD j 0 ≠ 0) := by decide +kernel
theorem letters_iff {B : Nat → Int32} {f n k : Nat} (h1 : 1 ≤ k) (h2 : k < 13) (hfn : f < n) (hn8 : n ≤ f + 8) (hB : ∀ j, f ≤ j → j < n → lettr (B j) = true) : isW B f n (wdW k) = true ↔ ∀ j, j < 8 → letP B f n j ((wdW k).getD j 0) := by
  obtain ⟨w1, w2, w3⟩ := wd_ok k h2 h1
  have w4 := wd_nz k h2
  have nz : ∀ b : Int32, lettr b = true → b ≠ 0 := fun b h q => by
    rw [q] at h
    exact absurd h (by decide)
  unfold isW
  refine ⟨fun h => ?_, fun h => ?_⟩
  · by_cases c : n = f + (wdW k).length
    · rw [if_pos c, mtW_iff] at h
      intro j hj
      unfold letP
      by_cases z : n ≤ f + j
      · rw [if_pos z]
        exact (w3 j hj).elim (fun q => by omega) id
      · rw [if_neg z]
        exact h j (by omega)
    · rw [if_neg c] at h
      cases h
  · have c : n = f + (wdW k).length := by
      rcases Nat.lt_trichotomy n (f + (wdW k).length) with q | q | q
      · exfalso
        have h0 := h (n - f) (by omega)
        unfold letP at h0
        rw [if_pos (by omega)] at h0
        exact (w4 (n - f) (by omega)).elim (fun y => by omega) (fun y => y h0)
      · exact q
      · exfalso
        have h0 := h (wdW k).length (by omega)
        unfold letP at h0
        rw [if_neg (by omega)] at h0
        have h5 := (w3 (wdW k).length (by omega)).elim (fun y => by omega) id
        rw [h5] at h0
        exact nz _ (hB _ (by omega) q) h0
    rw [if_pos c, mtW_iff]
    intro j hj
    have h0 := h j (by omega)
    unfold letP at h0
    rw [if_neg (by omega)] at h0
    exact h0
theorem word8 {B : Nat → Int32} {t base f n : Nat} {μ : St} (hT : TapM B t base μ) (h0 : μ.1 0 25 = 0) (h21 : μ.1 0 21 = 1) (h22 : μ.1 0 22 = nI f) (h20 : μ.1 0 20 = nI n) (hf : f ≤ 160) (hn : n ≤ t) (x : Nat → Int32) : (f + 8 < n → X10_isWord (x 0) (x 1) (x 2) (x 3) (x 4) (x 5) (x 6) (x 7) μ = some 0) ∧ (¬ f + 8 < n → ((letP B f n 0 (x 0) ∧ letP B f n 1 (x 1) ∧ letP B f n 2 (x 2) ∧ letP B f n 3 (x 3) ∧ letP B f n 4 (x 4) ∧ letP B f n 5 (x 5) ∧ letP B f n 6 (x 6) ∧ letP B f n 7 (x 7)) → X10_isWord (x 0) (x 1) (x 2) (x 3) (x 4) (x 5) (x 6) (x 7) μ = some 1) ∧ (¬ (letP B f n 0 (x 0) ∧ letP B f n 1 (x 1) ∧ letP B f n 2 (x 2) ∧ letP B f n 3 (x 3) ∧ letP B f n 4 (x 4) ∧ letP B f n 5 (x 5) ∧ letP B f n 6 (x 6) ∧ letP B f n 7 (x 7)) → X10_isWord (x 0) (x 1) (x 2) (x 3) (x 4) (x 5) (x 6) (x 7) μ = some 0)) := by
  have ht := hT.1.1
  have l := fun (j : Nat) (hj : j < 8) (y : Int32) => letM hT h22 h20 hn hf hj y
  unfold X10_isWord
  rw [h0, if_pos rfl, h21, if_pos rfl, h22, h20, show nI f + 8 = nI (f + 8) from nI_add f 8]
  refine ⟨fun c => ?_, fun c => ?_⟩
  · rw [if_pos (show nI (f + 8) < nI n by rw [nI_ltI (by omega) (by omega)]; exact c)]
  rw [if_neg (show ¬ nI (f + 8) < nI n by rw [nI_ltI (by omega) (by omega)]; exact c)]
  by_cases c0 : letP B f n 0 (x 0)
  rotate_left
  · rw [show X10_isLetter 0 (x 0) μ = some 0 from (l 0 (by decide) _).2 c0, Option.bind_some, if_pos rfl]
    exact ⟨fun q => absurd q.1 c0, fun _ => rfl⟩
  rw [show X10_isLetter 0 (x 0) μ = some 1 from (l 0 (by decide) _).1 c0, Option.bind_some, if_neg ne10]
  by_cases c1 : letP B f n 1 (x 1)
  rotate_left
  · rw [show X10_isLetter 1 (x 1) μ = some 0 from (l 1 (by decide) _).2 c1, Option.bind_some, if_pos rfl]
    exact ⟨fun q => absurd q.2.1 c1, fun _ => rfl⟩
  rw [show X10_isLetter 1 (x 1) μ = some 1 from (l 1 (by decide) _).1 c1, Option.bind_some, if_neg ne10]
  by_cases c2 : letP B f n 2 (x 2)
  rotate_left
  · rw [show X10_isLetter 2 (x 2) μ = some 0 from (l 2 (by decide) _).2 c2, Option.bind_some, if_pos rfl]
    exact ⟨fun q => absurd q.2.2.1 c2, fun _ => rfl⟩
  rw [show X10_isLetter 2 (x 2) μ = some 1 from (l 2 (by decide) _).1 c2, Option.bind_some, if_neg ne10]
  by_cases c3 : letP B f n 3 (x 3)
  rotate_left
  · rw [show X10_isLetter 3 (x 3) μ = some 0 from (l 3 (by decide) _).2 c3, Option.bind_some, if_pos rfl]
    exact ⟨fun q => absurd q.2.2.2.1 c3, fun _ => rfl⟩
  rw [show X10_isLetter 3 (x 3) μ = some 1 from (l 3 (by decide) _).1 c3, Option.bind_some, if_neg ne10]
  by_cases c4 : letP B f n 4 (x 4)
  rotate_left
  · rw [show X10_isLetter 4 (x 4) μ = some 0 from (l 4 (by decide) _).2 c4, Option.bind_some, if_pos rfl]
    exact ⟨fun q => absurd q.2.2.2.2.1 c4, fun _ => rfl⟩
  rw [show X10_isLetter 4 (x 4) μ = some 1 from (l 4 (by decide) _).1 c4, Option.bind_some, if_neg ne10]
  by_cases c5 : letP B f n 5 (x 5)
  rotate_left
  · rw [show X10_isLetter 5 (x 5) μ = some 0 from (l 5 (by decide) _).2 c5, Option.bind_some, if_pos rfl]
    exact ⟨fun q => absurd q.2.2.2.2.2.1 c5, fun _ => rfl⟩
  rw [show X10_isLetter 5 (x 5) μ = some 1 from (l 5 (by decide) _).1 c5, Option.bind_some, if_neg ne10]
  by_cases c6 : letP B f n 6 (x 6)
  rotate_left
  · rw [show X10_isLetter 6 (x 6) μ = some 0 from (l 6 (by decide) _).2 c6, Option.bind_some, if_pos rfl]
    exact ⟨fun q => absurd q.2.2.2.2.2.2.1 c6, fun _ => rfl⟩
  rw [show X10_isLetter 6 (x 6) μ = some 1 from (l 6 (by decide) _).1 c6, Option.bind_some, if_neg ne10]
  by_cases c7 : letP B f n 7 (x 7)
  rotate_left
  · rw [show X10_isLetter 7 (x 7) μ = some 0 from (l 7 (by decide) _).2 c7, Option.bind_some, if_pos rfl]
    exact ⟨fun q => absurd q.2.2.2.2.2.2.2 c7, fun _ => rfl⟩
  rw [show X10_isLetter 7 (x 7) μ = some 1 from (l 7 (by decide) _).1 c7, Option.bind_some, if_neg ne10]
  exact ⟨fun _ => rfl, fun q => absurd ⟨c0, c1, c2, c3, c4, c5, c6, c7⟩ q⟩
theorem wordM {B : Nat → Int32} {t base pos k : Nat} {μ : St} (h : TokM B t base pos μ) (h0 : μ.1 0 25 = 0) (h1 : 1 ≤ k) (h2 : k < 13) : X10_isWord ((wdW k).getD 0 0) ((wdW k).getD 1 0) ((wdW k).getD 2 0) ((wdW k).getD 3 0) ((wdW k).getD 4 0) ((wdW k).getD 5 0) ((wdW k).getD 6 0) ((wdW k).getD 7 0) μ = some (if tokC B t pos = cdW k then 1 else 0) := by
  have hk := cdW_neg k h2 h1
  have ht := h.1.1.1
  have no : ∀ x : Nat → Int32, ¬ μ.1 0 21 = 1 → tokC B t pos ≠ cdW k → X10_isWord (x 0) (x 1) (x 2) (x 3) (x 4) (x 5) (x 6) (x 7) μ = some (if tokC B t pos = cdW k then 1 else 0) := fun x a b => by
    unfold X10_isWord
    rw [h0, if_pos rfl, if_neg a, if_neg b]
  rcases h.2.2.2.2 with ⟨a1, a2⟩ | ⟨a1, a2, a3, a4⟩ | ⟨a1, a2, a3, a4⟩ | ⟨a1, a2, a3, a4⟩
  · refine no (fun j => (wdW k).getD j 0) (by rw [a2]; decide) ?_
    show tkC B t (tokF B t pos) ≠ cdW k
    rw [tkC_end' a1]
    intro q
    rw [← q, show (-22 : Int32).toInt = -22 by decide] at hk
    omega
  · have hN := tkN_le (B := B) a1
    have e := word8 h.1 h0 a3 h.2.2.1 a4 (by omega) hN.2 (fun j => (wdW k).getD j 0)
    have en : tkN B t (tokF B t pos) = spn lettr B (t - tokF B t pos) (tokF B t pos) := by
      unfold tkN
      rw [if_neg (by omega), if_pos a2]
    have hlet : ∀ j, tokF B t pos ≤ j → j < tkN B t (tokF B t pos) → lettr (B j) = true := fun j j1 j2 => spn_in lettr B (t - tokF B t pos) (tokF B t pos) j j1 (by rw [← en]; exact j2)
    have hc : tokC B t pos = wCode B (tokF B t pos) (tkN B t (tokF B t pos)) := tkC_w a1 a2
    rw [hc]
    by_cases c : tokF B t pos + 8 < tkN B t (tokF B t pos)
    · rw [e.1 c, if_neg (fun q => ?_)]
      have hw := (wCode_iff h1 h2).mp q
      unfold isW at hw
      have := (wd_ok k h2 h1).1
      rw [if_neg (by omega)] at hw
      cases hw
    · have hi := letters_iff (k := k) h1 h2 hN.1 (by omega) hlet
      by_cases z : isW B (tokF B t pos) (tkN B t (tokF B t pos)) (wdW k) = true
      · have hz := hi.mp z
        rw [(e.2 c).1 ⟨hz 0 (by decide), hz 1 (by decide), hz 2 (by decide), hz 3 (by decide), hz 4 (by decide), hz 5 (by decide), hz 6 (by decide), hz 7 (by decide)⟩, if_pos ((wCode_iff h1 h2).mpr z)]
      · rw [(e.2 c).2 (fun q => ?_), if_neg (fun q => z ((wCode_iff h1 h2).mp q))]
        obtain ⟨q0, q1, q2, q3, q4, q5, q6, q7⟩ := q
        refine z (hi.mpr (fun j hj => ?_))
        rcases (show j = 0 ∨ j = 1 ∨ j = 2 ∨ j = 3 ∨ j = 4 ∨ j = 5 ∨ j = 6 ∨ j = 7 by omega) with rfl | rfl | rfl | rfl | rfl | rfl | rfl | rfl
        · exact q0
        · exact q1
        · exact q2
        · exact q3
        · exact q4
        · exact q5
        · exact q6
        · exact q7
  · have e : tokC B t pos ≠ cdW k := by
      show tkC B t (tokF B t pos) ≠ cdW k
      rw [tkC_d a1 a2 a3]
      by_cases z : 4 < spn digt B (t - tokF B t pos) (tokF B t pos) - tokF B t pos
      · rw [if_pos z]; exact cdW_23 k h2
      · rw [if_neg z]
        have := numT_lt z
        exact num_neg hk.1 (by omega)
    rcases a4 with ⟨b1', b2, b3⟩ | ⟨b1', b2⟩
    · exact no (fun j => (wdW k).getD j 0) (by rw [b2]; decide) e
    · exact no (fun j => (wdW k).getD j 0) (by rw [b2]; decide) e
  · have e : tokC B t pos ≠ cdW k := by
      show tkC B t (tokF B t pos) ≠ cdW k
      rw [tkC_s a1 a2 a3]
      exact cd_sgn k h2 h1 _
    rcases a4 with ⟨b1', b2, b3⟩ | ⟨b1', b2⟩
    · exact no (fun j => (wdW k).getD j 0) (by rw [b2]; decide) e
    · exact no (fun j => (wdW k).getD j 0) (by rw [b2]; decide) e
/-- a number, a name, no such -/
theorem kind2 {B : Nat → Int32} {t base pos : Nat} {μ : St} (h : TokM B t base pos μ) : μ.1 0 21 = 2 ↔ 0 ≤ (tokC B t pos).toInt := by
  rcases h.2.2.2.2 with ⟨a1, a2⟩ | ⟨a1, a2, a3, a4⟩ | ⟨a1, a2, a3, a4⟩ | ⟨a1, a2, a3, a4⟩
  · rw [a2, show tokC B t pos = -22 from tkC_end' a1]
    decide
  · rw [a3, show tokC B t pos = wCode B (tokF B t pos) (tkN B t (tokF B t pos)) from tkC_w a1 a2]
    refine ⟨fun q => absurd q (by decide), fun q => ?_⟩
    rcases wCode_cases B (tokF B t pos) (tkN B t (tokF B t pos)) with ⟨k, k1, k2, e⟩ | e
    · rw [e] at q
      have := cdW_neg k k2 k1
      omega
    · rw [e] at q
      exact absurd q (by decide)
  · have e : tokC B t pos = _ := tkC_d a1 a2 a3
    rcases a4 with ⟨b1', b2, b3⟩ | ⟨b1', b2⟩
    · rw [b2, e, if_neg b1', tiI (by have := numT_lt b1'; omega)]
      exact ⟨fun _ => by omega, fun _ => rfl⟩
    · rw [b2, e, if_pos b1']
      decide
  · have e : tokC B t pos = sgn (B (tokF B t pos)) := tkC_s a1 a2 a3
    have hn := (sgn_neg (B (tokF B t pos))).1
    rw [e]
    rcases a4 with ⟨b1', b2, b3⟩ | ⟨b1', b2⟩
    · rw [b2]
      exact ⟨fun q => absurd q (by decide), fun q => by omega⟩
    · rw [b2]
      exact ⟨fun q => absurd q (by decide), fun q => by omega⟩
theorem worth2 {B : Nat → Int32} {t base pos : Nat} {μ : St} (h : TokM B t base pos μ) (h2 : μ.1 0 21 = 2) : Int64.toInt32 μ.2 = tokC B t pos := by
  rcases h.2.2.2.2 with ⟨a1, a2⟩ | ⟨a1, a2, a3, a4⟩ | ⟨a1, a2, a3, a4⟩ | ⟨a1, a2, a3, a4⟩
  · rw [a2] at h2
    exact absurd h2 (by decide)
  · rw [a3] at h2
    exact absurd h2 (by decide)
  · have e : tokC B t pos = _ := tkC_d a1 a2 a3
    rcases a4 with ⟨b1', b2, b3⟩ | ⟨b1', b2⟩
    · rw [b3, e, if_neg b1', lN_i]
    · rw [b2] at h2
      exact absurd h2 (by decide)
  · rcases a4 with ⟨b1', b2, b3⟩ | ⟨b1', b2⟩ <;> rw [b2] at h2 <;> exact absurd h2 (by decide)
theorem worth3 {B : Nat → Int32} {t base pos : Nat} {μ : St} (h : TokM B t base pos μ) {s c : Int32} (hs : sgn s = c) (hc : c ≠ -23) (hn : ∀ k, k < 13 → 1 ≤ k → cdW k ≠ c) (ht : tokC B t pos = c) : μ.2 = s.toInt64 := by
  have hc0 := (sgn_neg s)
  rw [hs] at hc0
  rcases h.2.2.2.2 with ⟨a1, a2⟩ | ⟨a1, a2, a3, a4⟩ | ⟨a1, a2, a3, a4⟩ | ⟨a1, a2, a3, a4⟩
  · exact absurd ((show tokC B t pos = -22 from tkC_end' a1).symm.trans ht).symm hc0.2
  · exfalso
    rw [show tokC B t pos = wCode B (tokF B t pos) (tkN B t (tokF B t pos)) from tkC_w a1 a2] at ht
    exact w_sgn (by rw [hs]; exact hc) (ht.trans hs.symm)
  · exfalso
    rw [show tokC B t pos = _ from tkC_d a1 a2 a3] at ht
    by_cases z : 4 < spn digt B (t - tokF B t pos) (tokF B t pos) - tokF B t pos
    · rw [if_pos z] at ht
      exact hc ht.symm
    · rw [if_neg z] at ht
      have := numT_lt z
      exact num_neg (by omega) (by omega) ht
  · have e : tokC B t pos = sgn (B (tokF B t pos)) := tkC_s a1 a2 a3
    rw [e] at ht
    rcases a4 with ⟨b1', b2, b3⟩ | ⟨b1', b2⟩
    · rw [b3, sgn_inj (ht.trans hs.symm) (by rw [hs]; exact hc)]
    · rw [b1'] at ht
      exact absurd ht.symm hc
theorem kind0 {B : Nat → Int32} {t base pos : Nat} {μ : St} (h : TokM B t base pos μ) : μ.1 0 21 = 0 ↔ tokC B t pos = -22 := by
  rcases h.2.2.2.2 with ⟨a1, a2⟩ | ⟨a1, a2, a3, a4⟩ | ⟨a1, a2, a3, a4⟩ | ⟨a1, a2, a3, a4⟩
  · rw [a2, show tokC B t pos = -22 from tkC_end' a1]
    exact ⟨fun _ => rfl, fun _ => rfl⟩
  · rw [a3, show tokC B t pos = wCode B (tokF B t pos) (tkN B t (tokF B t pos)) from tkC_w a1 a2]
    refine ⟨fun q => absurd q (by decide), fun q => ?_⟩
    rcases wCode_cases B (tokF B t pos) (tkN B t (tokF B t pos)) with ⟨k, k1, k2, e⟩ | e
    · rw [e] at q
      have := cdW_neg k k2 k1
      rw [q, show (-22 : Int32).toInt = -22 by decide] at this
      omega
    · rw [e] at q
      exact absurd q (by decide)
  · have e : tokC B t pos = _ := tkC_d a1 a2 a3
    rcases a4 with ⟨b1', b2, b3⟩ | ⟨b1', b2⟩
    · rw [b2, e, if_neg b1']
      exact ⟨fun q => absurd q (by decide), fun q => absurd q (num_neg (by decide) (by have := numT_lt b1'; omega))⟩
    · rw [b2, e, if_pos b1']
      decide
  · have e : tokC B t pos = sgn (B (tokF B t pos)) := tkC_s a1 a2 a3
    have hn := (sgn_neg (B (tokF B t pos))).2
    rw [e]
    rcases a4 with ⟨b1', b2, b3⟩ | ⟨b1', b2⟩
    · rw [b2]
      exact ⟨fun q => absurd q (by decide), fun q => absurd q hn⟩
    · rw [b2]
      exact ⟨fun q => absurd q (by decide), fun q => absurd q hn⟩
/-- no number and no name: neither kind, or a word that is no name -/
theorem kind1 {B : Nat → Int32} {t base pos : Nat} {μ : St} (h : TokM B t base pos μ) : (μ.1 0 21 = 1 → (tokC B t pos).toInt < 0) ∧ ((∃ k, 1 ≤ k ∧ k ≤ 6 ∧ tokC B t pos = cdW k) → μ.1 0 21 = 1) := by
  have out : ¬ μ.1 0 21 = 1 → ∀ k, 1 ≤ k → k ≤ 6 → tokC B t pos ≠ cdW k := fun a k k1 k2 q => by
    have hk := cdW_neg k (by omega) k1
    rcases h.2.2.2.2 with ⟨a1, a2⟩ | ⟨a1, a2, a3, a4⟩ | ⟨a1, a2, a3, a4⟩ | ⟨a1, a2, a3, a4⟩
    · rw [show tokC B t pos = -22 from tkC_end' a1] at q
      rw [← q, show (-22 : Int32).toInt = -22 by decide] at hk
      omega
    · exact a a3
    · rw [show tokC B t pos = _ from tkC_d a1 a2 a3] at q
      by_cases z : 4 < spn digt B (t - tokF B t pos) (tokF B t pos) - tokF B t pos
      · rw [if_pos z] at q
        exact cdW_23 k (by omega) q
      · rw [if_neg z] at q
        have := numT_lt z
        exact num_neg hk.1 (by omega) q
    · rw [show tokC B t pos = sgn (B (tokF B t pos)) from tkC_s a1 a2 a3] at q
      exact cd_sgn k (by omega) k1 _ q
  refine ⟨fun q => ?_, fun ⟨k, k1, k2, e⟩ => Decidable.byContradiction fun q => out q k k1 k2 e⟩
  have h2 := kind2 h
  rw [q] at h2
  have : ¬ 0 ≤ (tokC B t pos).toInt := fun z => absurd (h2.mpr z) (by decide)
  omega
