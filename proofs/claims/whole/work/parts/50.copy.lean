theorem sub_ti {a b : Nat} (ha : a < 2 ^ 31) (hb : b < 2 ^ 31) : (nI a - nI b).toInt = (a : Int) - b := by
  rw [Int32.toInt_sub, tiI ha, tiI hb]
  exact Int.bmod_eq_of_le (by omega) (by omega)
/-- forwards and backwards, one by one -/
def fwd (A B : Nat) : Nat → Nat → St → St
  | 0, _, μ => μ
  | m + 1, j, μ => fwd A B m (j + 1) (up μ 18 (B + j) (μ.1 18 (A + j)))
def bwd (A B : Nat) : Nat → St → St
  | 0, μ => μ
  | m + 1, μ => bwd A B m (up μ 18 (B + m) (μ.1 18 (A + m)))
theorem fwd_o {A B a b : Nat} (h : a ≠ 18) : ∀ (m j : Nat) (μ : St), (fwd A B m j μ).1 a b = μ.1 a b := by
  intro m
  induction m with
  | zero => intros; rfl
  | succ m ih => intro j μ; rw [fwd, ih, up_lo h]
theorem bwd_o {A B a b : Nat} (h : a ≠ 18) : ∀ (m : Nat) (μ : St), (bwd A B m μ).1 a b = μ.1 a b := by
  intro m
  induction m with
  | zero => intros; rfl
  | succ m ih => intro μ; rw [bwd, ih, up_lo h]
theorem fwd_get {A B L y : Nat} (h : B ≤ A ∨ A + L ≤ B) : ∀ (m j : Nat) (μ : St), j + m = L → (fwd A B m j μ).1 18 y = if B + j ≤ y ∧ y < B + L then μ.1 18 (A + (y - B)) else μ.1 18 y := by
  intro m
  induction m with
  | zero => intro j μ hj; rw [if_neg (by omega)]; rfl
  | succ m ih =>
    intro j μ hj
    rw [fwd, ih (j + 1) _ (by omega)]
    by_cases c : y = B + j
    · subst c
      rw [if_neg (by omega), if_pos (by omega), up_eq, show B + j - B = j by omega]
    · by_cases c2 : B + (j + 1) ≤ y ∧ y < B + L
      · rw [if_pos c2, if_pos (by omega), up_pl (by omega)]
      · rw [if_neg c2, if_neg (by omega), up_pl c]
theorem bwd_get {A B y : Nat} (h : A < B) : ∀ (m : Nat) (μ : St), (bwd A B m μ).1 18 y = if B ≤ y ∧ y < B + m then μ.1 18 (A + (y - B)) else μ.1 18 y := by
  intro m
  induction m with
  | zero => intro μ; rw [if_neg (by omega)]; rfl
  | succ m ih =>
    intro μ
    rw [bwd, ih]
    by_cases c : y = B + m
    · subst c
      rw [if_neg (by omega), if_pos (by omega), up_eq, show B + m - B = m by omega]
    · by_cases c2 : B ≤ y ∧ y < B + m
      · rw [if_pos c2, if_pos (by omega), up_pl (by omega)]
      · rw [if_neg c2, if_neg (by omega), up_pl c]
theorem copyF {s u i j L : Nat} (hs : s < 4) (hu : u < 4) (hi : i + L ≤ 40) (hj : j + L ≤ 40) : ∀ (m d F : Nat) (μ : St), d + m = L → m < F → X10_copy_b121 F (nI s) (nI i) (nI u) (nI j) (nI L) 0 (nI d) μ = some (nI L, fwd (40 * s + i) (40 * u + j) m d μ) := by
  intro m
  induction m with
  | zero =>
    intro d F μ hd hF
    obtain ⟨F', rfl⟩ : ∃ F', F = F' + 1 := ⟨F - 1, by omega⟩
    rw [X10_copy_b121, if_pos (show nI L ≤ nI d by rw [nI_leI (by omega) (by omega)]; omega)]
    rfl
  | succ m ih =>
    intro d F μ hd hF
    obtain ⟨F', rfl⟩ : ∃ F', F = F' + 1 := ⟨F - 1, by omega⟩
    rw [X10_copy_b121, if_neg (show ¬ nI L ≤ nI d by rw [nI_leI (by omega) (by omega)]; omega), if_pos rfl]
    unfold X10_copy_b145
    rw [ix40, ix40, nI_add, nI_add, if_neg (show ¬ ob (nI (40 * s + i + d)) 160 by rw [ob_iff (by decide), tiI (by omega)]; omega), if_neg (show ¬ ob (nI (40 * u + j + d)) 160 by rw [ob_iff (by decide), tiI (by omega)]; omega), tnI (by omega), tnI (by omega), nI_1]
    exact ih (d + 1) F' _ (by omega) (by omega)
theorem copyB {s u i j L : Nat} (hs : s < 4) (hu : u < 4) (hi : i + L ≤ 40) (hj : j + L ≤ 40) : ∀ (m d F : Nat) (μ : St), d + m = L → m < F → X10_copy_b121 F (nI s) (nI i) (nI u) (nI j) (nI L) 1 (nI d) μ = some (nI L, bwd (40 * s + i) (40 * u + j) m μ) := by
  intro m
  induction m with
  | zero =>
    intro d F μ hd hF
    obtain ⟨F', rfl⟩ : ∃ F', F = F' + 1 := ⟨F - 1, by omega⟩
    rw [X10_copy_b121, if_pos (show nI L ≤ nI d by rw [nI_leI (by omega) (by omega)]; omega)]
    rfl
  | succ m ih =>
    intro d F μ hd hF
    obtain ⟨F', rfl⟩ : ∃ F', F = F' + 1 := ⟨F - 1, by omega⟩
    rw [X10_copy_b121, if_neg (show ¬ nI L ≤ nI d by rw [nI_leI (by omega) (by omega)]; omega), if_neg (show ¬ (1 : Int32) = 0 by decide)]
    have e : nI L - 1 - nI d = nI m := by
      rw [show (1 : Int32) = nI 1 from rfl, pk_sub (by omega), pk_sub (by omega)]
      congr 1
      omega
    unfold X10_copy_b145
    rw [e, ix40, ix40, nI_add, nI_add, if_neg (show ¬ ob (nI (40 * s + i + m)) 160 by rw [ob_iff (by decide), tiI (by omega)]; omega), if_neg (show ¬ ob (nI (40 * u + j + m)) 160 by rw [ob_iff (by decide), tiI (by omega)]; omega), tnI (by omega), tnI (by omega), nI_1]
    exact ih (d + 1) F' _ (by omega) (by omega)
/-- the copied row, said of both -/
theorem copy_she {n t k : Nat} {ev : Nat → Nat → Nm → Int32} {σ μ : St} (hR : RelN n t k ev σ μ) {s u i j L z y o p : Nat} (hs : s < 4) (hu : u < 4) (hz : z ≤ 40) (hy : y ≤ 40) (hi : i + L ≤ z) (hj : j + L ≤ y) (hrow : ∀ c, c < z → σ.1 (39 + 2 * s) c = μ.1 18 (40 * s + c)) (q : p ≤ 2 ∧ σ.1 (38 + 2 * u) 1 = nI p ∧ μ.1 15 u = 1 ∧ μ.1 16 u = nI p ∧ σ.1 (38 + 2 * u) 2 = nI y ∧ μ.1 17 u = nI y ∧ ∀ c, c < y → σ.1 (39 + 2 * u) c = μ.1 18 (40 * u + c)) {μ' : St} (ho : ∀ a b, a ≠ 18 → μ'.1 a b = μ.1 a b) (hg : ∀ b, μ'.1 18 b = if 40 * u + j ≤ b ∧ b < 40 * u + j + L then μ.1 18 (40 * s + i + (b - (40 * u + j))) else μ.1 18 b) : RelN n t k ev (upA σ (39 + 2 * u) (va_cpy (σ.1 (39 + 2 * s)) (σ.1 (39 + 2 * u)) i j L)) μ' := by
  have lo : ∀ a b, a ≠ 39 + 2 * u → (upA σ (39 + 2 * u) (va_cpy (σ.1 (39 + 2 * s)) (σ.1 (39 + 2 * u)) i j L)).1 a b = σ.1 a b := fun a b h => by rw [upA_get, if_neg h]
  refine hR.she (fun a b h => lo a b (by omega)) (fun a b h => ho a b (by omega)) (RShe.one (s := u) hR.2.2.2.2.2.2 (fun a b h1 h2 => lo a b h2) (fun c hc => ho _ _ (by decide)) (fun c hc => ho _ _ (by decide)) (fun c hc => ho _ _ (by decide)) (fun c hc => by rw [hg, if_neg (by omega)]) ?_)
  obtain ⟨q2, q3, q4, q5, q6, q7, q8⟩ := q
  refine Or.inr ⟨y, p, hy, q2, ?_, ?_, ?_, ?_, ?_, fun c hc => ?_⟩
  · rw [lo _ _ (by omega), q3]
  · rw [ho _ _ (by decide), q4]
  · rw [ho _ _ (by decide), q5]
  · rw [lo _ _ (by omega), q6]
  · rw [ho _ _ (by decide), q7]
  · rw [upA_get, if_pos rfl, hg]
    unfold va_cpy
    by_cases c1 : j ≤ c ∧ c < j + L
    · rw [if_pos c1, if_pos (by omega), hrow _ (by omega), show 40 * s + i + (40 * u + c - (40 * u + j)) = 40 * s + (i + (c - j)) by omega]
    · rw [if_neg c1, if_neg (by omega), q8 c hc]
theorem copyM_run {n t k : Nat} {ev : Nat → Nat → Nm → Int32} {σ μ : St} (hR : RelN n t k ev σ μ) {s u i j L z y p : Nat} (hs : s < 4) (hu : u < 4) (hz : z ≤ 40) (hy : y ≤ 40) (hi : i + L ≤ z) (hj : j + L ≤ y) (hrow : ∀ c, c < z → σ.1 (39 + 2 * s) c = μ.1 18 (40 * s + c)) (q : p ≤ 2 ∧ σ.1 (38 + 2 * u) 1 = nI p ∧ μ.1 15 u = 1 ∧ μ.1 16 u = nI p ∧ σ.1 (38 + 2 * u) 2 = nI y ∧ μ.1 17 u = nI y ∧ ∀ c, c < y → σ.1 (39 + 2 * u) c = μ.1 18 (40 * u + c)) : ∃ μ' : St, (if nI s = nI u then (if nI j ≤ nI i then X10_copy_b116 (nI s) (nI i) (nI u) (nI j) (nI L) 0 μ else X10_copy_b116 (nI s) (nI i) (nI u) (nI j) (nI L) 1 μ) else X10_copy_b116 (nI s) (nI i) (nI u) (nI j) (nI L) 0 μ) = some (nI L, μ') ∧ RelN n t k ev (upA σ (39 + 2 * u) (va_cpy (σ.1 (39 + 2 * s)) (σ.1 (39 + 2 * u)) i j L)) μ' := by
  have F0 : X10_copy_b116 (nI s) (nI i) (nI u) (nI j) (nI L) 0 μ = some (nI L, fwd (40 * s + i) (40 * u + j) L 0 μ) := copyF hs hu (by omega) (by omega) L 0 FU μ (by omega) (by rw [FU_eq]; omega)
  have F1 : X10_copy_b116 (nI s) (nI i) (nI u) (nI j) (nI L) 1 μ = some (nI L, bwd (40 * s + i) (40 * u + j) L μ) := copyB hs hu (by omega) (by omega) L 0 FU μ (by omega) (by rw [FU_eq]; omega)
  have G0 : (40 * u + j ≤ 40 * s + i ∨ 40 * s + i + L ≤ 40 * u + j) → RelN n t k ev (upA σ (39 + 2 * u) (va_cpy (σ.1 (39 + 2 * s)) (σ.1 (39 + 2 * u)) i j L)) (fwd (40 * s + i) (40 * u + j) L 0 μ) := fun h => copy_she (o := p) hR hs hu hz hy hi hj hrow q (fun a b h => fwd_o h L 0 μ) (fun b => fwd_get h L 0 μ (by omega))
  rw [F0, F1]
  by_cases c1 : s = u
  · subst c1
    rw [if_pos rfl]
    by_cases c2 : j ≤ i
    · rw [if_pos ((nI_leI (by omega) (by omega)).mpr c2)]
      exact ⟨_, rfl, G0 (by omega)⟩
    · rw [if_neg (fun h => c2 ((nI_leI (by omega) (by omega)).mp h))]
      exact ⟨_, rfl, copy_she (o := p) hR hs hu hz hy hi hj hrow q (fun a b h => bwd_o h L μ) (fun b => bwd_get (by omega) L μ)⟩
  · rw [if_neg (fun h => c1 ((nI_eq (by omega) (by omega)).mp h))]
    exact ⟨_, rfl, G0 (by omega)⟩
theorem sim_copy : Sim_copy Rel := by
  intro a i b j m σ μ ⟨n, t, k, ev, hR⟩
  have hRel : Rel σ μ := ⟨n, t, k, ev, hR⟩
  have ne1 : ¬ (1 : Int32) = 0 := by decide
  have no : ∀ v : Int32, X9_copy a i b j m σ = some (v, σ) → X10_copy a i b j m μ = some (v, μ) → ∃ r σ1 μ1, X9_copy a i b j m σ = some (r, σ1) ∧ X10_copy a i b j m μ = some (r, μ1) ∧ Rel σ1 μ1 := fun v e1 e2 => ⟨v, σ, μ, e1, e2, hRel⟩
  by_cases c0 : 0 ≤ a.toInt ∧ a.toInt < 4
  · by_cases c1 : 0 ≤ b.toInt ∧ b.toInt < 4
    · rcases i_cases a with h | ⟨s, hs, rfl⟩
      · omega
      rcases i_cases b with h | ⟨u, hu, rfl⟩
      · omega
      rw [tiI hs] at c0
      rw [tiI hu] at c1
      have s4 : s < 4 := by omega
      have u4 : u < 4 := by omega
      clear no
      have hob : ¬ ob (nI s) 4 := by rw [ob_iff (by decide), tiI (by omega)]; omega
      have hobu : ¬ ob (nI u) 4 := by rw [ob_iff (by decide), tiI (by omega)]; omega
      have eX : X9_copy (nI s) i (nI u) j m σ = (X6_isMissing (38 + 2 * s) σ).bind (fun x29 => if x29 = 0 then ((X6_isMissing (38 + 2 * u) σ).bind (fun x37 => if x37 = 0 then (if σ.1 (38 + 2 * s) 1 = σ.1 (38 + 2 * u) 1 then ((X6_spans (38 + 2 * s) i m σ).bind (fun x67 => if x67 = 0 then some (-12, σ) else (X6_spans (38 + 2 * u) j m σ).bind (fun x79 => if x79 = 0 then some (-12, σ) else if acOk i j m 40 40 then some (m, upA σ (39 + 2 * u) (va_cpy (σ.1 (39 + 2 * s)) (σ.1 (39 + 2 * u)) i.toNatClampNeg j.toNatClampNeg m.toNatClampNeg)) else none))) else some (-13, σ)) else some (-11, σ))) else some (-11, σ)) := by
        unfold X9_copy
        rw [sheetOf_s s4, Option.bind_some]
        dsimp only [Option.elim]
        rw [sheetOf_s u4, Option.bind_some]
        dsimp only [Option.elim]
        rw [if_pos (oS s4)]
        simp only [if_pos (oS u4), rS s4, rS u4, if_pos (aS s4), if_pos (aS u4), lS s4, lS u4]
      have eM : X10_copy (nI s) i (nI u) j m μ = if μ.1 15 s = 0 then some (-11, μ) else if μ.1 15 u = 0 then some (-11, μ) else if μ.1 16 s = μ.1 16 u then (if m < 0 then some (-12, μ) else if i < 0 then some (-12, μ) else if j < 0 then some (-12, μ) else if μ.1 17 s - m < i then some (-12, μ) else if j ≤ μ.1 17 u - m then (if nI s = nI u then (if j ≤ i then X10_copy_b116 (nI s) i (nI u) j m 0 μ else X10_copy_b116 (nI s) i (nI u) j m 1 μ) else X10_copy_b116 (nI s) i (nI u) j m 0 μ) else some (-12, μ)) else some (-13, μ) := by
        unfold X10_copy
        rw [isSheet_eq, isSheet_eq, Option.bind_some, Option.bind_some, tiI hs, tiI hu, if_pos (show (0 : Int) ≤ ((s : Nat) : Int) ∧ ((s : Nat) : Int) < 4 by omega), if_neg ne1, if_pos (show (0 : Int) ≤ ((u : Nat) : Int) ∧ ((u : Nat) : Int) < 4 by omega), if_neg ne1]
        simp only [if_neg hob, if_neg hobu, tnI hs, tnI hu]
      rw [eX, eM]
      clear eX eM
      rcases hR.2.2.2.2.2.2 s s4 with ⟨q1, q2⟩ | ⟨z, o, q1, q2, q3, q4, q5, q6, q7, q8⟩
      · rw [miss_yes s4 q1, q2, if_pos rfl]
        exact ⟨-11, σ, μ, rfl, rfl, hRel⟩
      rw [miss_no s4 q2 q3, q4, if_neg ne1, Option.bind_some, if_pos rfl]
      rcases hR.2.2.2.2.2.2 u u4 with ⟨p1, p2⟩ | ⟨y, p, p1, p2, p3, p4, p5, p6, p7, p8⟩
      · rw [miss_yes u4 p1, p2, if_pos rfl]
        exact ⟨-11, σ, μ, rfl, rfl, hRel⟩
      rw [miss_no u4 p2 p3, p4, if_neg ne1, Option.bind_some, if_pos rfl, q3, p3, q5, p5]
      by_cases c2 : nI o = nI p
      · rw [if_pos c2, if_pos c2, spans_eq s4 q1 q6, spans_eq u4 p1 p6, Option.bind_some, Option.bind_some, q7, p7]
        rcases i_cases m with h | ⟨m, hm, rfl⟩
        · rw [if_neg (show ¬ (0 ≤ i.toInt ∧ 0 ≤ m.toInt ∧ i.toInt + m.toInt ≤ (z : Int)) by omega), if_pos rfl, if_pos (show m < 0 by rw [Int32.lt_iff_toInt_lt]; exact h)]
          exact ⟨-12, σ, μ, rfl, rfl, hRel⟩
        rcases i_cases i with h | ⟨i, hi, rfl⟩
        · rw [if_neg (show ¬ (0 ≤ i.toInt ∧ 0 ≤ (nI m).toInt ∧ i.toInt + (nI m).toInt ≤ (z : Int)) by omega), if_pos rfl, if_neg (nI_pos hm), if_pos (show i < 0 by rw [Int32.lt_iff_toInt_lt]; exact h)]
          exact ⟨-12, σ, μ, rfl, rfl, hRel⟩
        rcases i_cases j with h | ⟨j, hj, rfl⟩
        · rw [if_neg (show ¬ (0 ≤ j.toInt ∧ 0 ≤ (nI m).toInt ∧ j.toInt + (nI m).toInt ≤ (y : Int)) by omega), if_pos rfl, if_neg (nI_pos hm), if_neg (nI_pos hi), if_pos (show j < 0 by rw [Int32.lt_iff_toInt_lt]; exact h)]
          refine ⟨-12, σ, μ, ?_, rfl, hRel⟩
          split <;> rfl
        rw [if_neg (nI_pos hm), if_neg (nI_pos hi), if_neg (nI_pos hj), tiI hi, tiI hj, tiI hm]
        by_cases c3 : i + m ≤ z
        · rw [if_pos (show (0 : Int) ≤ ((i : Nat) : Int) ∧ (0 : Int) ≤ ((m : Nat) : Int) ∧ ((i : Nat) : Int) + ((m : Nat) : Int) ≤ (z : Int) by omega), if_neg ne1, pk_sub (by omega), if_neg (show ¬ nI (z - m) < nI i by rw [nI_ltI (by omega) hi]; omega)]
          by_cases c4 : j + m ≤ y
          · rw [if_pos (show (0 : Int) ≤ ((j : Nat) : Int) ∧ (0 : Int) ≤ ((m : Nat) : Int) ∧ ((j : Nat) : Int) + ((m : Nat) : Int) ≤ (y : Int) by omega), if_neg ne1, pk_sub (by omega), if_pos (show nI j ≤ nI (y - m) by rw [nI_leI hj (by omega)]; omega), if_pos (show acOk (nI i) (nI j) (nI m) 40 40 from ⟨nI_pos hi, nI_pos hj, nI_pos hm, by rw [tnI hi, tnI hm]; omega, by rw [tnI hj, tnI hm]; omega⟩), tnI hi, tnI hj, tnI hm]
            obtain ⟨μ', e1, e2⟩ := copyM_run hR s4 u4 q1 p1 c3 c4 q8 ⟨p2, p3, p4, p5, p6, p7, p8⟩
            exact ⟨nI m, _, μ', rfl, e1, n, t, k, ev, e2⟩
          · rw [if_neg (show ¬ ((0 : Int) ≤ ((j : Nat) : Int) ∧ (0 : Int) ≤ ((m : Nat) : Int) ∧ ((j : Nat) : Int) + ((m : Nat) : Int) ≤ (y : Int)) by omega), if_pos rfl]
            have c5 : ¬ nI j ≤ nI y - nI m := by
              by_cases c6 : m ≤ y
              · rw [pk_sub c6, nI_leI hj (by omega)]
                omega
              · rw [Int32.le_iff_toInt_le, tiI hj, sub_ti (by omega) hm]
                omega
            rw [if_neg c5]
            exact ⟨-12, σ, μ, rfl, rfl, hRel⟩
        · rw [if_neg (show ¬ ((0 : Int) ≤ ((i : Nat) : Int) ∧ (0 : Int) ≤ ((m : Nat) : Int) ∧ ((i : Nat) : Int) + ((m : Nat) : Int) ≤ (z : Int)) by omega), if_pos rfl]
          have c5 : nI z - nI m < nI i := by
            by_cases c6 : m ≤ z
            · rw [pk_sub c6, nI_ltI (by omega) hi]
              omega
            · rw [Int32.lt_iff_toInt_lt, tiI hi, sub_ti (by omega) hm]
              omega
          rw [if_pos c5]
          exact ⟨-12, σ, μ, rfl, rfl, hRel⟩
      · rw [if_neg c2, if_neg c2]
        exact ⟨-13, σ, μ, rfl, rfl, hRel⟩
    · refine no (-2) ?_ ?_
      · unfold X9_copy
        rcases i_cases a with h | ⟨s, hs, rfl⟩
        · omega
        rw [tiI hs] at c0
        rw [sheetOf_s (by omega), Option.bind_some]
        dsimp only [Option.elim]
        rw [sheetOf_no c1]
        rfl
      · unfold X10_copy
        rw [isSheet_eq, isSheet_eq, Option.bind_some, Option.bind_some, if_pos c0, if_neg ne1, if_neg c1, if_pos rfl]
  · refine no (-2) ?_ ?_
    · unfold X9_copy
      rw [sheetOf_no c0]
      dsimp only [Option.bind_some, Option.elim]
      by_cases c1 : 0 ≤ b.toInt ∧ b.toInt < 4
      · rcases i_cases b with h | ⟨u, hu, rfl⟩
        · omega
        rw [tiI hu] at c1
        rw [sheetOf_s (by omega)]
        rfl
      · rw [sheetOf_no c1]
        rfl
    · unfold X10_copy
      rw [isSheet_eq, Option.bind_some, if_neg c0, if_pos rfl]
