/-- the first place at which the order 0, 1, .. is otherwise than told -/
def foS (e : Evg) (x : Nat → Int32) : Nat → Nat → Int32
  | 0, _ => -1
  | c + 1, i => if wmt e (dn (i + 1)) = x i then foS e x c (i + 1) else nI i
theorem foX9 {e : Evg} (ho : EnvOk e) {s : Nat} (hs : s < 4) {x : Nat → Int32} : ∀ (c i F : Nat) (σ : St), i + c = e.n → c < F → HoldX e (dn i) σ → σ.1 (38 + 2 * s) 2 = nI e.n → (∀ j, j < e.n → σ.1 (39 + 2 * s) j = x j) → ∃ σ', X3_firstOtherwise_b9 F (38 + 2 * s) (nI i) σ = some (foS e x c i, σ') ∧ EXu σ σ' := by
  have hn := ho.1
  intro c
  induction c with
  | zero =>
    intro i F σ hi hF h h2 hx
    obtain ⟨F', rfl⟩ : ∃ F', F = F' + 1 := ⟨F - 1, by omega⟩
    rw [X3_firstOtherwise_b9, h.1.1, if_pos (show nI e.n ≤ nI i by rw [nI_leI (by omega) (by omega)]; omega)]
    exact ⟨σ, rfl, EXu.refl σ⟩
  | succ c ih =>
    intro i F σ hi hF h h2 hx
    obtain ⟨F', rfl⟩ : ∃ F', F = F' + 1 := ⟨F - 1, by omega⟩
    obtain ⟨σ1, a1, a2, a3⟩ := comeUp_yes ho h (g := i) (by omega) (fun q => by have := (dn_mem i i).mp q; omega)
    have hl : (i :: dn i).length = i + 1 := by rw [List.length_cons, dn_len]
    have q2 : σ1.1 (38 + 2 * s) 2 = nI e.n := (a3 _ _ (by omega) (by omega)).trans h2
    rw [X3_firstOtherwise_b9, h.1.1, if_neg (show ¬ nI e.n ≤ nI i by rw [nI_leI (by omega) (by omega)]; omega), a1, Option.bind_some, now_eq (by omega) a2.1.2.1 a2.2.2.1 a2.2.2.2.2, Option.bind_some, if_pos (oS hs), item_eq hs (z := e.n) (by omega) (by omega) q2, Option.bind_some, a3 _ _ (by omega) (by omega), hx i (by omega), nI_1]
    unfold foS
    by_cases c1 : wmt e (i :: dn i) = x i
    · rw [if_pos c1, if_pos (show wmt e (dn (i + 1)) = x i from c1)]
      obtain ⟨σ', b1', b2⟩ := ih (i + 1) F' σ1 (by omega) (by omega) a2 q2 (fun j hj => (a3 _ _ (by omega) (by omega)).trans (hx j hj))
      exact ⟨σ', b1', a3.trans b2⟩
    · rw [if_neg c1, if_neg (show ¬ wmt e (dn (i + 1)) = x i from c1)]
      exact ⟨σ1, rfl, a3⟩
theorem foX {e : Evg} (ho : EnvOk e) {s : Nat} (hs : s < 4) {x : Nat → Int32} {σ : St} (hE : EnvX e σ) (h2 : σ.1 (38 + 2 * s) 2 = nI e.n) (hx : ∀ j, j < e.n → σ.1 (39 + 2 * s) j = x j) : ∃ σ', X3_firstOtherwise (38 + 2 * s) σ = some (foS e x e.n 0, σ') ∧ EXu σ σ' := by
  obtain ⟨σ1, a1, a2, a3⟩ := begin_eq ho.2.1 hE
  obtain ⟨σ', b1', b2⟩ := foX9 ho hs e.n 0 FU σ1 (by omega) (by have := ho.1; rw [FU_eq]; omega) a2 ((a3 _ _ (by omega) (by omega)).trans h2) (fun j hj => (a3 _ _ (by omega) (by omega)).trans (hx j hj))
  refine ⟨σ', ?_, a3.trans b2⟩
  unfold X3_firstOtherwise
  rw [a1, Option.bind_some]
  exact b1'
theorem foM6 {e : Evg} (ho : EnvOk e) {s : Nat} (hs : s < 4) {x : Nat → Int32} : ∀ (c i F : Nat) (μ : St), i + c = e.n → c < F → HoldM e (dn i) μ → (∀ j, j < e.n → μ.1 18 (40 * s + j) = x j) → ∃ μ', X10_firstOther_b6 F (nI s) (nI i) μ = some (foS e x c i, μ') ∧ EMu μ μ' := by
  have hn := ho.1
  intro c
  induction c with
  | zero =>
    intro i F μ hi hF h hx
    obtain ⟨F', rfl⟩ : ∃ F', F = F' + 1 := ⟨F - 1, by omega⟩
    rw [X10_firstOther_b6, h.1.1, if_pos (show nI e.n ≤ nI i by rw [nI_leI (by omega) (by omega)]; omega)]
    exact ⟨μ, rfl, EMu.refl μ⟩
  | succ c ih =>
    intro i F μ hi hF h hx
    obtain ⟨F', rfl⟩ : ∃ F', F = F' + 1 := ⟨F - 1, by omega⟩
    obtain ⟨μ1, a1, a2, a3⟩ := comes_eq ho h (g := i) (by omega) (fun q => by have := (dn_mem i i).mp q; omega)
    have hl : (i :: dn i).length = i + 1 := by rw [List.length_cons, dn_len]
    have hw := a2.2.2.w
    rw [hl] at hw
    rw [dn_len] at a1
    rw [X10_firstOther_b6, h.1.1, if_neg (show ¬ nI e.n ≤ nI i by rw [nI_leI (by omega) (by omega)]; omega), a1, Option.bind_some, nI_1, ix40, if_neg (show ¬ ob (nI (i + 1)) 6 by rw [ob_iff (by decide), tiI (by omega)]; omega), if_neg (show ¬ ob (nI (40 * s + i)) 160 by rw [ob_iff (by decide), tiI (by omega)]; omega), tnI (by omega), tnI (by omega), hw, a3 _ _ (by omega) (by omega), hx i (by omega)]
    unfold foS
    by_cases c1 : wmt e (i :: dn i) = x i
    · rw [if_pos c1, if_pos (show wmt e (dn (i + 1)) = x i from c1)]
      obtain ⟨μ', b1', b2⟩ := ih (i + 1) F' μ1 (by omega) (by omega) a2 (fun j hj => (a3 _ _ (by omega) (by omega)).trans (hx j hj))
      exact ⟨μ', b1', a3.trans b2⟩
    · rw [if_neg c1, if_neg (show ¬ wmt e (dn (i + 1)) = x i from c1)]
      exact ⟨μ1, rfl, a3⟩
theorem foM {e : Evg} (ho : EnvOk e) {s : Nat} (hs : s < 4) {x : Nat → Int32} {μ : St} (hE : EnvM e μ) (hx : ∀ j, j < e.n → μ.1 18 (40 * s + j) = x j) : ∃ μ', X10_firstOther (nI s) μ = some (foS e x e.n 0, μ') ∧ EMu μ μ' := by
  obtain ⟨μ1, a1, a2, a3⟩ := begins_eq hE
  obtain ⟨μ', b1', b2⟩ := foM6 ho hs e.n 0 FU μ1 (by omega) (by have := ho.1; rw [FU_eq]; omega) a2 (fun j hj => (a3 _ _ (by omega) (by omega)).trans (hx j hj))
  refine ⟨μ', ?_, a3.trans b2⟩
  unfold X10_firstOther
  rw [a1, Option.bind_some]
  exact b1'
/-- the bits of those values by which all would be as told -/
def fitB (f : Nat → Int32) : Nat → Nat → Int32 → Int32
  | 0, _, b => b
  | c + 1, i, b => fitB f c (i + 1) (if f i = -1 then b ||| (1 <<< (nI i &&& 31)) else b)
theorem shl0 : ∀ i, i < 10 → (0 : Int32) <<< (nI i &&& 31) = 0 := by decide +kernel
theorem or0 (x : Int32) : x ||| 0 = x := Int32.or_zero
/-- of one cell's place, on the class's side -/
theorem fitX {n s row g most : Nat} {w own : Int32} (hs : s < 4) (hrow : row < 5) (hg : g < 5) (hmost : most < 10) {E : Nat → Evg} {x : Nat → Int32} {σ0 : St} (hO : ∀ v, v ≤ most → EnvOk (E v) ∧ (E v).n = n) (hch : ∀ v σ, X5_change 1 w (nI g) v σ = some (up σ row g v)) (hE : ∀ v σ, v ≤ most → (∀ a b, scX a b = false → ¬ (a = row ∧ b = g) → σ.1 a b = σ0.1 a b) → EnvX (E v) (up σ row g (nI v))) (hown : σ0.1 row g = own) (h2 : σ0.1 (38 + 2 * s) 2 = nI n) (hx : ∀ j, j < n → σ0.1 (39 + 2 * s) j = x j) : ∀ (c i F : Nat) (b : Int32) (σ : St), i + c = most + 1 → c < F → (∀ a b, scX a b = false → ¬ (a = row ∧ b = g) → σ.1 a b = σ0.1 a b) → ∃ σ', X3_fitting_b74 F (38 + 2 * s) (nI g) w (nI most) own b (nI i) σ = some (fitB (fun v => foS (E v) x n 0) c i b, σ') ∧ EX σ0 σ' := by
  intro c
  induction c with
  | zero =>
    intro i F b σ hi hF hP
    obtain ⟨F', rfl⟩ : ∃ F', F = F' + 1 := ⟨F - 1, by omega⟩
    rw [X3_fitting_b74, if_pos (show nI most < nI i by rw [nI_ltI (by omega) (by omega)]; omega), hch, Option.bind_some]
    refine ⟨_, rfl, fun a b' q => ?_⟩
    by_cases z : a = row ∧ b' = g
    · obtain ⟨rfl, rfl⟩ := z
      rw [up_eq, hown]
    · rw [up_get, if_neg z, hP a b' q z]
  | succ c ih =>
    intro i F b σ hi hF hP
    obtain ⟨F', rfl⟩ : ∃ F', F = F' + 1 := ⟨F - 1, by omega⟩
    obtain ⟨o1, o2⟩ := hO i (by omega)
    obtain ⟨σ1, a1, a2⟩ := foX o1 hs (x := x) (hE i σ (by omega) hP) (by rw [up_lo (by omega), hP _ _ (sc_she hs 2).1 (by omega), o2]; exact h2) (fun j hj => by rw [up_lo (by omega), hP _ _ (sc_she hs j).2 (by omega)]; exact hx j (by omega))
    rw [o2] at a1
    have P1 : ∀ a b, scX a b = false → ¬ (a = row ∧ b = g) → σ1.1 a b = σ0.1 a b := fun a b q z => by rw [a2.ex a b q, up_get, if_neg z, hP a b q z]
    rw [X3_fitting_b74, if_neg (show ¬ nI most < nI i by rw [nI_ltI (by omega) (by omega)]; omega), hch, Option.bind_some, a1, Option.bind_some, nI_1]
    unfold fitB
    by_cases c1 : foS (E i) x n 0 = -1
    · rw [if_pos c1, if_pos (show (fun v => foS (E v) x n 0) i = -1 from c1)]
      exact ih (i + 1) F' _ σ1 (by omega) (by omega) P1
    · rw [if_neg c1, if_neg (show ¬ (fun v => foS (E v) x n 0) i = -1 from c1)]
      exact ih (i + 1) F' _ σ1 (by omega) (by omega) P1
theorem fitTX {n s k : Nat} {own : Int32} (hs : s < 4) (hk : k < 10) {E : Nat → Evg} {x : Nat → Int32} {σ0 : St} (hO : ∀ v, v < k → EnvOk (E v) ∧ (E v).n = n) (hE : ∀ v σ, v < k → (∀ a b, scX a b = false → ¬ (a = 1 ∧ b = 4) → σ.1 a b = σ0.1 a b) → EnvX (E v) (up σ 1 4 (nI v))) (hown : σ0.1 1 4 = own) (h2 : σ0.1 (38 + 2 * s) 2 = nI n) (hx : ∀ j, j < n → σ0.1 (39 + 2 * s) j = x j) : ∀ (c i F : Nat) (b : Int32) (σ : St), i + c = k → c < F → (∀ a b, scX a b = false → ¬ (a = 1 ∧ b = 4) → σ.1 a b = σ0.1 a b) → ∃ σ', X3_fittingTexts_b14 F (38 + 2 * s) (nI k) own b (nI i) σ = some (fitB (fun v => foS (E v) x n 0) c i b, σ') ∧ EX σ0 σ' := by
  intro c
  induction c with
  | zero =>
    intro i F b σ hi hF hP
    obtain ⟨F', rfl⟩ : ∃ F', F = F' + 1 := ⟨F - 1, by omega⟩
    rw [X3_fittingTexts_b14, if_pos (show nI k ≤ nI i by rw [nI_leI (by omega) (by omega)]; omega)]
    refine ⟨_, rfl, fun a b' q => ?_⟩
    by_cases z : a = 1 ∧ b' = 4
    · obtain ⟨rfl, rfl⟩ := z
      rw [up_eq, hown]
    · rw [up_get, if_neg z, hP a b' q z]
  | succ c ih =>
    intro i F b σ hi hF hP
    obtain ⟨F', rfl⟩ : ∃ F', F = F' + 1 := ⟨F - 1, by omega⟩
    obtain ⟨o1, o2⟩ := hO i (by omega)
    obtain ⟨σ1, a1, a2⟩ := foX o1 hs (x := x) (hE i σ (by omega) hP) (by rw [up_lo (by omega), hP _ _ (sc_she hs 2).1 (by omega), o2]; exact h2) (fun j hj => by rw [up_lo (by omega), hP _ _ (sc_she hs j).2 (by omega)]; exact hx j (by omega))
    rw [o2] at a1
    have P1 : ∀ a b, scX a b = false → ¬ (a = 1 ∧ b = 4) → σ1.1 a b = σ0.1 a b := fun a b q z => by rw [a2.ex a b q, up_get, if_neg z, hP a b q z]
    rw [X3_fittingTexts_b14, if_neg (show ¬ nI k ≤ nI i by rw [nI_leI (by omega) (by omega)]; omega), a1, Option.bind_some, nI_1]
    unfold fitB
    by_cases c1 : foS (E i) x n 0 = -1
    · rw [if_pos c1, if_pos (show (fun v => foS (E v) x n 0) i = -1 from c1)]
      exact ih (i + 1) F' _ σ1 (by omega) (by omega) P1
    · rw [if_neg c1, if_neg (show ¬ (fun v => foS (E v) x n 0) i = -1 from c1)]
      exact ih (i + 1) F' _ σ1 (by omega) (by omega) P1
theorem fitM {n s mc mi most : Nat} {l4 l5 own : Int32} (hs : s < 4) (hmc : mc < 7) (hmost : most < 10) {E : Nat → Evg} {x : Nat → Int32} {μ0 : St} (hO : ∀ v, v ≤ most → EnvOk (E v) ∧ (E v).n = n) (hch : ∀ v μ, X10_lays l5 l4 v μ = some (up μ mc mi v)) (hE : ∀ v μ, v ≤ most → (∀ a b, scM a b = false → ¬ (a = mc ∧ b = mi) → μ.1 a b = μ0.1 a b) → EnvM (E v) (up μ mc mi (nI v))) (hown : μ0.1 mc mi = own) (hx : ∀ j, j < n → μ0.1 18 (40 * s + j) = x j) : ∀ (c i F : Nat) (b : Int32) (μ : St), i + c = most + 1 → c < F → (∀ a b, scM a b = false → ¬ (a = mc ∧ b = mi) → μ.1 a b = μ0.1 a b) → ∃ μ', X10_tells_b284 F (nI s) l4 l5 own (nI most) b (nI i) μ = some (fitB (fun v => foS (E v) x n 0) c i b, μ') ∧ EM μ0 μ' := by
  intro c
  induction c with
  | zero =>
    intro i F b μ hi hF hP
    obtain ⟨F', rfl⟩ : ∃ F', F = F' + 1 := ⟨F - 1, by omega⟩
    rw [X10_tells_b284, if_pos (show nI most < nI i by rw [nI_ltI (by omega) (by omega)]; omega), hch, Option.bind_some]
    refine ⟨_, rfl, fun a b' q => ?_⟩
    by_cases z : a = mc ∧ b' = mi
    · obtain ⟨rfl, rfl⟩ := z
      rw [up_eq, hown]
    · rw [up_get, if_neg z, hP a b' q z]
  | succ c ih =>
    intro i F b μ hi hF hP
    obtain ⟨F', rfl⟩ : ∃ F', F = F' + 1 := ⟨F - 1, by omega⟩
    obtain ⟨o1, o2⟩ := hO i (by omega)
    obtain ⟨μ1, a1, a2⟩ := foM o1 hs (x := x) (hE i μ (by omega) hP) (fun j hj => by rw [up_lo (by omega), hP 18 _ rfl (by omega)]; exact hx j (by omega))
    rw [o2] at a1
    have P1 : ∀ a b, scM a b = false → ¬ (a = mc ∧ b = mi) → μ1.1 a b = μ0.1 a b := fun a b q z => by rw [a2.em a b q, up_get, if_neg z, hP a b q z]
    rw [X10_tells_b284, if_neg (show ¬ nI most < nI i by rw [nI_ltI (by omega) (by omega)]; omega), hch, Option.bind_some, a1, Option.bind_some]
    unfold X10_tells_b317
    rw [nI_1, shl0 i (by omega), or0]
    unfold fitB
    by_cases c1 : foS (E i) x n 0 = -1
    · rw [if_pos c1, if_pos (show (fun v => foS (E v) x n 0) i = -1 from c1)]
      exact ih (i + 1) F' _ μ1 (by omega) (by omega) P1
    · rw [if_neg c1, if_neg (show ¬ (fun v => foS (E v) x n 0) i = -1 from c1)]
      exact ih (i + 1) F' _ μ1 (by omega) (by omega) P1
/-- an evening of other kinds, of other numbers, by another rule -/
def Evg.wK (e : Evg) (K : Nat → Int32) : Evg := (e.n, e.r, e.w0, e.lim, e.odd, K, e.N, e.T, e.L, e.ev)
def Evg.wN (e : Evg) (N : Nat → Int32) : Evg := (e.n, e.r, e.w0, e.lim, e.odd, e.K, N, e.T, e.L, e.ev)
def Evg.wR (e : Evg) (r : Nat) (ev : Nat → Nm → Int32) : Evg := (e.n, r, e.w0, e.lim, e.odd, e.K, e.N, e.T, e.L, ev)
theorem EnvX.wK {e : Evg} {K : Nat → Int32} {σ σ' : St} (h : EnvX e σ) (hr : e.r < 6) (hX : ∀ a b, scX a b = false → a ≠ 2 → σ'.1 a b = σ.1 a b) (hT : ∀ g, g < e.n → σ'.1 2 g = K g) : EnvX (e.wK K) σ' := by
  obtain ⟨h1, h2, h3, h4, h5, h6, h7⟩ := h
  refine ⟨(hX _ _ rfl (by decide)).trans h1, (hX _ _ rfl (by decide)).trans h2, (hX _ _ rfl (by decide)).trans h3, ?_, (hX _ _ rfl (by decide)).trans h5, fun g hg => ?_, TxtX.keep (σ := σ) h7 (fun j => hX _ _ (sc_row hr j) (show 15 + e.r ≠ 2 by omega)) (hX _ _ rfl (by decide)) (hX _ _ rfl (by decide)) (hX _ _ rfl (by decide))⟩
  · rw [hX 1 2 rfl (by decide)]
    exact h4
  · rw [hX 3 g rfl (by decide), hX 4 g rfl (by decide), hX 5 g rfl (by decide)]
    exact ⟨hT g hg, (h6 g hg).2⟩
theorem EnvX.wN {e : Evg} {N : Nat → Int32} {σ σ' : St} (h : EnvX e σ) (hr : e.r < 6) (hX : ∀ a b, scX a b = false → a ≠ 3 → σ'.1 a b = σ.1 a b) (hT : ∀ g, g < e.n → σ'.1 3 g = N g) : EnvX (e.wN N) σ' := by
  obtain ⟨h1, h2, h3, h4, h5, h6, h7⟩ := h
  refine ⟨(hX _ _ rfl (by decide)).trans h1, (hX _ _ rfl (by decide)).trans h2, (hX _ _ rfl (by decide)).trans h3, ?_, (hX _ _ rfl (by decide)).trans h5, fun g hg => ?_, TxtX.keep (σ := σ) h7 (fun j => hX _ _ (sc_row hr j) (show 15 + e.r ≠ 3 by omega)) (hX _ _ rfl (by decide)) (hX _ _ rfl (by decide)) (hX _ _ rfl (by decide))⟩
  · rw [hX 1 2 rfl (by decide)]
    exact h4
  · rw [hX 2 g rfl (by decide), hX 4 g rfl (by decide), hX 5 g rfl (by decide)]
    exact ⟨(h6 g hg).1, hT g hg, (h6 g hg).2.2⟩
theorem EnvX.wR {e : Evg} {r : Nat} {ev : Nat → Nm → Int32} {σ σ' : St} (h : EnvX e σ) (hX : ∀ a b, scX a b = false → ¬ (a = 1 ∧ b = 4) → σ'.1 a b = σ.1 a b) (h4' : σ'.1 1 4 = nI r) (ht : TxtX r ev σ) (hr : r < 6) : EnvX (e.wR r ev) σ' := by
  obtain ⟨h1, h2, h3, h4, h5, h6, h7⟩ := h
  refine ⟨(hX _ _ rfl (by decide)).trans h1, (hX _ _ rfl (by decide)).trans h2, (hX _ _ rfl (by decide)).trans h3, ?_, h4', fun g hg => ?_, TxtX.keep (σ := σ) ht (fun j => hX _ _ (sc_row hr j) (by omega)) (hX _ _ rfl (by omega)) (hX _ _ rfl (by omega)) (hX _ _ rfl (by omega))⟩
  · rw [hX 1 2 rfl (by decide)]
    exact h4
  · rw [hX 2 g rfl (by omega), hX 3 g rfl (by omega), hX 4 g rfl (by omega), hX 5 g rfl (by omega)]
    exact h6 g hg
theorem EnvM.wK {e : Evg} {K : Nat → Int32} {μ μ' : St} (h : EnvM e μ) (hM : ∀ a b, scM a b = false → a ≠ 5 → μ'.1 a b = μ.1 a b) (hT : ∀ g, g < e.n → μ'.1 5 g = K g) : EnvM (e.wK K) μ' := by
  obtain ⟨h1, h2, h3, h4, h5, h6, h7⟩ := h
  refine ⟨(hM _ _ rfl (by decide)).trans h1, (hM _ _ rfl (by decide)).trans h2, (hM _ _ rfl (by decide)).trans h3, ?_, (hM _ _ rfl (by decide)).trans h5, fun g hg => ?_, TxtM.keep (μ := μ) h7 (fun j _ => hM _ _ rfl (by decide)) (hM _ _ rfl (by decide))⟩
  · rw [hM 4 2 rfl (by decide)]
    exact h4
  · rw [hM 6 _ rfl (by decide), hM 6 _ rfl (by decide), hM 6 (3 * g + 2) rfl (by decide)]
    exact ⟨hT g hg, (h6 g hg).2⟩
theorem EnvM.wN {e : Evg} {N : Nat → Int32} {μ μ' : St} (h : EnvM e μ) (hM : ∀ a b, scM a b = false → ¬ (a = 6 ∧ b % 3 = 0) → μ'.1 a b = μ.1 a b) (hT : ∀ g, g < e.n → μ'.1 6 (3 * g) = N g) : EnvM (e.wN N) μ' := by
  obtain ⟨h1, h2, h3, h4, h5, h6, h7⟩ := h
  refine ⟨(hM _ _ rfl (by decide)).trans h1, (hM _ _ rfl (by decide)).trans h2, (hM _ _ rfl (by decide)).trans h3, ?_, (hM _ _ rfl (by decide)).trans h5, fun g hg => ?_, TxtM.keep (μ := μ) h7 (fun j _ => hM _ _ rfl (by omega)) (hM _ _ rfl (by omega))⟩
  · rw [hM 4 2 rfl (by decide)]
    exact h4
  · rw [hM 5 g rfl (by omega), hM 6 (3 * g + 1) rfl (by omega), hM 6 (3 * g + 2) rfl (by omega)]
    exact ⟨(h6 g hg).1, hT g hg, (h6 g hg).2.2⟩
theorem EnvM.wR {e : Evg} {r : Nat} {ev : Nat → Nm → Int32} {μ μ' : St} (h : EnvM e μ) (hM : ∀ a b, scM a b = false → ¬ (a = 0 ∧ b = 4) → μ'.1 a b = μ.1 a b) (h4' : μ'.1 0 4 = nI r) (ht : TxtM r ev μ) : EnvM (e.wR r ev) μ' := by
  obtain ⟨h1, h2, h3, h4, h5, h6, h7⟩ := h
  refine ⟨(hM _ _ rfl (by decide)).trans h1, (hM _ _ rfl (by decide)).trans h2, (hM _ _ rfl (by decide)).trans h3, ?_, h4', fun g hg => ?_, TxtM.keep (μ := μ) ht (fun j _ => hM _ _ rfl (by omega)) (hM _ _ rfl (by omega))⟩
  · rw [hM 4 2 rfl (by decide)]
    exact h4
  · rw [hM 5 g rfl (by omega), hM 6 _ rfl (by omega), hM 6 (3 * g + 1) rfl (by omega), hM 6 (3 * g + 2) rfl (by omega)]
    exact h6 g hg
