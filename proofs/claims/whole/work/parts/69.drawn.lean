/-- the numbers that a seed draws, the topics by them -/
def zs (seed : Int32) : Nat → Int32
  | 0 => seed
  | i + 1 => zs seed i * 1103515245 + 12345
def rnd (z : Int32) : Int32 := ((z.toUInt32 >>> (Int32.toUInt32 9 &&& Int32.toUInt32 31)).toInt32) - ((z.toUInt32 >>> (Int32.toUInt32 9 &&& Int32.toUInt32 31)).toInt32) / 8 * 8
def drT (seed : Int32) (g : Nat) : Int32 := rnd (zs seed (g + 1))
theorem zs_s (seed : Int32) (i : Nat) : zs seed i * 1103515245 + 12345 = zs seed (i + 1) := rfl
theorem rnd_d (z : Int32) : ((z.toUInt32 >>> (Int32.toUInt32 9 &&& Int32.toUInt32 31)).toInt32) - ((z.toUInt32 >>> (Int32.toUInt32 9 &&& Int32.toUInt32 31)).toInt32) / 8 * 8 = rnd z := rfl
theorem drT_d (seed : Int32) (i : Nat) : rnd (zs seed (i + 1)) = drT seed i := rfl
theorem rnd_rng (z : Int32) : rng 0 7 (rnd z) := by
  have h := pk_ushr z 9 9 (by decide)
  have hz : z.toBitVec.toNat < 2 ^ 32 := z.toBitVec.isLt
  unfold rnd
  generalize hy : (z.toUInt32 >>> (Int32.toUInt32 9 &&& Int32.toUInt32 31)).toInt32 = y at h ⊢
  have h1 : y.toBitVec.toInt = (y.toBitVec.toNat : Int) := BitVec.toInt_eq_toNat_of_lt (by omega)
  have h2 : 0 ≤ y.toInt := by
    show 0 ≤ y.toBitVec.toInt
    omega
  obtain ⟨q1, q2⟩ := nI_of_toInt h2
  rw [q1, show (8 : Int32) = nI 8 from rfl, pk_rem q2 (by decide) (by decide)]
  exact rngI (hi := 7) (by omega) (by decide)
theorem drawX79 {e : Evg} (hn : e.n ≤ 5) {σ0 : St} (hn0 : σ0.1 1 5 = nI e.n) : ∀ (c i F : Nat) (σ : St), i + c = e.n → c < F → (∀ a b, scX a b = false → ¬ (a = 4 ∧ i ≤ b ∧ b < e.n) → σ.1 a b = σ0.1 a b) → (∀ j, j < e.n → σ.1 37 j = σ0.1 4 j) → ∃ σ', X3_comeDrawn_b79 F (nI i) σ = some σ' ∧ EX σ0 σ' ∧ ∀ a b, a ≠ 4 → σ'.1 a b = σ.1 a b := by
  intro c
  induction c with
  | zero =>
    intro i F σ hi hF hX h37
    obtain ⟨F', rfl⟩ : ∃ F', F = F' + 1 := ⟨F - 1, by omega⟩
    rw [X3_comeDrawn_b79, hX 1 5 rfl (by omega), hn0, if_pos (show nI e.n ≤ nI i by rw [nI_leI (by omega) (by omega)]; omega)]
    exact ⟨σ, rfl, fun a b q => hX a b q (by omega), fun _ _ _ => rfl⟩
  | succ c ih =>
    intro i F σ hi hF hX h37
    obtain ⟨F', rfl⟩ : ∃ F', F = F' + 1 := ⟨F - 1, by omega⟩
    have ch : ∀ (v : Int32) (σ : St), X5_change 1 4 (nI i) v σ = some (up σ 4 i v) := fun v σ => change_eq (w := 4) v (Or.inr (Or.inl rfl)) (by omega)
    rw [X3_comeDrawn_b79, hX 1 5 rfl (by omega), hn0, if_neg (show ¬ nI e.n ≤ nI i by rw [nI_leI (by omega) (by omega)]; omega), if_neg (show ¬ 5 ≤ nI i by rw [show (5 : Int32) = nI 5 from rfl, nI_leI (by omega) (by omega)]; omega), if_neg (show ¬ ob (nI i) 5 by rw [ob_iff (by decide), tiI (by omega)]; omega), tnI (by omega), ch, Option.bind_some, nI_1, h37 i (by omega)]
    obtain ⟨σ', a1, a2, a3⟩ := ih (i + 1) F' (up σ 4 i (σ0.1 4 i)) (by omega) (by omega) (fun a b q z => by
      by_cases y : a = 4 ∧ b = i
      · obtain ⟨rfl, rfl⟩ := y
        rw [up_eq]
      · rw [up_get, if_neg y, hX a b q (by omega)]) (fun j hj => by rw [up_lo (by decide)]; exact h37 j hj)
    exact ⟨σ', a1, a2, fun a b q => by rw [a3 a b q, up_lo q]⟩
theorem wT_n (e : Evg) (T : Nat → Int32) : (e.wT T).n = e.n := rfl
theorem drT_rng (seed : Int32) (g : Nat) : rng 0 7 (drT seed g) := by
  rw [← drT_d]
  exact rnd_rng _
theorem drawX70 {e : Evg} (ho : EnvOk e) {T : Nat → Int32} (hT : ∀ g, g < e.n → rng 0 7 (T g)) {σ0 : St} (hE : EnvX e σ0) {σ : St} (hX : ∀ a b, scX a b = false → ¬ (a = 4 ∧ b < e.n) → σ.1 a b = σ0.1 a b) (h4 : ∀ j, j < e.n → σ.1 4 j = T j) (h37 : ∀ j, j < e.n → σ.1 37 j = σ0.1 4 j) : ∃ σ', X3_comeDrawn_b70 σ = some σ' ∧ EX σ0 σ' ∧ σ'.1 27 8 = nI e.n ∧ CellsX (e.wT T) σ' (dn e.n) := by
  have hn := ho.1
  have hn0 := hE.1
  have O1 : EnvOk (e.wT T) := ho.wT hT
  have E1 : EnvX (e.wT T) σ := hE.wT ho.2.1 (fun a b q z => hX a b q (fun y => z y.1)) (fun g hg => h4 g hg)
  obtain ⟨σ1, a1, a2, a3⟩ := byNum_eq O1 E1
  have k1 : ∀ a b, scX a b = false → ¬ (a = 4 ∧ 0 ≤ b ∧ b < e.n) → σ1.1 a b = σ0.1 a b := fun a b q z => by rw [a3.ex a b q, hX a b q (by omega)]
  obtain ⟨σ', b1', b2, b3⟩ := drawX79 hn hn0 e.n 0 FU σ1 (by omega) (by rw [FU_eq]; omega) k1 (fun j hj => by rw [a3 _ _ (by decide) (by decide)]; exact h37 j hj)
  have g8 := a2.2.2.1
  rw [dn_len] at g8
  refine ⟨σ', ?_, b2, (b3 _ _ (by decide)).trans g8, a2.2.2.2.2.keep (fun x y p q _ => b3 x y (by omega))⟩
  unfold X3_comeDrawn_b70
  rw [a1, Option.bind_some]
  exact b1'
theorem drawX4 {e : Evg} (ho : EnvOk e) {seed : Int32} {σ0 : St} (hE : EnvX e σ0) : ∀ (c i F : Nat) (σ : St), i + c = e.n → c < F → (∀ a b, scX a b = false → ¬ (a = 4 ∧ b < i) → σ.1 a b = σ0.1 a b) → (∀ j, j < i → σ.1 4 j = drT seed j) → (∀ j, j < i → σ.1 37 j = σ0.1 4 j) → ∃ σ', X3_comeDrawn_b4 F (zs seed i) (nI i) σ = some σ' ∧ EX σ0 σ' ∧ σ'.1 27 8 = nI e.n ∧ CellsX (e.wT (drT seed)) σ' (dn e.n) := by
  have hn := ho.1
  have hn0 := hE.1
  intro c
  induction c with
  | zero =>
    intro i F σ hi hF hX h4 h37
    obtain ⟨F', rfl⟩ : ∃ F', F = F' + 1 := ⟨F - 1, by omega⟩
    have hin : i = e.n := by omega
    subst hin
    rw [X3_comeDrawn_b4, hX 1 5 rfl (by omega), hn0, if_pos (show nI e.n ≤ nI e.n by rw [nI_leI (by omega) (by omega)]; omega)]
    exact drawX70 ho (fun g _ => drT_rng seed g) hE hX h4 h37
  | succ c ih =>
    intro i F σ hi hF hX h4 h37
    obtain ⟨F', rfl⟩ : ∃ F', F = F' + 1 := ⟨F - 1, by omega⟩
    have ch : ∀ (v : Int32) (σ : St), X5_change 1 4 (nI i) v σ = some (up σ 4 i v) := fun v σ => change_eq (w := 4) v (Or.inr (Or.inl rfl)) (by omega)
    have vl : X5_value 1 4 (nI i) σ = some (σ0.1 4 i) := by
      rw [show X5_value 1 4 (nI i) σ = some (σ.1 4 i) from value_eq (w := 4) (Or.inr (Or.inl rfl)) (by omega), hX 4 i rfl (by omega)]
    rw [X3_comeDrawn_b4, hX 1 5 rfl (by omega), hn0, if_neg (show ¬ nI e.n ≤ nI i by rw [nI_leI (by omega) (by omega)]; omega), if_neg (show ¬ 5 ≤ nI i by rw [show (5 : Int32) = nI 5 from rfl, nI_leI (by omega) (by omega)]; omega), vl, Option.bind_some, if_neg (show ¬ ob (nI i) 5 by rw [ob_iff (by decide), tiI (by omega)]; omega), tnI (by omega), zs_s, rnd_d, drT_d, ch, Option.bind_some, nI_1]
    refine ih (i + 1) F' (up (up σ 37 i (σ0.1 4 i)) 4 i (drT seed i)) (by omega) (by omega) (fun a b q z => ?_) (fun j hj => ?_) (fun j hj => ?_)
    · rw [up_get, if_neg (by omega), up_lo (fun y => by subst y; exact Bool.noConfusion (show true = false from q)), hX a b q (by omega)]
    · by_cases y : j = i
      · subst y
        rw [up_eq]
      · rw [up_pl y, up_lo (by decide)]
        exact h4 j (by omega)
    · by_cases y : j = i
      · subst y
        rw [up_lo (by decide), up_eq]
      · rw [up_lo (by decide), up_pl y]
        exact h37 j (by omega)
theorem comeDrawn_eq {e : Evg} (ho : EnvOk e) (seed : Int32) {σ : St} (hE : EnvX e σ) : ∃ σ', X3_comeDrawn seed σ = some σ' ∧ EX σ σ' ∧ σ'.1 27 8 = nI e.n ∧ CellsX (e.wT (drT seed)) σ' (dn e.n) :=
  drawX4 ho (seed := seed) hE e.n 0 FU σ (by omega) (by have := ho.1; rw [FU_eq]; omega) (fun _ _ _ _ => rfl) (fun j hj => by omega) (fun j hj => by omega)
theorem drawM84 {e : Evg} (hn : e.n ≤ 5) {μ0 : St} (hn0 : μ0.1 0 11 = nI e.n) : ∀ (c i F : Nat) (μ : St), i + c = e.n → c < F → (∀ a b, scM a b = false → ¬ (a = 6 ∧ b % 3 = 1 ∧ 3 * i ≤ b ∧ b < 3 * e.n) → μ.1 a b = μ0.1 a b) → (∀ j, j < e.n → μ.1 12 j = μ0.1 6 (3 * j + 1)) → ∃ μ', X10_draws_b84 F (nI i) μ = some μ' ∧ EM μ0 μ' ∧ ∀ a b, a ≠ 6 → μ'.1 a b = μ.1 a b := by
  intro c
  induction c with
  | zero =>
    intro i F μ hi hF hX h37
    obtain ⟨F', rfl⟩ : ∃ F', F = F' + 1 := ⟨F - 1, by omega⟩
    rw [X10_draws_b84, hX 0 11 rfl (by omega), hn0, if_pos (show nI e.n ≤ nI i by rw [nI_leI (by omega) (by omega)]; omega)]
    exact ⟨μ, rfl, fun a b q => hX a b q (by omega), fun _ _ _ => rfl⟩
  | succ c ih =>
    intro i F μ hi hF hX h37
    obtain ⟨F', rfl⟩ : ∃ F', F = F' + 1 := ⟨F - 1, by omega⟩
    have e3 : (3 : Int32) * nI i + 1 = nI (3 * i + 1) := by rw [show (3 : Int32) = nI 3 from rfl, pk_mul, nI_1]
    rw [X10_draws_b84, hX 0 11 rfl (by omega), hn0, if_neg (show ¬ nI e.n ≤ nI i by rw [nI_leI (by omega) (by omega)]; omega), if_neg (show ¬ ob (nI i) 5 by rw [ob_iff (by decide), tiI (by omega)]; omega), e3, if_neg (show ¬ ob (nI (3 * i + 1)) 15 by rw [ob_iff (by decide), tiI (by omega)]; omega), tnI (by omega), tnI (by omega), nI_1, h37 i (by omega)]
    obtain ⟨μ', a1, a2, a3⟩ := ih (i + 1) F' (up μ 6 (3 * i + 1) (μ0.1 6 (3 * i + 1))) (by omega) (by omega) (fun a b q z => by
      by_cases y : a = 6 ∧ b = 3 * i + 1
      · obtain ⟨rfl, rfl⟩ := y
        rw [up_eq]
      · rw [up_get, if_neg y, hX a b q (by omega)]) (fun j hj => by rw [up_lo (by decide)]; exact h37 j hj)
    exact ⟨μ', a1, a2, fun a b q => by rw [a3 a b q, up_lo q]⟩
theorem draws62 {e : Evg} (ho : EnvOk e) : ∀ (c i F : Nat) (μ : St), i + c = e.n → c < F → HoldM e (dn i) μ → ∃ μ', X10_draws_b62 F (nI i) μ = X10_draws_b84 FU 0 μ' ∧ HoldM e (dn e.n) μ' ∧ EMu μ μ' := by
  have hn := ho.1
  intro c
  induction c with
  | zero =>
    intro i F μ hi hF h
    obtain ⟨F', rfl⟩ : ∃ F', F = F' + 1 := ⟨F - 1, by omega⟩
    have : i = e.n := by omega
    refine ⟨μ, ?_, this ▸ h, EMu.refl μ⟩
    rw [X10_draws_b62, h.1.1, if_pos (show nI e.n ≤ nI i by rw [nI_leI (by omega) (by omega)]; omega)]
  | succ c ih =>
    intro i F μ hi hF h
    obtain ⟨F', rfl⟩ : ∃ F', F = F' + 1 := ⟨F - 1, by omega⟩
    obtain ⟨μ1, a1, a2, a3⟩ := comes_eq ho h (g := i) (by omega) (fun q => by have := (dn_mem i i).mp q; omega)
    obtain ⟨μ', b1', b2, b3⟩ := ih (i + 1) F' μ1 (by omega) (by omega) a2
    rw [dn_len] at a1
    refine ⟨μ', ?_, b2, a3.trans b3⟩
    rw [X10_draws_b62, h.1.1, if_neg (show ¬ nI e.n ≤ nI i by rw [nI_leI (by omega) (by omega)]; omega), a1, Option.bind_some, nI_1]
    exact b1'
theorem drawM57 {e : Evg} (ho : EnvOk e) {T : Nat → Int32} (hT : ∀ g, g < e.n → rng 0 7 (T g)) {μ0 : St} (hE : EnvM e μ0) {μ : St} (hX : ∀ a b, scM a b = false → ¬ (a = 6 ∧ b % 3 = 1 ∧ b < 3 * e.n) → μ.1 a b = μ0.1 a b) (h4 : ∀ j, j < e.n → μ.1 6 (3 * j + 1) = T j) (h37 : ∀ j, j < e.n → μ.1 12 j = μ0.1 6 (3 * j + 1)) : ∃ μ', (X10_begins μ).bind (fun x57 => X10_draws_b62 FU 0 x57) = some μ' ∧ EM μ0 μ' ∧ CellsM (e.wT T) μ' (dn e.n) := by
  have hn := ho.1
  have hn0 := hE.1
  have O1 : EnvOk (e.wT T) := ho.wT hT
  have E1 : EnvM (e.wT T) μ := hE.wT (fun a b q z => hX a b q (fun y => z ⟨y.1, y.2.1⟩)) (fun g hg => h4 g hg)
  obtain ⟨μ1, a1, a2, a3⟩ := begins_eq E1
  obtain ⟨μ2, d1, d2, d3⟩ := draws62 O1 e.n 0 FU μ1 (show 0 + e.n = e.n by omega) (by rw [FU_eq]; omega) a2
  have k1 : ∀ a b, scM a b = false → ¬ (a = 6 ∧ b % 3 = 1 ∧ 3 * 0 ≤ b ∧ b < 3 * e.n) → μ2.1 a b = μ0.1 a b := fun a b q z => by rw [d3.em a b q, a3.em a b q, hX a b q (by omega)]
  obtain ⟨μ', b1', b2, b3⟩ := drawM84 hn hn0 e.n 0 FU μ2 (by omega) (by rw [FU_eq]; omega) k1 (fun j hj => by rw [d3 _ _ (by decide) (by omega), a3 _ _ (by decide) (by omega)]; exact h37 j hj)
  refine ⟨μ', ?_, b2, d2.2.2.keep (fun x y p _ => b3 x y (by omega)) (fun y _ => b3 8 y (by decide))⟩
  rw [a1, Option.bind_some, show X10_draws_b62 FU 0 μ1 = _ from d1]
  exact b1'
theorem drawM4 {e : Evg} (ho : EnvOk e) {seed : Int32} {μ0 : St} (hE : EnvM e μ0) : ∀ (c i F : Nat) (μ : St), i + c = e.n → c < F → (∀ a b, scM a b = false → ¬ (a = 6 ∧ b % 3 = 1 ∧ b < 3 * i) → μ.1 a b = μ0.1 a b) → (∀ j, j < i → μ.1 6 (3 * j + 1) = drT seed j) → (∀ j, j < i → μ.1 12 j = μ0.1 6 (3 * j + 1)) → ∃ μ', X10_draws_b4 F (zs seed i) (nI i) μ = some μ' ∧ EM μ0 μ' ∧ CellsM (e.wT (drT seed)) μ' (dn e.n) := by
  have hn := ho.1
  have hn0 := hE.1
  intro c
  induction c with
  | zero =>
    intro i F μ hi hF hX h4 h37
    obtain ⟨F', rfl⟩ : ∃ F', F = F' + 1 := ⟨F - 1, by omega⟩
    have hin : i = e.n := by omega
    subst hin
    rw [X10_draws_b4, hX 0 11 rfl (by omega), hn0, if_pos (show nI e.n ≤ nI e.n by rw [nI_leI (by omega) (by omega)]; omega)]
    exact drawM57 ho (fun g _ => drT_rng seed g) hE hX h4 h37
  | succ c ih =>
    intro i F μ hi hF hX h4 h37
    obtain ⟨F', rfl⟩ : ∃ F', F = F' + 1 := ⟨F - 1, by omega⟩
    have e3 : (3 : Int32) * nI i + 1 = nI (3 * i + 1) := by rw [show (3 : Int32) = nI 3 from rfl, pk_mul, nI_1]
    have hob : ¬ ob (nI (3 * i + 1)) 15 := by rw [ob_iff (by decide), tiI (by omega)]; omega
    have vl : X10_topicOf (nI i) μ = some (μ0.1 6 (3 * i + 1)) := by
      unfold X10_topicOf
      rw [e3, if_neg hob, tnI (by omega), hX 6 _ rfl (by omega)]
    rw [X10_draws_b4, hX 0 11 rfl (by omega), hn0, if_neg (show ¬ nI e.n ≤ nI i by rw [nI_leI (by omega) (by omega)]; omega), vl, Option.bind_some, if_neg (show ¬ ob (nI i) 5 by rw [ob_iff (by decide), tiI (by omega)]; omega), e3, if_neg hob, tnI (by omega), tnI (by omega), zs_s, rnd_d, drT_d, nI_1]
    refine ih (i + 1) F' (up (up μ 12 i (μ0.1 6 (3 * i + 1))) 6 (3 * i + 1) (drT seed i)) (by omega) (by omega) (fun a b q z => ?_) (fun j hj => ?_) (fun j hj => ?_)
    · rw [up_get, if_neg (by omega), up_lo (fun y => by subst y; exact Bool.noConfusion (show true = false from q)), hX a b q (by omega)]
    · by_cases y : j = i
      · subst y
        rw [up_eq]
      · rw [up_pl (by omega), up_lo (by decide)]
        exact h4 j (by omega)
    · by_cases y : j = i
      · subst y
        rw [up_lo (by decide), up_eq]
      · rw [up_lo (by decide), up_pl y]
        exact h37 j (by omega)
theorem draws_eq {e : Evg} (ho : EnvOk e) (seed : Int32) {μ : St} (hE : EnvM e μ) : ∃ μ', X10_draws seed μ = some μ' ∧ EM μ μ' ∧ CellsM (e.wT (drT seed)) μ' (dn e.n) :=
  drawM4 ho (seed := seed) hE e.n 0 FU μ (by omega) (by have := ho.1; rw [FU_eq]; omega) (fun _ _ _ _ => rfl) (fun j hj => by omega) (fun j hj => by omega)
theorem sim_drawn : Sim_drawn Rel := by
  intro a σ μ ⟨n, t, k, ev, hR⟩
  obtain ⟨r, -, -, ho, hEX, hEM⟩ := env_of hR
  have hn : n ≤ 5 := ho.1
  obtain ⟨σ1, a1, a2, a3, a4⟩ := comeDrawn_eq ho a hEX
  obtain ⟨μ1, b1', b2, b3⟩ := draws_eq ho a hEM
  have hl : (dn (envOf n r ev σ).n).length = n := dn_len n
  unfold X9_drawn X10_drawn
  have hb := b3.w
  rw [hl] at hb
  rw [a1, Option.bind_some, now_eq (e := (envOf n r ev σ).wT (drT a)) (pre := dn (envOf n r ev σ).n) (by omega) (a2 1 0 rfl) (by rw [hl]; exact a3) a4, Option.bind_some, b1', Option.bind_some, b2 0 11 rfl, hEM.1, show (envOf n r ev σ).n = n from rfl, if_neg (show ¬ ob (nI n) 6 by rw [ob_iff (by decide), tiI (by omega)]; omega), tnI (by omega), hb]
  exact ⟨_, σ1, μ1, rfl, rfl, n, t, k, ev, hR.frame a2 b2⟩
/-- the long division of the reference, alone -/
def euM : Nat → Int64 → Int64 → Option Int64
  | 0, _, _ => none
  | F + 1, p, q => if lg_cmp q 0 = 0 then some p else if q = 0 then none else euM F q (p - p / q * q)
theorem chance81 (l2 l3 : Int32) (a : Int64) (μ : St) : ∀ (F : Nat) (p q g : Int64), euM F p q = some g → X10_chance_b81 F l2 l3 a p q μ = if l3 = 0 then (if g = 0 then none else some (a / g, μ)) else (if g = 0 then none else some (Int32.toInt64 l2 / g, μ)) := by
  intro F
  induction F with
  | zero => intro p q g h; cases h
  | succ F ih =>
    intro p q g h
    rw [euM] at h
    rw [X10_chance_b81]
    by_cases c : lg_cmp q 0 = 0
    · rw [if_pos c] at h ⊢
      rw [Option.some.inj h]
    · rw [if_neg c] at h ⊢
      by_cases c2 : q = 0
      · rw [if_pos c2] at h
        cases h
      · rw [if_neg c2] at h ⊢
        exact ih _ _ _ h
def chk (m l : Nat) : Bool := decide (Nat.gcd m l < 21) && (decide (1 ≤ Nat.gcd m l) && (decide (X9_commonDivisor_b7 40 (nI m) (nI l) 0 = some (nI (Nat.gcd m l))) && (decide (euM 40 (lN l) (lN m) = some (lN (Nat.gcd m l))) && (decide ((nI l / nI (Nat.gcd m l)).toInt64 = lN l / lN (Nat.gcd m l)) && decide ((nI m / nI (Nat.gcd m l)).toInt64 = (nI m).toInt64 / lN (Nat.gcd m l))))))
theorem eu_all : ∀ m, m < 21 → 1 ≤ m → ∀ l, l ≤ m → ∃ g, g < 21 ∧ 1 ≤ g ∧ X9_commonDivisor_b7 40 (nI m) (nI l) 0 = some (nI g) ∧ euM 40 (lN l) (lN m) = some (lN g) ∧ (nI l / nI g).toInt64 = lN l / lN g ∧ (nI m / nI g).toInt64 = (nI m).toInt64 / lN g := by
  have key : ∀ m, m < 21 → ∀ l, l < 21 → (decide (m = 0) || (decide (m < l) || chk m l)) = true := by
    decide +kernel
  intro m hm h1 l hl
  have h := key m hm l (by omega)
  rw [decide_eq_false (show ¬ m = 0 by omega), decide_eq_false (show ¬ m < l by omega), Bool.false_or, Bool.false_or] at h
  unfold chk at h
  simp only [Bool.and_eq_true, decide_eq_true_eq] at h
  exact ⟨_, h⟩
theorem div7_mono : ∀ (F k : Nat) (a b c g : Int32), X9_commonDivisor_b7 F a b c = some g → X9_commonDivisor_b7 (F + k) a b c = some g := by
  intro F
  induction F with
  | zero => intro k a b c g h; cases h
  | succ F ih =>
    intro k a b c g h
    rw [show F + 1 + k = (F + k) + 1 by omega]
    rw [X9_commonDivisor_b7] at h ⊢
    by_cases c1 : 100 ≤ c
    · rw [if_pos c1] at h ⊢; exact h
    · rw [if_neg c1] at h ⊢
      by_cases c2 : b = 0
      · rw [if_pos c2] at h ⊢; exact h
      · rw [if_neg c2, if_neg c2] at h ⊢
        exact ih k _ _ _ _ h
theorem euM_mono : ∀ (F k : Nat) (p q g : Int64), euM F p q = some g → euM (F + k) p q = some g := by
  intro F
  induction F with
  | zero => intro k p q g h; cases h
  | succ F ih =>
    intro k p q g h
    rw [show F + 1 + k = (F + k) + 1 by omega]
    rw [euM] at h ⊢
    by_cases c1 : lg_cmp q 0 = 0
    · rw [if_pos c1] at h ⊢; exact h
    · rw [if_neg c1] at h ⊢
      by_cases c2 : q = 0
      · rw [if_pos c2] at h; cases h
      · rw [if_neg c2] at h ⊢
        exact ih k _ _ _ h
theorem chanceL {e : Evg} (ho : EnvOk e) (l1 l3 : Int32) {m : Nat} (hm : m < 21) (hm1 : 1 ≤ m) : ∀ (c i F F2 l : Nat) (σ μ : St), i + c = m → c < F → c < F2 → l ≤ i → EnvX e σ → EnvM e μ → ∃ r σ' μ', X9_chance_b30 F l1 (nI m) l3 (nI l) (nI i) σ = some (r, σ') ∧ X10_chance_b32 F2 l1 (nI m) l3 (lN l) (nI i) μ = some (r, μ') ∧ EX σ σ' ∧ EM μ μ' := by
  have hn := ho.1
  intro c
  induction c with
  | zero =>
    intro i F F2 l σ μ hi hF hF2 hl hX hM
    obtain ⟨F', rfl⟩ : ∃ F', F = F' + 1 := ⟨F - 1, by omega⟩
    obtain ⟨F2', rfl⟩ : ∃ F', F2 = F' + 1 := ⟨F2 - 1, by omega⟩
    have him : i = m := by omega
    subst him
    obtain ⟨g, g1, g2, g3, g4, g5, g6⟩ := eu_all i hm hm1 l hl
    have k3 : X9_commonDivisor (nI l) (nI i) = some (nI g) := div7_mono 40 4056 _ _ _ _ g3
    have k4 : euM FU (lN l) (nI i).toInt64 = some (lN g) := by
      rw [nI_l (by omega)]
      exact euM_mono 40 4056 _ _ _ g4
    have gI : ¬ nI g = 0 := nI_ne0 (by omega) (by omega)
    have gL : ¬ lN g = 0 := fun q => by
      have := (lN_eq (a := g) (b := 0) (by omega) (by decide)).mp q
      omega
    rw [X9_chance_b30, X10_chance_b32, if_pos (show nI i ≤ nI i by rw [nI_leI (by omega) (by omega)]; omega), if_pos (show nI i ≤ nI i by rw [nI_leI (by omega) (by omega)]; omega), k3, Option.bind_some, if_pos (show (1 : Int32) ≤ nI g by rw [show (1 : Int32) = nI 1 from rfl, nI_leI (by decide) (by omega)]; omega), chance81 _ _ _ _ _ _ _ _ k4, if_neg gI, if_neg gI, if_neg gL, if_neg gL, g5, g6]
    by_cases c0 : l3 = 0
    · rw [if_pos c0, if_pos c0]
      exact ⟨_, σ, μ, rfl, rfl, EX.refl σ, EM.refl μ⟩
    · rw [if_neg c0, if_neg c0]
      exact ⟨_, σ, μ, rfl, rfl, EX.refl σ, EM.refl μ⟩
  | succ c ih =>
    intro i F F2 l σ μ hi hF hF2 hl hX hM
    obtain ⟨F', rfl⟩ : ∃ F', F = F' + 1 := ⟨F - 1, by omega⟩
    obtain ⟨F2', rfl⟩ : ∃ F', F2 = F' + 1 := ⟨F2 - 1, by omega⟩
    obtain ⟨σ1, a1, a2, a3, a4⟩ := comeDrawn_eq ho (l1 + nI i) hX
    obtain ⟨μ1, b1', b2, b3⟩ := draws_eq ho (l1 + nI i) hM
    have hd := dn_len e.n
    have sX := screamsX (e := e.wT (drT (l1 + nI i))) (pre := dn e.n) (by omega) (by rw [hd]; exact a3) a4
    have sM := screamsM (e := e.wT (drT (l1 + nI i))) (pre := dn e.n) (by omega) b3
    rw [hd] at sM
    have X1 := hX.keep ho.2.1 a2
    have M1 := hM.keep b2
    rw [X9_chance_b30, X10_chance_b32, if_neg (show ¬ nI m ≤ nI i by rw [nI_leI (by omega) (by omega)]; omega), if_neg (show ¬ nI m ≤ nI i by rw [nI_leI (by omega) (by omega)]; omega), a1, Option.bind_some, b1', Option.bind_some, M1.1, sX, Option.bind_some, sM, Option.bind_some, nI_1, nI_1]
    unfold X10_chance_b64
    rw [nI_1, lN_1, show lN l + 0 = lN l from lN_add l 0]
    by_cases c0 : nI (nsc (e.wT (drT (l1 + nI i))) (dn e.n)) ≤ 0
    · rw [if_pos c0, if_pos c0]
      obtain ⟨r, σ', μ', d1, d2, d3, d4⟩ := ih (i + 1) F' F2' l σ1 μ1 (by omega) (by omega) (by omega) (by omega) X1 M1
      exact ⟨r, σ', μ', d1, d2, a2.trans d3, b2.trans d4⟩
    · rw [if_neg c0, if_neg c0]
      obtain ⟨r, σ', μ', d1, d2, d3, d4⟩ := ih (i + 1) F' F2' (l + 1) σ1 μ1 (by omega) (by omega) (by omega) (by omega) X1 M1
      exact ⟨r, σ', μ', d1, d2, a2.trans d3, b2.trans d4⟩
theorem sim_chance : Sim_chance Rel := by
  intro a m p σ μ ⟨n, t, k, ev, hR⟩
  have hRel : Rel σ μ := ⟨n, t, k, ev, hR⟩
  obtain ⟨r, -, -, ho, hEX, hEM⟩ := env_of hR
  unfold X9_chance X10_chance
  rw [in_i, Option.bind_some, show (1 : Int64).toInt = 1 by decide, show (20 : Int64).toInt = 20 by decide, in01, Option.bind_some]
  simp only [Int32.lt_iff_toInt_lt, Int32.le_iff_toInt_le, t0, show (1 : Int32).toInt = 1 by decide, show (20 : Int32).toInt = 20 by decide]
  by_cases c : 1 ≤ m.toInt ∧ m.toInt ≤ 20
  · rw [if_pos c, if_neg ne10, if_neg (show ¬ m.toInt < 1 by omega), if_neg (show ¬ (20 : Int) < m.toInt by omega)]
    by_cases c2 : 0 ≤ p.toInt ∧ p.toInt ≤ 1
    · rw [if_pos c2, if_neg ne10, if_neg (show ¬ p.toInt < 0 by omega), if_pos c2.2]
      obtain ⟨q1, q2⟩ := nI_of_toInt (show 0 ≤ m.toInt by omega)
      rw [q1]
      obtain ⟨r', σ', μ', d1, d2, d3, d4⟩ := chanceL ho a p (m := m.toInt.toNat) (by omega) (by omega) m.toInt.toNat 0 FU FU 0 σ μ (by omega) (by rw [FU_eq]; omega) (by rw [FU_eq]; omega) (by omega) hEX hEM
      exact ⟨r', σ', μ', d1, d2, n, t, k, ev, hR.frame d3 d4⟩
    · rw [if_neg c2, if_pos rfl]
      refine ⟨_, σ, μ, ?_, rfl, hRel⟩
      by_cases c3 : p.toInt < 0
      · rw [if_pos c3]
      · rw [if_neg c3, if_neg (by omega)]
  · rw [if_neg c, if_pos rfl]
    refine ⟨_, σ, μ, ?_, rfl, hRel⟩
    by_cases c3 : m.toInt < 1
    · rw [if_pos c3]
    · rw [if_neg c3, if_pos (by omega)]
