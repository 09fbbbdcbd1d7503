theorem w0_rng {n t k r : Nat} {ev : Nat → Nat → Nm → Int32} {σ μ : St} (hR : RelN n t k ev σ μ) : rng 0 99 (envOf n r ev σ).w0 := by
  have := hR.2.1.2.1
  rw [← hR.2.1.1] at this
  exact this
theorem lt0I (x : Int32) : x < 0 ↔ x.toInt < 0 := by rw [Int32.lt_iff_toInt_lt, t0]
theorem le1I (x : Int32) : x ≤ 1 ↔ x.toInt ≤ 1 := by rw [Int32.le_iff_toInt_le, show (1 : Int32).toInt = 1 by decide]
theorem in01 (a : Int32) : X10_in a.toInt64 0 1 = some (if 0 ≤ a.toInt ∧ a.toInt ≤ 1 then 1 else 0) := by
  rw [in_i, show (0 : Int64).toInt = 0 by decide, show (1 : Int64).toInt = 1 by decide]
theorem ne10 : ¬ (1 : Int32) = 0 := by decide
theorem sim_warmest : Sim_warmest Rel := by
  intro a σ μ ⟨n, t, k, ev, hR⟩
  have hRel : Rel σ μ := ⟨n, t, k, ev, hR⟩
  obtain ⟨r, -, -, ho, hEX, hEM⟩ := env_of hR
  have hw := w0_rng (r := r) hR
  have hn : n ≤ 5 := ho.1
  unfold X9_warmest X10_warmest
  rw [in01, Option.bind_some]
  by_cases c : 0 ≤ a.toInt ∧ a.toInt ≤ 1
  · obtain ⟨σ', a1, a2, a3, a4⟩ := seekWarmest_eq ho (ab := 9) (Or.inl ⟨rfl, rfl⟩) hEX
    obtain ⟨μ', b1', b2, b3⟩ := warmestOf_eq ho hw (SetM.all (ab := 9) hn (by decide)) hEM
    rw [if_neg (show ¬ a < 0 by rw [lt0I]; omega), if_pos (show a ≤ 1 by rw [le1I]; omega), if_pos c, if_neg ne10, everybody_eq hn hEM.1, Option.bind_some, a1, Option.bind_some, show X10_warmestOf (nI (2 ^ n - 1)) μ = _ from b1', Option.bind_some, a2, a3, b2]
    have R' : Rel σ' μ' := ⟨n, t, k, ev, hR.frame a4 b3⟩
    by_cases c0 : a = 0
    · rw [if_pos c0, if_pos c0]
      exact ⟨_, σ', μ', rfl, rfl, R'⟩
    · rw [if_neg c0, if_neg c0]
      exact ⟨_, σ', μ', rfl, rfl, R'⟩
  · rw [if_neg c, if_pos rfl]
    refine ⟨-2, σ, μ, ?_, rfl, hRel⟩
    by_cases c1 : a < 0
    · rw [if_pos c1]
    · rw [if_neg c1, if_neg (fun q => c ⟨by rw [lt0I] at c1; omega, (le1I a).mp q⟩)]
theorem ratherL {e : Evg} (ho : EnvOk e) (hw : rng 0 99 e.w0) (l1 : Int32) : ∀ (c i F F2 : Nat) (w f : Int32) (σ μ : St), i + c = e.n → c < F → c < F2 → EnvX e σ → EnvM e μ → ∃ r σ' μ', X9_ratherNot_b33 F l1 w f (nI i) σ = some (r, σ') ∧ X10_ratherNot_b27 F2 l1 f w (nI i) μ = some (r, μ') ∧ EX σ σ' ∧ EM μ μ' := by
  have hn := ho.1
  intro c
  induction c with
  | zero =>
    intro i F F2 w f σ μ hi hF hF2 hX hM
    obtain ⟨F', rfl⟩ : ∃ F', F = F' + 1 := ⟨F - 1, by omega⟩
    obtain ⟨F2', rfl⟩ : ∃ F', F2 = F' + 1 := ⟨F2 - 1, by omega⟩
    rw [X9_ratherNot_b33, X10_ratherNot_b27, hX.1, hM.1, if_pos (show nI e.n ≤ nI i by rw [nI_leI (by omega) (by omega)]; omega), if_pos (show nI e.n ≤ nI i by rw [nI_leI (by omega) (by omega)]; omega)]
    by_cases c0 : l1 = 0
    · rw [if_pos c0, if_pos c0]
      exact ⟨_, σ, μ, rfl, rfl, EX.refl σ, EM.refl μ⟩
    · rw [if_neg c0, if_neg c0]
      exact ⟨_, σ, μ, rfl, rfl, EX.refl σ, EM.refl μ⟩
  | succ c ih =>
    intro i F F2 w f σ μ hi hF hF2 hX hM
    obtain ⟨F', rfl⟩ : ∃ F', F = F' + 1 := ⟨F - 1, by omega⟩
    obtain ⟨F2', rfl⟩ : ∃ F', F2 = F' + 1 := ⟨F2 - 1, by omega⟩
    obtain ⟨σ1, a1, a2, a3, a4⟩ := seekWarmest_eq ho (ab := i) (Or.inr ⟨rfl, by omega⟩) hX
    obtain ⟨M, m1, m2⟩ := SetM.but (n := e.n) (ab := i) hn (by omega)
    obtain ⟨μ1, b1', b2, b3⟩ := warmestOf_eq ho hw m2 hM
    rw [X9_ratherNot_b33, X10_ratherNot_b27, hX.1, hM.1, if_neg (show ¬ nI e.n ≤ nI i by rw [nI_leI (by omega) (by omega)]; omega), if_neg (show ¬ nI e.n ≤ nI i by rw [nI_leI (by omega) (by omega)]; omega), everybody_eq hn hM.1, Option.bind_some, m1, a1, Option.bind_some, b1', Option.bind_some, a2, nI_1]
    have X1 := hX.keep ho.2.1 a4
    have M1 := hM.keep b3
    by_cases c1 : (wB e i).1 ≤ w
    · rw [if_pos c1, if_pos c1]
      obtain ⟨r, σ', μ', d1, d2, d3, d4⟩ := ih (i + 1) F' F2' w f σ1 μ1 (by omega) (by omega) (by omega) X1 M1
      exact ⟨r, σ', μ', d1, d2, a4.trans d3, b3.trans d4⟩
    · rw [if_neg c1, if_neg c1]
      obtain ⟨r, σ', μ', d1, d2, d3, d4⟩ := ih (i + 1) F' F2' (wB e i).1 (nI i) σ1 μ1 (by omega) (by omega) (by omega) X1 M1
      exact ⟨r, σ', μ', d1, d2, a4.trans d3, b3.trans d4⟩
theorem sim_ratherNot : Sim_ratherNot Rel := by
  intro a σ μ ⟨n, t, k, ev, hR⟩
  have hRel : Rel σ μ := ⟨n, t, k, ev, hR⟩
  obtain ⟨r, -, -, ho, hEX, hEM⟩ := env_of hR
  have hw := w0_rng (r := r) hR
  have hn : n ≤ 5 := ho.1
  unfold X9_ratherNot X10_ratherNot
  rw [in01, Option.bind_some]
  by_cases c : 0 ≤ a.toInt ∧ a.toInt ≤ 1
  · obtain ⟨σ1, a1, a2, a3, a4⟩ := seekWarmest_eq ho (ab := 9) (Or.inl ⟨rfl, rfl⟩) hEX
    obtain ⟨μ1, b1', b2, b3⟩ := warmestOf_eq ho hw (SetM.all (ab := 9) hn (by decide)) hEM
    rw [if_neg (show ¬ a < 0 by rw [lt0I]; omega), if_pos (show a ≤ 1 by rw [le1I]; omega), if_pos c, if_neg ne10, everybody_eq hn hEM.1, Option.bind_some, a1, Option.bind_some, show X10_warmestOf (nI (2 ^ n - 1)) μ = _ from b1', Option.bind_some, a2]
    obtain ⟨r', σ', μ', d1, d2, d3, d4⟩ := ratherL ho hw a n 0 FU FU (wB (envOf n r ev σ) 9).1 (-1) σ1 μ1 (show 0 + n = n by omega) (by rw [FU_eq]; omega) (by rw [FU_eq]; omega) (hEX.keep ho.2.1 a4) (hEM.keep b3)
    exact ⟨r', σ', μ', d1, d2, n, t, k, ev, hR.frame (a4.trans d3) (b3.trans d4)⟩
  · rw [if_neg c, if_pos rfl]
    refine ⟨-2, σ, μ, ?_, rfl, hRel⟩
    by_cases c1 : a < 0
    · rw [if_pos c1]
    · rw [if_neg c1, if_neg (fun q => c ⟨by rw [lt0I] at c1; omega, (le1I a).mp q⟩)]
/-- an evening on other topics -/
def Evg.wT (e : Evg) (T : Nat → Int32) : Evg := (e.n, e.r, e.w0, e.lim, e.odd, e.K, e.N, T, e.L, e.ev)
theorem EnvX.wT {e : Evg} {T : Nat → Int32} {σ σ' : St} (h : EnvX e σ) (hr : e.r < 6) (hX : ∀ a b, scX a b = false → a ≠ 4 → σ'.1 a b = σ.1 a b) (hT : ∀ g, g < e.n → σ'.1 4 g = T g) : EnvX (e.wT T) σ' := by
  obtain ⟨h1, h2, h3, h4, h5, h6, h7⟩ := h
  refine ⟨(hX _ _ rfl (by decide)).trans h1, (hX _ _ rfl (by decide)).trans h2, (hX _ _ rfl (by decide)).trans h3, ?_, (hX _ _ rfl (by decide)).trans h5, fun g hg => ?_, TxtX.keep (σ := σ) h7 (fun j => hX _ _ (sc_row hr j) (show 15 + e.r ≠ 4 by omega)) (hX _ _ rfl (by decide)) (hX _ _ rfl (by decide)) (hX _ _ rfl (by decide))⟩
  · rw [hX 1 2 rfl (by decide)]
    exact h4
  · rw [hX 2 g rfl (by decide), hX 3 g rfl (by decide), hX 5 g rfl (by decide)]
    exact ⟨(h6 g hg).1, (h6 g hg).2.1, hT g hg, (h6 g hg).2.2.2⟩
theorem EnvM.wT {e : Evg} {T : Nat → Int32} {μ μ' : St} (h : EnvM e μ) (hM : ∀ a b, scM a b = false → ¬ (a = 6 ∧ b % 3 = 1) → μ'.1 a b = μ.1 a b) (hT : ∀ g, g < e.n → μ'.1 6 (3 * g + 1) = T g) : EnvM (e.wT T) μ' := by
  obtain ⟨h1, h2, h3, h4, h5, h6, h7⟩ := h
  refine ⟨(hM _ _ rfl (by decide)).trans h1, (hM _ _ rfl (by decide)).trans h2, (hM _ _ rfl (by decide)).trans h3, ?_, (hM _ _ rfl (by decide)).trans h5, fun g hg => ?_, TxtM.keep (μ := μ) h7 (fun j _ => hM _ _ rfl (by omega)) (hM _ _ rfl (by omega))⟩
  · rw [hM 4 2 rfl (by decide)]
    exact h4
  · rw [hM 5 g rfl (by omega), hM 6 _ rfl (by omega), hM 6 (3 * g + 2) rfl (by omega)]
    exact ⟨(h6 g hg).1, (h6 g hg).2.1, hT g hg, (h6 g hg).2.2.2⟩
theorem EnvOk.wT {e : Evg} {T : Nat → Int32} (h : EnvOk e) (hT : ∀ g, g < e.n → rng 0 7 (T g)) : EnvOk (e.wT T) := ⟨h.1, h.2.1, fun g hg => ⟨hT g hg, (h.2.2 g hg).2⟩⟩
theorem rngI {i hi : Nat} (h : i ≤ hi) (h2 : hi < 2 ^ 31) : rng 0 hi (nI i) := by
  unfold rng
  rw [tiI (by omega)]
  omega
theorem topicL {e : Evg} (ho : EnvOk e) (hw : rng 0 99 e.w0) {g : Nat} (hg : g < e.n) (l2 own : Int32) {σ0 μ0 : St} (hX0 : EnvX e σ0) (hM0 : EnvM e μ0) (ho1 : σ0.1 4 g = own) (ho2 : μ0.1 6 (3 * g + 1) = own) : ∀ (c i F F2 : Nat) (w f : Int32) (σ μ : St), i + c = 8 → c < F → c < F2 → (∀ a b, scX a b = false → ¬ (a = 4 ∧ b = g) → σ.1 a b = σ0.1 a b) → (∀ a b, scM a b = false → ¬ (a = 6 ∧ b = 3 * g + 1) → μ.1 a b = μ0.1 a b) → ∃ r σ' μ', X9_topic_b42 F (nI g) l2 own w f (nI i) σ = some (r, σ') ∧ X10_topic_b36 F2 (nI g) l2 own f w (nI i) μ = some (r, μ') ∧ EX σ0 σ' ∧ EM μ0 μ' := by
  have hn := ho.1
  have g5 : g < 5 := by omega
  have e3 : (3 : Int32) * nI g + 1 = nI (3 * g + 1) := by rw [show (3 : Int32) = nI 3 from rfl, pk_mul, nI_1]
  have hob : ¬ ob (nI (3 * g + 1)) 15 := by rw [ob_iff (by decide), tiI (by omega)]; omega
  have ch : ∀ (v : Int32) (σ : St), X5_change 1 4 (nI g) v σ = some (up σ 4 g v) := fun v σ => change_eq (w := 4) v (Or.inr (Or.inl rfl)) g5
  intro c
  induction c with
  | zero =>
    intro i F F2 w f σ μ hi hF hF2 hX hM
    obtain ⟨F', rfl⟩ : ∃ F', F = F' + 1 := ⟨F - 1, by omega⟩
    obtain ⟨F2', rfl⟩ : ∃ F', F2 = F' + 1 := ⟨F2 - 1, by omega⟩
    have i8 : i = 8 := by omega
    subst i8
    rw [X9_topic_b42, X10_topic_b36, if_pos (show stv 1 4 < nI 8 by decide), if_pos (show (8 : Int32) ≤ nI 8 by decide), ch, Option.bind_some, e3, if_neg hob, tnI (by omega)]
    have x1 : EX σ0 (up σ 4 g own) := fun a b q => by
      by_cases z : a = 4 ∧ b = g
      · obtain ⟨rfl, rfl⟩ := z
        rw [up_eq, ho1]
      · rw [up_get, if_neg z, hX a b q z]
    have x2 : EM μ0 (up μ 6 (3 * g + 1) own) := fun a b q => by
      by_cases z : a = 6 ∧ b = 3 * g + 1
      · obtain ⟨rfl, rfl⟩ := z
        rw [up_eq, ho2]
      · rw [up_get, if_neg z, hM a b q z]
    by_cases c0 : l2 = 0
    · rw [if_pos c0, if_pos c0]
      exact ⟨_, _, _, rfl, rfl, x1, x2⟩
    · rw [if_neg c0, if_neg c0]
      exact ⟨_, _, _, rfl, rfl, x1, x2⟩
  | succ c ih =>
    intro i F F2 w f σ μ hi hF hF2 hX hM
    obtain ⟨F', rfl⟩ : ∃ F', F = F' + 1 := ⟨F - 1, by omega⟩
    obtain ⟨F2', rfl⟩ : ∃ F', F2 = F' + 1 := ⟨F2 - 1, by omega⟩
    have hT : ∀ x, x < e.n → (fun x => if x = g then nI i else e.T x : Nat → Int32) x = if x = g then nI i else e.T x := fun x _ => rfl
    have X1 : EnvX (e.wT (fun x => if x = g then nI i else e.T x)) (up σ 4 g (nI i)) := hX0.wT ho.2.1 (fun a b q z => by rw [up_lo z]; exact hX a b q (fun y => z y.1)) (fun x hx => by
      by_cases z : x = g
      · subst z
        rw [up_eq, if_pos rfl]
      · rw [up_pl z, if_neg z, hX 4 x rfl (fun y => z y.2), (hX0.2.2.2.2.2.1 x hx).2.2.1])
    have M1 : EnvM (e.wT (fun x => if x = g then nI i else e.T x)) (up μ 6 (3 * g + 1) (nI i)) := hM0.wT (fun a b q z => by rw [up_get, if_neg (by omega)]; exact hM a b q (by omega)) (fun x hx => by
      by_cases z : x = g
      · subst z
        rw [up_eq, if_pos rfl]
      · rw [up_pl (by omega), if_neg z, hM 6 _ rfl (by omega), (hM0.2.2.2.2.2.1 x hx).2.2.1])
    have O1 : EnvOk (e.wT (fun x => if x = g then nI i else e.T x)) := ho.wT (fun x hx => by
      by_cases z : x = g
      · simp only [if_pos z]
        exact rngI (hi := 7) (by omega) (by decide)
      · simp only [if_neg z]
        exact (ho.2.2 x hx).1)
    obtain ⟨σ1, a1, a2, a3, a4⟩ := seekWarmest_eq O1 (ab := 9) (Or.inl ⟨rfl, rfl⟩) X1
    obtain ⟨μ1, b1', b2, b3⟩ := warmestOf_eq O1 hw (SetM.all (ab := 9) hn (by decide)) M1
    rw [X9_topic_b42, X10_topic_b36, if_neg (show ¬ stv 1 4 < nI i by rw [show stv 1 4 = nI 7 from rfl, nI_ltI (by decide) (by omega)]; omega), if_neg (show ¬ (8 : Int32) ≤ nI i by rw [show (8 : Int32) = nI 8 from rfl, nI_leI (by decide) (by omega)]; omega), ch, Option.bind_some, a1, Option.bind_some, a2, e3, if_neg hob, tnI (by omega), everybody_eq hn (show (up μ 6 (3 * g + 1) (nI i)).1 0 11 = nI e.n from M1.1), Option.bind_some, show X10_warmestOf (nI (2 ^ e.n - 1)) (up μ 6 (3 * g + 1) (nI i)) = _ from b1', Option.bind_some, nI_1]
    have X2 : ∀ a b, scX a b = false → ¬ (a = 4 ∧ b = g) → σ1.1 a b = σ0.1 a b := fun a b q z => by rw [a4 a b q, up_get, if_neg z, hX a b q z]
    have M2 : ∀ a b, scM a b = false → ¬ (a = 6 ∧ b = 3 * g + 1) → μ1.1 a b = μ0.1 a b := fun a b q z => by rw [b3 a b q, up_get, if_neg z, hM a b q z]
    by_cases c1 : (wB (e.wT (fun x => if x = g then nI i else e.T x)) 9).1 ≤ w
    · rw [if_pos c1, if_pos c1]
      exact ih (i + 1) F' F2' w f σ1 μ1 (by omega) (by omega) (by omega) X2 M2
    · rw [if_neg c1, if_neg c1]
      exact ih (i + 1) F' F2' _ (nI i) σ1 μ1 (by omega) (by omega) (by omega) X2 M2
theorem sim_topic : Sim_topic Rel := by
  intro g w σ μ ⟨n, t, k, ev, hR⟩
  have hRel : Rel σ μ := ⟨n, t, k, ev, hR⟩
  obtain ⟨r, -, -, ho, hEX, hEM⟩ := env_of hR
  have hw := w0_rng (r := r) hR
  have hn : n ≤ 5 := ho.1
  unfold X9_topic X10_topic
  rw [has_eq hn hR.1.2.2.2.2.1, isOne_eq hn hR.1.2.2.2.2.2.1, Option.bind_some, Option.bind_some]
  by_cases c : 0 ≤ g.toInt ∧ g.toInt < n
  · rw [if_pos c, if_neg ne10, if_neg ne10, in01, Option.bind_some]
    rcases i_cases g with h | ⟨g, hg, rfl⟩
    · omega
    rw [tiI hg] at c
    by_cases c2 : 0 ≤ w.toInt ∧ w.toInt ≤ 1
    · have e3 : (3 : Int32) * nI g + 1 = nI (3 * g + 1) := by rw [show (3 : Int32) = nI 3 from rfl, pk_mul, nI_1]
      have vX : X5_value 1 4 (nI g) σ = some (σ.1 4 g) := value_eq (w := 4) (Or.inr (Or.inl rfl)) (by omega)
      have vM : X10_topicOf (nI g) μ = some (σ.1 4 g) := by
        rw [topicOf_eq ho.1 hEM (show g < (envOf n r ev σ).n from by show g < n; omega)]
        rfl
      rw [if_neg (show ¬ w < 0 by rw [lt0I]; omega), if_pos (show w ≤ 1 by rw [le1I]; omega), if_pos c2, if_neg ne10, vX, Option.bind_some, vM, Option.bind_some]
      obtain ⟨r', σ', μ', d1, d2, d3, d4⟩ := topicL ho hw (g := g) (show g < n by omega) w (σ.1 4 g) hEX hEM rfl (hEM.2.2.2.2.2.1 g (show g < n by omega)).2.2.1 8 0 FU FU (-1) (-1) σ μ (by omega) (by rw [FU_eq]; omega) (by rw [FU_eq]; omega) (fun _ _ _ _ => rfl) (fun _ _ _ _ => rfl)
      exact ⟨r', σ', μ', d1, d2, n, t, k, ev, hR.frame d3 d4⟩
    · rw [if_neg c2, if_pos rfl]
      refine ⟨-2, σ, μ, ?_, rfl, hRel⟩
      by_cases c1 : w < 0
      · rw [if_pos c1]
      · rw [if_neg c1, if_neg (fun q => c2 ⟨by rw [lt0I] at c1; omega, (le1I w).mp q⟩)]
  · rw [if_neg c, if_pos rfl, if_pos rfl]
    exact ⟨-2, σ, μ, rfl, rfl, hRel⟩
