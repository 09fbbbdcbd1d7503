/-- the order 0, 1, .. of m, the last first -/
def dn : Nat → List Nat
  | 0 => []
  | m + 1 => m :: dn m
theorem dn_len : ∀ m, (dn m).length = m
  | 0 => rfl
  | m + 1 => by show (dn m).length + 1 = m + 1; rw [dn_len m]
theorem dn_mem : ∀ m g, g ∈ dn m ↔ g < m
  | 0, g => ⟨fun h => absurd h List.not_mem_nil, fun h => by omega⟩
  | m + 1, g => by
    show g ∈ m :: dn m ↔ g < m + 1
    rw [List.mem_cons, dn_mem m g]
    omega
theorem dn_drop : ∀ d m, (dn (m + d)).drop d = dn m
  | 0, m => rfl
  | d + 1, m => by
    show (dn (m + d)).drop d = dn m
    exact dn_drop d m
theorem byNum6 {e : Evg} (ho : EnvOk e) : ∀ (c i F : Nat) (σ : St), i + c = e.n → c < F → HoldX e (dn i) σ → ∃ σ', X1_comeByNumber_b6 F (nI i) σ = some σ' ∧ HoldX e (dn e.n) σ' ∧ EXu σ σ' := by
  have hn := ho.1
  intro c
  induction c with
  | zero =>
    intro i F σ hi hF h
    obtain ⟨F', rfl⟩ : ∃ F', F = F' + 1 := ⟨F - 1, by omega⟩
    rw [X1_comeByNumber_b6, h.1.1, if_pos (show nI e.n ≤ nI i by rw [nI_leI (by omega) (by omega)]; omega)]
    have : i = e.n := by omega
    exact ⟨σ, rfl, this ▸ h, EXu.refl σ⟩
  | succ c ih =>
    intro i F σ hi hF h
    obtain ⟨F', rfl⟩ : ∃ F', F = F' + 1 := ⟨F - 1, by omega⟩
    obtain ⟨σ1, a1, a2, a3⟩ := comeUp_yes ho h (g := i) (by omega) (fun q => by have := (dn_mem i i).mp q; omega)
    obtain ⟨σ', b1', b2, b3⟩ := ih (i + 1) F' σ1 (by omega) (by omega) a2
    rw [X1_comeByNumber_b6, h.1.1, if_neg (show ¬ nI e.n ≤ nI i by rw [nI_leI (by omega) (by omega)]; omega), a1, Option.bind_some, nI_1]
    exact ⟨σ', b1', b2, a3.trans b3⟩
theorem byNum_eq {e : Evg} (ho : EnvOk e) {σ : St} (hE : EnvX e σ) : ∃ σ', X1_comeByNumber σ = some σ' ∧ HoldX e (dn e.n) σ' ∧ EXu σ σ' := by
  obtain ⟨σ1, a1, a2, a3⟩ := begin_eq ho.2.1 hE
  obtain ⟨σ', b1', b2, b3⟩ := byNum6 ho e.n 0 FU σ1 (by omega) (by have := ho.1; rw [FU_eq]; omega) a2
  refine ⟨σ', ?_, b2, a3.trans b3⟩
  unfold X1_comeByNumber
  rw [a1, Option.bind_some]
  exact b1'
theorem film16 {e : Evg} (ho : EnvOk e) (s : Int32) : ∀ (c i F : Nat) (μ : St), i + c = e.n → c < F → HoldM e (dn i) μ → ∃ μ', X10_film_b16 F s (nI i) μ = (X10_sheet s 0 (nI e.n) μ').bind (fun x43 => X10_film_b49 FU s 0 x43.2) ∧ HoldM e (dn e.n) μ' ∧ EMu μ μ' := by
  have hn := ho.1
  intro c
  induction c with
  | zero =>
    intro i F μ hi hF h
    obtain ⟨F', rfl⟩ : ∃ F', F = F' + 1 := ⟨F - 1, by omega⟩
    have : i = e.n := by omega
    refine ⟨μ, ?_, this ▸ h, EMu.refl μ⟩
    rw [X10_film_b16, h.1.1, if_pos (show nI e.n ≤ nI i by rw [nI_leI (by omega) (by omega)]; omega)]
  | succ c ih =>
    intro i F μ hi hF h
    obtain ⟨F', rfl⟩ : ∃ F', F = F' + 1 := ⟨F - 1, by omega⟩
    obtain ⟨μ1, a1, a2, a3⟩ := comes_eq ho h (g := i) (by omega) (fun q => by have := (dn_mem i i).mp q; omega)
    obtain ⟨μ', b1', b2, b3⟩ := ih (i + 1) F' μ1 (by omega) (by omega) a2
    rw [dn_len] at a1
    refine ⟨μ', ?_, b2, a3.trans b3⟩
    rw [X10_film_b16, h.1.1, if_neg (show ¬ nI e.n ≤ nI i by rw [nI_leI (by omega) (by omega)]; omega), a1, Option.bind_some, nI_1]
    exact b1'
theorem byte99 : ∀ j, j < 100 → (Int32.toInt8 (nI j)).toInt32 = nI j := by decide +kernel
theorem nar_w {v : Int32} (h : rng 0 99 v) : nar 0 v = v := by
  unfold rng at h
  obtain ⟨q1, q2⟩ := nI_of_toInt h.1
  show (Int32.toInt8 v).toInt32 = v
  rw [q1]
  exact byte99 _ (by omega)
theorem filmL {e : Evg} (hn : e.n ≤ 5) (hw : rng 0 99 e.w0) {s t k : Nat} {ev : Nat → Nat → Nm → Int32} (hs : s < 4) : ∀ (c i F F2 : Nat) (σ μ : St), i + c = e.n → c < F → c < F2 → RelN e.n t k ev σ μ → σ.1 27 8 = nI e.n → CellsX e σ (dn e.n) → CellsM e μ (dn e.n) → σ.1 (38 + 2 * s) 1 = 0 → σ.1 (38 + 2 * s) 2 = nI e.n → ∃ σ' μ', X9_film_b34 F (38 + 2 * s) (nI i) σ = some (nI e.n, σ') ∧ X10_film_b49 F2 (nI s) (nI i) μ = some (nI e.n, μ') ∧ RelN e.n t k ev σ' μ' := by
  intro c
  induction c with
  | zero =>
    intro i F F2 σ μ hi hF hF2 hR h8 hc hm h1 h2
    obtain ⟨F', rfl⟩ : ∃ F', F = F' + 1 := ⟨F - 1, by omega⟩
    obtain ⟨F2', rfl⟩ : ∃ F', F2 = F' + 1 := ⟨F2 - 1, by omega⟩
    rw [X9_film_b34, X10_film_b49, if_pos (oS hs), h2, hR.1.2.2.2.2.2.1, if_pos (show nI e.n ≤ nI i by rw [nI_leI (by omega) (by omega)]; omega), if_pos (show nI e.n ≤ nI i by rw [nI_leI (by omega) (by omega)]; omega)]
    exact ⟨σ, μ, rfl, rfl, hR⟩
  | succ c ih =>
    intro i F F2 σ μ hi hF hF2 hR h8 hc hm h1 h2
    obtain ⟨F', rfl⟩ : ∃ F', F = F' + 1 := ⟨F - 1, by omega⟩
    obtain ⟨F2', rfl⟩ : ∃ F', F2 = F' + 1 := ⟨F2 - 1, by omega⟩
    have hb := behind_eq (e := e) (pre := dn e.n) (i := i) (by rw [dn_len]; omega) (by rw [dn_len]; exact h8) hc (by rw [dn_len]; omega)
    have hM := hm.at (i := i + 1) (by rw [dn_len]; omega)
    rw [dn_len] at hb hM
    rw [show e.n - 1 - i = e.n - (i + 1) by omega] at hb
    rw [X9_film_b34, X10_film_b49, if_pos (oS hs), h2, hR.1.2.2.2.2.2.1, if_neg (show ¬ nI e.n ≤ nI i by rw [nI_leI (by omega) (by omega)]; omega), if_neg (show ¬ nI e.n ≤ nI i by rw [nI_leI (by omega) (by omega)]; omega), hb, Option.bind_some, put_eq hs (z := e.n) (o := 0) (by omega) (by decide) (by omega) h1 h2, Option.bind_some, nI_1, ix40, if_neg (show ¬ ob (nI (i + 1)) 6 by rw [ob_iff (by decide), tiI (by omega)]; omega), if_neg (show ¬ ob (nI (40 * s + i)) 160 by rw [ob_iff (by decide), tiI (by omega)]; omega), tnI (by omega), tnI (by omega), hM, nar_w (wmt_rng hw _)]
    exact ih (i + 1) F' F2' _ _ (by omega) (by omega) (by omega) (put_she hR hs (by omega) _) (by rw [up_lo (by omega)]; exact h8) (hc.keep (fun x y p q _ => up_lo (by omega))) (hm.keep (fun x y p _ => up_lo (by omega)) (fun y _ => up_lo (by decide))) (by rw [up_lo (by omega)]; exact h1) (by rw [up_lo (by omega)]; exact h2)
theorem sim_film : Sim_film Rel := by
  intro a σ μ ⟨n, t, k, ev, hR⟩
  have hRel : Rel σ μ := ⟨n, t, k, ev, hR⟩
  obtain ⟨r, -, -, ho, hEX, hEM⟩ := env_of hR
  have hw := w0_rng (r := r) hR
  have hn : n ≤ 5 := ho.1
  by_cases c0 : 0 ≤ a.toInt ∧ a.toInt < 4
  · rcases i_cases a with h | ⟨s, hs, rfl⟩
    · omega
    rw [tiI hs] at c0
    have s4 : s < 4 := by omega
    obtain ⟨σ1, a1, a2, a3⟩ := byNum_eq ho hEX
    obtain ⟨μ1, b1', b2, b3⟩ := begins_eq hEM
    obtain ⟨μ2, d1, d2, d3⟩ := film16 ho (nI s) (envOf n r ev σ).n 0 FU μ1 (by omega) (by rw [FU_eq]; show n < 4096; omega) b2
    have eX : X9_film (nI s) σ = X9_film_b34 FU (38 + 2 * s) 0 (becS s n (nI 0) σ1) := by
      unfold X9_film
      rw [sheetOf_s s4, Option.bind_some]
      dsimp only [Option.elim]
      rw [a1, Option.bind_some, if_pos (oS s4), a2.1.1]
      rw [show X6_become (38 + 2 * s) 0 (nI (envOf n r ev σ).n) σ1 = some (becS s n (nI 0) σ1) from become_eq s4 (z := n) (by omega) (nI 0) σ1, Option.bind_some]
    have eM : X10_film (nI s) μ = X10_film_b49 FU (nI s) 0 (lsM s n 0 μ2) := by
      unfold X10_film
      rw [isSheet_eq, Option.bind_some, tiI hs, if_pos (show (0 : Int) ≤ ((s : Nat) : Int) ∧ ((s : Nat) : Int) < 4 by omega), if_neg ne10, b1', Option.bind_some, show X10_film_b16 FU (nI s) 0 μ1 = _ from d1]
      rw [show X10_sheet (nI s) 0 (nI (envOf n r ev σ).n) μ2 = some (1, lsM s n 0 μ2) from sheetM_eq s4 (o := 0) (z := n) (by decide) (by omega) μ2, Option.bind_some]
    have R1 := hR.frame a3.ex (b3.trans d3).em
    have R2 := zr_she R1 (s := s) (z := n) (o := 0) s4 (by decide) (by omega)
    have k27 : ∀ x y, x < 38 → (becS s n (nI 0) σ1).1 x y = σ1.1 x y := fun x y q => becS_o (by omega) (by omega)
    have k8 : ∀ x y, x < 15 → (lsM s n 0 μ2).1 x y = μ2.1 x y := fun x y h => by
      unfold lsM
      rw [zro_o (by omega), up_lo (by omega), up_lo (by omega), up_lo (by omega)]
    have g8 := a2.2.2.1
    rw [dn_len] at g8
    obtain ⟨σ', μ', p1, p2, p3⟩ := filmL (e := envOf n r ev σ) hn hw s4 n 0 FU FU (becS s n (nI 0) σ1) (lsM s n 0 μ2) (show 0 + n = n by omega) (by rw [FU_eq]; omega) (by rw [FU_eq]; omega) R2 ((k27 _ _ (by decide)).trans g8) (a2.2.2.2.2.keep (fun x y p q _ => k27 x y (by omega))) (d2.2.2.keep (fun x y p _ => k8 x y (by omega)) (fun y _ => k8 8 y (by decide))) becS_1 becS_2
    rw [eX, eM]
    exact ⟨_, σ', μ', p1, p2, n, t, k, ev, p3⟩
  · refine ⟨-2, σ, μ, ?_, ?_, hRel⟩
    · unfold X9_film
      rw [sheetOf_no c0]
      rfl
    · unfold X10_film
      rw [isSheet_eq, if_neg c0]
      rfl
