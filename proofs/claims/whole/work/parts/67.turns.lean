theorem HoldX.kp {e : Evg} {pre : List Nat} {σ σ' : St} (h : HoldX e pre σ) (hr : e.r < 6) (hX : EX σ σ') (k : ∀ a b, 27 ≤ a → a ≤ 33 → σ'.1 a b = σ.1 a b) : HoldX e pre σ' := by
  obtain ⟨h1, h2, h3, ⟨M, m1, m2, m3⟩, h5⟩ := h
  exact ⟨h1.keep hr hX, h2, (k _ _ (by decide) (by decide)).trans h3, ⟨M, m1, (k _ _ (by decide) (by decide)).trans m2, m3⟩, h5.keep (fun x y p q _ => k x y (by omega) q)⟩
theorem HoldM.kp {e : Evg} {pre : List Nat} {μ μ' : St} (h : HoldM e pre μ) (hM : EM μ μ') (k : ∀ a b, 7 ≤ a → a ≤ 10 → μ'.1 a b = μ.1 a b) : HoldM e pre μ' :=
  ⟨h.1.keep hM, h.2.1, h.2.2.keep (fun x y p _ => k x y (by omega) (by omega)) (fun y _ => k 8 y (by decide) (by decide))⟩
/-- one cell of the class's searches written -/
theorem ex_up {σ : St} {k j : Nat} {v : Int32} (h : 27 ≤ k) (h2 : k ≤ 37) : EX σ (up σ k j v) := fun a b q => by
  refine up_lo (fun z => ?_)
  subst z
  rcases (show a = 27 ∨ a = 28 ∨ a = 29 ∨ a = 30 ∨ a = 31 ∨ a = 32 ∨ a = 33 ∨ a = 34 ∨ a = 35 ∨ a = 36 ∨ a = 37 by omega) with rfl | rfl | rfl | rfl | rfl | rfl | rfl | rfl | rfl | rfl | rfl <;> exact Bool.noConfusion (show true = false from q)
theorem em_up0 {μ : St} {j : Nat} {v : Int32} (h : 31 ≤ j) (h2 : j ≤ 36) : EM μ (up μ 0 j v) := fun a b q => by
  rw [up_get, if_neg (fun z => ?_)]
  obtain ⟨rfl, rfl⟩ := z
  rcases (show b = 31 ∨ b = 32 ∨ b = 33 ∨ b = 34 ∨ b = 35 ∨ b = 36 by omega) with rfl | rfl | rfl | rfl | rfl | rfl <;> exact Bool.noConfusion (show true = false from q)
/-- whether the one who calls takes this one -/
def updT (m : Nat) (v b : Int32) : Bool := if b = -1 then true else if m % 2 = 0 then (if v ≤ b then false else true) else (if b ≤ v then false else true)
def tF (f : List Nat → Int32 → Int32 × Int32) (pre : List Nat) (g : Nat) (a : Int32 × Int32) : Int32 × Int32 := if g ∈ pre then a else if updT pre.length (f (g :: pre) a.2).1 a.1 = true then ((f (g :: pre) a.2).1, if pre.length = 0 then nI g else (f (g :: pre) a.2).2) else (a.1, (f (g :: pre) a.2).2)
/-- what the two come to, and whom the one calls first -/
def tS (e : Evg) : Nat → List Nat → Int32 → Int32 × Int32
  | 0, pre, fc => (wmt e pre, fc)
  | d + 1, pre, fc => lpF (tF (fun p f => tS e d p f) pre) e.n 0 (-1, fc)
theorem par_eq {m : Nat} (h : m < 2 ^ 31) : nI m - nI m / 2 * 2 = nI (m % 2) := by
  rw [show (2 : Int32) = nI 2 from rfl, pk_rem h (by decide) (by decide)]
theorem tSX {e : Evg} (ho : EnvOk e) : ∀ (d R : Nat) (pre : List Nat) (σ : St) (fc : Int32), HoldX e pre σ → pre.length + d = e.n → d ≤ R → σ.1 34 6 = fc → ∃ σ', X0_warmthByTurns (X0_warmthByTurns_K R) (nI pre.length) σ = some ((tS e d pre fc).1, σ') ∧ HoldX e pre σ' ∧ σ'.1 34 6 = (tS e d pre fc).2 ∧ EX σ σ' := by
  have hn := ho.1
  intro d
  induction d with
  | zero =>
    intro R pre σ fc h hd hR h6
    have hl := h.2.1.len
    unfold X0_warmthByTurns
    rw [h.1.1, if_neg (show ¬ nI pre.length < nI e.n by rw [nI_ltI (by omega) (by omega)]; omega), now_eq (by omega) h.1.2.1 h.2.2.1 h.2.2.2.2, Option.bind_some]
    exact ⟨σ, rfl, h, h6, EX.refl σ⟩
  | succ d ih =>
    intro R pre σ fc h hd hR h6
    obtain ⟨R', rfl⟩ : ∃ R', R = R' + 1 := ⟨R - 1, by omega⟩
    have hl := h.2.1.len
    have loop : ∀ s0 : Int32, (s0 = 0 ↔ ¬ pre.length % 2 = 0) → ∀ (c i F : Nat) (σ : St) (a : Int32 × Int32), i + c = e.n → c < F → HoldX e pre σ → σ.1 34 6 = a.2 → ∃ σ', X0_warmthByTurns_b36 (X0_warmthByTurns_K (R' + 1)) F (nI pre.length) s0 a.1 (nI i) σ = some ((lpF (tF (fun p f => tS e d p f) pre) c i a).1, σ') ∧ HoldX e pre σ' ∧ σ'.1 34 6 = (lpF (tF (fun p f => tS e d p f) pre) c i a).2 ∧ EX σ σ' := by
      intro s0 hs c
      induction c with
      | zero =>
        intro i F σ a hi hF h h6
        obtain ⟨F', rfl⟩ : ∃ F', F = F' + 1 := ⟨F - 1, by omega⟩
        rw [X0_warmthByTurns_b36, h.1.1, if_pos (show nI e.n ≤ nI i by rw [nI_leI (by omega) (by omega)]; omega)]
        exact ⟨σ, rfl, h, h6, EX.refl σ⟩
      | succ c ihc =>
        intro i F σ a hi hF h h6
        obtain ⟨F', rfl⟩ : ∃ F', F = F' + 1 := ⟨F - 1, by omega⟩
        rw [X0_warmthByTurns_b36, h.1.1, if_neg (show ¬ nI e.n ≤ nI i by rw [nI_leI (by omega) (by omega)]; omega), nI_1, nI_1]
        unfold lpF
        by_cases c2 : i ∈ pre
        · rw [comeUp_come ho h (by omega) c2, Option.bind_some, if_pos rfl, show tF (fun p f => tS e d p f) pre i a = a from if_pos c2]
          exact ihc (i + 1) F' σ a (by omega) (by omega) h h6
        · obtain ⟨σ1, a1, a2, a3⟩ := comeUp_yes ho h (g := i) (by omega) c2
          obtain ⟨σ2, b1', b2, b3, b4⟩ := ih R' (i :: pre) σ1 a.2 a2 (by simp only [List.length_cons]; omega) (by omega) ((a3 _ _ (by decide) (by decide)).trans h6)
          obtain ⟨σ3, c1', c2', c3⟩ := goBack_eq hn b2 ho.2.1
          have h36 : σ3.1 34 6 = (tS e d (i :: pre) a.2).2 := (c3 _ _ (by decide) (by decide)).trans b3
          have x3 : EX σ σ3 := (a3.ex.trans b4).trans c3.ex
          rw [a1, Option.bind_some, if_neg ne10, show X0_warmthByTurns_K (R' + 1) (nI (pre.length + 1)) σ1 = some ((tS e d (i :: pre) a.2).1, σ2) from b1', Option.bind_some, c1', Option.bind_some]
          have yes : updT pre.length (tS e d (i :: pre) a.2).1 a.1 = true → ∃ σ', X0_warmthByTurns_b103 (X0_warmthByTurns_K (R' + 1)) (X0_warmthByTurns_b36 (X0_warmthByTurns_K (R' + 1)) F') (nI pre.length) s0 (nI i) (tS e d (i :: pre) a.2).1 σ3 = some ((lpF (tF (fun p f => tS e d p f) pre) c (i + 1) (tF (fun p f => tS e d p f) pre i a)).1, σ') ∧ HoldX e pre σ' ∧ σ'.1 34 6 = (lpF (tF (fun p f => tS e d p f) pre) c (i + 1) (tF (fun p f => tS e d p f) pre i a)).2 ∧ EX σ σ' := fun hu => by
            have e1 : tF (fun p f => tS e d p f) pre i a = ((tS e d (i :: pre) a.2).1, if pre.length = 0 then nI i else (tS e d (i :: pre) a.2).2) := (if_neg c2).trans (if_pos hu)
            rw [e1]
            unfold X0_warmthByTurns_b103
            rw [nI_1]
            by_cases m0 : pre.length = 0
            · rw [if_pos (show nI pre.length = 0 by rw [m0]; rfl), if_pos m0]
              obtain ⟨σ4, d1, d2, d3, d4⟩ := ihc (i + 1) F' (up σ3 34 6 (nI i)) ((tS e d (i :: pre) a.2).1, nI i) (by omega) (by omega) (c2'.kp ho.2.1 (ex_up (by decide) (by decide)) (fun x y p q => up_lo (by omega))) up_eq
              exact ⟨σ4, d1, d2, d3, (x3.trans (ex_up (by decide) (by decide))).trans d4⟩
            · rw [if_neg (show ¬ nI pre.length = 0 by rw [show (0 : Int32) = nI 0 from rfl, nI_eq (by omega) (by decide)]; exact m0), if_neg m0]
              obtain ⟨σ4, d1, d2, d3, d4⟩ := ihc (i + 1) F' σ3 ((tS e d (i :: pre) a.2).1, (tS e d (i :: pre) a.2).2) (by omega) (by omega) c2' h36
              exact ⟨σ4, d1, d2, d3, x3.trans d4⟩
          have no : updT pre.length (tS e d (i :: pre) a.2).1 a.1 = false → ∃ σ', X0_warmthByTurns_b36 (X0_warmthByTurns_K (R' + 1)) F' (nI pre.length) s0 a.1 (nI (i + 1)) σ3 = some ((lpF (tF (fun p f => tS e d p f) pre) c (i + 1) (tF (fun p f => tS e d p f) pre i a)).1, σ') ∧ HoldX e pre σ' ∧ σ'.1 34 6 = (lpF (tF (fun p f => tS e d p f) pre) c (i + 1) (tF (fun p f => tS e d p f) pre i a)).2 ∧ EX σ σ' := fun hu => by
            have e1 : tF (fun p f => tS e d p f) pre i a = (a.1, (tS e d (i :: pre) a.2).2) := (if_neg c2).trans (if_neg (by rw [hu]; decide))
            rw [e1]
            obtain ⟨σ4, d1, d2, d3, d4⟩ := ihc (i + 1) F' σ3 (a.1, (tS e d (i :: pre) a.2).2) (by omega) (by omega) c2' h36
            exact ⟨σ4, d1, d2, d3, x3.trans d4⟩
          unfold updT at yes no
          by_cases k1 : a.1 = -1
          · simp only [if_pos k1] at yes no ⊢
            exact yes trivial
          · simp only [if_neg k1] at yes no ⊢
            by_cases k2 : pre.length % 2 = 0
            · simp only [if_pos k2] at yes no
              rw [if_neg (fun q => hs.mp q k2)]
              by_cases k3 : (tS e d (i :: pre) a.2).1 ≤ a.1
              · rw [if_pos k3] at no ⊢
                exact no rfl
              · rw [if_neg k3] at yes ⊢
                exact yes rfl
            · simp only [if_neg k2] at yes no
              rw [if_pos (hs.mpr k2)]
              by_cases k3 : a.1 ≤ (tS e d (i :: pre) a.2).1
              · rw [if_pos k3] at no ⊢
                exact no rfl
              · rw [if_neg k3] at yes ⊢
                exact yes rfl
    unfold X0_warmthByTurns
    rw [h.1.1, if_pos (show nI pre.length < nI e.n by rw [nI_ltI (by omega) (by omega)]; omega), par_eq (by omega)]
    unfold X0_warmthByTurns_b30
    by_cases k2 : pre.length % 2 = 0
    · rw [if_pos (show nI (pre.length % 2) = 0 by rw [k2]; rfl)]
      exact loop 1 ⟨fun q => absurd q (by decide), fun q => absurd k2 q⟩ e.n 0 FU σ (-1, fc) (by omega) (by rw [FU_eq]; omega) h h6
    · rw [if_neg (show ¬ nI (pre.length % 2) = 0 by rw [show (0 : Int32) = nI 0 from rfl, nI_eq (by omega) (by decide)]; exact k2)]
      exact loop 0 ⟨fun _ => k2, fun _ => rfl⟩ e.n 0 FU σ (-1, fc) (by omega) (by rw [FU_eq]; omega) h h6
theorem all9 {n : Nat} (hn : n ≤ 5) : allN n 9 = n := by unfold allN; rw [if_neg (by omega)]
theorem tSM {e : Evg} (ho : EnvOk e) : ∀ (d R : Nat) (pre : List Nat) (μ : St) (M : Nat) (fc : Int32), HoldM e pre μ → SetM e.n 9 pre M → pre.length + d = e.n → d ≤ R → μ.1 0 34 = fc → ∃ μ', X10_plays (X10_plays_K R) (nI M) (nI pre.length) μ = some ((tS e d pre fc).1, μ') ∧ HoldM e pre μ' ∧ μ'.1 0 34 = (tS e d pre fc).2 ∧ EM μ μ' := by
  have hn := ho.1
  intro d
  induction d with
  | zero =>
    intro R pre μ M fc h hM hd hR h6
    have hl := h.2.1.len
    have h9 : 9 ∉ pre := fun q => by have := h.2.1.2 9 q; omega
    unfold X10_plays
    rw [if_pos ((hM.zero hn h.2.1 h9 (by rw [all9 hn]; exact hd)).mpr rfl), if_neg (show ¬ ob (nI pre.length) 6 by rw [ob_iff (by decide), tiI (by omega)]; omega), tnI (by omega), h.2.2.w]
    exact ⟨μ, rfl, h, h6, EM.refl μ⟩
  | succ d ih =>
    intro R pre μ M fc h hM hd hR h6
    obtain ⟨R', rfl⟩ : ∃ R', R = R' + 1 := ⟨R - 1, by omega⟩
    have hl := h.2.1.len
    have h9 : 9 ∉ pre := fun q => by have := h.2.1.2 9 q; omega
    have loop : ∀ (c i F : Nat) (μ : St) (a : Int32 × Int32), i + c = e.n → c < F → HoldM e pre μ → μ.1 0 34 = a.2 → ∃ μ', X10_plays_b16 (X10_plays_K (R' + 1)) F (nI M) (nI pre.length) a.1 (nI i) μ = some ((lpF (tF (fun p f => tS e d p f) pre) c i a).1, μ') ∧ HoldM e pre μ' ∧ μ'.1 0 34 = (lpF (tF (fun p f => tS e d p f) pre) c i a).2 ∧ EM μ μ' := by
      intro c
      induction c with
      | zero =>
        intro i F μ a hi hF h h6
        obtain ⟨F', rfl⟩ : ∃ F', F = F' + 1 := ⟨F - 1, by omega⟩
        rw [X10_plays_b16, h.1.1, if_pos (show nI e.n ≤ nI i by rw [nI_leI (by omega) (by omega)]; omega)]
        exact ⟨μ, rfl, h, h6, EM.refl μ⟩
      | succ c ihc =>
        intro i F μ a hi hF h h6
        obtain ⟨F', rfl⟩ : ∃ F', F = F' + 1 := ⟨F - 1, by omega⟩
        rw [X10_plays_b16, h.1.1, if_neg (show ¬ nI e.n ≤ nI i by rw [nI_leI (by omega) (by omega)]; omega), nI_1, nI_1]
        unfold lpF
        by_cases c2 : i ∈ pre
        · rw [if_neg (fun q => by have := (hM.bit (show i < 5 by omega)).mp q; exact this.2.2 c2), show tF (fun p f => tS e d p f) pre i a = a from if_pos c2]
          exact ihc (i + 1) F' μ a (by omega) (by omega) h h6
        · rw [if_pos ((hM.bit (show i < 5 by omega)).mpr ⟨by omega, by omega, c2⟩)]
          obtain ⟨μ1, a1, a2, a3⟩ := comes_eq ho h (g := i) (by omega) c2
          obtain ⟨M', m1, m2⟩ := hM.take (show i < 5 by omega)
          obtain ⟨μ2, b1', b2, b3, b4⟩ := ih R' (i :: pre) μ1 M' a.2 a2 m2 (by simp only [List.length_cons]; omega) (by omega) ((a3 _ _ (by decide) (by omega)).trans h6)
          have x3 : EM μ μ2 := a3.em.trans b4
          have h2 := b2.tail
          rw [a1, Option.bind_some, m1, show X10_plays_K (R' + 1) (nI M') (nI (pre.length + 1)) μ1 = some ((tS e d (i :: pre) a.2).1, μ2) from b1', Option.bind_some, par_eq (by omega)]
          have yes : updT pre.length (tS e d (i :: pre) a.2).1 a.1 = true → ∃ μ', X10_plays_b85 (X10_plays_K (R' + 1)) (X10_plays_b16 (X10_plays_K (R' + 1)) F') (nI M) (nI pre.length) (nI i) (tS e d (i :: pre) a.2).1 μ2 = some ((lpF (tF (fun p f => tS e d p f) pre) c (i + 1) (tF (fun p f => tS e d p f) pre i a)).1, μ') ∧ HoldM e pre μ' ∧ μ'.1 0 34 = (lpF (tF (fun p f => tS e d p f) pre) c (i + 1) (tF (fun p f => tS e d p f) pre i a)).2 ∧ EM μ μ' := fun hu => by
            have e1 : tF (fun p f => tS e d p f) pre i a = ((tS e d (i :: pre) a.2).1, if pre.length = 0 then nI i else (tS e d (i :: pre) a.2).2) := (if_neg c2).trans (if_pos hu)
            rw [e1]
            unfold X10_plays_b85 X10_plays_b102
            rw [nI_1]
            have go : ∀ v : Int32, ∃ μ', X10_plays_b16 (X10_plays_K (R' + 1)) F' (nI M) (nI pre.length) (tS e d (i :: pre) a.2).1 (nI (i + 1)) (up μ2 0 34 v) = some ((lpF (tF (fun p f => tS e d p f) pre) c (i + 1) ((tS e d (i :: pre) a.2).1, v)).1, μ') ∧ HoldM e pre μ' ∧ μ'.1 0 34 = (lpF (tF (fun p f => tS e d p f) pre) c (i + 1) ((tS e d (i :: pre) a.2).1, v)).2 ∧ EM μ μ' := fun v => by
              obtain ⟨μ4, d1, d2, d3, d4⟩ := ihc (i + 1) F' (up μ2 0 34 v) ((tS e d (i :: pre) a.2).1, v) (by omega) (by omega) (h2.kp (em_up0 (by decide) (by decide)) (fun x y p q => up_lo (by omega))) up_eq
              exact ⟨μ4, d1, d2, d3, (x3.trans (em_up0 (by decide) (by decide))).trans d4⟩
            by_cases m0 : pre.length = 0
            · rw [if_pos (show nI pre.length = 0 by rw [m0]; rfl), if_pos m0]
              exact go (nI i)
            · rw [if_neg (show ¬ nI pre.length = 0 by rw [show (0 : Int32) = nI 0 from rfl, nI_eq (by omega) (by decide)]; exact m0), if_neg m0, b3]
              exact go _
          have no : updT pre.length (tS e d (i :: pre) a.2).1 a.1 = false → ∃ μ', X10_plays_b16 (X10_plays_K (R' + 1)) F' (nI M) (nI pre.length) a.1 (nI (i + 1)) μ2 = some ((lpF (tF (fun p f => tS e d p f) pre) c (i + 1) (tF (fun p f => tS e d p f) pre i a)).1, μ') ∧ HoldM e pre μ' ∧ μ'.1 0 34 = (lpF (tF (fun p f => tS e d p f) pre) c (i + 1) (tF (fun p f => tS e d p f) pre i a)).2 ∧ EM μ μ' := fun hu => by
            have e1 : tF (fun p f => tS e d p f) pre i a = (a.1, (tS e d (i :: pre) a.2).2) := (if_neg c2).trans (if_neg (by rw [hu]; decide))
            rw [e1]
            obtain ⟨μ4, d1, d2, d3, d4⟩ := ihc (i + 1) F' μ2 (a.1, (tS e d (i :: pre) a.2).2) (by omega) (by omega) h2 b3
            exact ⟨μ4, d1, d2, d3, x3.trans d4⟩
          unfold updT at yes no
          by_cases k1 : a.1 = -1
          · simp only [if_pos k1] at yes no ⊢
            exact yes trivial
          · simp only [if_neg k1] at yes no ⊢
            by_cases k2 : pre.length % 2 = 0
            · simp only [if_pos k2] at yes no
              rw [if_pos (show nI (pre.length % 2) = 0 by rw [k2]; rfl)]
              by_cases k3 : (tS e d (i :: pre) a.2).1 ≤ a.1
              · rw [if_pos k3] at no ⊢
                exact no rfl
              · rw [if_neg k3] at yes ⊢
                exact yes rfl
            · simp only [if_neg k2] at yes no
              rw [if_neg (show ¬ nI (pre.length % 2) = 0 by rw [show (0 : Int32) = nI 0 from rfl, nI_eq (by omega) (by decide)]; exact k2)]
              by_cases k3 : a.1 ≤ (tS e d (i :: pre) a.2).1
              · rw [if_pos k3] at no ⊢
                exact no rfl
              · rw [if_neg k3] at yes ⊢
                exact yes rfl
    unfold X10_plays
    rw [if_neg (fun q => absurd ((hM.zero hn h.2.1 h9 (by rw [all9 hn]; exact hd)).mp q) (by omega))]
    exact loop e.n 0 FU μ (-1, fc) (by omega) (by rw [FU_eq]; omega) h h6
theorem sim_turns : Sim_turns Rel := by
  intro a σ μ ⟨n, t, k, ev, hR⟩
  have hRel : Rel σ μ := ⟨n, t, k, ev, hR⟩
  obtain ⟨r, -, -, ho, hEX, hEM⟩ := env_of hR
  have hn : n ≤ 5 := ho.1
  unfold X9_turns X10_turns
  rw [in01, Option.bind_some]
  by_cases c : 0 ≤ a.toInt ∧ a.toInt ≤ 1
  · have x0 : EX σ (up σ 34 6 (-1)) := ex_up (by decide) (by decide)
    obtain ⟨σ1, a1, a2, a3⟩ := begin_eq ho.2.1 (hEX.keep ho.2.1 x0)
    obtain ⟨σ2, b1', b2, b3, b4⟩ := tSX ho (envOf n r ev σ).n FR [] σ1 (-1) a2 (by simp) (Nat.le_trans hn (by decide)) ((a3 _ _ (by decide) (by decide)).trans up_eq)
    obtain ⟨μ1, p1, p2, p3⟩ := begins_eq hEM
    have y1 : EM μ1 (up μ1 0 34 (-1)) := em_up0 (by decide) (by decide)
    obtain ⟨μ2, q1, q2, q3, q4⟩ := tSM ho (envOf n r ev σ).n FR [] (up μ1 0 34 (-1)) _ (-1) (p2.kp y1 (fun x y p q => up_lo (by omega))) (SetM.all (ab := 9) hn (by decide)) (by simp) (Nat.le_trans hn (by decide)) up_eq
    have eX : X0_seekByTurns σ = some (up σ2 34 2 (tS (envOf n r ev σ) (envOf n r ev σ).n [] (-1)).1) := by
      unfold X0_seekByTurns
      rw [a1, Option.bind_some, show X0_warmthByTurns (X0_warmthByTurns_K FR) 0 σ1 = _ from b1', Option.bind_some]
    have eM : X10_plays (X10_plays_K FR) (nI (2 ^ n - 1)) 0 (up μ1 0 34 (-1)) = _ := q1
    rw [if_neg (show ¬ a < 0 by rw [lt0I]; omega), if_pos (show a ≤ 1 by rw [le1I]; omega), if_pos c, if_neg ne10, eX, Option.bind_some, p1, Option.bind_some, everybody_eq hn (show (up μ1 0 34 (-1)).1 0 11 = nI n from (p2.1.keep y1).1), Option.bind_some, eM, Option.bind_some, up_eq, up_pl (by decide), b3, q3]
    have R' : Rel (up σ2 34 2 (tS (envOf n r ev σ) (envOf n r ev σ).n [] (-1)).1) μ2 := ⟨n, t, k, ev, hR.frame (((x0.trans a3.ex).trans b4).trans (ex_up (by decide) (by decide))) ((p3.em.trans y1).trans q4)⟩
    by_cases c0 : a = 0
    · rw [if_pos c0, if_pos c0]
      exact ⟨_, _, μ2, rfl, rfl, R'⟩
    · rw [if_neg c0, if_neg c0]
      exact ⟨_, _, μ2, rfl, rfl, R'⟩
  · rw [if_neg c, if_pos rfl]
    refine ⟨-2, σ, μ, ?_, rfl, hRel⟩
    by_cases c1 : a < 0
    · rw [if_pos c1]
    · rw [if_neg c1, if_neg (fun q => c ⟨by rw [lt0I] at c1; omega, (le1I a).mp q⟩)]
