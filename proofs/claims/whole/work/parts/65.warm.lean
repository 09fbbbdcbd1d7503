/-- the search for the warmest: who is ab is left out -/
def wS (e : Evg) (ab : Nat) : Nat → List Nat → Int32 × Int32 → Int32 × Int32
  | 0, pre, a => if wmt e pre ≤ a.1 then a else (wmt e pre, dgI pre)
  | d + 1, pre, a => lpF (fun g a => if g = ab ∨ g ∈ pre then a else wS e ab d (g :: pre) a) e.n 0 a
theorem nI_add1 (n : Nat) : nI n + 1 = nI (n + 1) := nI_1 n
theorem OkP.tail {e : Evg} {g : Nat} {pre : List Nat} (h : OkP e (g :: pre)) : OkP e pre := ⟨(List.nodup_cons.mp h.1).2, fun x hx => h.2 x (List.mem_cons_of_mem _ hx)⟩
theorem HoldM.tail {e : Evg} {g : Nat} {pre : List Nat} {μ : St} (h : HoldM e (g :: pre) μ) : HoldM e pre μ := ⟨h.1, h.2.1.tail, h.2.2.2.2.2.2⟩
theorem allN_le {n ab : Nat} : allN n ab ≤ n := by unfold allN; split <;> omega
theorem wSX {e : Evg} (ho : EnvOk e) {ab : Nat} {l3 : Int32} (h3 : ∀ i, i < 5 → (nI i = l3 ↔ i = ab)) : ∀ (d R : Nat) (pre : List Nat) (σ : St) (a : Int32 × Int32), HoldX e pre σ → pre.length + d = allN e.n ab → d ≤ R → σ.1 34 2 = a.1 → σ.1 34 3 = a.2 → ∃ σ', X0_seekWarmestBehind (X0_seekWarmestBehind_K R) (nI pre.length) (nI (allN e.n ab)) l3 σ = some σ' ∧ HoldX e pre σ' ∧ σ'.1 34 2 = (wS e ab d pre a).1 ∧ σ'.1 34 3 = (wS e ab d pre a).2 ∧ EX σ σ' := by
  have hn := ho.1
  have ha : allN e.n ab ≤ e.n := allN_le
  intro d
  induction d with
  | zero =>
    intro R pre σ a h hd hR h2 h34
    have hl := h.2.1.len
    unfold X0_seekWarmestBehind
    rw [if_neg (show ¬ nI pre.length < nI (allN e.n ab) by rw [nI_ltI (by omega) (by omega)]; omega), now_eq (by omega) h.1.2.1 h.2.2.1 h.2.2.2.2, Option.bind_some, h2]
    unfold wS
    by_cases c : wmt e pre ≤ a.1
    · rw [if_pos c, if_pos c]
      exact ⟨σ, rfl, h, h2, h34, EX.refl σ⟩
    · rw [if_neg c, if_neg c, Option.bind_some]
      have kc : CellsX e (up σ 34 2 (wmt e pre)) pre := h.2.2.2.2.keep (fun x y p q _ => up_lo (by omega))
      rw [digitsX (e := e) (pre := pre) (by omega) (by rw [up_lo (by decide)]; exact h.2.2.1) kc, Option.bind_some]
      have hx : ∀ x y, x ≠ 34 → (up (up σ 34 2 (wmt e pre)) 34 3 (dgI pre)).1 x y = σ.1 x y := fun x y q => by rw [up_lo q, up_lo q]
      have hEX : EX σ (up (up σ 34 2 (wmt e pre)) 34 3 (dgI pre)) := fun x y q => hx x y (fun z => by subst z; exact Bool.noConfusion (show true = false from q))
      refine ⟨_, rfl, ⟨h.1.keep ho.2.1 hEX, h.2.1, (hx _ _ (by decide)).trans h.2.2.1, ?_, h.2.2.2.2.keep (fun x y p q _ => hx x y (by omega))⟩, ?_, ?_, hEX⟩
      · obtain ⟨M, m1, m2, m3⟩ := h.2.2.2.1
        exact ⟨M, m1, (hx _ _ (by decide)).trans m2, m3⟩
      · rw [up_pl (by decide), up_eq]
      · rw [up_eq]
  | succ d ih =>
    intro R pre σ a h hd hR h2 h34
    obtain ⟨R', rfl⟩ : ∃ R', R = R' + 1 := ⟨R - 1, by omega⟩
    have hl := h.2.1.len
    unfold X0_seekWarmestBehind
    rw [if_pos (show nI pre.length < nI (allN e.n ab) by rw [nI_ltI (by omega) (by omega)]; omega)]
    have loop : ∀ (c i F : Nat) (σ : St) (a : Int32 × Int32), i + c = e.n → c < F → HoldX e pre σ → σ.1 34 2 = a.1 → σ.1 34 3 = a.2 → ∃ σ', X0_seekWarmestBehind_b45 (X0_seekWarmestBehind_K (R' + 1)) F (nI pre.length) (nI (allN e.n ab)) l3 (nI i) σ = some σ' ∧ HoldX e pre σ' ∧ σ'.1 34 2 = (lpF (fun g a => if g = ab ∨ g ∈ pre then a else wS e ab d (g :: pre) a) c i a).1 ∧ σ'.1 34 3 = (lpF (fun g a => if g = ab ∨ g ∈ pre then a else wS e ab d (g :: pre) a) c i a).2 ∧ EX σ σ' := by
      intro c
      induction c with
      | zero =>
        intro i F σ a hi hF h h2 h34
        obtain ⟨F', rfl⟩ : ∃ F', F = F' + 1 := ⟨F - 1, by omega⟩
        rw [X0_seekWarmestBehind_b45, h.1.1, if_pos (show nI e.n ≤ nI i by rw [nI_leI (by omega) (by omega)]; omega)]
        exact ⟨σ, rfl, h, h2, h34, EX.refl σ⟩
      | succ c ihc =>
        intro i F σ a hi hF h h2 h34
        obtain ⟨F', rfl⟩ : ∃ F', F = F' + 1 := ⟨F - 1, by omega⟩
        rw [X0_seekWarmestBehind_b45, h.1.1, if_neg (show ¬ nI e.n ≤ nI i by rw [nI_leI (by omega) (by omega)]; omega), nI_1]
        unfold lpF
        by_cases c1 : i = ab
        · rw [if_pos ((h3 i (by omega)).mpr c1), if_pos (Or.inl c1)]
          exact ihc (i + 1) F' σ a (by omega) (by omega) h h2 h34
        · rw [if_neg (fun q => c1 ((h3 i (by omega)).mp q))]
          by_cases c2 : i ∈ pre
          · rw [comeUp_come ho h (by omega) c2, Option.bind_some, if_pos rfl, if_pos (Or.inr c2)]
            exact ihc (i + 1) F' σ a (by omega) (by omega) h h2 h34
          · rw [if_neg (fun q => q.elim c1 c2)]
            obtain ⟨σ1, a1, a2, a3⟩ := comeUp_yes ho h (g := i) (by omega) c2
            obtain ⟨σ2, b1', b2, b3, b4, b5⟩ := ih R' (i :: pre) σ1 a a2 (by simp only [List.length_cons]; omega) (by omega) ((a3 _ _ (by decide) (by decide)).trans h2) ((a3 _ _ (by decide) (by decide)).trans h34)
            obtain ⟨σ3, c1', c2', c3⟩ := goBack_eq hn b2 ho.2.1
            obtain ⟨σ4, d1, d2, d3, d4, d5⟩ := ihc (i + 1) F' σ3 (wS e ab d (i :: pre) a) (by omega) (by omega) c2' ((c3 _ _ (by decide) (by decide)).trans b3) ((c3 _ _ (by decide) (by decide)).trans b4)
            refine ⟨σ4, ?_, d2, d3, d4, ((a3.ex.trans b5).trans c3.ex).trans d5⟩
            rw [a1, Option.bind_some, if_neg (show ¬ (1 : Int32) = 0 by decide), nI_1]
            rw [show X0_seekWarmestBehind_K (R' + 1) (nI (pre.length + 1)) (nI (allN e.n ab)) l3 σ1 = some σ2 from b1', Option.bind_some, c1', Option.bind_some]
            exact d1
    exact loop e.n 0 FU σ a (by omega) (by rw [FU_eq]; omega) h h2 h34
/-- the reference's best so far -/
def AccW (a : Int32 × Int32) (μ : St) : Prop := (μ.1 0 31 = 0 ∧ a.1 = -1) ∨ (μ.1 0 31 = 1 ∧ μ.1 0 32 = a.2 ∧ μ.1 0 33 = a.1)
theorem AccW.keep {a : Int32 × Int32} {μ μ' : St} (h : AccW a μ) (k : ∀ b, 31 ≤ b → b ≤ 33 → μ'.1 0 b = μ.1 0 b) : AccW a μ' := by
  unfold AccW at h ⊢
  rw [k _ (by decide) (by decide), k _ (by decide) (by decide), k _ (by decide) (by decide)]
  exact h
theorem ne1_of_rng {v : Int32} {hi : Int} (h : rng 0 hi v) : ¬ v ≤ -1 := by
  rw [Int32.le_iff_toInt_le, show (-1 : Int32).toInt = -1 by decide]
  unfold rng at h
  omega
theorem seekM24 {e : Evg} {pre : List Nat} {μ : St} (hn : e.n ≤ 5) (h : HoldM e pre μ) {rec : Int32 → Int32 → Int32 → St → Option St} : ∃ μ', X10_seeksWarmest_b24 rec (nI pre.length) (dgI pre) μ = some μ' ∧ HoldM e pre μ' ∧ AccW (wmt e pre, dgI pre) μ' ∧ EM μ μ' := by
  have hl := h.2.1.len
  unfold X10_seeksWarmest_b24
  rw [if_neg (show ¬ ob (nI pre.length) 6 by rw [ob_iff (by decide), tiI (by omega)]; omega), tnI (by omega), up_lo (show (8 : Nat) ≠ 0 by decide), up_lo (show (8 : Nat) ≠ 0 by decide), h.2.2.w]
  have hx : ∀ x y, ¬ (x = 0 ∧ 31 ≤ y ∧ y ≤ 33) → (up (up (up μ 0 31 1) 0 32 (dgI pre)) 0 33 (wmt e pre)).1 x y = μ.1 x y := fun x y q => by rw [up_get, if_neg (by omega), up_get, if_neg (by omega), up_get, if_neg (by omega)]
  have hEM : EM μ (up (up (up μ 0 31 1) 0 32 (dgI pre)) 0 33 (wmt e pre)) := fun x y q => hx x y (fun z => by
    obtain ⟨rfl, z1, z2⟩ := z
    rcases (show y = 31 ∨ y = 32 ∨ y = 33 by omega) with rfl | rfl | rfl <;> exact Bool.noConfusion (show true = false from q))
  refine ⟨_, rfl, ⟨h.1.keep hEM, h.2.1, h.2.2.keep (fun x y p _ => hx x y (by omega)) (fun y _ => hx 8 y (by omega))⟩, Or.inr ⟨?_, ?_, ?_⟩, hEM⟩
  · rw [up_pl (by decide), up_pl (by decide), up_eq]
  · rw [up_pl (by decide), up_eq]
  · rw [up_eq]
theorem wSM {e : Evg} (ho : EnvOk e) (hw : rng 0 99 e.w0) {ab : Nat} : ∀ (d R : Nat) (pre : List Nat) (μ : St) (M : Nat) (a : Int32 × Int32), HoldM e pre μ → SetM e.n ab pre M → ab ∉ pre → pre.length + d = allN e.n ab → d ≤ R → AccW a μ → ∃ μ', X10_seeksWarmest (X10_seeksWarmest_K R) (nI M) (nI pre.length) (dgI pre) μ = some μ' ∧ HoldM e pre μ' ∧ AccW (wS e ab d pre a) μ' ∧ EM μ μ' := by
  have hn := ho.1
  have ha : allN e.n ab ≤ e.n := allN_le
  intro d
  induction d with
  | zero =>
    intro R pre μ M a h hM hab hd hR hA
    have hl := h.2.1.len
    unfold X10_seeksWarmest
    rw [if_pos ((hM.zero hn h.2.1 hab hd).mpr rfl)]
    obtain ⟨μ', a1, a2, a3, a4⟩ := seekM24 hn h (rec := X10_seeksWarmest_K R)
    unfold wS
    rcases hA with ⟨z1, z2⟩ | ⟨z1, z2, z3⟩
    · rw [z1, if_pos rfl, z2, if_neg (ne1_of_rng (wmt_rng hw pre))]
      exact ⟨μ', a1, a2, a3, a4⟩
    · rw [z1, if_neg (show ¬ (1 : Int32) = 0 by decide), if_neg (show ¬ ob (nI pre.length) 6 by rw [ob_iff (by decide), tiI (by omega)]; omega), tnI (by omega), h.2.2.w, z3]
      by_cases c : wmt e pre ≤ a.1
      · rw [if_pos c, if_pos c]
        exact ⟨μ, rfl, h, Or.inr ⟨z1, z2, z3⟩, EM.refl μ⟩
      · rw [if_neg c, if_neg c]
        exact ⟨μ', a1, a2, a3, a4⟩
  | succ d ih =>
    intro R pre μ M a h hM hab hd hR hA
    obtain ⟨R', rfl⟩ : ∃ R', R = R' + 1 := ⟨R - 1, by omega⟩
    have hl := h.2.1.len
    unfold X10_seeksWarmest
    rw [if_neg (fun q => absurd ((hM.zero hn h.2.1 hab hd).mp q) (by omega))]
    have loop : ∀ (c i F : Nat) (μ : St) (a : Int32 × Int32), i + c = e.n → c < F → HoldM e pre μ → AccW a μ → ∃ μ', X10_seeksWarmest_b48 (X10_seeksWarmest_K (R' + 1)) F (nI M) (nI pre.length) (dgI pre) (nI i) μ = some μ' ∧ HoldM e pre μ' ∧ AccW (lpF (fun g a => if g = ab ∨ g ∈ pre then a else wS e ab d (g :: pre) a) c i a) μ' ∧ EM μ μ' := by
      intro c
      induction c with
      | zero =>
        intro i F μ a hi hF h hA
        obtain ⟨F', rfl⟩ : ∃ F', F = F' + 1 := ⟨F - 1, by omega⟩
        rw [X10_seeksWarmest_b48, h.1.1, if_pos (show nI e.n ≤ nI i by rw [nI_leI (by omega) (by omega)]; omega)]
        exact ⟨μ, rfl, h, hA, EM.refl μ⟩
      | succ c ihc =>
        intro i F μ a hi hF h hA
        obtain ⟨F', rfl⟩ : ∃ F', F = F' + 1 := ⟨F - 1, by omega⟩
        rw [X10_seeksWarmest_b48, h.1.1, if_neg (show ¬ nI e.n ≤ nI i by rw [nI_leI (by omega) (by omega)]; omega), nI_1, nI_1]
        unfold lpF
        by_cases c1 : i = ab ∨ i ∈ pre
        · rw [if_neg (fun q => by have := (hM.bit (show i < 5 by omega)).mp q; exact c1.elim this.2.1 this.2.2), if_pos c1]
          exact ihc (i + 1) F' μ a (by omega) (by omega) h hA
        · have c2 : i ≠ ab := fun q => c1 (Or.inl q)
          have c3 : i ∉ pre := fun q => c1 (Or.inr q)
          rw [if_pos ((hM.bit (show i < 5 by omega)).mpr ⟨by omega, c2, c3⟩), if_neg c1]
          obtain ⟨μ1, a1, a2, a3⟩ := comes_eq ho h (g := i) (by omega) c3
          obtain ⟨M', m1, m2⟩ := hM.take (show i < 5 by omega)
          obtain ⟨μ2, b1', b2, b3, b4⟩ := ih R' (i :: pre) μ1 M' a a2 m2 (fun q => by
            rcases List.mem_cons.mp q with q | q
            · exact c2 q.symm
            · exact hab q) (by simp only [List.length_cons]; omega) (by omega) (hA.keep (fun b p q => a3 _ _ (by decide) (by omega)))
          obtain ⟨μ3, c1', c2', c3', c4⟩ := ihc (i + 1) F' μ2 (wS e ab d (i :: pre) a) (by omega) (by omega) b2.tail b3
          refine ⟨μ3, ?_, c2', c3', (a3.em.trans b4).trans c4⟩
          rw [a1, Option.bind_some, m1, show (10 : Int32) * dgI pre + nI i + 1 = dgI (i :: pre) by rw [Int32.mul_comm]; rfl]
          rw [show X10_seeksWarmest_K (R' + 1) (nI M') (nI (pre.length + 1)) (dgI (i :: pre)) μ1 = some μ2 from b1', Option.bind_some]
          exact c1'
    exact loop e.n 0 FU μ a (by omega) (by rw [FU_eq]; omega) h hA
/-- what the warmest is -/
def wB (e : Evg) (ab : Nat) : Int32 × Int32 := wS e ab (allN e.n ab) [] (-1, 0)
theorem wS_found {e : Evg} (ho : EnvOk e) (hw : rng 0 99 e.w0) {ab : Nat} : ∀ (d : Nat) (pre : List Nat) (a : Int32 × Int32), OkP e pre → ab ∉ pre → pre.length + d = allN e.n ab → (∀ a1, a1.1 ≠ -1 → (wS e ab d pre a1).1 ≠ -1) ∧ (wS e ab d pre a).1 ≠ -1 := by
  have hn := ho.1
  intro d
  induction d with
  | zero =>
    intro pre a hO hab hd
    have w1 : wmt e pre ≠ -1 := fun q => ne1_of_rng (wmt_rng hw pre) (by rw [q]; decide)
    have go : ∀ a1 : Int32 × Int32, (wS e ab 0 pre a1).1 ≠ -1 := fun a1 => by
      unfold wS
      by_cases c : wmt e pre ≤ a1.1
      · rw [if_pos c]
        intro q
        rw [q] at c
        exact ne1_of_rng (wmt_rng hw pre) c
      · rw [if_neg c]
        exact w1
    exact ⟨fun a1 _ => go a1, go a⟩
  | succ d ih =>
    intro pre a hO hab hd
    have keepL : ∀ (c i : Nat) (a1 : Int32 × Int32), i + c = e.n → a1.1 ≠ -1 → (lpF (fun g a => if g = ab ∨ g ∈ pre then a else wS e ab d (g :: pre) a) c i a1).1 ≠ -1 := by
      intro c
      induction c with
      | zero => intro i a1 _ h; exact h
      | succ c ihc =>
        intro i a1 hi h
        unfold lpF
        refine ihc _ _ (by omega) ?_
        by_cases c1 : i = ab ∨ i ∈ pre
        · rw [if_pos c1]; exact h
        · rw [if_neg c1]
          refine (ih (i :: pre) a1 ⟨List.nodup_cons.mpr ⟨fun q => c1 (Or.inr q), hO.1⟩, fun x hx => ?_⟩ (fun q => ?_) (by simp only [List.length_cons]; omega)).1 a1 h
          · rcases List.mem_cons.mp hx with rfl | hx
            · omega
            · exact hO.2 x hx
          · rcases List.mem_cons.mp q with q | q
            · exact c1 (Or.inl q.symm)
            · exact hab q
    have one : ∃ g, g < e.n ∧ g ≠ ab ∧ g ∉ pre := by
      refine Decidable.byContradiction fun q => ?_
      have cov : ∀ g, g < e.n → g ∈ ab :: pre := fun g hg => by
        by_cases c : g = ab
        · exact c ▸ List.mem_cons_self
        · exact List.mem_cons_of_mem _ (Decidable.byContradiction fun z => q ⟨g, hg, c, z⟩)
      unfold allN at hd
      by_cases c : ab < e.n
      · have := cover _ _ cov
        rw [if_pos c] at hd
        simp only [List.length_cons] at this
        omega
      · have := cover e.n pre (fun g hg => by
          rcases List.mem_cons.mp (cov g hg) with rfl | z
          · exact absurd hg c
          · exact z)
        rw [if_neg c] at hd
        omega
    obtain ⟨g, g1, g2, g3⟩ := one
    have hitL : ∀ (c i : Nat) (a1 : Int32 × Int32), i + c = e.n → i ≤ g → (lpF (fun g a => if g = ab ∨ g ∈ pre then a else wS e ab d (g :: pre) a) c i a1).1 ≠ -1 := by
      intro c
      induction c with
      | zero => intro i a1 hi hg; omega
      | succ c ihc =>
        intro i a1 hi hg
        unfold lpF
        by_cases cg : i = g
        · subst cg
          refine keepL _ _ _ (by omega) ?_
          rw [if_neg (fun q => q.elim g2 g3)]
          refine (ih (i :: pre) a1 ⟨List.nodup_cons.mpr ⟨g3, hO.1⟩, fun x hx => ?_⟩ (fun q => ?_) (by simp only [List.length_cons]; omega)).2
          · rcases List.mem_cons.mp hx with rfl | hx
            · omega
            · exact hO.2 x hx
          · rcases List.mem_cons.mp q with q | q
            · exact g2 q.symm
            · exact hab q
        · exact ihc _ _ (by omega) (by omega)
    exact ⟨fun a1 h => keepL e.n 0 a1 (by omega) h, hitL e.n 0 a (by omega) (by omega)⟩
theorem seekWarmest_eq {e : Evg} (ho : EnvOk e) {ab : Nat} {l1 : Int32} (h1 : (l1 = -1 ∧ ab = 9) ∨ (l1 = nI ab ∧ ab < e.n)) {σ : St} (hE : EnvX e σ) : ∃ σ', X0_seekWarmest l1 σ = some σ' ∧ σ'.1 34 2 = (wB e ab).1 ∧ σ'.1 34 3 = (wB e ab).2 ∧ EX σ σ' := by
  have hn := ho.1
  have h3 : ∀ i, i < 5 → (nI i = l1 ↔ i = ab) := fun i hi => by
    rcases h1 with ⟨rfl, rfl⟩ | ⟨rfl, h⟩
    · exact ⟨fun q => absurd q (nI_ne1 (by omega)), fun q => by omega⟩
    · exact nI_eq (by omega) (by omega)
  have x0 : EX σ (up (up σ 34 2 (-1)) 34 3 0) := fun x y q => by
    have : x ≠ 34 := fun z => by subst z; exact Bool.noConfusion (show true = false from q)
    rw [up_lo this, up_lo this]
  obtain ⟨σ1, a1, a2, a3⟩ := begin_eq ho.2.1 (hE.keep ho.2.1 x0)
  have q2 : σ1.1 34 2 = -1 := by rw [a3 _ _ (by decide) (by decide), up_pl (by decide), up_eq]
  have q3 : σ1.1 34 3 = 0 := by rw [a3 _ _ (by decide) (by decide), up_eq]
  obtain ⟨σ2, b1', b2, b3, b4, b5⟩ := wSX ho h3 (allN e.n ab) FR [] σ1 (-1, 0) a2 (by simp) (Nat.le_trans allN_le (Nat.le_trans hn (by decide))) q2 q3
  refine ⟨σ2, ?_, b3, b4, (x0.trans a3.ex).trans b5⟩
  unfold X0_seekWarmest
  rw [a1, Option.bind_some, has_eq hn a2.1.1, Option.bind_some, a2.1.1]
  unfold X0_seekWarmest_b49
  have b1'' : X0_seekWarmestBehind (X0_seekWarmestBehind_K FR) 0 (nI (allN e.n ab)) l1 σ1 = some σ2 := b1'
  rcases h1 with ⟨rfl, rfl⟩ | ⟨rfl, h⟩
  · have e1 : allN e.n 9 = e.n := by unfold allN; rw [if_neg (by omega)]
    rw [e1] at b1''
    rw [if_neg (show ¬ (0 ≤ (-1 : Int32).toInt ∧ (-1 : Int32).toInt < (e.n : Int)) from fun q => absurd q.1 (by decide)), if_pos rfl, b1'', Option.bind_some]
  · have e1 : allN e.n ab = e.n - 1 := by unfold allN; rw [if_pos h]
    rw [e1] at b1''
    rw [tiI (by omega), if_pos (show (0 : Int) ≤ ((ab : Nat) : Int) ∧ ((ab : Nat) : Int) < (e.n : Int) by omega), if_neg (show ¬ (1 : Int32) = 0 by decide), show nI e.n - 1 = nI (e.n - 1) from pk_sub (b := 1) (by omega), b1'', Option.bind_some]
theorem warmestOf_eq {e : Evg} (ho : EnvOk e) (hw : rng 0 99 e.w0) {ab M : Nat} (hM : SetM e.n ab [] M) {μ : St} (hE : EnvM e μ) : ∃ μ', X10_warmestOf (nI M) μ = some ((wB e ab).1, μ') ∧ μ'.1 0 32 = (wB e ab).2 ∧ EM μ μ' := by
  have hn := ho.1
  obtain ⟨μ1, a1, a2, a3⟩ := begins_eq hE
  have x1 : EM μ1 (up μ1 0 31 0) := fun x y q => by
    rw [up_get, if_neg (fun z => by obtain ⟨rfl, rfl⟩ := z; exact Bool.noConfusion (show true = false from q))]
  have h1 : HoldM e [] (up μ1 0 31 0) := ⟨a2.1.keep x1, a2.2.1, a2.2.2⟩
  obtain ⟨μ2, b1', b2, b3, b4⟩ := wSM ho hw (ab := ab) (allN e.n ab) FR [] (up μ1 0 31 0) M (-1, 0) h1 hM List.not_mem_nil (by simp) (Nat.le_trans allN_le (Nat.le_trans hn (by decide))) (Or.inl ⟨up_eq, rfl⟩)
  have f := (wS_found ho hw (ab := ab) (allN e.n ab) [] (-1, 0) ⟨List.nodup_nil, fun g hg => absurd hg List.not_mem_nil⟩ List.not_mem_nil (by simp)).2
  rcases b3 with ⟨z1, z2⟩ | ⟨z1, z2, z3⟩
  · exact absurd z2 f
  · refine ⟨μ2, ?_, z2, (a3.em.trans x1).trans b4⟩
    unfold X10_warmestOf
    rw [a1, Option.bind_some, show X10_seeksWarmest (X10_seeksWarmest_K FR) (nI M) 0 0 (up μ1 0 31 0) = some μ2 from b1', Option.bind_some, z3]
    rfl
