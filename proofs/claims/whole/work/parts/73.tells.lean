def okJ (n j : Nat) : Prop := j ≤ 4 ∨ (10 ≤ j ∧ j < 40 ∧ j % 10 < n)
theorem rem10 {j : Nat} (h : j < 2 ^ 31) : nI j - nI j / 10 * 10 = nI (j % 10) := by
  rw [show (10 : Int32) = nI 10 from rfl, pk_rem h (by decide) (by decide)]
theorem asked_eq {n : Nat} (hn : n ≤ 5) {σ : St} (h5 : σ.1 1 5 = nI n) {j : Nat} (hj : j < 2 ^ 31) : X9_mayBeAskedOfTold (nI j) σ = if j ≤ 4 then some 1 else if 10 ≤ j ∧ j < 40 ∧ j % 10 < n then some 1 else some 0 := by
  unfold X9_mayBeAskedOfTold X9_mayBeAskedOfTold_b9
  rw [if_neg (nI_pos hj), rem10 hj, has_eq hn h5, tiI (by omega)]
  by_cases c : j ≤ 4
  · rw [if_pos c, if_pos (show nI j ≤ 4 by rw [show (4 : Int32) = nI 4 from rfl, nI_leI hj (by decide)]; exact c)]
  · rw [if_neg c, if_neg (show ¬ nI j ≤ 4 by rw [show (4 : Int32) = nI 4 from rfl, nI_leI hj (by decide)]; exact c)]
    by_cases c1 : j < 10
    · rw [if_pos (show nI j < 10 by rw [show (10 : Int32) = nI 10 from rfl, nI_ltI hj (by decide)]; exact c1), if_neg (by omega)]
    · rw [if_neg (show ¬ nI j < 10 by rw [show (10 : Int32) = nI 10 from rfl, nI_ltI hj (by decide)]; exact c1)]
      by_cases c2 : 40 ≤ j
      · rw [if_pos (show 40 ≤ nI j by rw [show (40 : Int32) = nI 40 from rfl, nI_leI (by decide) hj]; exact c2), if_neg (by omega)]
      · rw [if_neg (show ¬ 40 ≤ nI j by rw [show (40 : Int32) = nI 40 from rfl, nI_leI (by decide) hj]; exact c2), Option.bind_some]
        by_cases c3 : j % 10 < n
        · rw [if_pos (show (0 : Int) ≤ ((j % 10 : Nat) : Int) ∧ ((j % 10 : Nat) : Int) < (n : Int) by omega), if_neg ne10, if_pos ⟨by omega, by omega, c3⟩]
        · rw [if_neg (show ¬ ((0 : Int) ≤ ((j % 10 : Nat) : Int) ∧ ((j % 10 : Nat) : Int) < (n : Int)) by omega), if_pos rfl, if_neg (fun q => c3 q.2.2)]
theorem tellsM_eq {n : Nat} (hn : n ≤ 5) {μ : St} (h11 : μ.1 0 11 = nI n) {s : Nat} (hs : s < 4) {j : Nat} (hj : j < 2 ^ 31) : X10_tells (nI s) (nI j) μ = if j ≤ 4 then X10_tells_b57 (nI s) (nI j) μ else if 10 ≤ j ∧ j < 40 ∧ j % 10 < n then X10_tells_b57 (nI s) (nI j) μ else some (-2, μ) := by
  have e30 : ∀ s0 : Int32, X10_tells_b30 (nI s) (nI j) s0 μ = if j ≤ 4 then X10_tells_b57 (nI s) (nI j) μ else if s0 = 0 then some (-2, μ) else X10_tells_b57 (nI s) (nI j) μ := fun s0 => by
    unfold X10_tells_b30
    rw [isSheet_eq, Option.bind_some, tiI (show s < 2 ^ 31 by omega), if_pos (show (0 : Int) ≤ ((s : Nat) : Int) ∧ ((s : Nat) : Int) < 4 by omega), if_neg ne10, in_i, Option.bind_some, show (0 : Int64).toInt = 0 by decide, show (4 : Int64).toInt = 4 by decide, tiI hj]
    by_cases c : j ≤ 4
    · rw [if_pos c, if_pos (show (0 : Int) ≤ ((j : Nat) : Int) ∧ ((j : Nat) : Int) ≤ 4 by omega), if_neg ne10]
    · rw [if_neg c, if_neg (show ¬ ((0 : Int) ≤ ((j : Nat) : Int) ∧ ((j : Nat) : Int) ≤ 4) by omega), if_pos rfl]
  unfold X10_tells
  rw [in_i, Option.bind_some, show (10 : Int64).toInt = 10 by decide, show (39 : Int64).toInt = 39 by decide, tiI hj, rem10 hj, isOne_eq hn h11, Option.bind_some, tiI (by omega), e30, e30]
  by_cases c : j ≤ 4
  · simp only [if_pos c, ite_self]
  · rw [if_neg c, if_neg c, if_neg c, if_pos rfl, if_neg ne10]
    by_cases c1 : (10 : Int) ≤ (j : Int) ∧ (j : Int) ≤ 39
    · rw [if_pos c1, if_neg ne10]
      by_cases c3 : j % 10 < n
      · rw [if_pos (show (0 : Int) ≤ ((j % 10 : Nat) : Int) ∧ ((j % 10 : Nat) : Int) < (n : Int) by omega), if_neg ne10, if_pos ⟨by omega, by omega, c3⟩]
      · rw [if_neg (show ¬ ((0 : Int) ≤ ((j % 10 : Nat) : Int) ∧ ((j % 10 : Nat) : Int) < (n : Int)) by omega), if_pos rfl, if_neg (fun q => c3 q.2.2)]
    · rw [if_neg c1, if_pos rfl, if_neg (by omega)]
theorem tells114 {n : Nat} (hn : n ≤ 5) (l1 l2 : Int32) : ∀ (c i F : Nat) (μ : St), i + c = n → c < F → μ.1 0 11 = nI n → (∀ g, g < i → μ.1 11 g = 0) → ∃ μ', X10_tells_b114 F l1 l2 (nI i) μ = (X10_begins μ').bind (fun x138 => (X10_everybody x138).bind (fun x144 => (X10_seeksWays (X10_seeksWays_K FR) l1 x144 0 0 x138).bind (fun x149 => if l2 = 0 then (some ((x149.1 0 35), x149)) else (if l2 = 1 then (some ((x149.1 0 36), x149)) else ((X10_sure x149).bind (fun x176 => some (x176, x149))))))) ∧ (∀ g, g < n → μ'.1 11 g = 0) ∧ ∀ a b, a ≠ 11 → μ'.1 a b = μ.1 a b := by
  intro c
  induction c with
  | zero =>
    intro i F μ hi hF h11 hz
    obtain ⟨F', rfl⟩ : ∃ F', F = F' + 1 := ⟨F - 1, by omega⟩
    refine ⟨μ, ?_, fun g hg => hz g (by omega), fun _ _ _ => rfl⟩
    rw [X10_tells_b114, h11, if_pos (show nI n ≤ nI i by rw [nI_leI (by omega) (by omega)]; omega)]
  | succ c ih =>
    intro i F μ hi hF h11 hz
    obtain ⟨F', rfl⟩ : ∃ F', F = F' + 1 := ⟨F - 1, by omega⟩
    obtain ⟨μ', a1, a2, a3⟩ := ih (i + 1) F' (up μ 11 i 0) (by omega) (by omega) ((up_lo (by decide)).trans h11) (fun g hg => by
      by_cases z : g = i
      · subst z
        rw [up_eq]
      · rw [up_pl z]
        exact hz g (by omega))
    refine ⟨μ', ?_, a2, fun a b q => by rw [a3 a b q, up_lo q]⟩
    rw [X10_tells_b114, h11, if_neg (show ¬ nI n ≤ nI i by rw [nI_leI (by omega) (by omega)]; omega), if_neg (show ¬ ob (nI i) 5 by rw [ob_iff (by decide), tiI (by omega)]; omega), tnI (by omega), nI_1]
    exact a1
theorem ways_eq {e : Evg} {a : List (List Nat)} {σ μ : St} (hX : WX e a σ) (hM : WM e a μ) : σ.1 35 4 = μ.1 0 35 ∧ σ.1 35 5 = μ.1 0 36 := by
  obtain ⟨w1, w2, w3, w4⟩ := hM
  cases a with
  | nil => exact ⟨hX.1.trans w1.symm, hX.2.1.trans (w3 rfl).symm⟩
  | cons v rest => exact ⟨hX.2.1.trans w1.symm, hX.2.2.1.trans (w2 v rest rfl).symm⟩
def aX (k g : Nat) (v : Int32) (f : Nat → Int32) : Nat → Int32 := fun x => if x = g then v else f x
theorem aX_get {σ : St} {k g x : Nat} {v : Int32} {f : Nat → Int32} (h : x ≠ g → σ.1 k x = f x) : (up σ k g v).1 k x = aX k g v f x := by
  unfold aX
  by_cases z : x = g
  · subst z
    rw [up_eq, if_pos rfl]
  · rw [up_pl z, if_neg z, h z]
theorem sim_tells : Sim_tells Rel := by
  intro a w σ μ ⟨n, t, k, ev, hR⟩
  have hRel : Rel σ μ := ⟨n, t, k, ev, hR⟩
  obtain ⟨n1, n2, n3, n4, n5, n6, n7, n8, n9, n10⟩ := id hR.1
  by_cases c0 : 0 ≤ a.toInt ∧ a.toInt < 4
  · rcases i_cases a with h | ⟨s, hs, rfl⟩
    · omega
    rw [tiI hs] at c0
    have s4 : s < 4 := by omega
    have hob : ¬ ob (nI s) 4 := by rw [ob_iff (by decide), tiI (by omega)]; omega
    rcases i_cases w with hw | ⟨j, hj, rfl⟩
    · refine ⟨-2, σ, μ, ?_, ?_, hRel⟩
      · unfold X9_tells
        rw [sheetOf_s s4, Option.bind_some]
        dsimp only [Option.elim]
        unfold X9_mayBeAskedOfTold X9_mayBeAskedOfTold_b9
        rw [if_pos (show w < 0 by rw [lt0I]; exact hw), if_pos (show w < 10 by rw [Int32.lt_iff_toInt_lt, show (10 : Int32).toInt = 10 by decide]; omega), Option.bind_some, if_pos rfl]
      · unfold X10_tells
        rw [in_i, Option.bind_some, show (10 : Int64).toInt = 10 by decide, show (39 : Int64).toInt = 39 by decide, if_neg (show ¬ (10 ≤ w.toInt ∧ w.toInt ≤ 39) by omega), if_pos rfl]
        unfold X10_tells_b30
        rw [isSheet_eq, Option.bind_some, tiI hs, if_pos (show (0 : Int) ≤ ((s : Nat) : Int) ∧ ((s : Nat) : Int) < 4 by omega), if_neg ne10, in_i, Option.bind_some, show (0 : Int64).toInt = 0 by decide, show (4 : Int64).toInt = 4 by decide, if_neg (show ¬ (0 ≤ w.toInt ∧ w.toInt ≤ 4) by omega), if_pos rfl, if_pos rfl]
    rw [tellsM_eq n1 n6 s4 hj]
    by_cases ok : okJ n j
    · have eX : X9_tells (nI s) (nI j) σ = (X6_isMissing (38 + 2 * s) σ).bind (fun x22 => if x22 = 0 then (if (σ.1 (38 + 2 * s) 2) = (σ.1 1 5) then (if nI j < 10 then (if nI j = 3 then ((X3_firstOtherwise (38 + 2 * s) σ).bind (fun x105 => some (x105.1, x105.2))) else (if nI j = 4 then ((X3_fittingTexts (38 + 2 * s) (σ.1 13 5) σ).bind (fun x121 => some (x121.1, x121.2))) else ((X3_seekWays (38 + 2 * s) σ).bind (fun x130 => if nI j = 0 then (some ((x130.1 35 4), x130)) else (if nI j = 1 then (some ((x130.1 35 5), x130)) else (some ((x130.1 35 6), x130))))))) else ((X3_fitting (38 + 2 * s) (nI j / 10) (nI j - nI j / 10 * 10) σ).bind (fun x67 => some (x67.1, x67.2)))) else (some ((-2), σ))) else (some ((-11), σ))) := by
        unfold X9_tells
        rw [sheetOf_s s4, Option.bind_some]
        dsimp only [Option.elim]
        have hm : X9_mayBeAskedOfTold (nI j) σ = some 1 := by
          rw [asked_eq n1 n5 hj]
          rcases ok with ok | ok
          · rw [if_pos ok]
          · rw [if_neg (by omega), if_pos ok]
        rw [hm, Option.bind_some, if_neg ne10, if_pos (oS s4)]
      have eM : (if j ≤ 4 then X10_tells_b57 (nI s) (nI j) μ else if 10 ≤ j ∧ j < 40 ∧ j % 10 < n then X10_tells_b57 (nI s) (nI j) μ else some (-2, μ)) = X10_tells_b57 (nI s) (nI j) μ := by
        rcases ok with ok | ok
        · rw [if_pos ok]
        · rw [if_neg (by omega), if_pos ok]
      rw [eX, eM]
      clear eX eM
      have e57 : X10_tells_b57 (nI s) (nI j) μ = (if (μ.1 15 s) = 0 then (some ((-11), μ)) else (if (μ.1 17 s) = (μ.1 0 11) then (if nI j = 3 then ((X10_firstOther (nI s) μ).bind (fun x92 => some (x92.1, x92.2))) else (if 3 ≤ nI j then (if nI j = 4 then (X10_tells_b218 (nI s) (nI j - nI j / 10 * 10) 7 μ) else (if 20 ≤ nI j then (if 30 ≤ nI j then (X10_tells_b218 (nI s) (nI j - nI j / 10 * 10) 4 μ) else (X10_tells_b218 (nI s) (nI j - nI j / 10 * 10) 3 μ)) else (X10_tells_b218 (nI s) (nI j - nI j / 10 * 10) 6 μ))) else (X10_tells_b114 FU (nI s) (nI j) 0 (up (up μ 0 35 0) 0 36 0)))) else (some ((-2), μ)))) := by
        unfold X10_tells_b57
        rw [if_neg hob, if_neg hob, tnI hs]
      rw [e57]
      clear e57
      rcases hR.2.2.2.2.2.2 s s4 with ⟨q1, q2⟩ | ⟨z, o, q1, q2, q3, q4, q5, q6, q7, q8⟩
      · rw [miss_yes s4 q1, Option.bind_some, if_neg ne10, q2, if_pos rfl]
        exact ⟨-11, σ, μ, rfl, rfl, hRel⟩
      rw [miss_no s4 q2 q3, Option.bind_some, if_pos rfl, q4, if_neg ne10, q6, q7, n5, n6]
      by_cases hz : z = n
      · subst hz
        rw [if_pos rfl, if_pos rfl]
        obtain ⟨r, -, r2, ho, hEX, hEM⟩ := env_of hR
        have hxX : ∀ i, i < z → σ.1 (39 + 2 * s) i = (σ.1 (39 + 2 * s)) i := fun _ _ => rfl
        have hxM : ∀ i, i < z → μ.1 18 (40 * s + i) = (σ.1 (39 + 2 * s)) i := fun i hi => (q8 i hi).symm
        have lit : ∀ m : Nat, m < 2 ^ 31 → (nI j = nI m ↔ j = m) := fun m hm => nI_eq hj hm
        by_cases j3 : j = 3
        · subst j3
          obtain ⟨σ', a1, a2⟩ := foX ho s4 (x := σ.1 (39 + 2 * s)) hEX q6 (fun _ _ => rfl)
          obtain ⟨μ', b1', b2⟩ := foM ho s4 (x := σ.1 (39 + 2 * s)) hEM hxM
          rw [if_pos (show nI 3 < 10 by decide), if_pos (show nI 3 = 3 from rfl), if_pos (show nI 3 = 3 from rfl), a1, b1']
          exact ⟨_, σ', μ', rfl, rfl, z, t, k, ev, hR.frame a2.ex b2.em⟩
        rw [if_neg (show ¬ nI j = 3 from fun q => j3 ((lit 3 (by decide)).mp q)), if_neg (show ¬ nI j = 3 from fun q => j3 ((lit 3 (by decide)).mp q))]
        by_cases j4 : j = 4
        · subst j4
          rw [if_pos (show nI 4 < 10 by decide), if_pos (show nI 4 = 4 from rfl), if_pos (show 3 ≤ nI 4 by decide), if_pos (show nI 4 = 4 from rfl), n9]
          have kk : k < 10 := by omega
          have hO : ∀ v, v < k → EnvOk ((envOf z r ev σ).wR v (ev v)) ∧ ((envOf z r ev σ).wR v (ev v)).n = z := fun v hv => ⟨⟨ho.1, show v < 6 by omega, ho.2.2⟩, rfl⟩
          obtain ⟨σ', a1, a2⟩ := fitTX (n := z) (s := s) (k := k) (own := σ.1 1 4) s4 kk (E := fun v => (envOf z r ev σ).wR v (ev v)) (x := σ.1 (39 + 2 * s)) (σ0 := σ) hO (fun v τ hv hP => hEX.wR (fun x y q p => by rw [up_get, if_neg p]; exact hP x y q p) up_eq (hR.2.2.2.2.1 v hv).1 (by omega)) rfl q6 (fun _ _ => rfl) k 0 FU 0 σ (by omega) (by rw [FU_eq]; omega) (fun _ _ _ _ => rfl)
          obtain ⟨μ', b1', b2⟩ := fitM (n := z) (s := s) (mc := 0) (mi := 4) (most := k - 1) (l4 := nI (4 % 10)) (l5 := 7) (own := μ.1 0 4) s4 (by decide) (by omega) (E := fun v => (envOf z r ev σ).wR v (ev v)) (x := σ.1 (39 + 2 * s)) (μ0 := μ) (fun v hv => hO v (by omega)) (fun v τ => lays_rule _ v) (fun v τ hv hP => hEM.wR (fun x y q p => by rw [up_get, if_neg p]; exact hP x y q p) up_eq (hR.2.2.2.2.1 v (by omega)).2) rfl hxM k 0 FU 0 μ (by omega) (by rw [FU_eq]; omega) (fun _ _ _ _ => rfl)
          have e1 : X3_fittingTexts (38 + 2 * s) (nI k) σ = some (fitB (fun v => foS ((envOf z r ev σ).wR v (ev v)) (σ.1 (39 + 2 * s)) z 0) k 0 0, σ') := a1
          have e2 : X10_tells_b218 (nI s) (nI 4 - nI 4 / 10 * 10) 7 μ = some (fitB (fun v => foS ((envOf z r ev σ).wR v (ev v)) (σ.1 (39 + 2 * s)) z 0) k 0 0, μ') := by
            rw [rem10 (by decide)]
            unfold X10_tells_b218
            rw [if_pos rfl]
            unfold X10_tells_b242
            rw [if_pos rfl, n10, show nI k - 1 = nI (k - 1) from pk_sub (b := 1) (by omega)]
            exact b1'
          rw [e1, e2]
          exact ⟨_, σ', μ', rfl, rfl, z, t, k, ev, hR.frame a2 b2⟩
        by_cases j2 : j < 3
        · rw [if_pos (show nI j < 10 by rw [show (10 : Int32) = nI 10 from rfl, nI_ltI hj (by decide)]; omega), if_neg (show ¬ nI j = 4 from fun q => j4 ((lit 4 (by decide)).mp q)), if_neg (show ¬ 3 ≤ nI j by rw [show (3 : Int32) = nI 3 from rfl, nI_leI (by decide) hj]; omega)]
          have hz5 : z ≤ 5 := n1
          have xs : EX σ (up (up (up σ 35 4 0) 35 5 0) 35 6 0) := ((ex_up (by decide) (by decide)).trans (ex_up (by decide) (by decide))).trans (ex_up (by decide) (by decide))
          obtain ⟨σ1, a1, a2, a3⟩ := begin_eq ho.2.1 (hEX.keep ho.2.1 xs)
          have W0 : WX (envOf z r ev σ) [] σ1 := ⟨by rw [a3 _ _ (by decide) (by decide), up_pl (by decide), up_pl (by decide), up_eq], by rw [a3 _ _ (by decide) (by decide), up_pl (by decide), up_eq], by rw [a3 _ _ (by decide) (by decide), up_eq]⟩
          have xs1 := xs.trans a3.ex
          have hz5' : (5 : Nat) ^ z ≤ 5 ^ 5 := Nat.pow_le_pow_right (by decide) hz5
          obtain ⟨σ2, d1, d2, d3, d4⟩ := gSX ho s4 (x := σ.1 (39 + 2 * s)) z FR [] σ1 [] a2 (show ([] : List Nat).length + z = z by simp) (Nat.le_trans hz5 (by decide)) W0 (by simp only [List.length_nil]; omega) ((xs1 _ _ (sc_she s4 2).1).trans q6) (fun i _ => xs1 _ _ (sc_she s4 i).2)
          have eS : X3_seekWays (38 + 2 * s) σ = some σ2 := by
            unfold X3_seekWays
            rw [a1, Option.bind_some, show X3_seekWaysBehind (X3_seekWaysBehind_K FR) 0 (38 + 2 * s) σ1 = _ from d1, Option.bind_some]
          have ys : EM μ (up (up μ 0 35 0) 0 36 0) := (em_up0 (by decide) (by decide)).trans (em_up0 (by decide) (by decide))
          obtain ⟨μ1, p1, p2, p3⟩ := tells114 hz5 (nI s) (nI j) z 0 FU (up (up μ 0 35 0) 0 36 0) (by omega) (by rw [FU_eq]; omega) (by rw [up_pl (by decide), up_pl (by decide)]; exact n6) (fun g hg => by omega)
          have ys1 : EM μ μ1 := ys.trans (fun x y q => p3 x y (fun v => by subst v; exact Bool.noConfusion (show true = false from q)))
          obtain ⟨μ2, f1, f2, f3⟩ := begins_eq (hEM.keep ys1)
          have WM0 : WM (envOf z r ev σ) [] μ2 := by
            refine ⟨?_, fun w1 rest q => absurd q (by simp), fun _ => ?_, fun g hg => ⟨0, by decide, ?_, fun p hp => ?_⟩⟩
            · rw [f3 _ _ (by decide) (by decide), p3 _ _ (by decide), up_pl (by decide), up_eq]
              rfl
            · rw [f3 _ _ (by decide) (by decide), p3 _ _ (by decide), up_eq]
            · rw [f3 _ _ (by decide) (by omega), p2 g hg]
              rfl
            · refine ⟨fun q => by simp at q, fun q => ?_⟩
              obtain ⟨w, w1, w2⟩ := q
              exact absurd w1 List.not_mem_nil
          obtain ⟨μ3, g1, g2, g3, g4⟩ := gSM ho s4 (x := σ.1 (39 + 2 * s)) z FR [] μ2 _ [] f2 (SetM.all (n := z) (ab := 9) hz5 (by decide)) (show ([] : List Nat).length + z = z by simp) (Nat.le_trans hz5 (by decide)) WM0 (by simp only [List.length_nil]; omega) (fun i hi => (f3 _ _ (by decide) (by omega)).trans ((ys1 _ _ rfl).trans (hxM i hi)))
          have eW : X10_seeksWays (X10_seeksWays_K FR) (nI s) (nI (2 ^ z - 1)) 0 0 μ2 = some μ3 := g1
          rw [eS, Option.bind_some, show X10_tells_b114 FU (nI s) (nI j) 0 (up (up μ 0 35 0) 0 36 0) = _ from p1, f1, Option.bind_some, everybody_eq hz5 f2.1.1, Option.bind_some, eW, Option.bind_some]
          have R' : Rel σ2 μ3 := ⟨z, t, k, ev, hR.frame (xs1.trans d4) ((ys1.trans f3.em).trans g4)⟩
          obtain ⟨v1, v2⟩ := ways_eq d3 g3
          have v3 := sure_eq ho (gS_full z [] [] ⟨List.nodup_nil, fun g hg => absurd hg List.not_mem_nil⟩ (show ([] : List Nat).length + z = z by simp) (fun w hw => absurd hw List.not_mem_nil)) d3 g3 g2.1.1
          by_cases j0 : j = 0
          · subst j0
            rw [if_pos (show nI 0 = 0 from rfl), if_pos (show nI 0 = 0 from rfl), v1]
            exact ⟨_, σ2, μ3, rfl, rfl, R'⟩
          · rw [if_neg (show ¬ nI j = 0 from fun q => j0 ((lit 0 (by decide)).mp q)), if_neg (show ¬ nI j = 0 from fun q => j0 ((lit 0 (by decide)).mp q))]
            by_cases j1 : j = 1
            · subst j1
              rw [if_pos (show nI 1 = 1 from rfl), if_pos (show nI 1 = 1 from rfl), v2]
              exact ⟨_, σ2, μ3, rfl, rfl, R'⟩
            · rw [if_neg (show ¬ nI j = 1 from fun q => j1 ((lit 1 (by decide)).mp q)), if_neg (show ¬ nI j = 1 from fun q => j1 ((lit 1 (by decide)).mp q)), v3, Option.bind_some]
              exact ⟨_, σ2, μ3, rfl, rfl, R'⟩
        · obtain ⟨o1, o2, o3⟩ : 10 ≤ j ∧ j < 40 ∧ j % 10 < z := ok.elim (fun q => by omega) id
          have hg5 : j % 10 < 5 := by omega
          have hdiv : nI j / 10 = nI (j / 10) := by rw [show (10 : Int32) = nI 10 from rfl, pk_div hj (by decide) (by decide)]
          rw [if_neg (show ¬ nI j < 10 by rw [show (10 : Int32) = nI 10 from rfl, nI_ltI hj (by decide)]; omega), if_pos (show 3 ≤ nI j by rw [show (3 : Int32) = nI 3 from rfl, nI_leI (by decide) hj]; omega), if_neg (show ¬ nI j = 4 from fun q => j4 ((lit 4 (by decide)).mp q)), rem10 hj, hdiv]
          generalize j % 10 = g at o3 hg5 ⊢
          obtain ⟨G1, G2, G3, G4, -⟩ := hR.2.2.1 g o3
          rcases (show j / 10 = 1 ∨ j / 10 = 2 ∨ j / 10 = 3 by omega) with jk | jk | jk
          · rw [jk, if_neg (show ¬ 20 ≤ nI j by rw [show (20 : Int32) = nI 20 from rfl, nI_leI (by decide) hj]; omega)]
            have hO : ∀ v, v ≤ 5 → EnvOk ((envOf z r ev σ).wK (aX 2 g (nI v) (envOf z r ev σ).K)) ∧ ((envOf z r ev σ).wK (aX 2 g (nI v) (envOf z r ev σ).K)).n = z := fun v hv => ⟨⟨ho.1, ho.2.1, fun y hy => ⟨(ho.2.2 y hy).1, by
              show rng 0 5 (aX 2 g (nI v) (envOf z r ev σ).K y)
              unfold aX
              by_cases c : y = g
              · rw [if_pos c]
                exact rngI (hi := 5) hv (by decide)
              · rw [if_neg c]
                exact (ho.2.2 y hy).2⟩⟩, rfl⟩
            obtain ⟨σ', a1, a2⟩ := fitX (n := z) (s := s) (row := 2) (g := g) (most := 5) (w := 6) (own := σ.1 2 g) s4 (by decide) hg5 (by decide) (E := fun v => (envOf z r ev σ).wK (aX 2 g (nI v) (envOf z r ev σ).K)) (x := σ.1 (39 + 2 * s)) (σ0 := σ) hO (fun v τ => change_eq (w := 6) v (by decide) hg5) (fun v τ hv hP => hEX.wK ho.2.1 (fun x y q p => by rw [up_lo p]; exact hP x y q (fun u => p u.1)) (fun y hy => aX_get (fun p => by rw [hP 2 y rfl (fun u => p u.2)]; rfl))) rfl q6 (fun _ _ => rfl) 6 0 FU 0 σ (by omega) (by rw [FU_eq]; omega) (fun _ _ _ _ => rfl)
            obtain ⟨μ', b1', b2⟩ := fitM (n := z) (s := s) (mc := 5) (mi := g) (most := 5) (l4 := nI g) (l5 := 6) (own := μ.1 5 g) s4 (by decide) (by decide) (E := fun v => (envOf z r ev σ).wK (aX 2 g (nI v) (envOf z r ev σ).K)) (x := σ.1 (39 + 2 * s)) (μ0 := μ) hO (fun v τ => lays_kind hg5 v) (fun v τ hv hP => hEM.wK (fun x y q p => by rw [up_lo p]; exact hP x y q (fun u => p u.1)) (fun y hy => (aX_get (fun p => by rw [hP 5 y rfl (fun u => p u.2)]; exact (hEM.2.2.2.2.2.1 y hy).1)))) rfl hxM 6 0 FU 0 μ (by omega) (by rw [FU_eq]; omega) (fun _ _ _ _ => rfl)
            have e1 : X3_fitting (38 + 2 * s) (nI 1) (nI g) σ = some (fitB (fun v => foS ((envOf z r ev σ).wK (aX 2 g (nI v) (envOf z r ev σ).K)) (σ.1 (39 + 2 * s)) z 0) 6 0 0, σ') := by
              unfold X3_fitting X3_fitting_b20
              rw [if_pos (show nI 1 = 1 from rfl), if_pos (show nI 1 = 1 from rfl)]
              unfold X3_fitting_b54
              rw [show X5_value 1 6 (nI g) σ = some (σ.1 2 g) from value_eq (w := 6) (by decide) hg5, Option.bind_some]
              exact a1
            have e2 : X10_tells_b218 (nI s) (nI g) 6 μ = some (fitB (fun v => foS ((envOf z r ev σ).wK (aX 2 g (nI v) (envOf z r ev σ).K)) (σ.1 (39 + 2 * s)) z 0) 6 0 0, μ') := by
              unfold X10_tells_b218
              rw [if_neg (show ¬ (6 : Int32) = 7 by decide), told_kind n1 n6 o3, Option.bind_some]
              unfold X10_tells_b242
              rw [if_neg (show ¬ (6 : Int32) = 7 by decide), if_pos rfl]
              exact b1'
            rw [e1, e2]
            exact ⟨_, σ', μ', rfl, rfl, z, t, k, ev, hR.frame a2 b2⟩
          · rw [jk, if_pos (show 20 ≤ nI j by rw [show (20 : Int32) = nI 20 from rfl, nI_leI (by decide) hj]; omega), if_neg (show ¬ 30 ≤ nI j by rw [show (30 : Int32) = nI 30 from rfl, nI_leI (by decide) hj]; omega)]
            have hO : ∀ v, v ≤ 9 → EnvOk ((envOf z r ev σ).wN (aX 3 g (nI v) (envOf z r ev σ).N)) ∧ ((envOf z r ev σ).wN (aX 3 g (nI v) (envOf z r ev σ).N)).n = z := fun v hv => ⟨⟨ho.1, ho.2.1, ho.2.2⟩, rfl⟩
            obtain ⟨σ', a1, a2⟩ := fitX (n := z) (s := s) (row := 3) (g := g) (most := 9) (w := 3) (own := σ.1 3 g) s4 (by decide) hg5 (by decide) (E := fun v => (envOf z r ev σ).wN (aX 3 g (nI v) (envOf z r ev σ).N)) (x := σ.1 (39 + 2 * s)) (σ0 := σ) hO (fun v τ => change_eq (w := 3) v (by decide) hg5) (fun v τ hv hP => hEX.wN ho.2.1 (fun x y q p => by rw [up_lo p]; exact hP x y q (fun u => p u.1)) (fun y hy => aX_get (fun p => by rw [hP 3 y rfl (fun u => p u.2)]; rfl))) rfl q6 (fun _ _ => rfl) 10 0 FU 0 σ (by omega) (by rw [FU_eq]; omega) (fun _ _ _ _ => rfl)
            obtain ⟨μ', b1', b2⟩ := fitM (n := z) (s := s) (mc := 6) (mi := 3 * g) (most := 9) (l4 := nI g) (l5 := 3) (own := μ.1 6 (3 * g)) s4 (by decide) (by decide) (E := fun v => (envOf z r ev σ).wN (aX 3 g (nI v) (envOf z r ev σ).N)) (x := σ.1 (39 + 2 * s)) (μ0 := μ) hO (fun v τ => lays_hi (w := 3) (by decide) hg5 v) (fun v τ hv hP => hEM.wN (fun x y q p => by rw [up_get, if_neg (by omega)]; exact hP x y q (by omega)) (fun y hy => by
              show (up τ 6 (3 * g) (nI v)).1 6 (3 * y) = aX 3 g (nI v) (envOf z r ev σ).N y
              unfold aX
              by_cases u : y = g
              · rw [u, up_eq, if_pos rfl]
              · rw [up_pl (by omega), if_neg u, hP 6 _ rfl (by omega)]
                exact (hEM.2.2.2.2.2.1 y hy).2.1)) rfl hxM 10 0 FU 0 μ (by omega) (by rw [FU_eq]; omega) (fun _ _ _ _ => rfl)
            have e1 : X3_fitting (38 + 2 * s) (nI 2) (nI g) σ = some (fitB (fun v => foS ((envOf z r ev σ).wN (aX 3 g (nI v) (envOf z r ev σ).N)) (σ.1 (39 + 2 * s)) z 0) 10 0 0, σ') := by
              unfold X3_fitting X3_fitting_b20
              rw [if_neg (show ¬ nI 2 = 1 by decide), if_pos (show nI 2 = 2 from rfl), if_neg (show ¬ nI 2 = 1 by decide), if_pos (show nI 2 = 2 from rfl)]
              unfold X3_fitting_b54
              rw [show X5_value 1 3 (nI g) σ = some (σ.1 3 g) from value_eq (w := 3) (by decide) hg5, Option.bind_some]
              exact a1
            have e2 : X10_tells_b218 (nI s) (nI g) 3 μ = some (fitB (fun v => foS ((envOf z r ev σ).wN (aX 3 g (nI v) (envOf z r ev σ).N)) (σ.1 (39 + 2 * s)) z 0) 10 0 0, μ') := by
              unfold X10_tells_b218
              rw [if_neg (show ¬ (3 : Int32) = 7 by decide), show X10_told (nI g) 3 μ = some (μ.1 6 (3 * g), μ) from told_hi (w := 3) n1 n6 (by decide) o3, Option.bind_some]
              unfold X10_tells_b242
              rw [if_neg (show ¬ (3 : Int32) = 7 by decide), if_neg (show ¬ (3 : Int32) = 6 by decide), show X10_mostOf 3 = some (nI 9) from rfl, Option.bind_some]
              exact b1'
            rw [e1, e2]
            exact ⟨_, σ', μ', rfl, rfl, z, t, k, ev, hR.frame a2 b2⟩
          · rw [jk, if_pos (show 20 ≤ nI j by rw [show (20 : Int32) = nI 20 from rfl, nI_leI (by decide) hj]; omega), if_pos (show 30 ≤ nI j by rw [show (30 : Int32) = nI 30 from rfl, nI_leI (by decide) hj]; omega)]
            have hO : ∀ v, v ≤ 7 → EnvOk ((envOf z r ev σ).wT (aX 4 g (nI v) (envOf z r ev σ).T)) ∧ ((envOf z r ev σ).wT (aX 4 g (nI v) (envOf z r ev σ).T)).n = z := fun v hv => ⟨ho.wT (fun y hy => by
              unfold aX
              by_cases c : y = g
              · rw [if_pos c]
                exact rngI (hi := 7) hv (by decide)
              · rw [if_neg c]
                exact (ho.2.2 y hy).1), rfl⟩
            obtain ⟨σ', a1, a2⟩ := fitX (n := z) (s := s) (row := 4) (g := g) (most := 7) (w := 4) (own := σ.1 4 g) s4 (by decide) hg5 (by decide) (E := fun v => (envOf z r ev σ).wT (aX 4 g (nI v) (envOf z r ev σ).T)) (x := σ.1 (39 + 2 * s)) (σ0 := σ) hO (fun v τ => change_eq (w := 4) v (by decide) hg5) (fun v τ hv hP => hEX.wT ho.2.1 (fun x y q p => by rw [up_lo p]; exact hP x y q (fun u => p u.1)) (fun y hy => aX_get (fun p => by rw [hP 4 y rfl (fun u => p u.2)]; rfl))) rfl q6 (fun _ _ => rfl) 8 0 FU 0 σ (by omega) (by rw [FU_eq]; omega) (fun _ _ _ _ => rfl)
            obtain ⟨μ', b1', b2⟩ := fitM (n := z) (s := s) (mc := 6) (mi := 3 * g + 1) (most := 7) (l4 := nI g) (l5 := 4) (own := μ.1 6 (3 * g + 1)) s4 (by decide) (by decide) (E := fun v => (envOf z r ev σ).wT (aX 4 g (nI v) (envOf z r ev σ).T)) (x := σ.1 (39 + 2 * s)) (μ0 := μ) hO (fun v τ => lays_hi (w := 4) (by decide) hg5 v) (fun v τ hv hP => hEM.wT (fun x y q p => by rw [up_get, if_neg (by omega)]; exact hP x y q (by omega)) (fun y hy => by
              show (up τ 6 (3 * g + 1) (nI v)).1 6 (3 * y + 1) = aX 4 g (nI v) (envOf z r ev σ).T y
              unfold aX
              by_cases u : y = g
              · rw [u, up_eq, if_pos rfl]
              · rw [up_pl (by omega), if_neg u, hP 6 _ rfl (by omega)]
                exact (hEM.2.2.2.2.2.1 y hy).2.2.1)) rfl hxM 8 0 FU 0 μ (by omega) (by rw [FU_eq]; omega) (fun _ _ _ _ => rfl)
            have e1 : X3_fitting (38 + 2 * s) (nI 3) (nI g) σ = some (fitB (fun v => foS ((envOf z r ev σ).wT (aX 4 g (nI v) (envOf z r ev σ).T)) (σ.1 (39 + 2 * s)) z 0) 8 0 0, σ') := by
              unfold X3_fitting X3_fitting_b20
              rw [if_neg (show ¬ nI 3 = 1 by decide), if_neg (show ¬ nI 3 = 2 by decide), if_neg (show ¬ nI 3 = 1 by decide), if_neg (show ¬ nI 3 = 2 by decide)]
              unfold X3_fitting_b54
              rw [show X5_value 1 4 (nI g) σ = some (σ.1 4 g) from value_eq (w := 4) (by decide) hg5, Option.bind_some]
              exact a1
            have e2 : X10_tells_b218 (nI s) (nI g) 4 μ = some (fitB (fun v => foS ((envOf z r ev σ).wT (aX 4 g (nI v) (envOf z r ev σ).T)) (σ.1 (39 + 2 * s)) z 0) 8 0 0, μ') := by
              unfold X10_tells_b218
              rw [if_neg (show ¬ (4 : Int32) = 7 by decide), show X10_told (nI g) 4 μ = some (μ.1 6 (3 * g + 1), μ) from told_hi (w := 4) n1 n6 (by decide) o3, Option.bind_some]
              unfold X10_tells_b242
              rw [if_neg (show ¬ (4 : Int32) = 7 by decide), if_neg (show ¬ (4 : Int32) = 6 by decide), show X10_mostOf 4 = some (nI 7) from rfl, Option.bind_some]
              exact b1'
            rw [e1, e2]
            exact ⟨_, σ', μ', rfl, rfl, z, t, k, ev, hR.frame a2 b2⟩
      · have hne : ¬ nI z = nI n := fun q => hz ((nI_eq (by omega) (by omega)).mp q)
        rw [if_neg hne, if_neg hne]
        exact ⟨-2, σ, μ, rfl, rfl, hRel⟩
    · refine ⟨-2, σ, μ, ?_, ?_, hRel⟩
      · unfold X9_tells
        rw [sheetOf_s s4, Option.bind_some]
        dsimp only [Option.elim]
        rw [asked_eq n1 n5 hj, if_neg (fun q => ok (Or.inl q)), if_neg (fun q => ok (Or.inr q)), Option.bind_some, if_pos rfl]
      · rw [if_neg (fun q => ok (Or.inl q)), if_neg (fun q => ok (Or.inr q))]
  · refine ⟨-2, σ, μ, ?_, ?_, hRel⟩
    · unfold X9_tells
      rw [sheetOf_no c0]
      rfl
    · have e30 : ∀ s0 : Int32, X10_tells_b30 a w s0 μ = some (-2, μ) := fun s0 => by
        unfold X10_tells_b30
        rw [isSheet_eq, if_neg c0, Option.bind_some, if_pos rfl]
      unfold X10_tells
      rw [in_i, Option.bind_some, isOne_eq n1 n6, Option.bind_some, e30, e30]
      simp only [ite_self]
