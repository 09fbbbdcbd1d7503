theorem comeBy_eq {e : Evg} (ho : EnvOk e) {s z : Nat} (hs : s < 4) (hz : z ≤ 40) {σ : St} (hE : EnvX e σ) (h2 : σ.1 (38 + 2 * s) 2 = nI z) : match runO e.n (σ.1 (39 + 2 * s)) z 0 [] with
    | some pre' => ∃ σ', X1_comeBy (38 + 2 * s) σ = some (1, σ') ∧ HoldX e pre' σ' ∧ EXu σ σ'
    | none => ∃ σ', X1_comeBy (38 + 2 * s) σ = some (0, σ') ∧ EXu σ σ' := by
  obtain ⟨σ1, a1, a2, a3⟩ := begin_eq ho.2.1 hE
  have go := comeBy6 ho hs hz (x := σ.1 (39 + 2 * s)) z 0 FU [] σ1 a2 ((a3 _ _ (by omega) (by omega)).trans h2) (fun c _ => a3 _ _ (by omega) (by omega)) (by omega) (by rw [FU_eq]; omega)
  unfold X1_comeBy
  rw [a1, Option.bind_some]
  revert go
  cases runO e.n (σ.1 (39 + 2 * s)) z 0 [] with
  | none => exact fun ⟨σ', b1', b2⟩ => ⟨σ', b1', a3.trans b2⟩
  | some pre' => exact fun ⟨σ', b1', b2, b3⟩ => ⟨σ', b1', b2, a3.trans b3⟩
theorem runO_le {e : Evg} {x : Nat → Int32} {z : Nat} {pre : List Nat} (h : runO e.n x z 0 [] = some pre) : pre.length = z ∧ OkP e pre ∧ z ≤ e.n := by
  have h1 := runO_len _ _ _ _ h
  have h2 := runO_ok _ _ _ _ ⟨List.nodup_nil, fun g hg => absurd hg List.not_mem_nil⟩ h
  have h3 := h2.len
  simp only [List.length_nil, Nat.zero_add] at h1
  exact ⟨h1, h2, by omega⟩
theorem isOrder_eq {e : Evg} (ho : EnvOk e) {s z : Nat} (hs : s < 4) (hz : z ≤ 40) {x : Nat → Int32} {μ : St} (hE : EnvM e μ) (h17 : μ.1 17 s = nI z) (hx : ∀ c, c < z → μ.1 18 (40 * s + c) = x c) : X10_isOrder (nI s) μ = some (if (runO e.n x z 0 []).isSome then 1 else 0) := by
  unfold X10_isOrder
  have hob : ¬ ob (nI s) 4 := by rw [ob_iff (by decide), tiI (by omega)]; omega
  have hn := ho.1
  rw [if_neg hob, tnI (by omega), h17, hE.1]
  by_cases c : z ≤ e.n
  · rw [if_pos ((nI_leI (by omega) (by omega)).mpr c)]
    exact order19 hn hs hz hE.1 h17 hx z 0 FU [] 0 (by decide) (fun g _ => by simp) (by omega) (by rw [FU_eq]; omega)
  · rw [if_neg (fun q => c ((nI_leI (by omega) (by omega)).mp q))]
    cases hr : runO e.n x z 0 [] with
    | none => rfl
    | some pre => exact absurd (runO_le hr).2.2 c
theorem goes_eq {e : Evg} (ho : EnvOk e) {s z : Nat} (hs : s < 4) (hz : z ≤ 40) {x : Nat → Int32} {μ : St} (hE : EnvM e μ) (h17 : μ.1 17 s = nI z) (hx : ∀ c, c < z → μ.1 18 (40 * s + c) = x c) {pre : List Nat} (hr : runO e.n x z 0 [] = some pre) : ∃ μ', X10_goes (nI s) μ = some μ' ∧ HoldM e pre μ' ∧ EMu μ μ' := by
  obtain ⟨μ1, a1, a2, a3⟩ := begins_eq hE
  obtain ⟨μ', b1', b2, b3⟩ := goes6 ho hs hz (x := x) z 0 FU [] pre μ1 a2 rfl ((a3 _ _ (by omega) (by omega)).trans h17) (fun c hc => (a3 _ _ (by omega) (by omega)).trans (hx c hc)) (by omega) (by rw [FU_eq]; omega) hr
  unfold X10_goes
  rw [a1, Option.bind_some]
  exact ⟨μ', b1', b2, a3.trans b3⟩
theorem CellsM.at {e : Evg} {μ : St} {pre : List Nat} (h : CellsM e μ pre) {i : Nat} (hi : i ≤ pre.length) : μ.1 8 i = wmt e (pre.drop (pre.length - i)) := by
  have h1 := (h.drop (pre.length - i)).w
  rw [List.length_drop, show pre.length - (pre.length - i) = i by omega] at h1
  exact h1
theorem sim_evening : Sim_evening Rel := by
  intro a w σ μ ⟨n, t, k, ev, hR⟩
  have hRel : Rel σ μ := ⟨n, t, k, ev, hR⟩
  have ne1 : ¬ (1 : Int32) = 0 := by decide
  by_cases c0 : 0 ≤ a.toInt ∧ a.toInt < 4
  · rcases i_cases a with h | ⟨s, hs, rfl⟩
    · omega
    rw [tiI hs] at c0
    have s4 : s < 4 := by omega
    have hob : ¬ ob (nI s) 4 := by rw [ob_iff (by decide), tiI (by omega)]; omega
    have eM : X10_evening (nI s) w μ = if 0 ≤ w.toInt ∧ w.toInt ≤ 2 then X10_evening_b25 (nI s) w μ else if w < 10 then some (-1000, μ) else X10_evening_b25 (nI s) w μ := by
      unfold X10_evening
      rw [isSheet_eq, Option.bind_some, tiI hs, if_pos (show (0 : Int) ≤ ((s : Nat) : Int) ∧ ((s : Nat) : Int) < 4 by omega), if_neg ne1, in_i, Option.bind_some, show (0 : Int64).toInt = 0 by decide, show (2 : Int64).toInt = 2 by decide]
      by_cases c : 0 ≤ w.toInt ∧ w.toInt ≤ 2
      · rw [if_pos c, if_pos c, if_neg ne1]
      · rw [if_neg c, if_neg c, if_pos rfl]
    have eX : X9_evening (nI s) w σ = (X6_isMissing (38 + 2 * s) σ).bind (fun x11 => if x11 = 0 then ((X1_comeBy (38 + 2 * s) σ).bind (fun x22 => if x22.1 = 0 then (some ((-1000), x22.2)) else (if w = 0 then ((X1_warmthNow x22.2).bind (fun x64 => some (x64, x22.2))) else (if w = 1 then ((X1_firstBoil x22.2).bind (fun x72 => some (x72, x22.2))) else (if w = 2 then ((X1_screamsSoFar x22.2).bind (fun x80 => some (x80, x22.2))) else (if w < 10 then (some ((-1000), x22.2)) else (if (x22.2.1 (38 + 2 * s) 2) ≤ (w - 10) then (some ((-1000), x22.2)) else ((X1_warmthBehind (w - 10) x22.2).bind (fun x109 => some (x109, x22.2)))))))))) else (some ((-1000), σ))) := by
      unfold X9_evening
      rw [sheetOf_s s4, Option.bind_some]
      exact if_pos (oS s4)
    rw [eX, eM]
    clear eX eM
    have b25no : X10_evening_b25 (nI s) w μ = some (-1000, μ) → (if 0 ≤ w.toInt ∧ w.toInt ≤ 2 then X10_evening_b25 (nI s) w μ else if w < 10 then some (-1000, μ) else X10_evening_b25 (nI s) w μ) = some (-1000, μ) := fun q => by
      rw [q]
      split
      · rfl
      · split <;> rfl
    rcases hR.2.2.2.2.2.2 s s4 with ⟨q1, q2⟩ | ⟨z, o, q1, q2, q3, q4, q5, q6, q7, q8⟩
    · rw [miss_yes s4 q1]
      refine ⟨-1000, σ, μ, rfl, b25no ?_, hRel⟩
      unfold X10_evening_b25
      simp only [if_neg hob, tnI hs]
      rw [q2, if_pos rfl]
    rw [miss_no s4 q2 q3, Option.bind_some, if_pos rfl]
    obtain ⟨r, -, -, ho, hEX, hEM⟩ := env_of hR
    have hby := comeBy_eq ho s4 q1 hEX q6
    have hord := isOrder_eq ho s4 q1 (x := σ.1 (39 + 2 * s)) hEM q7 (fun c hc => (q8 c hc).symm)
    cases hr : runO (envOf n r ev σ).n (σ.1 (39 + 2 * s)) z 0 [] with
    | none =>
      rw [hr] at hby hord
      obtain ⟨σ', b1', b2⟩ := hby
      rw [b1', Option.bind_some, if_pos rfl]
      refine ⟨-1000, σ', μ, rfl, b25no ?_, n, t, k, ev, hR.frame b2.ex (EM.refl μ)⟩
      unfold X10_evening_b25
      simp only [if_neg hob, tnI hs]
      rw [q4, if_neg ne1, hord, Option.bind_some]
      rfl
    | some pre =>
      rw [hr] at hby hord
      obtain ⟨σ', b1', b2, b3⟩ := hby
      obtain ⟨μ', d1, d2, d3⟩ := goes_eq ho s4 q1 (x := σ.1 (39 + 2 * s)) hEM q7 (fun c hc => (q8 c hc).symm) hr
      obtain ⟨l1, l2, l3⟩ := runO_le hr
      have hn5 := ho.1
      have hl5 : pre.length ≤ 5 := by omega
      have hX' : EX σ σ' := b3.ex
      have hM' : EM μ μ' := d3.em
      have R' : Rel σ' μ' := ⟨n, t, k, ev, hR.frame hX' hM'⟩
      have R0 : Rel σ' μ := ⟨n, t, k, ev, hR.frame hX' (EM.refl μ)⟩
      rw [b1', Option.bind_some, if_neg ne1]
      have e25 : X10_evening_b25 (nI s) w μ = if w ≤ 9 then X10_evening_b65 (nI s) w μ else if (w - 10) < nI z then X10_evening_b65 (nI s) w μ else some (-1000, μ) := by
        unfold X10_evening_b25
        simp only [if_neg hob, tnI hs]
        rw [q4, if_neg ne1, hord, Option.bind_some, show (if (some pre).isSome = true then (1 : Int32) else 0) = 1 from rfl, if_neg ne1, q7]
      have e65 : X10_evening_b65 (nI s) w μ = if w = 0 then some (wmt (envOf n r ev σ) pre, μ') else if w = 1 then some (fb (envOf n r ev σ) pre, μ') else if w = 2 then some (nI (nsc (envOf n r ev σ) pre), μ') else if ob (w - 9) 6 then none else some (μ'.1 8 (w - 9).toNatClampNeg, μ') := by
        have m17 : μ'.1 17 s = nI z := (d3 _ _ (by omega) (by omega)).trans q7
        unfold X10_evening_b65
        simp only [d1, Option.bind_some, if_neg hob, tnI hs]
        rw [m17, ← l1, boilM hl5 d2.2.2, screamsM hl5 d2.2.2, if_neg (show ¬ ob (nI pre.length) 6 by rw [ob_iff (by decide), tiI (by omega)]; omega), tnI (by omega), d2.2.2.w]
        rfl
      rw [e25, e65]
      rcases i_cases w with hw | ⟨w, hw, rfl⟩
      · have wn0 : ∀ y : Nat, y < 2 ^ 31 → ¬ w = nI y := fun y hy q => by rw [q, tiI hy] at hw; omega
        rw [if_neg (show ¬ (0 ≤ w.toInt ∧ w.toInt ≤ 2) by omega), if_neg (show ¬ w = 0 from wn0 0 (by decide)), if_neg (show ¬ w = 1 from wn0 1 (by decide)), if_neg (show ¬ w = 2 from wn0 2 (by decide)), if_pos (show w < 10 by rw [Int32.lt_iff_toInt_lt, show (10 : Int32).toInt = 10 by decide]; omega), if_pos (show w < 10 by rw [Int32.lt_iff_toInt_lt, show (10 : Int32).toInt = 10 by decide]; omega)]
        exact ⟨-1000, σ', μ, rfl, rfl, R0⟩
      · rw [tiI hw]
        by_cases w0 : w = 0
        · subst w0
          rw [if_pos (show nI 0 = 0 from rfl), now_eq hl5 b2.1.2.1 b2.2.2.1 b2.2.2.2.2, if_pos (show (0 : Int) ≤ ((0 : Nat) : Int) ∧ ((0 : Nat) : Int) ≤ 2 by decide), if_pos (show nI 0 ≤ 9 by decide), if_pos (show nI 0 = 0 from rfl)]
          exact ⟨_, σ', μ', rfl, rfl, R'⟩
        by_cases w1 : w = 1
        · subst w1
          rw [if_neg (show ¬ nI 1 = 0 by decide), if_pos (show nI 1 = 1 from rfl), boilX hl5 b2.2.2.1 b2.2.2.2.2, if_pos (show (0 : Int) ≤ ((1 : Nat) : Int) ∧ ((1 : Nat) : Int) ≤ 2 by decide), if_pos (show nI 1 ≤ 9 by decide), if_neg (show ¬ nI 1 = 0 by decide), if_pos (show nI 1 = 1 from rfl)]
          exact ⟨_, σ', μ', rfl, rfl, R'⟩
        by_cases w2 : w = 2
        · subst w2
          rw [if_neg (show ¬ nI 2 = 0 by decide), if_neg (show ¬ nI 2 = 1 by decide), if_pos (show nI 2 = 2 from rfl), screamsX hl5 b2.2.2.1 b2.2.2.2.2, if_pos (show (0 : Int) ≤ ((2 : Nat) : Int) ∧ ((2 : Nat) : Int) ≤ 2 by decide), if_pos (show nI 2 ≤ 9 by decide), if_neg (show ¬ nI 2 = 0 by decide), if_neg (show ¬ nI 2 = 1 by decide), if_pos (show nI 2 = 2 from rfl)]
          exact ⟨_, σ', μ', rfl, rfl, R'⟩
        have n0 : ¬ nI w = 0 := fun q => w0 ((nI_eq hw (by decide)).mp (q.trans (show (0 : Int32) = nI 0 from rfl)))
        have n1 : ¬ nI w = 1 := fun q => w1 ((nI_eq hw (by decide)).mp (q.trans (show (1 : Int32) = nI 1 from rfl)))
        have n2 : ¬ nI w = 2 := fun q => w2 ((nI_eq hw (by decide)).mp (q.trans (show (2 : Int32) = nI 2 from rfl)))
        rw [if_neg n0, if_neg n1, if_neg n2, if_neg (show ¬ ((0 : Int) ≤ ((w : Nat) : Int) ∧ ((w : Nat) : Int) ≤ 2) by omega), if_neg n0, if_neg n1, if_neg n2]
        by_cases c10 : w < 10
        · rw [if_pos (show nI w < 10 from nI_lt c10 (by decide)), if_pos (show nI w < 10 from nI_lt c10 (by decide))]
          exact ⟨-1000, σ', μ, rfl, rfl, R0⟩
        · have x2 : σ'.1 (38 + 2 * s) 2 = nI z := (b3 _ _ (by omega) (by omega)).trans q6
          have l10 : ¬ nI w < 10 := by rw [show (10 : Int32) = nI 10 from rfl, nI_ltI hw (by decide)]; exact c10
          have l9 : ¬ nI w ≤ 9 := by rw [show (9 : Int32) = nI 9 from rfl, nI_leI hw (by decide)]; omega
          have s10 : nI w - 10 = nI (w - 10) := pk_sub (b := 10) (by omega)
          have s9 : nI w - 9 = nI (w - 9) := pk_sub (b := 9) (by omega)
          rw [if_neg l10, if_neg l10, if_neg l9, s10, s9, x2]
          by_cases cz : w - 10 < z
          · rw [if_neg (show ¬ nI z ≤ nI (w - 10) by rw [nI_leI (by omega) (by omega)]; omega), if_pos (show nI (w - 10) < nI z by rw [nI_ltI (by omega) (by omega)]; exact cz), if_neg (show ¬ ob (nI (w - 9)) 6 by rw [ob_iff (by decide), tiI (by omega)]; omega), tnI (by omega), behind_eq hl5 b2.2.2.1 b2.2.2.2.2 (i := w - 10) (by omega), d2.2.2.at (i := w - 9) (by omega), show pre.length - 1 - (w - 10) = pre.length - (w - 9) by omega]
            exact ⟨_, σ', μ', rfl, rfl, R'⟩
          · rw [if_pos (show nI z ≤ nI (w - 10) by rw [nI_leI (by omega) (by omega)]; omega), if_neg (show ¬ nI (w - 10) < nI z by rw [nI_ltI (by omega) (by omega)]; exact cz)]
            exact ⟨-1000, σ', μ, rfl, rfl, R0⟩
  · refine ⟨-1000, σ, μ, ?_, ?_, hRel⟩
    · unfold X9_evening
      rw [sheetOf_no c0]
      rfl
    · unfold X10_evening
      rw [isSheet_eq, if_neg c0]
      rfl
