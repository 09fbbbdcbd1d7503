theorem RelN.val {n t k : Nat} {ev : Nat → Nat → Nm → Int32} {σ μ σ' μ' : St} (h : RelN n t k ev σ μ) (hX : ∀ a b, (a ≠ 1 ∨ b = 5) → σ'.1 a b = σ.1 a b) (hM : ∀ a b, ¬ a = 4 → ¬ (a = 0 ∧ (b = 8 ∨ b = 4)) → μ'.1 a b = μ.1 a b) (hv : RVal k σ' μ') : RelN n t k ev σ' μ' := by
  obtain ⟨h1, h2, h3, h4, h5, h6, h7⟩ := h
  obtain ⟨n1, n2, n3, n4, n5, n6, n7, n8, n9, n10⟩ := id h1
  have x : ∀ a b, a ≠ 1 → σ'.1 a b = σ.1 a b := fun a b q => hX a b (Or.inl q)
  have m : ∀ a b, a ≠ 4 → a ≠ 0 → μ'.1 a b = μ.1 a b := fun a b q r => hM a b q (fun z => r z.1)
  have m0 : ∀ b, ¬ (b = 8 ∨ b = 4) → μ'.1 0 b = μ.1 0 b := fun b q => hM 0 b (by decide) (fun z => q z.2)
  refine ⟨⟨n1, n2, n3, n4, by rw [hX _ _ (Or.inr rfl)]; exact n5, by rw [m0 _ (by decide)]; exact n6, by rw [x _ _ (by decide)]; exact n7, by rw [m0 _ (by decide)]; exact n8, by rw [x _ _ (by decide)]; exact n9, by rw [m0 _ (by decide)]; exact n10⟩, hv, h3.keep (fun _ _ => x _ _ (by decide)) (fun _ _ => x _ _ (by decide)) (fun _ _ => x _ _ (by decide)) (fun _ _ => x _ _ (by decide)) (fun _ _ => m _ _ (by decide) (by decide)) (fun _ _ => m _ _ (by decide) (by decide)), h4.keep (fun _ _ => x _ _ (by decide)) (fun _ _ => m _ _ (by decide) (by decide)), h5.keep (fun t ht j => x _ _ (by omega)) (fun _ _ => x _ _ (by decide)) (fun _ _ => x _ _ (by decide)) (fun _ _ => x _ _ (by decide)) (fun _ _ _ _ => m _ _ (by decide) (by decide)) (fun _ _ => m _ _ (by decide) (by decide)), h6.keep (x _ _ (by decide)) (fun _ => x _ _ (by decide)) (fun _ _ => x _ _ (by decide)) (fun _ => x _ _ (by decide)) (fun _ => x _ _ (by decide)) (fun _ => x _ _ (by decide)) (fun _ => x _ _ (by decide)) (m0 _ (by decide)) (m0 _ (by decide)) (m0 _ (by decide)) (fun _ => m _ _ (by decide) (by decide)) (fun _ => m _ _ (by decide) (by decide)), h7.keep (fun s _ => x _ _ (by omega)) (fun s _ => x _ _ (by omega)) (fun s _ j => x _ _ (by omega)) (fun _ => m _ _ (by decide) (by decide)) (fun _ => m _ _ (by decide) (by decide)) (fun _ => m _ _ (by decide) (by decide)) (fun _ => m _ _ (by decide) (by decide))⟩
theorem wthn_rng (x : Int32) : rng 0 99 (wthn x 0 99) := by
  unfold wthn rng
  simp only [Int32.lt_iff_toInt_lt, t0, show (99 : Int32).toInt = 99 by decide]
  by_cases c : x.toInt < 99
  · simp only [if_pos c]
    by_cases c2 : 0 < x.toInt
    · rw [if_pos c2]; omega
    · rw [if_neg c2]; decide
  · simp only [if_neg c]
    decide
theorem fin_rng {s v : Int32} (h : rng 0 99 v) : rng 0 99 (fin s v) := by
  unfold fin
  by_cases c : s = 0
  · rw [if_pos c]; exact h
  · rw [if_neg c]
    unfold rng at h ⊢
    obtain ⟨q1, q2⟩ := nI_of_toInt h.1
    rw [q1, show (2 : Int32) = nI 2 from rfl, pk_div q2 (by decide) (by decide), tiI (by omega)]
    omega
theorem wmt_rng {e : Evg} (h : rng 0 99 e.w0) : ∀ pre, rng 0 99 (wmt e pre)
  | [] => h
  | _ :: _ => fin_rng (wthn_rng _)
theorem sim_hold : Sim_hold Rel := by
  intro a σ μ ⟨n, t, k, ev, hR⟩
  have hRel : Rel σ μ := ⟨n, t, k, ev, hR⟩
  have ne1 : ¬ (1 : Int32) = 0 := by decide
  by_cases c0 : 0 ≤ a.toInt ∧ a.toInt < 4
  · rcases i_cases a with h | ⟨s, hs, rfl⟩
    · omega
    rw [tiI hs] at c0
    have s4 : s < 4 := by omega
    have hob : ¬ ob (nI s) 4 := by rw [ob_iff (by decide), tiI (by omega)]; omega
    have eM : X10_hold (nI s) μ = if μ.1 15 s = 0 then some (-11, μ) else (X10_isOrder (nI s) μ).bind (fun x24 => if x24 = 0 then (some ((-2), μ)) else (if (μ.1 4 2) = 999 then (some ((-3), μ)) else ((X10_goes (nI s) μ).bind (fun x50 => if ob (x50.1 17 s) 6 then none else ((X10_screamsTill (x50.1 17 s) (up x50 4 0 (x50.1 8 ((x50.1 17 s)).toNatClampNeg))).bind (fun x79 => (X10_screamsTill (x50.1 17 s) (up (up (up x50 4 0 (x50.1 8 ((x50.1 17 s)).toNatClampNeg)) 0 8 (((up x50 4 0 (x50.1 8 ((x50.1 17 s)).toNatClampNeg)).1 0 8) + x79)) 4 2 (((up (up x50 4 0 (x50.1 8 ((x50.1 17 s)).toNatClampNeg)) 0 8 (((up x50 4 0 (x50.1 8 ((x50.1 17 s)).toNatClampNeg)).1 0 8) + x79)).1 4 2) + 1))).bind (fun x98 => some (x98, (up (up (up x50 4 0 (x50.1 8 ((x50.1 17 s)).toNatClampNeg)) 0 8 (((up x50 4 0 (x50.1 8 ((x50.1 17 s)).toNatClampNeg)).1 0 8) + x79)) 4 2 (((up (up x50 4 0 (x50.1 8 ((x50.1 17 s)).toNatClampNeg)) 0 8 (((up x50 4 0 (x50.1 8 ((x50.1 17 s)).toNatClampNeg)).1 0 8) + x79)).1 4 2) + 1)))))))))) := by
      unfold X10_hold
      rw [isSheet_eq, Option.bind_some, tiI hs, if_pos (show (0 : Int) ≤ ((s : Nat) : Int) ∧ ((s : Nat) : Int) < 4 by omega), if_neg ne1]
      simp only [if_neg hob, tnI hs]
      rfl
    have eX : X9_hold (nI s) σ = (X6_isMissing (38 + 2 * s) σ).bind (fun x14 => if x14 = 0 then ((X1_comeBy (38 + 2 * s) σ).bind (fun x28 => if x28.1 = 0 then (some ((-2), x28.2)) else (if (x28.2.1 1 2) < (stv 1 2) then ((X1_warmthNow x28.2).bind (fun x63 => (X1_screamsSoFar (up x28.2 1 0 x63)).bind (fun x81 => (X1_screamsSoFar (up (up (up x28.2 1 0 x63) 1 3 (((up x28.2 1 0 x63).1 1 3) + x81)) 1 2 (((up (up x28.2 1 0 x63) 1 3 (((up x28.2 1 0 x63).1 1 3) + x81)).1 1 2) + 1))).bind (fun x105 => some (x105, (up (up (up x28.2 1 0 x63) 1 3 (((up x28.2 1 0 x63).1 1 3) + x81)) 1 2 (((up (up x28.2 1 0 x63) 1 3 (((up x28.2 1 0 x63).1 1 3) + x81)).1 1 2) + 1))))))) else (some ((-3), x28.2))))) else (some ((-11), σ))) := by
      unfold X9_hold
      rw [sheetOf_s s4, Option.bind_some]
      exact if_pos (oS s4)
    rw [eX, eM]
    clear eX eM
    rcases hR.2.2.2.2.2.2 s s4 with ⟨q1, q2⟩ | ⟨z, o, q1, q2, q3, q4, q5, q6, q7, q8⟩
    · rw [miss_yes s4 q1, q2, if_pos rfl]
      exact ⟨-11, σ, μ, rfl, rfl, hRel⟩
    rw [miss_no s4 q2 q3, Option.bind_some, if_pos rfl, q4, if_neg ne1]
    obtain ⟨r, -, -, ho, hEX, hEM⟩ := env_of hR
    have hby := comeBy_eq ho s4 q1 hEX q6
    have hord := isOrder_eq ho s4 q1 (x := σ.1 (39 + 2 * s)) hEM q7 (fun c hc => (q8 c hc).symm)
    cases hr : runO (envOf n r ev σ).n (σ.1 (39 + 2 * s)) z 0 [] with
    | none =>
      rw [hr] at hby hord
      obtain ⟨σ', b1', b2⟩ := hby
      rw [b1', Option.bind_some, if_pos rfl, hord]
      exact ⟨-2, σ', μ, rfl, rfl, n, t, k, ev, hR.frame b2.ex (EM.refl μ)⟩
    | some pre =>
      rw [hr] at hby hord
      obtain ⟨σ', b1', b2, b3⟩ := hby
      obtain ⟨μ', d1, d2, d3⟩ := goes_eq ho s4 q1 (x := σ.1 (39 + 2 * s)) hEM q7 (fun c hc => (q8 c hc).symm) hr
      obtain ⟨l1, l2, l3⟩ := runO_le hr
      have hn5 := ho.1
      have hl5 : pre.length ≤ 5 := by omega
      have R' := hR.frame b3.ex d3.em
      have m17 : μ'.1 17 s = nI z := (d3 _ _ (by omega) (by omega)).trans q7
      obtain ⟨v1, v2, v3, v4, v5, v6, v7, r', r1, r2, r3⟩ := R'.2.1
      have hE0 : σ'.1 1 2 = σ.1 1 2 := b3 _ _ (by decide) (by decide)
      have hE1 : μ'.1 4 2 = μ.1 4 2 := d3 _ _ (by decide) (by decide)
      rw [b1', Option.bind_some, if_neg ne1, hord, Option.bind_some, show (if (some pre).isSome = true then (1 : Int32) else 0) = 1 from rfl, if_neg ne1, show stv 1 2 = 999 from rfl, ← hE1, v5]
      have e999 : ((999 : Int32)).toInt = 999 := by decide
      by_cases c9 : μ'.1 4 2 = 999
      · rw [if_neg (show ¬ μ'.1 4 2 < 999 by rw [c9]; decide), if_pos c9]
        exact ⟨-3, σ', μ, rfl, rfl, n, t, k, ev, hR.frame b3.ex (EM.refl μ)⟩
      · have c8 : (μ'.1 4 2).toInt < 999 := by
          have h9 : (μ'.1 4 2).toInt ≠ 999 := fun q => c9 (Int32.toInt_inj.mp (q.trans e999.symm))
          unfold rng at v6
          omega
        rw [if_pos (show μ'.1 4 2 < 999 by rw [Int32.lt_iff_toInt_lt, e999]; exact c8), if_neg c9, now_eq hl5 b2.1.2.1 b2.2.2.1 b2.2.2.2.2, Option.bind_some, d1, Option.bind_some, m17, ← l1, if_neg (show ¬ ob (nI pre.length) 6 by rw [ob_iff (by decide), tiI (by omega)]; omega), tnI (by omega), d2.2.2.w]
        have X1 : ∀ τ : St, (∀ x y, x ≠ 1 → τ.1 x y = σ'.1 x y) → X1_screamsSoFar τ = some (nI (nsc (envOf n r ev σ) pre)) := fun τ hτ => screamsX hl5 ((hτ _ _ (by decide)).trans b2.2.2.1) (b2.2.2.2.2.keep (fun x y p q _ => hτ x y (by omega)))
        have M1 : ∀ τ : St, (∀ x y, x ≠ 4 → x ≠ 0 → τ.1 x y = μ'.1 x y) → X10_screamsTill (nI pre.length) τ = some (nI (nsc (envOf n r ev σ) pre)) := fun τ hτ => screamsM hl5 (d2.2.2.keep (fun x y p q => hτ x y (by omega) (by omega)) (fun y _ => hτ 8 y (by decide) (by decide)))
        rw [X1 _ (fun x y h => up_lo h), Option.bind_some, X1 _ (fun x y h => by rw [up_lo h, up_lo h, up_lo h]), Option.bind_some, M1 _ (fun x y h _ => up_lo h), Option.bind_some, M1 _ (fun x y h h0 => by rw [up_lo h, up_lo h0, up_lo h]), Option.bind_some]
        refine ⟨_, _, _, rfl, rfl, n, t, k, ev, R'.val (fun x y h => ?_) (fun x y h1 h2 => ?_) ?_⟩
        · rw [up_get, if_neg (by omega), up_get, if_neg (by omega), up_get, if_neg (by omega)]
        · rw [up_get, if_neg (by omega), up_get, if_neg (by omega), up_get, if_neg (by omega)]
        · have w0r : rng 0 99 (envOf n r ev σ).w0 := by
            have := hR.2.1.2.1
            rw [← hR.2.1.1] at this
            exact this
          refine ⟨rfl, wmt_rng w0r pre, v3, v4, ?_, ?_, ?_, r', r1, r2, r3⟩
          · show σ'.1 1 2 + 1 = μ'.1 4 2 + 1
            rw [v5]
          · show rng 0 999 (μ'.1 4 2 + 1)
            unfold rng at v6 ⊢
            obtain ⟨q1, q2⟩ := nI_of_toInt v6.1
            rw [q1, nI_1, tiI (by omega)]
            omega
          · show σ'.1 1 3 + nI (nsc (envOf n r ev σ) pre) = μ'.1 0 8 + nI (nsc (envOf n r ev σ) pre)
            rw [v7]
  · refine ⟨-2, σ, μ, ?_, ?_, hRel⟩
    · unfold X9_hold
      rw [sheetOf_no c0]
      rfl
    · unfold X10_hold
      rw [isSheet_eq, if_neg c0]
      rfl
