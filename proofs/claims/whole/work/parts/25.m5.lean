def X10_drawn (l1 : Int32) (σ : St) : Option (Int32 × St) := (X10_draws l1 σ).bind (fun x2 => if ob (x2.1 0 11) 6 then none else (some ((x2.1 8 ((x2.1 0 11)).toNatClampNeg), x2)))
set_option maxRecDepth 100000 in
set_option maxHeartbeats 4000000 in
theorem X10_drawn_ok {l1 : Int32} {σ : St} {x : (Int32 × St)} (h : X10_drawn l1 σ = some x) : Ct shM (65) yX10_drawn cX10_drawn 2 (some FieldType.int) (fun G => [.ref (G.2.1 0), .int l1]) σ (fun G => some (.int x.1)) x.2 := by
  refine Ct.of mw_X10_drawn.1 (by decide +kernel) (fun G => Nat.le_of_ble_eq_true rfl) (fun G p l e d s m args below meth c A hd C => ?_)
  refine (?_ : Vw shM G p l e d s m args below meth c 2 A σ 0 [(0, .ref (G.2.1 0)), (1, .int l1)] [] (some (.int x.1)) x.2)
  unfold X10_drawn at h
  refine V_aload_n C 0 dX10_drawn_0 rfl rfl ?_
  refine V_iload_n C 1 dX10_drawn_1 rfl rfl ?_
  obtain ⟨x2, h2, h⟩ := Option.bind_eq_some_iff.mp h
  refine V_callVv (As := [.int l1]) C (X10_draws_ok h2) mw_X10_draws.1 mw_X10_draws.2.1 mw_X10_draws.2.2 q10_334 oM_0.1 oM_0.2.1 (by decide) rfl rfl (by omega) rfl rfl rfl (Nat.le_of_ble_eq_true rfl) dX10_drawn_2 ?_
  refine V_aload_n C 0 dX10_drawn_5 rfl rfl ?_
  refine fg10_35 (r := 8) C oM_0 rfl dX10_drawn_6 ?_
  refine V_aload_n C 0 dX10_drawn_9 rfl rfl ?_
  refine fg10_79 C oM_0 dX10_drawn_10 ?_
  have g1 : ¬ (ob (x2.1 0 11) 6) := fun g9 => by rw [if_pos g9] at h; cases h
  rw [if_neg g1] at h
  refine V_ialdO C oM_8 g1 dX10_drawn_13 ?_
  obtain rfl := Option.some.inj h
  exact V_iret C rfl rfl dX10_drawn_14
def X10_chance_b64 (K32 : Int32 → Int32 → Int32 → Int64 → Int32 → St → Option (Int64 × St)) (l1 : Int32) (l2 : Int32) (l3 : Int32) (l6 : Int32) (s0 : Int64) (s1 : Int64) (σ : St) : Option (Int64 × St) := K32 l1 l2 l3 (s1 + s0) (l6 + 1) σ
set_option maxRecDepth 100000 in
set_option maxHeartbeats 4000000 in
theorem X10_chance_b64_ok {G : Gx} {p : Program} {l : Launch} {e : Env} {d : Nat} {s : State} {m : MethodId} {args : Array Value} {below : List Frame} {meth : Method} {c : Code} {A : Nat → Prop} {K32 : Int32 → Int32 → Int32 → Int64 → Int32 → St → Option (Int64 × St)} (C : OK shM G p s m args meth c RX10 cX10_chance 12 (some FieldType.long) A) (hd : 65 ≤ d) (hK32 : ∀  {l1 : Int32} {l2 : Int32} {l3 : Int32} {l4 : Int64} {l6 : Int32} {σ : St} {x : (Int64 × St)}, K32 l1 l2 l3 l4 l6 σ = some x → Vw shM G p l e d s m args below meth c 12 A σ 32 [(0, .ref (G.2.1 0)), (1, .int l1), (2, .int l2), (3, .int l3), (4, .long l4), (6, .int l6)] [] (some (.long x.1)) x.2) {l1 : Int32} {l2 : Int32} {l3 : Int32} {l6 : Int32} {s0 : Int64} {s1 : Int64} {σ : St} {x : (Int64 × St)} (h : X10_chance_b64 K32 l1 l2 l3 l6 s0 s1 σ = some x) : Vw shM G p l e d s m args below meth c 12 A σ 64 [(0, .ref (G.2.1 0)), (1, .int l1), (2, .int l2), (3, .int l3), (6, .int l6)] [.long s0, .long s1] (some (.long x.1)) x.2 := by
  unfold X10_chance_b64 at h
  refine V_ladd C dX10_chance_64 ?_
  refine V_lstore C (lv' := [(4, .long (s1 + s0)), (0, .ref (G.2.1 0)), (1, .int l1), (2, .int l2), (3, .int l3), (6, .int l6)]) dX10_chance_65 (by decide) rfl ?_
  refine V_iinc C (w := (l6 + 1)) (lv' := [(6, .int (l6 + 1)), (4, .long (s1 + s0)), (0, .ref (G.2.1 0)), (1, .int l1), (2, .int l2), (3, .int l3)]) 5 dX10_chance_67 rfl (congrArg (l6 + ·) (show Int32.ofInt 1 = 1 by decide)) (by decide) rfl ?_
  refine V_goto C 32 dX10_chance_70 (by decide) ?_
  refine V_sub (lv' := [(0, .ref (G.2.1 0)), (1, .int l1), (2, .int l2), (3, .int l3), (4, .long (s1 + s0)), (6, .int (l6 + 1))]) [2, 3, 4, 5, 1, 0] rfl ?_
  exact hK32 h
def X10_chance_b81 : Nat → Int32 → Int32 → Int64 → Int64 → Int64 → St → Option (Int64 × St)
  | 0, _, _, _, _, _, _ => none
  | F + 1, l2, l3, l4, l6, l8, σ => if (lg_cmp l8 0) = 0 then (if l3 = 0 then (if l6 = 0 then none else (some ((l4 / l6), σ))) else (if l6 = 0 then none else (some (((Int32.toInt64 l2) / l6), σ)))) else (if l8 = 0 then none else (X10_chance_b81 F l2 l3 l4 l8 (l6 - l6 / l8 * l8) σ))
set_option maxRecDepth 100000 in
set_option maxHeartbeats 4000000 in
theorem X10_chance_b81_ok {G : Gx} {p : Program} {l : Launch} {e : Env} {d : Nat} {s : State} {m : MethodId} {args : Array Value} {below : List Frame} {meth : Method} {c : Code} {A : Nat → Prop} (C : OK shM G p s m args meth c RX10 cX10_chance 12 (some FieldType.long) A) (hd : 65 ≤ d) : ∀ (F : Nat) {l2 : Int32} {l3 : Int32} {l4 : Int64} {l6 : Int64} {l8 : Int64} {σ : St} {x : (Int64 × St)} (h : X10_chance_b81 F l2 l3 l4 l6 l8 σ = some x), Vw shM G p l e d s m args below meth c 12 A σ 81 [(2, .int l2), (3, .int l3), (4, .long l4), (6, .long l6), (8, .long l8)] [] (some (.long x.1)) x.2 := by
  intro F
  induction F with
  | zero =>
    intro l2 l3 l4 l6 l8 σ x h
    rw [X10_chance_b81] at h
    cases h
  | succ F ih =>
    intro l2 l3 l4 l6 l8 σ x h
    rw [X10_chance_b81] at h
    refine V_lload C 4 dX10_chance_81 rfl ?_
    refine V_lconst C (w := 0) dX10_chance_83 (by decide) ?_
    refine V_lcmp C dX10_chance_84 ?_
    by_cases c1 : (lg_cmp l8 0) = 0
    · rw [if_pos c1] at h
      refine V_if_eqT C 106 dX10_chance_85 (by decide) c1 ?_
      refine V_iload_n C 1 dX10_chance_106 rfl rfl ?_
      by_cases c2 : l3 = 0
      · rw [if_pos c2] at h
        refine V_if_neF C 118 dX10_chance_107 (by decide) c2 ?_
        refine V_lload C 2 dX10_chance_110 rfl ?_
        refine V_lload C 3 dX10_chance_112 rfl ?_
        have g4 : ¬ (l6 = 0) := fun g9 => by rw [if_pos g9] at h; cases h
        rw [if_neg g4] at h
        refine V_ldiv C dX10_chance_114 g4 ?_
        refine V_goto C 123 dX10_chance_115 (by decide) ?_
        obtain rfl := Option.some.inj h
        exact V_lret C rfl dX10_chance_123
      · rw [if_neg c2] at h
        refine V_if_neT C 118 dX10_chance_107 (by decide) c2 ?_
        refine V_iload_n C 0 dX10_chance_118 rfl rfl ?_
        refine V_i2l C dX10_chance_119 ?_
        refine V_lload C 3 dX10_chance_120 rfl ?_
        have g3 : ¬ (l6 = 0) := fun g9 => by rw [if_pos g9] at h; cases h
        rw [if_neg g3] at h
        refine V_ldiv C dX10_chance_122 g3 ?_
        obtain rfl := Option.some.inj h
        exact V_lret C rfl dX10_chance_123
    · rw [if_neg c1] at h
      refine V_if_eqF C 106 dX10_chance_85 (by decide) c1 ?_
      refine V_lload C 3 dX10_chance_88 rfl ?_
      refine V_lload C 4 dX10_chance_90 rfl ?_
      have g5 : ¬ (l8 = 0) := fun g9 => by rw [if_pos g9] at h; cases h
      rw [if_neg g5] at h
      refine V_lrem C dX10_chance_92 g5 ?_
      refine V_lstore C (lv' := [(10, .long (l6 - l6 / l8 * l8)), (2, .int l2), (3, .int l3), (4, .long l4), (6, .long l6), (8, .long l8)]) dX10_chance_93 (by decide) rfl ?_
      refine V_lload C 5 dX10_chance_95 rfl ?_
      refine V_lstore C (lv' := [(6, .long l8), (10, .long (l6 - l6 / l8 * l8)), (2, .int l2), (3, .int l3), (4, .long l4), (8, .long l8)]) dX10_chance_97 (by decide) rfl ?_
      refine V_lload C 1 dX10_chance_99 rfl ?_
      refine V_lstore C (lv' := [(8, .long (l6 - l6 / l8 * l8)), (6, .long l8), (10, .long (l6 - l6 / l8 * l8)), (2, .int l2), (3, .int l3), (4, .long l4)]) dX10_chance_101 (by decide) rfl ?_
      refine V_goto C 81 dX10_chance_103 (by decide) ?_
      refine V_sub (lv' := [(2, .int l2), (3, .int l3), (4, .long l4), (6, .long l8), (8, .long (l6 - l6 / l8 * l8))]) [3, 4, 5, 1, 0] rfl ?_
      exact ih h
def X10_chance_b32 : Nat → Int32 → Int32 → Int32 → Int64 → Int32 → St → Option (Int64 × St)
  | 0, _, _, _, _, _, _ => none
  | F + 1, l1, l2, l3, l4, l6, σ => if l2 ≤ l6 then (X10_chance_b81 FU l2 l3 l4 l4 (Int32.toInt64 l2) σ) else ((X10_draws (l1 + l6) σ).bind (fun x43 => (X10_screamsTill (x43.1 0 11) x43).bind (fun x53 => if x53 ≤ 0 then (X10_chance_b64 (X10_chance_b32 F) l1 l2 l3 l6 0 l4 x43) else (X10_chance_b64 (X10_chance_b32 F) l1 l2 l3 l6 1 l4 x43))))
set_option maxRecDepth 100000 in
set_option maxHeartbeats 4000000 in
theorem X10_chance_b32_ok {G : Gx} {p : Program} {l : Launch} {e : Env} {d : Nat} {s : State} {m : MethodId} {args : Array Value} {below : List Frame} {meth : Method} {c : Code} {A : Nat → Prop} (C : OK shM G p s m args meth c RX10 cX10_chance 12 (some FieldType.long) A) (hd : 65 ≤ d) : ∀ (F : Nat) {l1 : Int32} {l2 : Int32} {l3 : Int32} {l4 : Int64} {l6 : Int32} {σ : St} {x : (Int64 × St)} (h : X10_chance_b32 F l1 l2 l3 l4 l6 σ = some x), Vw shM G p l e d s m args below meth c 12 A σ 32 [(0, .ref (G.2.1 0)), (1, .int l1), (2, .int l2), (3, .int l3), (4, .long l4), (6, .int l6)] [] (some (.long x.1)) x.2 := by
  intro F
  induction F with
  | zero =>
    intro l1 l2 l3 l4 l6 σ x h
    rw [X10_chance_b32] at h
    cases h
  | succ F ih =>
    intro l1 l2 l3 l4 l6 σ x h
    rw [X10_chance_b32] at h
    refine V_iload C 5 dX10_chance_32 rfl ?_
    refine V_iload_n C 2 dX10_chance_34 rfl rfl ?_
    by_cases c6 : l2 ≤ l6
    · rw [if_pos c6] at h
      refine V_icmp_geT C 73 dX10_chance_35 (by decide) c6 ?_
      refine V_lload C 4 dX10_chance_73 rfl ?_
      refine V_lstore C (lv' := [(6, .long l4), (0, .ref (G.2.1 0)), (1, .int l1), (2, .int l2), (3, .int l3), (4, .long l4)]) dX10_chance_75 (by decide) rfl ?_
      refine V_iload_n C 3 dX10_chance_77 rfl rfl ?_
      refine V_i2l C dX10_chance_78 ?_
      refine V_lstore C (lv' := [(8, .long (Int32.toInt64 l2)), (6, .long l4), (0, .ref (G.2.1 0)), (1, .int l1), (2, .int l2), (3, .int l3), (4, .long l4)]) dX10_chance_79 (by decide) rfl ?_
      refine V_sub (lv' := [(2, .int l2), (3, .int l3), (4, .long l4), (6, .long l4), (8, .long (Int32.toInt64 l2))]) [4, 5, 6, 1, 0] rfl ?_
      exact X10_chance_b81_ok C hd FU h
    · rw [if_neg c6] at h
      refine V_icmp_geF C 73 dX10_chance_35 (by decide) c6 ?_
      refine V_aload_n C 0 dX10_chance_38 rfl rfl ?_
      refine V_iload_n C 1 dX10_chance_39 rfl rfl ?_
      refine V_iload C 5 dX10_chance_40 rfl ?_
      refine V_iadd C dX10_chance_42 ?_
      obtain ⟨x43, h43, h⟩ := Option.bind_eq_some_iff.mp h
      refine V_callVv (As := [.int (l1 + l6)]) C (X10_draws_ok h43) mw_X10_draws.1 mw_X10_draws.2.1 mw_X10_draws.2.2 q10_334 oM_0.1 oM_0.2.1 (by decide) rfl rfl (by omega) rfl rfl rfl (Nat.le_of_ble_eq_true rfl) dX10_chance_43 ?_
      refine V_lload C 4 dX10_chance_46 rfl ?_
      refine V_aload_n C 0 dX10_chance_48 rfl rfl ?_
      refine V_aload_n C 0 dX10_chance_49 rfl rfl ?_
      refine fg10_79 C oM_0 dX10_chance_50 ?_
      obtain ⟨x53, h53, h⟩ := Option.bind_eq_some_iff.mp h
      refine V_callVi (As := [.int (x43.1 0 11)]) C (X10_screamsTill_ok h53) mw_X10_screamsTill.1 mw_X10_screamsTill.2.1 mw_X10_screamsTill.2.2 q10_271 oM_0.1 oM_0.2.1 (by decide) rfl rfl (by omega) rfl rfl rfl (Nat.le_of_ble_eq_true rfl) dX10_chance_53 ?_
      by_cases c7 : x53 ≤ 0
      · rw [if_pos c7] at h
        refine V_if_leT C 63 dX10_chance_56 (by decide) c7 ?_
        refine V_lconst C (w := 0) dX10_chance_63 (by decide) ?_
        refine V_sub (lv' := [(0, .ref (G.2.1 0)), (1, .int l1), (2, .int l2), (3, .int l3), (6, .int l6)]) [0, 1, 2, 3, 5] rfl ?_
        exact X10_chance_b64_ok C hd (fun h => ih h) h
      · rw [if_neg c7] at h
        refine V_if_leF C 63 dX10_chance_56 (by decide) c7 ?_
        refine V_lconst C (w := 1) dX10_chance_59 (by decide) ?_
        refine V_goto C 64 dX10_chance_60 (by decide) ?_
        refine V_sub (lv' := [(0, .ref (G.2.1 0)), (1, .int l1), (2, .int l2), (3, .int l3), (6, .int l6)]) [0, 1, 2, 3, 5] rfl ?_
        exact X10_chance_b64_ok C hd (fun h => ih h) h
def X10_chance (l1 : Int32) (l2 : Int32) (l3 : Int32) (σ : St) : Option (Int64 × St) := (X10_in (Int32.toInt64 l2) 1 20).bind (fun x6 => if x6 = 0 then (some ((-4611686018427387904), σ)) else ((X10_in (Int32.toInt64 l3) 0 1).bind (fun x16 => if x16 = 0 then (some ((-4611686018427387904), σ)) else (X10_chance_b32 FU l1 l2 l3 0 0 σ))))
set_option maxRecDepth 100000 in
set_option maxHeartbeats 4000000 in
theorem X10_chance_ok {l1 : Int32} {l2 : Int32} {l3 : Int32} {σ : St} {x : (Int64 × St)} (h : X10_chance l1 l2 l3 σ = some x) : Ct shM (65) yX10_chance cX10_chance 12 (some FieldType.long) (fun G => [.ref (G.2.1 0), .int l1, .int l2, .int l3]) σ (fun G => some (.long x.1)) x.2 := by
  refine Ct.of mw_X10_chance.1 (by decide +kernel) (fun G => Nat.le_of_ble_eq_true rfl) (fun G p l e d s m args below meth c A hd C => ?_)
  refine (?_ : Vw shM G p l e d s m args below meth c 12 A σ 0 [(0, .ref (G.2.1 0)), (1, .int l1), (2, .int l2), (3, .int l3)] [] (some (.long x.1)) x.2)
  unfold X10_chance at h
  refine V_iload_n C 2 dX10_chance_0 rfl rfl ?_
  refine V_i2l C dX10_chance_1 ?_
  refine V_lconst C (w := 1) dX10_chance_2 (by decide) ?_
  refine V_ldc2 C (w := 20) dX10_chance_3 qk10_337 ?_
  obtain ⟨x6, h6, h⟩ := Option.bind_eq_some_iff.mp h
  refine V_callSi (As := [.long (Int32.toInt64 l2), .long 1, .long 20]) C (X10_in_ok h6) mw_X10_in.1 mw_X10_in.2 q10_82 (by omega) rfl rfl rfl (Nat.le_of_ble_eq_true rfl) dX10_chance_6 ?_
  by_cases c8 : x6 = 0
  · rw [if_pos c8] at h
    refine V_if_eqT C 22 dX10_chance_9 (by decide) c8 ?_
    refine V_ldc2 C (w := (-4611686018427387904)) dX10_chance_22 qk10_339 ?_
    obtain rfl := Option.some.inj h
    exact V_lret C rfl dX10_chance_25
  · rw [if_neg c8] at h
    refine V_if_eqF C 22 dX10_chance_9 (by decide) c8 ?_
    refine V_iload_n C 3 dX10_chance_12 rfl rfl ?_
    refine V_i2l C dX10_chance_13 ?_
    refine V_lconst C (w := 0) dX10_chance_14 (by decide) ?_
    refine V_lconst C (w := 1) dX10_chance_15 (by decide) ?_
    obtain ⟨x16, h16, h⟩ := Option.bind_eq_some_iff.mp h
    refine V_callSi (As := [.long (Int32.toInt64 l3), .long 0, .long 1]) C (X10_in_ok h16) mw_X10_in.1 mw_X10_in.2 q10_82 (by omega) rfl rfl rfl (Nat.le_of_ble_eq_true rfl) dX10_chance_16 ?_
    by_cases c9 : x16 = 0
    · rw [if_pos c9] at h
      refine V_if_neF C 26 dX10_chance_19 (by decide) c9 ?_
      refine V_ldc2 C (w := (-4611686018427387904)) dX10_chance_22 qk10_339 ?_
      obtain rfl := Option.some.inj h
      exact V_lret C rfl dX10_chance_25
    · rw [if_neg c9] at h
      refine V_if_neT C 26 dX10_chance_19 (by decide) c9 ?_
      refine V_lconst C (w := 0) dX10_chance_26 (by decide) ?_
      refine V_lstore C (lv' := [(4, .long 0), (0, .ref (G.2.1 0)), (1, .int l1), (2, .int l2), (3, .int l3)]) dX10_chance_27 (by decide) rfl ?_
      refine V_iconst C (w := 0) dX10_chance_29 (by decide) ?_
      refine V_istore C (lv' := [(6, .int 0), (4, .long 0), (0, .ref (G.2.1 0)), (1, .int l1), (2, .int l2), (3, .int l3)]) dX10_chance_30 (by decide) rfl ?_
      refine V_sub (lv' := [(0, .ref (G.2.1 0)), (1, .int l1), (2, .int l2), (3, .int l3), (4, .long 0), (6, .int 0)]) [2, 3, 4, 5, 1, 0] rfl ?_
      exact X10_chance_b32_ok C hd FU h
def X10_image_b27 : Nat → Int32 → St → Option (Int32 × St)
  | 0, _, _ => none
  | F + 1, l1, σ => if 15 ≤ l1 then (some (((up (up (up σ 0 41 (σ.1 0 11)) 0 42 ((up σ 0 41 (σ.1 0 11)).1 0 8)) 0 43 ((up (up σ 0 41 (σ.1 0 11)) 0 42 ((up σ 0 41 (σ.1 0 11)).1 0 8)).1 0 4)).1 0 11), (up (up (up σ 0 41 (σ.1 0 11)) 0 42 ((up σ 0 41 (σ.1 0 11)).1 0 8)) 0 43 ((up (up σ 0 41 (σ.1 0 11)) 0 42 ((up σ 0 41 (σ.1 0 11)).1 0 8)).1 0 4)))) else (if ob l1 15 then none else (if ob l1 15 then none else (X10_image_b27 F (l1 + 1) (up σ 14 (l1).toNatClampNeg (σ.1 6 (l1).toNatClampNeg)))))
set_option maxRecDepth 100000 in
set_option maxHeartbeats 4000000 in
theorem X10_image_b27_ok {G : Gx} {p : Program} {l : Launch} {e : Env} {d : Nat} {s : State} {m : MethodId} {args : Array Value} {below : List Frame} {meth : Method} {c : Code} {A : Nat → Prop} (C : OK shM G p s m args meth c RX10 cX10_image 2 (some FieldType.int) A) (hd : 1 ≤ d) : ∀ (F : Nat) {l1 : Int32} {σ : St} {x : (Int32 × St)} (h : X10_image_b27 F l1 σ = some x), Vw shM G p l e d s m args below meth c 2 A σ 27 [(0, .ref (G.2.1 0)), (1, .int l1)] [] (some (.int x.1)) x.2 := by
  intro F
  induction F with
  | zero =>
    intro l1 σ x h
    rw [X10_image_b27] at h
    cases h
  | succ F ih =>
    intro l1 σ x h
    rw [X10_image_b27] at h
    refine V_iload_n C 1 dX10_image_27 rfl rfl ?_
    refine V_bipush C (w := 15) dX10_image_28 (by decide) ?_
    by_cases c1 : 15 ≤ l1
    · rw [if_pos c1] at h
      refine V_icmp_geT C 51 dX10_image_30 (by decide) c1 ?_
      refine V_aload_n C 0 dX10_image_51 rfl rfl ?_
      refine V_aload_n C 0 dX10_image_52 rfl rfl ?_
      refine fg10_79 C oM_0 dX10_image_53 ?_
      refine fp10_57 C oM_0 dX10_image_56 ?_
      refine V_aload_n C 0 dX10_image_59 rfl rfl ?_
      refine V_aload_n C 0 dX10_image_60 rfl rfl ?_
      refine fg10_274 C oM_0 dX10_image_61 ?_
      refine fp10_341 C oM_0 dX10_image_64 ?_
      refine V_aload_n C 0 dX10_image_67 rfl rfl ?_
      refine V_aload_n C 0 dX10_image_68 rfl rfl ?_
      refine fg10_104 C oM_0 dX10_image_69 ?_
      refine fp10_344 C oM_0 dX10_image_72 ?_
      refine V_aload_n C 0 dX10_image_75 rfl rfl ?_
      refine fg10_79 C oM_0 dX10_image_76 ?_
      obtain rfl := Option.some.inj h
      exact V_iret C rfl rfl dX10_image_79
    · rw [if_neg c1] at h
      refine V_icmp_geF C 51 dX10_image_30 (by decide) c1 ?_
      refine V_aload_n C 0 dX10_image_33 rfl rfl ?_
      refine fg10_54 (r := 14) C oM_0 rfl dX10_image_34 ?_
      refine V_iload_n C 1 dX10_image_37 rfl rfl ?_
      refine V_aload_n C 0 dX10_image_38 rfl rfl ?_
      refine fg10_29 (r := 6) C oM_0 rfl dX10_image_39 ?_
      refine V_iload_n C 1 dX10_image_42 rfl rfl ?_
      have g2 : ¬ (ob l1 15) := fun g9 => by rw [if_pos g9] at h; cases h
      rw [if_neg g2] at h
      refine V_ialdO C oM_6 g2 dX10_image_43 ?_
      have g3 : ¬ (ob l1 15) := fun g9 => by rw [if_pos g9] at h; cases h
      rw [if_neg g3] at h
      refine V_iastO C oM_14 g3 dX10_image_44 ?_
      refine V_iinc C (w := (l1 + 1)) (lv' := [(1, .int (l1 + 1)), (0, .ref (G.2.1 0))]) 1 dX10_image_45 rfl (congrArg (l1 + ·) (show Int32.ofInt 1 = 1 by decide)) (by decide) rfl ?_
      refine V_goto C 27 dX10_image_48 (by decide) ?_
      refine V_sub (lv' := [(0, .ref (G.2.1 0)), (1, .int (l1 + 1))]) [1, 0] rfl ?_
      exact ih h
def X10_image_b2 : Nat → Int32 → St → Option (Int32 × St)
  | 0, _, _ => none
  | F + 1, l1, σ => if 3 ≤ l1 then (X10_image_b27 FU 0 σ) else (if ob l1 3 then none else (if ob l1 3 then none else (X10_image_b2 F (l1 + 1) (up σ 13 (l1).toNatClampNeg (σ.1 4 (l1).toNatClampNeg)))))
set_option maxRecDepth 100000 in
set_option maxHeartbeats 4000000 in
theorem X10_image_b2_ok {G : Gx} {p : Program} {l : Launch} {e : Env} {d : Nat} {s : State} {m : MethodId} {args : Array Value} {below : List Frame} {meth : Method} {c : Code} {A : Nat → Prop} (C : OK shM G p s m args meth c RX10 cX10_image 2 (some FieldType.int) A) (hd : 1 ≤ d) : ∀ (F : Nat) {l1 : Int32} {σ : St} {x : (Int32 × St)} (h : X10_image_b2 F l1 σ = some x), Vw shM G p l e d s m args below meth c 2 A σ 2 [(0, .ref (G.2.1 0)), (1, .int l1)] [] (some (.int x.1)) x.2 := by
  intro F
  induction F with
  | zero =>
    intro l1 σ x h
    rw [X10_image_b2] at h
    cases h
  | succ F ih =>
    intro l1 σ x h
    rw [X10_image_b2] at h
    refine V_iload_n C 1 dX10_image_2 rfl rfl ?_
    refine V_iconst C (w := 3) dX10_image_3 (by decide) ?_
    by_cases c4 : 3 ≤ l1
    · rw [if_pos c4] at h
      refine V_icmp_geT C 25 dX10_image_4 (by decide) c4 ?_
      refine V_iconst C (w := 0) dX10_image_25 (by decide) ?_
      refine V_istore_n C (lv' := [(1, .int 0), (0, .ref (G.2.1 0))]) dX10_image_26 rfl (by decide) rfl ?_
      refine V_sub (lv' := [(0, .ref (G.2.1 0)), (1, .int 0)]) [1, 0] rfl ?_
      exact X10_image_b27_ok C hd FU h
    · rw [if_neg c4] at h
      refine V_icmp_geF C 25 dX10_image_4 (by decide) c4 ?_
      refine V_aload_n C 0 dX10_image_7 rfl rfl ?_
      refine fg10_51 (r := 13) C oM_0 rfl dX10_image_8 ?_
      refine V_iload_n C 1 dX10_image_11 rfl rfl ?_
      refine V_aload_n C 0 dX10_image_12 rfl rfl ?_
      refine fg10_23 (r := 4) C oM_0 rfl dX10_image_13 ?_
      refine V_iload_n C 1 dX10_image_16 rfl rfl ?_
      have g5 : ¬ (ob l1 3) := fun g9 => by rw [if_pos g9] at h; cases h
      rw [if_neg g5] at h
      refine V_ialdO C oM_4 g5 dX10_image_17 ?_
      have g6 : ¬ (ob l1 3) := fun g9 => by rw [if_pos g9] at h; cases h
      rw [if_neg g6] at h
      refine V_iastO C oM_13 g6 dX10_image_18 ?_
      refine V_iinc C (w := (l1 + 1)) (lv' := [(1, .int (l1 + 1)), (0, .ref (G.2.1 0))]) 1 dX10_image_19 rfl (congrArg (l1 + ·) (show Int32.ofInt 1 = 1 by decide)) (by decide) rfl ?_
      refine V_goto C 2 dX10_image_22 (by decide) ?_
      refine V_sub (lv' := [(0, .ref (G.2.1 0)), (1, .int (l1 + 1))]) [1, 0] rfl ?_
      exact ih h
def X10_image (σ : St) : Option (Int32 × St) := X10_image_b2 FU 0 σ
set_option maxRecDepth 100000 in
set_option maxHeartbeats 4000000 in
theorem X10_image_ok {σ : St} {x : (Int32 × St)} (h : X10_image σ = some x) : Ct shM (1) yX10_image cX10_image 2 (some FieldType.int) (fun G => [.ref (G.2.1 0)]) σ (fun G => some (.int x.1)) x.2 := by
  refine Ct.of mw_X10_image.1 (by decide +kernel) (fun G => Nat.le_of_ble_eq_true rfl) (fun G p l e d s m args below meth c A hd C => ?_)
  refine (?_ : Vw shM G p l e d s m args below meth c 2 A σ 0 [(0, .ref (G.2.1 0))] [] (some (.int x.1)) x.2)
  unfold X10_image at h
  refine V_iconst C (w := 0) dX10_image_0 (by decide) ?_
  refine V_istore_n C (lv' := [(1, .int 0), (0, .ref (G.2.1 0))]) dX10_image_1 rfl (by decide) rfl ?_
  refine V_sub (lv' := [(0, .ref (G.2.1 0)), (1, .int 0)]) [1, 0] rfl ?_
  exact X10_image_b2_ok C hd FU h
def X10_back_b38 : Nat → Int32 → St → Option (Int32 × St)
  | 0, _, _ => none
  | F + 1, l1, σ => if 15 ≤ l1 then (some (((up (up (up σ 0 11 (σ.1 0 41)) 0 8 ((up σ 0 11 (σ.1 0 41)).1 0 42)) 0 4 ((up (up σ 0 11 (σ.1 0 41)) 0 8 ((up σ 0 11 (σ.1 0 41)).1 0 42)).1 0 43)).1 0 11), (up (up (up σ 0 11 (σ.1 0 41)) 0 8 ((up σ 0 11 (σ.1 0 41)).1 0 42)) 0 4 ((up (up σ 0 11 (σ.1 0 41)) 0 8 ((up σ 0 11 (σ.1 0 41)).1 0 42)).1 0 43)))) else (if ob l1 15 then none else (if ob l1 15 then none else (X10_back_b38 F (l1 + 1) (up σ 6 (l1).toNatClampNeg (σ.1 14 (l1).toNatClampNeg)))))
set_option maxRecDepth 100000 in
set_option maxHeartbeats 4000000 in
theorem X10_back_b38_ok {G : Gx} {p : Program} {l : Launch} {e : Env} {d : Nat} {s : State} {m : MethodId} {args : Array Value} {below : List Frame} {meth : Method} {c : Code} {A : Nat → Prop} (C : OK shM G p s m args meth c RX10 cX10_back 2 (some FieldType.int) A) (hd : 1 ≤ d) : ∀ (F : Nat) {l1 : Int32} {σ : St} {x : (Int32 × St)} (h : X10_back_b38 F l1 σ = some x), Vw shM G p l e d s m args below meth c 2 A σ 38 [(0, .ref (G.2.1 0)), (1, .int l1)] [] (some (.int x.1)) x.2 := by
  intro F
  induction F with
  | zero =>
    intro l1 σ x h
    rw [X10_back_b38] at h
    cases h
  | succ F ih =>
    intro l1 σ x h
    rw [X10_back_b38] at h
    refine V_iload_n C 1 dX10_back_38 rfl rfl ?_
    refine V_bipush C (w := 15) dX10_back_39 (by decide) ?_
    by_cases c1 : 15 ≤ l1
    · rw [if_pos c1] at h
      refine V_icmp_geT C 62 dX10_back_41 (by decide) c1 ?_
      refine V_aload_n C 0 dX10_back_62 rfl rfl ?_
      refine V_aload_n C 0 dX10_back_63 rfl rfl ?_
      refine fg10_57 C oM_0 dX10_back_64 ?_
      refine fp10_79 C oM_0 dX10_back_67 ?_
      refine V_aload_n C 0 dX10_back_70 rfl rfl ?_
      refine V_aload_n C 0 dX10_back_71 rfl rfl ?_
      refine fg10_341 C oM_0 dX10_back_72 ?_
      refine fp10_274 C oM_0 dX10_back_75 ?_
      refine V_aload_n C 0 dX10_back_78 rfl rfl ?_
      refine V_aload_n C 0 dX10_back_79 rfl rfl ?_
      refine fg10_344 C oM_0 dX10_back_80 ?_
      refine fp10_104 C oM_0 dX10_back_83 ?_
      refine V_aload_n C 0 dX10_back_86 rfl rfl ?_
      refine fg10_79 C oM_0 dX10_back_87 ?_
      obtain rfl := Option.some.inj h
      exact V_iret C rfl rfl dX10_back_90
    · rw [if_neg c1] at h
      refine V_icmp_geF C 62 dX10_back_41 (by decide) c1 ?_
      refine V_aload_n C 0 dX10_back_44 rfl rfl ?_
      refine fg10_29 (r := 6) C oM_0 rfl dX10_back_45 ?_
      refine V_iload_n C 1 dX10_back_48 rfl rfl ?_
      refine V_aload_n C 0 dX10_back_49 rfl rfl ?_
      refine fg10_54 (r := 14) C oM_0 rfl dX10_back_50 ?_
      refine V_iload_n C 1 dX10_back_53 rfl rfl ?_
      have g2 : ¬ (ob l1 15) := fun g9 => by rw [if_pos g9] at h; cases h
      rw [if_neg g2] at h
      refine V_ialdO C oM_14 g2 dX10_back_54 ?_
      have g3 : ¬ (ob l1 15) := fun g9 => by rw [if_pos g9] at h; cases h
      rw [if_neg g3] at h
      refine V_iastO C oM_6 g3 dX10_back_55 ?_
      refine V_iinc C (w := (l1 + 1)) (lv' := [(1, .int (l1 + 1)), (0, .ref (G.2.1 0))]) 1 dX10_back_56 rfl (congrArg (l1 + ·) (show Int32.ofInt 1 = 1 by decide)) (by decide) rfl ?_
      refine V_goto C 38 dX10_back_59 (by decide) ?_
      refine V_sub (lv' := [(0, .ref (G.2.1 0)), (1, .int (l1 + 1))]) [1, 0] rfl ?_
      exact ih h
def X10_back_b13 : Nat → Int32 → St → Option (Int32 × St)
  | 0, _, _ => none
  | F + 1, l1, σ => if 3 ≤ l1 then (X10_back_b38 FU 0 σ) else (if ob l1 3 then none else (if ob l1 3 then none else (X10_back_b13 F (l1 + 1) (up σ 4 (l1).toNatClampNeg (σ.1 13 (l1).toNatClampNeg)))))
set_option maxRecDepth 100000 in
set_option maxHeartbeats 4000000 in
theorem X10_back_b13_ok {G : Gx} {p : Program} {l : Launch} {e : Env} {d : Nat} {s : State} {m : MethodId} {args : Array Value} {below : List Frame} {meth : Method} {c : Code} {A : Nat → Prop} (C : OK shM G p s m args meth c RX10 cX10_back 2 (some FieldType.int) A) (hd : 1 ≤ d) : ∀ (F : Nat) {l1 : Int32} {σ : St} {x : (Int32 × St)} (h : X10_back_b13 F l1 σ = some x), Vw shM G p l e d s m args below meth c 2 A σ 13 [(0, .ref (G.2.1 0)), (1, .int l1)] [] (some (.int x.1)) x.2 := by
  intro F
  induction F with
  | zero =>
    intro l1 σ x h
    rw [X10_back_b13] at h
    cases h
  | succ F ih =>
    intro l1 σ x h
    rw [X10_back_b13] at h
    refine V_iload_n C 1 dX10_back_13 rfl rfl ?_
    refine V_iconst C (w := 3) dX10_back_14 (by decide) ?_
    by_cases c4 : 3 ≤ l1
    · rw [if_pos c4] at h
      refine V_icmp_geT C 36 dX10_back_15 (by decide) c4 ?_
      refine V_iconst C (w := 0) dX10_back_36 (by decide) ?_
      refine V_istore_n C (lv' := [(1, .int 0), (0, .ref (G.2.1 0))]) dX10_back_37 rfl (by decide) rfl ?_
      refine V_sub (lv' := [(0, .ref (G.2.1 0)), (1, .int 0)]) [1, 0] rfl ?_
      exact X10_back_b38_ok C hd FU h
    · rw [if_neg c4] at h
      refine V_icmp_geF C 36 dX10_back_15 (by decide) c4 ?_
      refine V_aload_n C 0 dX10_back_18 rfl rfl ?_
      refine fg10_23 (r := 4) C oM_0 rfl dX10_back_19 ?_
      refine V_iload_n C 1 dX10_back_22 rfl rfl ?_
      refine V_aload_n C 0 dX10_back_23 rfl rfl ?_
      refine fg10_51 (r := 13) C oM_0 rfl dX10_back_24 ?_
      refine V_iload_n C 1 dX10_back_27 rfl rfl ?_
      have g5 : ¬ (ob l1 3) := fun g9 => by rw [if_pos g9] at h; cases h
      rw [if_neg g5] at h
      refine V_ialdO C oM_13 g5 dX10_back_28 ?_
      have g6 : ¬ (ob l1 3) := fun g9 => by rw [if_pos g9] at h; cases h
      rw [if_neg g6] at h
      refine V_iastO C oM_4 g6 dX10_back_29 ?_
      refine V_iinc C (w := (l1 + 1)) (lv' := [(1, .int (l1 + 1)), (0, .ref (G.2.1 0))]) 1 dX10_back_30 rfl (congrArg (l1 + ·) (show Int32.ofInt 1 = 1 by decide)) (by decide) rfl ?_
      refine V_goto C 13 dX10_back_33 (by decide) ?_
      refine V_sub (lv' := [(0, .ref (G.2.1 0)), (1, .int (l1 + 1))]) [1, 0] rfl ?_
      exact ih h
def X10_back (σ : St) : Option (Int32 × St) := if (σ.1 0 41) = (-1) then (some ((-3), σ)) else (X10_back_b13 FU 0 σ)
set_option maxRecDepth 100000 in
set_option maxHeartbeats 4000000 in
theorem X10_back_ok {σ : St} {x : (Int32 × St)} (h : X10_back σ = some x) : Ct shM (1) yX10_back cX10_back 2 (some FieldType.int) (fun G => [.ref (G.2.1 0)]) σ (fun G => some (.int x.1)) x.2 := by
  refine Ct.of mw_X10_back.1 (by decide +kernel) (fun G => Nat.le_of_ble_eq_true rfl) (fun G p l e d s m args below meth c A hd C => ?_)
  refine (?_ : Vw shM G p l e d s m args below meth c 2 A σ 0 [(0, .ref (G.2.1 0))] [] (some (.int x.1)) x.2)
  unfold X10_back at h
  refine V_aload_n C 0 dX10_back_0 rfl rfl ?_
  refine fg10_57 C oM_0 dX10_back_1 ?_
  refine V_iconst C (w := (-1)) dX10_back_4 (by decide) ?_
  by_cases c7 : (σ.1 0 41) = (-1)
  · rw [if_pos c7] at h
    refine V_icmp_neF C 11 dX10_back_5 (by decide) c7 ?_
    refine V_bipush C (w := (-3)) dX10_back_8 (by decide) ?_
    obtain rfl := Option.some.inj h
    exact V_iret C rfl rfl dX10_back_10
  · rw [if_neg c7] at h
    refine V_icmp_neT C 11 dX10_back_5 (by decide) c7 ?_
    refine V_iconst C (w := 0) dX10_back_11 (by decide) ?_
    refine V_istore_n C (lv' := [(1, .int 0), (0, .ref (G.2.1 0))]) dX10_back_12 rfl (by decide) rfl ?_
    refine V_sub (lv' := [(0, .ref (G.2.1 0)), (1, .int 0)]) [1, 0] rfl ?_
    exact X10_back_b13_ok C hd FU h
def X10_count_b111 (K79 : Int32 → Int32 → Int32 → St → Option Int32) (l1 : Int32) (l3 : Int32) (s0 : Int32) (s1 : Int32) (σ : St) : Option Int32 := K79 l1 (s1 + s0) (l3 + 1) σ
set_option maxRecDepth 100000 in
set_option maxHeartbeats 4000000 in
theorem X10_count_b111_ok {G : Gx} {p : Program} {l : Launch} {e : Env} {d : Nat} {s : State} {m : MethodId} {args : Array Value} {below : List Frame} {meth : Method} {c : Code} {A : Nat → Prop} {K79 : Int32 → Int32 → Int32 → St → Option Int32} (C : OK shM G p s m args meth c RX10 cX10_count 4 (some FieldType.int) A) (hd : 2 ≤ d) (hK79 : ∀  {l1 : Int32} {l2 : Int32} {l3 : Int32} {σ : St} {x : Int32}, K79 l1 l2 l3 σ = some x → Vw shM G p l e d s m args below meth c 4 A σ 79 [(0, .ref (G.2.1 0)), (1, .int l1), (2, .int l2), (3, .int l3)] [] (some (.int x)) σ) {l1 : Int32} {l3 : Int32} {s0 : Int32} {s1 : Int32} {σ : St} {x : Int32} (h : X10_count_b111 K79 l1 l3 s0 s1 σ = some x) : Vw shM G p l e d s m args below meth c 4 A σ 111 [(0, .ref (G.2.1 0)), (1, .int l1), (3, .int l3)] [.int s0, .int s1] (some (.int x)) σ := by
  unfold X10_count_b111 at h
  refine V_iadd C dX10_count_111 ?_
  refine V_istore_n C (lv' := [(2, .int (s1 + s0)), (0, .ref (G.2.1 0)), (1, .int l1), (3, .int l3)]) dX10_count_112 rfl (by decide) rfl ?_
  refine V_iinc C (w := (l3 + 1)) (lv' := [(3, .int (l3 + 1)), (2, .int (s1 + s0)), (0, .ref (G.2.1 0)), (1, .int l1)]) 3 dX10_count_113 rfl (congrArg (l3 + ·) (show Int32.ofInt 1 = 1 by decide)) (by decide) rfl ?_
  refine V_goto C 79 dX10_count_116 (by decide) ?_
  refine V_sub (lv' := [(0, .ref (G.2.1 0)), (1, .int l1), (2, .int (s1 + s0)), (3, .int (l3 + 1))]) [2, 3, 1, 0] rfl ?_
  exact hK79 h
def X10_count_b79 : Nat → Int32 → Int32 → Int32 → St → Option Int32
  | 0, _, _, _, _ => none
  | F + 1, l1, l2, l3, σ => if (σ.1 0 11) ≤ l3 then (some l2) else (if l1 = 0 then (X10_count_b111 (X10_count_b79 F) l1 l3 1 l2 σ) else (if ob ((3 * l3) + 2) 15 then none else (if (σ.1 6 (((3 * l3) + 2)).toNatClampNeg) = 1 then (X10_count_b111 (X10_count_b79 F) l1 l3 1 l2 σ) else (X10_count_b111 (X10_count_b79 F) l1 l3 0 l2 σ))))
set_option maxRecDepth 100000 in
set_option maxHeartbeats 4000000 in
theorem X10_count_b79_ok {G : Gx} {p : Program} {l : Launch} {e : Env} {d : Nat} {s : State} {m : MethodId} {args : Array Value} {below : List Frame} {meth : Method} {c : Code} {A : Nat → Prop} (C : OK shM G p s m args meth c RX10 cX10_count 4 (some FieldType.int) A) (hd : 2 ≤ d) : ∀ (F : Nat) {l1 : Int32} {l2 : Int32} {l3 : Int32} {σ : St} {x : Int32} (h : X10_count_b79 F l1 l2 l3 σ = some x), Vw shM G p l e d s m args below meth c 4 A σ 79 [(0, .ref (G.2.1 0)), (1, .int l1), (2, .int l2), (3, .int l3)] [] (some (.int x)) σ := by
  intro F
  induction F with
  | zero =>
    intro l1 l2 l3 σ x h
    rw [X10_count_b79] at h
    cases h
  | succ F ih =>
    intro l1 l2 l3 σ x h
    rw [X10_count_b79] at h
    refine V_iload_n C 3 dX10_count_79 rfl rfl ?_
    refine V_aload_n C 0 dX10_count_80 rfl rfl ?_
    refine fg10_79 C oM_0 dX10_count_81 ?_
    by_cases c1 : (σ.1 0 11) ≤ l3
    · rw [if_pos c1] at h
      refine V_icmp_geT C 119 dX10_count_84 (by decide) c1 ?_
      refine V_iload_n C 2 dX10_count_119 rfl rfl ?_
      obtain rfl := Option.some.inj h
      exact V_iret C rfl rfl dX10_count_120
    · rw [if_neg c1] at h
      refine V_icmp_geF C 119 dX10_count_84 (by decide) c1 ?_
      refine V_iload_n C 2 dX10_count_87 rfl rfl ?_
      refine V_iload_n C 1 dX10_count_88 rfl rfl ?_
      by_cases c2 : l1 = 0
      · rw [if_pos c2] at h
        refine V_if_eqT C 106 dX10_count_89 (by decide) c2 ?_
        refine V_iconst C (w := 1) dX10_count_106 (by decide) ?_
        refine V_goto C 111 dX10_count_107 (by decide) ?_
        refine V_sub (lv' := [(0, .ref (G.2.1 0)), (1, .int l1), (3, .int l3)]) [0, 1, 3] rfl ?_
        exact X10_count_b111_ok C hd (fun h => ih h) h
      · rw [if_neg c2] at h
        refine V_if_eqF C 106 dX10_count_89 (by decide) c2 ?_
        refine V_aload_n C 0 dX10_count_92 rfl rfl ?_
        refine fg10_29 (r := 6) C oM_0 rfl dX10_count_93 ?_
        refine V_iconst C (w := 3) dX10_count_96 (by decide) ?_
        refine V_iload_n C 3 dX10_count_97 rfl rfl ?_
        refine V_imul C dX10_count_98 ?_
        refine V_iconst C (w := 2) dX10_count_99 (by decide) ?_
        refine V_iadd C dX10_count_100 ?_
        have g3 : ¬ (ob ((3 * l3) + 2) 15) := fun g9 => by rw [if_pos g9] at h; cases h
        rw [if_neg g3] at h
        refine V_ialdO C oM_6 g3 dX10_count_101 ?_
        refine V_iconst C (w := 1) dX10_count_102 (by decide) ?_
        by_cases c4 : (σ.1 6 (((3 * l3) + 2)).toNatClampNeg) = 1
        · rw [if_pos c4] at h
          refine V_icmp_neF C 110 dX10_count_103 (by decide) c4 ?_
          refine V_iconst C (w := 1) dX10_count_106 (by decide) ?_
          refine V_goto C 111 dX10_count_107 (by decide) ?_
          refine V_sub (lv' := [(0, .ref (G.2.1 0)), (1, .int l1), (3, .int l3)]) [0, 1, 3] rfl ?_
          exact X10_count_b111_ok C hd (fun h => ih h) h
        · rw [if_neg c4] at h
          refine V_icmp_neT C 110 dX10_count_103 (by decide) c4 ?_
          refine V_iconst C (w := 0) dX10_count_110 (by decide) ?_
          refine V_sub (lv' := [(0, .ref (G.2.1 0)), (1, .int l1), (3, .int l3)]) [0, 1, 3] rfl ?_
          exact X10_count_b111_ok C hd (fun h => ih h) h
def X10_count (l1 : Int32) (σ : St) : Option Int32 := (X10_in (Int32.toInt64 l1) 0 6).bind (fun x6 => if x6 = 0 then (some (-2)) else (if l1 ≤ 1 then (X10_count_b79 FU l1 0 0 σ) else (if l1 = 2 then (some (σ.1 0 8)) else (if l1 = 3 then (some (σ.1 4 (2 : Int32).toNatClampNeg)) else (if l1 = 4 then (some (σ.1 0 3)) else (if l1 = 5 then (some (σ.1 0 6)) else (some (σ.1 0 4))))))))
set_option maxRecDepth 100000 in
set_option maxHeartbeats 4000000 in
theorem X10_count_ok {l1 : Int32} {σ : St} {x : Int32} (h : X10_count l1 σ = some x) : Ct shM (2) yX10_count cX10_count 4 (some FieldType.int) (fun G => [.ref (G.2.1 0), .int l1]) σ (fun G => some (.int x)) σ := by
  refine Ct.of mw_X10_count.1 (by decide +kernel) (fun G => Nat.le_of_ble_eq_true rfl) (fun G p l e d s m args below meth c A hd C => ?_)
  refine (?_ : Vw shM G p l e d s m args below meth c 4 A σ 0 [(0, .ref (G.2.1 0)), (1, .int l1)] [] (some (.int x)) σ)
  unfold X10_count at h
  refine V_iload_n C 1 dX10_count_0 rfl rfl ?_
  refine V_i2l C dX10_count_1 ?_
  refine V_lconst C (w := 0) dX10_count_2 (by decide) ?_
  refine V_ldc2 C (w := 6) dX10_count_3 qk10_347 ?_
  obtain ⟨x6, h6, h⟩ := Option.bind_eq_some_iff.mp h
  refine V_callSi (As := [.long (Int32.toInt64 l1), .long 0, .long 6]) C (X10_in_ok h6) mw_X10_in.1 mw_X10_in.2 q10_82 (by omega) rfl rfl rfl (Nat.le_of_ble_eq_true rfl) dX10_count_6 ?_
  by_cases c5 : x6 = 0
  · rw [if_pos c5] at h
    refine V_if_neF C 15 dX10_count_9 (by decide) c5 ?_
    refine V_bipush C (w := (-2)) dX10_count_12 (by decide) ?_
    obtain rfl := Option.some.inj h
    exact V_iret C rfl rfl dX10_count_14
  · rw [if_neg c5] at h
    refine V_if_neT C 15 dX10_count_9 (by decide) c5 ?_
    refine V_iload_n C 1 dX10_count_15 rfl rfl ?_
    refine V_iconst C (w := 1) dX10_count_16 (by decide) ?_
    by_cases c6 : l1 ≤ 1
    · rw [if_pos c6] at h
      refine V_icmp_leT C 75 dX10_count_17 (by decide) c6 ?_
      refine V_iconst C (w := 0) dX10_count_75 (by decide) ?_
      refine V_istore_n C (lv' := [(2, .int 0), (0, .ref (G.2.1 0)), (1, .int l1)]) dX10_count_76 rfl (by decide) rfl ?_
      refine V_iconst C (w := 0) dX10_count_77 (by decide) ?_
      refine V_istore_n C (lv' := [(3, .int 0), (2, .int 0), (0, .ref (G.2.1 0)), (1, .int l1)]) dX10_count_78 rfl (by decide) rfl ?_
      refine V_sub (lv' := [(0, .ref (G.2.1 0)), (1, .int l1), (2, .int 0), (3, .int 0)]) [2, 3, 1, 0] rfl ?_
      exact X10_count_b79_ok C hd FU h
    · rw [if_neg c6] at h
      refine V_icmp_leF C 75 dX10_count_17 (by decide) c6 ?_
      refine V_iload_n C 1 dX10_count_20 rfl rfl ?_
      refine V_iconst C (w := 2) dX10_count_21 (by decide) ?_
      by_cases c7 : l1 = 2
      · rw [if_pos c7] at h
        refine V_icmp_neF C 32 dX10_count_22 (by decide) c7 ?_
        refine V_aload_n C 0 dX10_count_25 rfl rfl ?_
        refine fg10_274 C oM_0 dX10_count_26 ?_
        refine V_goto C 74 dX10_count_29 (by decide) ?_
        obtain rfl := Option.some.inj h
        exact V_iret C rfl rfl dX10_count_74
      · rw [if_neg c7] at h
        refine V_icmp_neT C 32 dX10_count_22 (by decide) c7 ?_
        refine V_iload_n C 1 dX10_count_32 rfl rfl ?_
        refine V_iconst C (w := 3) dX10_count_33 (by decide) ?_
        by_cases c8 : l1 = 3
        · rw [if_pos c8] at h
          refine V_icmp_neF C 46 dX10_count_34 (by decide) c8 ?_
          refine V_aload_n C 0 dX10_count_37 rfl rfl ?_
          refine fg10_23 (r := 4) C oM_0 rfl dX10_count_38 ?_
          refine V_iconst C (w := 2) dX10_count_41 (by decide) ?_
          refine V_ialdO C oM_4 (by decide) dX10_count_42 ?_
          refine V_goto C 74 dX10_count_43 (by decide) ?_
          obtain rfl := Option.some.inj h
          exact V_iret C rfl rfl dX10_count_74
        · rw [if_neg c8] at h
          refine V_icmp_neT C 46 dX10_count_34 (by decide) c8 ?_
          refine V_iload_n C 1 dX10_count_46 rfl rfl ?_
          refine V_iconst C (w := 4) dX10_count_47 (by decide) ?_
          by_cases c9 : l1 = 4
          · rw [if_pos c9] at h
            refine V_icmp_neF C 58 dX10_count_48 (by decide) c9 ?_
            refine V_aload_n C 0 dX10_count_51 rfl rfl ?_
            refine fg10_76 C oM_0 dX10_count_52 ?_
            refine V_goto C 74 dX10_count_55 (by decide) ?_
            obtain rfl := Option.some.inj h
            exact V_iret C rfl rfl dX10_count_74
          · rw [if_neg c9] at h
            refine V_icmp_neT C 58 dX10_count_48 (by decide) c9 ?_
            refine V_iload_n C 1 dX10_count_58 rfl rfl ?_
            refine V_iconst C (w := 5) dX10_count_59 (by decide) ?_
            by_cases c10 : l1 = 5
            · rw [if_pos c10] at h
              refine V_icmp_neF C 70 dX10_count_60 (by decide) c10 ?_
              refine V_aload_n C 0 dX10_count_63 rfl rfl ?_
              refine fg10_129 C oM_0 dX10_count_64 ?_
              refine V_goto C 74 dX10_count_67 (by decide) ?_
              obtain rfl := Option.some.inj h
              exact V_iret C rfl rfl dX10_count_74
            · rw [if_neg c10] at h
              refine V_icmp_neT C 70 dX10_count_60 (by decide) c10 ?_
              refine V_aload_n C 0 dX10_count_70 rfl rfl ?_
              refine fg10_104 C oM_0 dX10_count_71 ?_
              obtain rfl := Option.some.inj h
              exact V_iret C rfl rfl dX10_count_74
def X10_cell_b83 (s0 : Int32) (s1 : Int32) (σ : St) : Option (Int32 × St) := if ob s1 160 then none else (some (1, (up σ 18 (s1).toNatClampNeg s0)))
set_option maxRecDepth 100000 in
set_option maxHeartbeats 4000000 in
theorem X10_cell_b83_ok {G : Gx} {p : Program} {l : Launch} {e : Env} {d : Nat} {s : State} {m : MethodId} {args : Array Value} {below : List Frame} {meth : Method} {c : Code} {A : Nat → Prop} (C : OK shM G p s m args meth c RX10 cX10_cell 4 (some FieldType.int) A) (hd : 3 ≤ d) {s0 : Int32} {s1 : Int32} {σ : St} {x : (Int32 × St)} (h : X10_cell_b83 s0 s1 σ = some x) : Vw shM G p l e d s m args below meth c 4 A σ 83 [] [.int s0, .int s1, .ref (G.2.1 18)] (some (.int x.1)) x.2 := by
  unfold X10_cell_b83 at h
  have g1 : ¬ (ob s1 160) := fun g9 => by rw [if_pos g9] at h; cases h
  rw [if_neg g1] at h
  refine V_iastO C oM_18 g1 dX10_cell_83 ?_
  refine V_iconst C (w := 1) dX10_cell_84 (by decide) ?_
  obtain rfl := Option.some.inj h
  exact V_iret C rfl rfl dX10_cell_85
def X10_cell (l1 : Int32) (l2 : Int32) (l3 : Int32) (σ : St) : Option (Int32 × St) := (X10_isSheet l1).bind (fun x1 => if x1 = 0 then (some ((-2), σ)) else (if ob l1 4 then none else (if (σ.1 15 (l1).toNatClampNeg) = 0 then (some ((-11), σ)) else (if ob l1 4 then none else ((X10_in (Int32.toInt64 l2) 0 (Int32.toInt64 ((σ.1 17 (l1).toNatClampNeg) - 1))).bind (fun x34 => if x34 = 0 then (some ((-12), σ)) else (if ob l1 4 then none else (if (σ.1 16 (l1).toNatClampNeg) = 0 then (X10_cell_b83 ((Int32.toInt8 l3).toInt32) ((40 * l1) + l2) σ) else (if ob l1 4 then none else (if (σ.1 16 (l1).toNatClampNeg) = 1 then (X10_cell_b83 ((Int32.toInt16 l3).toInt32) ((40 * l1) + l2) σ) else (X10_cell_b83 l3 ((40 * l1) + l2) σ)))))))))))
set_option maxRecDepth 100000 in
set_option maxHeartbeats 4000000 in
theorem X10_cell_ok {l1 : Int32} {l2 : Int32} {l3 : Int32} {σ : St} {x : (Int32 × St)} (h : X10_cell l1 l2 l3 σ = some x) : Ct shM (3) yX10_cell cX10_cell 4 (some FieldType.int) (fun G => [.ref (G.2.1 0), .int l1, .int l2, .int l3]) σ (fun G => some (.int x.1)) x.2 := by
  refine Ct.of mw_X10_cell.1 (by decide +kernel) (fun G => Nat.le_of_ble_eq_true rfl) (fun G p l e d s m args below meth c A hd C => ?_)
  refine (?_ : Vw shM G p l e d s m args below meth c 4 A σ 0 [(0, .ref (G.2.1 0)), (1, .int l1), (2, .int l2), (3, .int l3)] [] (some (.int x.1)) x.2)
  unfold X10_cell at h
  refine V_iload_n C 1 dX10_cell_0 rfl rfl ?_
  obtain ⟨x1, h1, h⟩ := Option.bind_eq_some_iff.mp h
  refine V_callSi (As := [.int l1]) C (X10_isSheet_ok h1) mw_X10_isSheet.1 mw_X10_isSheet.2 q10_256 (by omega) rfl rfl rfl (Nat.le_of_ble_eq_true rfl) dX10_cell_1 ?_
  by_cases c2 : x1 = 0
  · rw [if_pos c2] at h
    refine V_if_neF C 10 dX10_cell_4 (by decide) c2 ?_
    refine V_bipush C (w := (-2)) dX10_cell_7 (by decide) ?_
    obtain rfl := Option.some.inj h
    exact V_iret C rfl rfl dX10_cell_9
  · rw [if_neg c2] at h
    refine V_if_neT C 10 dX10_cell_4 (by decide) c2 ?_
    refine V_aload_n C 0 dX10_cell_10 rfl rfl ?_
    refine fg10_60 (r := 15) C oM_0 rfl dX10_cell_11 ?_
    refine V_iload_n C 1 dX10_cell_14 rfl rfl ?_
    have g3 : ¬ (ob l1 4) := fun g9 => by rw [if_pos g9] at h; cases h
    rw [if_neg g3] at h
    refine V_zaldO C oM_15 g3 dX10_cell_15 ?_
    by_cases c4 : (σ.1 15 (l1).toNatClampNeg) = 0
    · rw [if_pos c4] at h
      refine V_if_neF C 22 dX10_cell_16 (by decide) c4 ?_
      refine V_bipush C (w := (-11)) dX10_cell_19 (by decide) ?_
      obtain rfl := Option.some.inj h
      exact V_iret C rfl rfl dX10_cell_21
    · rw [if_neg c4] at h
      refine V_if_neT C 22 dX10_cell_16 (by decide) c4 ?_
      refine V_iload_n C 2 dX10_cell_22 rfl rfl ?_
      refine V_i2l C dX10_cell_23 ?_
      refine V_lconst C (w := 0) dX10_cell_24 (by decide) ?_
      refine V_aload_n C 0 dX10_cell_25 rfl rfl ?_
      refine fg10_66 (r := 17) C oM_0 rfl dX10_cell_26 ?_
      refine V_iload_n C 1 dX10_cell_29 rfl rfl ?_
      have g5 : ¬ (ob l1 4) := fun g9 => by rw [if_pos g9] at h; cases h
      rw [if_neg g5] at h
      refine V_ialdO C oM_17 g5 dX10_cell_30 ?_
      refine V_iconst C (w := 1) dX10_cell_31 (by decide) ?_
      refine V_isub C dX10_cell_32 ?_
      refine V_i2l C dX10_cell_33 ?_
      obtain ⟨x34, h34, h⟩ := Option.bind_eq_some_iff.mp h
      refine V_callSi (As := [.long (Int32.toInt64 l2), .long 0, .long (Int32.toInt64 ((σ.1 17 (l1).toNatClampNeg) - 1))]) C (X10_in_ok h34) mw_X10_in.1 mw_X10_in.2 q10_82 (by omega) rfl rfl rfl (Nat.le_of_ble_eq_true rfl) dX10_cell_34 ?_
      by_cases c6 : x34 = 0
      · rw [if_pos c6] at h
        refine V_if_neF C 43 dX10_cell_37 (by decide) c6 ?_
        refine V_bipush C (w := (-12)) dX10_cell_40 (by decide) ?_
        obtain rfl := Option.some.inj h
        exact V_iret C rfl rfl dX10_cell_42
      · rw [if_neg c6] at h
        refine V_if_neT C 43 dX10_cell_37 (by decide) c6 ?_
        refine V_aload_n C 0 dX10_cell_43 rfl rfl ?_
        refine fg10_69 (r := 18) C oM_0 rfl dX10_cell_44 ?_
        refine V_bipush C (w := 40) dX10_cell_47 (by decide) ?_
        refine V_iload_n C 1 dX10_cell_49 rfl rfl ?_
        refine V_imul C dX10_cell_50 ?_
        refine V_iload_n C 2 dX10_cell_51 rfl rfl ?_
        refine V_iadd C dX10_cell_52 ?_
        refine V_aload_n C 0 dX10_cell_53 rfl rfl ?_
        refine fg10_63 (r := 16) C oM_0 rfl dX10_cell_54 ?_
        refine V_iload_n C 1 dX10_cell_57 rfl rfl ?_
        have g7 : ¬ (ob l1 4) := fun g9 => by rw [if_pos g9] at h; cases h
        rw [if_neg g7] at h
        refine V_ialdO C oM_16 g7 dX10_cell_58 ?_
        by_cases c8 : (σ.1 16 (l1).toNatClampNeg) = 0
        · rw [if_pos c8] at h
          refine V_if_neF C 67 dX10_cell_59 (by decide) c8 ?_
          refine V_iload_n C 3 dX10_cell_62 rfl rfl ?_
          refine V_i2b C dX10_cell_63 ?_
          refine V_goto C 83 dX10_cell_64 (by decide) ?_
          refine V_sub (lv' := []) [] rfl ?_
          exact X10_cell_b83_ok C hd h
        · rw [if_neg c8] at h
          refine V_if_neT C 67 dX10_cell_59 (by decide) c8 ?_
          refine V_aload_n C 0 dX10_cell_67 rfl rfl ?_
          refine fg10_63 (r := 16) C oM_0 rfl dX10_cell_68 ?_
          refine V_iload_n C 1 dX10_cell_71 rfl rfl ?_
          have g9 : ¬ (ob l1 4) := fun g9 => by rw [if_pos g9] at h; cases h
          rw [if_neg g9] at h
          refine V_ialdO C oM_16 g9 dX10_cell_72 ?_
          refine V_iconst C (w := 1) dX10_cell_73 (by decide) ?_
          by_cases c10 : (σ.1 16 (l1).toNatClampNeg) = 1
          · rw [if_pos c10] at h
            refine V_icmp_neF C 82 dX10_cell_74 (by decide) c10 ?_
            refine V_iload_n C 3 dX10_cell_77 rfl rfl ?_
            refine V_i2s C dX10_cell_78 ?_
            refine V_goto C 83 dX10_cell_79 (by decide) ?_
            refine V_sub (lv' := []) [] rfl ?_
            exact X10_cell_b83_ok C hd h
          · rw [if_neg c10] at h
            refine V_icmp_neT C 82 dX10_cell_74 (by decide) c10 ?_
            refine V_iload_n C 3 dX10_cell_82 rfl rfl ?_
            refine V_sub (lv' := []) [] rfl ?_
            exact X10_cell_b83_ok C hd h
def X10_copy_b145 (K121 : Int32 → Int32 → Int32 → Int32 → Int32 → Int32 → Int32 → St → Option (Int32 × St)) (l1 : Int32) (l2 : Int32) (l3 : Int32) (l4 : Int32) (l5 : Int32) (l6 : Int32) (l7 : Int32) (s0 : Int32) (σ : St) : Option (Int32 × St) := if ob (((40 * l1) + l2) + s0) 160 then none else (if ob (((40 * l3) + l4) + s0) 160 then none else (K121 l1 l2 l3 l4 l5 l6 (l7 + 1) (up σ 18 ((((40 * l3) + l4) + s0)).toNatClampNeg (σ.1 18 ((((40 * l1) + l2) + s0)).toNatClampNeg))))
set_option maxRecDepth 100000 in
set_option maxHeartbeats 4000000 in
theorem X10_copy_b145_ok {G : Gx} {p : Program} {l : Launch} {e : Env} {d : Nat} {s : State} {m : MethodId} {args : Array Value} {below : List Frame} {meth : Method} {c : Code} {A : Nat → Prop} {K121 : Int32 → Int32 → Int32 → Int32 → Int32 → Int32 → Int32 → St → Option (Int32 × St)} (C : OK shM G p s m args meth c RX10 cX10_copy 9 (some FieldType.int) A) (hd : 3 ≤ d) (hK121 : ∀  {l1 : Int32} {l2 : Int32} {l3 : Int32} {l4 : Int32} {l5 : Int32} {l6 : Int32} {l7 : Int32} {σ : St} {x : (Int32 × St)}, K121 l1 l2 l3 l4 l5 l6 l7 σ = some x → Vw shM G p l e d s m args below meth c 9 A σ 121 [(0, .ref (G.2.1 0)), (1, .int l1), (2, .int l2), (3, .int l3), (4, .int l4), (5, .int l5), (6, .int l6), (7, .int l7)] [] (some (.int x.1)) x.2) {l1 : Int32} {l2 : Int32} {l3 : Int32} {l4 : Int32} {l5 : Int32} {l6 : Int32} {l7 : Int32} {s0 : Int32} {σ : St} {x : (Int32 × St)} (h : X10_copy_b145 K121 l1 l2 l3 l4 l5 l6 l7 s0 σ = some x) : Vw shM G p l e d s m args below meth c 9 A σ 145 [(0, .ref (G.2.1 0)), (1, .int l1), (2, .int l2), (3, .int l3), (4, .int l4), (5, .int l5), (6, .int l6), (7, .int l7)] [.int s0] (some (.int x.1)) x.2 := by
  unfold X10_copy_b145 at h
  refine V_istore C (lv' := [(8, .int s0), (0, .ref (G.2.1 0)), (1, .int l1), (2, .int l2), (3, .int l3), (4, .int l4), (5, .int l5), (6, .int l6), (7, .int l7)]) dX10_copy_145 (by decide) rfl ?_
  refine V_aload_n C 1 dX10_copy_147 rfl rfl ?_
  refine fg10_69 (r := 18) C oM_0 rfl dX10_copy_148 ?_
  refine V_bipush C (w := 40) dX10_copy_151 (by decide) ?_
  refine V_iload_n C 4 dX10_copy_153 rfl rfl ?_
  refine V_imul C dX10_copy_154 ?_
  refine V_iload C 5 dX10_copy_155 rfl ?_
  refine V_iadd C dX10_copy_157 ?_
  refine V_iload C 0 dX10_copy_158 rfl ?_
  refine V_iadd C dX10_copy_160 ?_
  refine V_aload_n C 1 dX10_copy_161 rfl rfl ?_
  refine fg10_69 (r := 18) C oM_0 rfl dX10_copy_162 ?_
  refine V_bipush C (w := 40) dX10_copy_165 (by decide) ?_
  refine V_iload_n C 2 dX10_copy_167 rfl rfl ?_
  refine V_imul C dX10_copy_168 ?_
  refine V_iload_n C 3 dX10_copy_169 rfl rfl ?_
  refine V_iadd C dX10_copy_170 ?_
  refine V_iload C 0 dX10_copy_171 rfl ?_
  refine V_iadd C dX10_copy_173 ?_
  have g1 : ¬ (ob (((40 * l1) + l2) + s0) 160) := fun g9 => by rw [if_pos g9] at h; cases h
  rw [if_neg g1] at h
  refine V_ialdO C oM_18 g1 dX10_copy_174 ?_
  have g2 : ¬ (ob (((40 * l3) + l4) + s0) 160) := fun g9 => by rw [if_pos g9] at h; cases h
  rw [if_neg g2] at h
  refine V_iastO C oM_18 g2 dX10_copy_175 ?_
  refine V_iinc C (w := (l7 + 1)) (lv' := [(7, .int (l7 + 1)), (8, .int s0), (0, .ref (G.2.1 0)), (1, .int l1), (2, .int l2), (3, .int l3), (4, .int l4), (5, .int l5), (6, .int l6)]) 8 dX10_copy_176 rfl (congrArg (l7 + ·) (show Int32.ofInt 1 = 1 by decide)) (by decide) rfl ?_
  refine V_goto C 121 dX10_copy_179 (by decide) ?_
  refine V_sub (lv' := [(0, .ref (G.2.1 0)), (1, .int l1), (2, .int l2), (3, .int l3), (4, .int l4), (5, .int l5), (6, .int l6), (7, .int (l7 + 1))]) [2, 3, 4, 5, 6, 7, 8, 0] rfl ?_
  exact hK121 h
def X10_copy_b121 : Nat → Int32 → Int32 → Int32 → Int32 → Int32 → Int32 → Int32 → St → Option (Int32 × St)
  | 0, _, _, _, _, _, _, _, _ => none
  | F + 1, l1, l2, l3, l4, l5, l6, l7, σ => if l5 ≤ l7 then (some (l5, σ)) else (if l6 = 0 then (X10_copy_b145 (X10_copy_b121 F) l1 l2 l3 l4 l5 l6 l7 l7 σ) else (X10_copy_b145 (X10_copy_b121 F) l1 l2 l3 l4 l5 l6 l7 ((l5 - 1) - l7) σ))
set_option maxRecDepth 100000 in
set_option maxHeartbeats 4000000 in
theorem X10_copy_b121_ok {G : Gx} {p : Program} {l : Launch} {e : Env} {d : Nat} {s : State} {m : MethodId} {args : Array Value} {below : List Frame} {meth : Method} {c : Code} {A : Nat → Prop} (C : OK shM G p s m args meth c RX10 cX10_copy 9 (some FieldType.int) A) (hd : 3 ≤ d) : ∀ (F : Nat) {l1 : Int32} {l2 : Int32} {l3 : Int32} {l4 : Int32} {l5 : Int32} {l6 : Int32} {l7 : Int32} {σ : St} {x : (Int32 × St)} (h : X10_copy_b121 F l1 l2 l3 l4 l5 l6 l7 σ = some x), Vw shM G p l e d s m args below meth c 9 A σ 121 [(0, .ref (G.2.1 0)), (1, .int l1), (2, .int l2), (3, .int l3), (4, .int l4), (5, .int l5), (6, .int l6), (7, .int l7)] [] (some (.int x.1)) x.2 := by
  intro F
  induction F with
  | zero =>
    intro l1 l2 l3 l4 l5 l6 l7 σ x h
    rw [X10_copy_b121] at h
    cases h
  | succ F ih =>
    intro l1 l2 l3 l4 l5 l6 l7 σ x h
    rw [X10_copy_b121] at h
    refine V_iload C 7 dX10_copy_121 rfl ?_
    refine V_iload C 5 dX10_copy_123 rfl ?_
    by_cases c3 : l5 ≤ l7
    · rw [if_pos c3] at h
      refine V_icmp_geT C 182 dX10_copy_125 (by decide) c3 ?_
      refine V_iload C 5 dX10_copy_182 rfl ?_
      obtain rfl := Option.some.inj h
      exact V_iret C rfl rfl dX10_copy_184
    · rw [if_neg c3] at h
      refine V_icmp_geF C 182 dX10_copy_125 (by decide) c3 ?_
      refine V_iload C 6 dX10_copy_128 rfl ?_
      by_cases c4 : l6 = 0
      · rw [if_pos c4] at h
        refine V_if_eqT C 143 dX10_copy_130 (by decide) c4 ?_
        refine V_iload C 7 dX10_copy_143 rfl ?_
        exact X10_copy_b145_ok C hd (fun h => ih h) h
      · rw [if_neg c4] at h
        refine V_if_eqF C 143 dX10_copy_130 (by decide) c4 ?_
        refine V_iload C 5 dX10_copy_133 rfl ?_
        refine V_iconst C (w := 1) dX10_copy_135 (by decide) ?_
        refine V_isub C dX10_copy_136 ?_
        refine V_iload C 7 dX10_copy_137 rfl ?_
        refine V_isub C dX10_copy_139 ?_
        refine V_goto C 145 dX10_copy_140 (by decide) ?_
        exact X10_copy_b145_ok C hd (fun h => ih h) h
def X10_copy_b116 (l1 : Int32) (l2 : Int32) (l3 : Int32) (l4 : Int32) (l5 : Int32) (s0 : Int32) (σ : St) : Option (Int32 × St) := X10_copy_b121 FU l1 l2 l3 l4 l5 s0 0 σ
set_option maxRecDepth 100000 in
set_option maxHeartbeats 4000000 in
theorem X10_copy_b116_ok {G : Gx} {p : Program} {l : Launch} {e : Env} {d : Nat} {s : State} {m : MethodId} {args : Array Value} {below : List Frame} {meth : Method} {c : Code} {A : Nat → Prop} (C : OK shM G p s m args meth c RX10 cX10_copy 9 (some FieldType.int) A) (hd : 3 ≤ d) {l1 : Int32} {l2 : Int32} {l3 : Int32} {l4 : Int32} {l5 : Int32} {s0 : Int32} {σ : St} {x : (Int32 × St)} (h : X10_copy_b116 l1 l2 l3 l4 l5 s0 σ = some x) : Vw shM G p l e d s m args below meth c 9 A σ 116 [(0, .ref (G.2.1 0)), (1, .int l1), (2, .int l2), (3, .int l3), (4, .int l4), (5, .int l5)] [.int s0] (some (.int x.1)) x.2 := by
  unfold X10_copy_b116 at h
  refine V_istore C (lv' := [(6, .int s0), (0, .ref (G.2.1 0)), (1, .int l1), (2, .int l2), (3, .int l3), (4, .int l4), (5, .int l5)]) dX10_copy_116 (by decide) rfl ?_
  refine V_iconst C (w := 0) dX10_copy_118 (by decide) ?_
  refine V_istore C (lv' := [(7, .int 0), (6, .int s0), (0, .ref (G.2.1 0)), (1, .int l1), (2, .int l2), (3, .int l3), (4, .int l4), (5, .int l5)]) dX10_copy_119 (by decide) rfl ?_
  refine V_sub (lv' := [(0, .ref (G.2.1 0)), (1, .int l1), (2, .int l2), (3, .int l3), (4, .int l4), (5, .int l5), (6, .int s0), (7, .int 0)]) [2, 3, 4, 5, 6, 7, 1, 0] rfl ?_
  exact X10_copy_b121_ok C hd FU h
def X10_copy (l1 : Int32) (l2 : Int32) (l3 : Int32) (l4 : Int32) (l5 : Int32) (σ : St) : Option (Int32 × St) := (X10_isSheet l1).bind (fun x1 => if x1 = 0 then (some ((-2), σ)) else ((X10_isSheet l3).bind (fun x8 => if x8 = 0 then (some ((-2), σ)) else (if ob l1 4 then none else (if (σ.1 15 (l1).toNatClampNeg) = 0 then (some ((-11), σ)) else (if ob l3 4 then none else (if (σ.1 15 (l3).toNatClampNeg) = 0 then (some ((-11), σ)) else (if ob l1 4 then none else (if ob l3 4 then none else (if (σ.1 16 (l1).toNatClampNeg) = (σ.1 16 (l3).toNatClampNeg) then (if l5 < 0 then (some ((-12), σ)) else (if l2 < 0 then (some ((-12), σ)) else (if l4 < 0 then (some ((-12), σ)) else (if ob l1 4 then none else (if ((σ.1 17 (l1).toNatClampNeg) - l5) < l2 then (some ((-12), σ)) else (if ob l3 4 then none else (if l4 ≤ ((σ.1 17 (l3).toNatClampNeg) - l5) then (if l1 = l3 then (if l4 ≤ l2 then (X10_copy_b116 l1 l2 l3 l4 l5 0 σ) else (X10_copy_b116 l1 l2 l3 l4 l5 1 σ)) else (X10_copy_b116 l1 l2 l3 l4 l5 0 σ)) else (some ((-12), σ))))))))) else (some ((-13), σ))))))))))))
set_option maxRecDepth 100000 in
set_option maxHeartbeats 4000000 in
theorem X10_copy_ok {l1 : Int32} {l2 : Int32} {l3 : Int32} {l4 : Int32} {l5 : Int32} {σ : St} {x : (Int32 × St)} (h : X10_copy l1 l2 l3 l4 l5 σ = some x) : Ct shM (3) yX10_copy cX10_copy 9 (some FieldType.int) (fun G => [.ref (G.2.1 0), .int l1, .int l2, .int l3, .int l4, .int l5]) σ (fun G => some (.int x.1)) x.2 := by
  refine Ct.of mw_X10_copy.1 (by decide +kernel) (fun G => Nat.le_of_ble_eq_true rfl) (fun G p l e d s m args below meth c A hd C => ?_)
  refine (?_ : Vw shM G p l e d s m args below meth c 9 A σ 0 [(0, .ref (G.2.1 0)), (1, .int l1), (2, .int l2), (3, .int l3), (4, .int l4), (5, .int l5)] [] (some (.int x.1)) x.2)
  unfold X10_copy at h
  refine V_iload_n C 1 dX10_copy_0 rfl rfl ?_
  obtain ⟨x1, h1, h⟩ := Option.bind_eq_some_iff.mp h
  refine V_callSi (As := [.int l1]) C (X10_isSheet_ok h1) mw_X10_isSheet.1 mw_X10_isSheet.2 q10_256 (by omega) rfl rfl rfl (Nat.le_of_ble_eq_true rfl) dX10_copy_1 ?_
  by_cases c5 : x1 = 0
  · rw [if_pos c5] at h
    refine V_if_eqT C 14 dX10_copy_4 (by decide) c5 ?_
    refine V_bipush C (w := (-2)) dX10_copy_14 (by decide) ?_
    obtain rfl := Option.some.inj h
    exact V_iret C rfl rfl dX10_copy_16
  · rw [if_neg c5] at h
    refine V_if_eqF C 14 dX10_copy_4 (by decide) c5 ?_
    refine V_iload_n C 3 dX10_copy_7 rfl rfl ?_
    obtain ⟨x8, h8, h⟩ := Option.bind_eq_some_iff.mp h
    refine V_callSi (As := [.int l3]) C (X10_isSheet_ok h8) mw_X10_isSheet.1 mw_X10_isSheet.2 q10_256 (by omega) rfl rfl rfl (Nat.le_of_ble_eq_true rfl) dX10_copy_8 ?_
    by_cases c6 : x8 = 0
    · rw [if_pos c6] at h
      refine V_if_neF C 17 dX10_copy_11 (by decide) c6 ?_
      refine V_bipush C (w := (-2)) dX10_copy_14 (by decide) ?_
      obtain rfl := Option.some.inj h
      exact V_iret C rfl rfl dX10_copy_16
    · rw [if_neg c6] at h
      refine V_if_neT C 17 dX10_copy_11 (by decide) c6 ?_
      refine V_aload_n C 0 dX10_copy_17 rfl rfl ?_
      refine fg10_60 (r := 15) C oM_0 rfl dX10_copy_18 ?_
      refine V_iload_n C 1 dX10_copy_21 rfl rfl ?_
      have g7 : ¬ (ob l1 4) := fun g9 => by rw [if_pos g9] at h; cases h
      rw [if_neg g7] at h
      refine V_zaldO C oM_15 g7 dX10_copy_22 ?_
      by_cases c8 : (σ.1 15 (l1).toNatClampNeg) = 0
      · rw [if_pos c8] at h
        refine V_if_eqT C 35 dX10_copy_23 (by decide) c8 ?_
        refine V_bipush C (w := (-11)) dX10_copy_35 (by decide) ?_
        obtain rfl := Option.some.inj h
        exact V_iret C rfl rfl dX10_copy_37
      · rw [if_neg c8] at h
        refine V_if_eqF C 35 dX10_copy_23 (by decide) c8 ?_
        refine V_aload_n C 0 dX10_copy_26 rfl rfl ?_
        refine fg10_60 (r := 15) C oM_0 rfl dX10_copy_27 ?_
        refine V_iload_n C 3 dX10_copy_30 rfl rfl ?_
        have g9 : ¬ (ob l3 4) := fun g9 => by rw [if_pos g9] at h; cases h
        rw [if_neg g9] at h
        refine V_zaldO C oM_15 g9 dX10_copy_31 ?_
        by_cases c10 : (σ.1 15 (l3).toNatClampNeg) = 0
        · rw [if_pos c10] at h
          refine V_if_neF C 38 dX10_copy_32 (by decide) c10 ?_
          refine V_bipush C (w := (-11)) dX10_copy_35 (by decide) ?_
          obtain rfl := Option.some.inj h
          exact V_iret C rfl rfl dX10_copy_37
        · rw [if_neg c10] at h
          refine V_if_neT C 38 dX10_copy_32 (by decide) c10 ?_
          refine V_aload_n C 0 dX10_copy_38 rfl rfl ?_
          refine fg10_63 (r := 16) C oM_0 rfl dX10_copy_39 ?_
          refine V_iload_n C 1 dX10_copy_42 rfl rfl ?_
          have g11 : ¬ (ob l1 4) := fun g9 => by rw [if_pos g9] at h; cases h
          rw [if_neg g11] at h
          refine V_ialdO C oM_16 g11 dX10_copy_43 ?_
          refine V_aload_n C 0 dX10_copy_44 rfl rfl ?_
          refine fg10_63 (r := 16) C oM_0 rfl dX10_copy_45 ?_
          refine V_iload_n C 3 dX10_copy_48 rfl rfl ?_
          have g12 : ¬ (ob l3 4) := fun g9 => by rw [if_pos g9] at h; cases h
          rw [if_neg g12] at h
          refine V_ialdO C oM_16 g12 dX10_copy_49 ?_
          by_cases c13 : (σ.1 16 (l1).toNatClampNeg) = (σ.1 16 (l3).toNatClampNeg)
          · rw [if_pos c13] at h
            refine V_icmp_eqT C 56 dX10_copy_50 (by decide) c13 ?_
            refine V_iload C 5 dX10_copy_56 rfl ?_
            by_cases c14 : l5 < 0
            · rw [if_pos c14] at h
              refine V_if_ltT C 97 dX10_copy_58 (by decide) c14 ?_
              refine V_bipush C (w := (-12)) dX10_copy_97 (by decide) ?_
              obtain rfl := Option.some.inj h
              exact V_iret C rfl rfl dX10_copy_99
            · rw [if_neg c14] at h
              refine V_if_ltF C 97 dX10_copy_58 (by decide) c14 ?_
              refine V_iload_n C 2 dX10_copy_61 rfl rfl ?_
              by_cases c15 : l2 < 0
              · rw [if_pos c15] at h
                refine V_if_ltT C 97 dX10_copy_62 (by decide) c15 ?_
                refine V_bipush C (w := (-12)) dX10_copy_97 (by decide) ?_
                obtain rfl := Option.some.inj h
                exact V_iret C rfl rfl dX10_copy_99
              · rw [if_neg c15] at h
                refine V_if_ltF C 97 dX10_copy_62 (by decide) c15 ?_
                refine V_iload C 4 dX10_copy_65 rfl ?_
                by_cases c16 : l4 < 0
                · rw [if_pos c16] at h
                  refine V_if_ltT C 97 dX10_copy_67 (by decide) c16 ?_
                  refine V_bipush C (w := (-12)) dX10_copy_97 (by decide) ?_
                  obtain rfl := Option.some.inj h
                  exact V_iret C rfl rfl dX10_copy_99
                · rw [if_neg c16] at h
                  refine V_if_ltF C 97 dX10_copy_67 (by decide) c16 ?_
                  refine V_iload_n C 2 dX10_copy_70 rfl rfl ?_
                  refine V_aload_n C 0 dX10_copy_71 rfl rfl ?_
                  refine fg10_66 (r := 17) C oM_0 rfl dX10_copy_72 ?_
                  refine V_iload_n C 1 dX10_copy_75 rfl rfl ?_
                  have g17 : ¬ (ob l1 4) := fun g9 => by rw [if_pos g9] at h; cases h
                  rw [if_neg g17] at h
                  refine V_ialdO C oM_17 g17 dX10_copy_76 ?_
                  refine V_iload C 5 dX10_copy_77 rfl ?_
                  refine V_isub C dX10_copy_79 ?_
                  by_cases c18 : ((σ.1 17 (l1).toNatClampNeg) - l5) < l2
                  · rw [if_pos c18] at h
                    refine V_icmp_gtT C 97 dX10_copy_80 (by decide) c18 ?_
                    refine V_bipush C (w := (-12)) dX10_copy_97 (by decide) ?_
                    obtain rfl := Option.some.inj h
                    exact V_iret C rfl rfl dX10_copy_99
                  · rw [if_neg c18] at h
                    refine V_icmp_gtF C 97 dX10_copy_80 (by decide) c18 ?_
                    refine V_iload C 4 dX10_copy_83 rfl ?_
                    refine V_aload_n C 0 dX10_copy_85 rfl rfl ?_
                    refine fg10_66 (r := 17) C oM_0 rfl dX10_copy_86 ?_
                    refine V_iload_n C 3 dX10_copy_89 rfl rfl ?_
                    have g19 : ¬ (ob l3 4) := fun g9 => by rw [if_pos g9] at h; cases h
                    rw [if_neg g19] at h
                    refine V_ialdO C oM_17 g19 dX10_copy_90 ?_
                    refine V_iload C 5 dX10_copy_91 rfl ?_
                    refine V_isub C dX10_copy_93 ?_
                    by_cases c20 : l4 ≤ ((σ.1 17 (l3).toNatClampNeg) - l5)
                    · rw [if_pos c20] at h
                      refine V_icmp_leT C 100 dX10_copy_94 (by decide) c20 ?_
                      refine V_iload_n C 1 dX10_copy_100 rfl rfl ?_
                      refine V_iload_n C 3 dX10_copy_101 rfl rfl ?_
                      by_cases c21 : l1 = l3
                      · rw [if_pos c21] at h
                        refine V_icmp_neF C 115 dX10_copy_102 (by decide) c21 ?_
                        refine V_iload_n C 2 dX10_copy_105 rfl rfl ?_
                        refine V_iload C 4 dX10_copy_106 rfl ?_
                        by_cases c22 : l4 ≤ l2
                        · rw [if_pos c22] at h
                          refine V_icmp_geT C 115 dX10_copy_108 (by decide) c22 ?_
                          refine V_iconst C (w := 0) dX10_copy_115 (by decide) ?_
                          exact X10_copy_b116_ok C hd h
                        · rw [if_neg c22] at h
                          refine V_icmp_geF C 115 dX10_copy_108 (by decide) c22 ?_
                          refine V_iconst C (w := 1) dX10_copy_111 (by decide) ?_
                          refine V_goto C 116 dX10_copy_112 (by decide) ?_
                          exact X10_copy_b116_ok C hd h
                      · rw [if_neg c21] at h
                        refine V_icmp_neT C 115 dX10_copy_102 (by decide) c21 ?_
                        refine V_iconst C (w := 0) dX10_copy_115 (by decide) ?_
                        exact X10_copy_b116_ok C hd h
                    · rw [if_neg c20] at h
                      refine V_icmp_leF C 100 dX10_copy_94 (by decide) c20 ?_
                      refine V_bipush C (w := (-12)) dX10_copy_97 (by decide) ?_
                      obtain rfl := Option.some.inj h
                      exact V_iret C rfl rfl dX10_copy_99
          · rw [if_neg c13] at h
            refine V_icmp_eqF C 56 dX10_copy_50 (by decide) c13 ?_
            refine V_bipush C (w := (-13)) dX10_copy_53 (by decide) ?_
            obtain rfl := Option.some.inj h
            exact V_iret C rfl rfl dX10_copy_55
def X10_guests_b158 (K75 : Int32 → Int32 → Int32 → Int32 → Int32 → St → Option (Int32 × St)) (l1 : Int32) (l3 : Int32) (l4 : Int32) (l6 : Int32) (s0 : Int32) (s1 : Int32) (σ : St) : Option (Int32 × St) := K75 l1 l3 l4 (s1 + s0) (l6 + 1) σ
set_option maxRecDepth 100000 in
set_option maxHeartbeats 4000000 in
theorem X10_guests_b158_ok {G : Gx} {p : Program} {l : Launch} {e : Env} {d : Nat} {s : State} {m : MethodId} {args : Array Value} {below : List Frame} {meth : Method} {c : Code} {A : Nat → Prop} {K75 : Int32 → Int32 → Int32 → Int32 → Int32 → St → Option (Int32 × St)} (C : OK shM G p s m args meth c RX10 cX10_guests 8 (some FieldType.int) A) (hd : 3 ≤ d) (hK75 : ∀  {l1 : Int32} {l3 : Int32} {l4 : Int32} {l5 : Int32} {l6 : Int32} {σ : St} {x : (Int32 × St)}, K75 l1 l3 l4 l5 l6 σ = some x → Vw shM G p l e d s m args below meth c 8 A σ 75 [(0, .ref (G.2.1 0)), (1, .int l1), (3, .int l3), (4, .int l4), (5, .int l5), (6, .int l6)] [] (some (.int x.1)) x.2) {l1 : Int32} {l3 : Int32} {l4 : Int32} {l6 : Int32} {s0 : Int32} {s1 : Int32} {σ : St} {x : (Int32 × St)} (h : X10_guests_b158 K75 l1 l3 l4 l6 s0 s1 σ = some x) : Vw shM G p l e d s m args below meth c 8 A σ 158 [(0, .ref (G.2.1 0)), (1, .int l1), (3, .int l3), (4, .int l4), (6, .int l6)] [.int s0, .int s1] (some (.int x.1)) x.2 := by
  unfold X10_guests_b158 at h
  refine V_iadd C dX10_guests_158 ?_
  refine V_istore C (lv' := [(5, .int (s1 + s0)), (0, .ref (G.2.1 0)), (1, .int l1), (3, .int l3), (4, .int l4), (6, .int l6)]) dX10_guests_159 (by decide) rfl ?_
  refine V_iinc C (w := (l6 + 1)) (lv' := [(6, .int (l6 + 1)), (5, .int (s1 + s0)), (0, .ref (G.2.1 0)), (1, .int l1), (3, .int l3), (4, .int l4)]) 5 dX10_guests_161 rfl (congrArg (l6 + ·) (show Int32.ofInt 1 = 1 by decide)) (by decide) rfl ?_
  refine V_goto C 75 dX10_guests_164 (by decide) ?_
  refine V_sub (lv' := [(0, .ref (G.2.1 0)), (1, .int l1), (3, .int l3), (4, .int l4), (5, .int (s1 + s0)), (6, .int (l6 + 1))]) [2, 3, 4, 5, 1, 0] rfl ?_
  exact hK75 h
def X10_guests_b75 : Nat → Int32 → Int32 → Int32 → Int32 → Int32 → St → Option (Int32 × St)
  | 0, _, _, _, _, _, _ => none
  | F + 1, l1, l3, l4, l5, l6, σ => if l4 ≤ l6 then (some (l5, σ)) else (if l3 < 0 then (some ((-12), σ)) else (if ob l1 4 then none else (if l3 ≤ (((σ.1 17 (l1).toNatClampNeg) - (3 * l6)) - 3) then (if ob (((40 * l1) + l3) + (3 * l6)) 160 then none else (if ob ((((40 * l1) + l3) + (3 * l6)) + 1) 160 then none else (if ob ((((40 * l1) + l3) + (3 * l6)) + 2) 160 then none else ((X10_guest (σ.1 18 ((((40 * l1) + l3) + (3 * l6))).toNatClampNeg) (σ.1 18 (((((40 * l1) + l3) + (3 * l6)) + 1)).toNatClampNeg) (σ.1 18 (((((40 * l1) + l3) + (3 * l6)) + 2)).toNatClampNeg) σ).bind (fun x147 => if x147.1 < 0 then (X10_guests_b158 (X10_guests_b75 F) l1 l3 l4 l6 0 l5 x147.2) else (X10_guests_b158 (X10_guests_b75 F) l1 l3 l4 l6 1 l5 x147.2)))))) else (some ((-12), σ)))))
set_option maxRecDepth 100000 in
set_option maxHeartbeats 4000000 in
theorem X10_guests_b75_ok {G : Gx} {p : Program} {l : Launch} {e : Env} {d : Nat} {s : State} {m : MethodId} {args : Array Value} {below : List Frame} {meth : Method} {c : Code} {A : Nat → Prop} (C : OK shM G p s m args meth c RX10 cX10_guests 8 (some FieldType.int) A) (hd : 3 ≤ d) : ∀ (F : Nat) {l1 : Int32} {l3 : Int32} {l4 : Int32} {l5 : Int32} {l6 : Int32} {σ : St} {x : (Int32 × St)} (h : X10_guests_b75 F l1 l3 l4 l5 l6 σ = some x), Vw shM G p l e d s m args below meth c 8 A σ 75 [(0, .ref (G.2.1 0)), (1, .int l1), (3, .int l3), (4, .int l4), (5, .int l5), (6, .int l6)] [] (some (.int x.1)) x.2 := by
  intro F
  induction F with
  | zero =>
    intro l1 l3 l4 l5 l6 σ x h
    rw [X10_guests_b75] at h
    cases h
  | succ F ih =>
    intro l1 l3 l4 l5 l6 σ x h
    rw [X10_guests_b75] at h
    refine V_iload C 5 dX10_guests_75 rfl ?_
    refine V_iload C 3 dX10_guests_77 rfl ?_
    by_cases c1 : l4 ≤ l6
    · rw [if_pos c1] at h
      refine V_icmp_geT C 167 dX10_guests_79 (by decide) c1 ?_
      refine V_iload C 4 dX10_guests_167 rfl ?_
      obtain rfl := Option.some.inj h
      exact V_iret C rfl rfl dX10_guests_169
    · rw [if_neg c1] at h
      refine V_icmp_geF C 167 dX10_guests_79 (by decide) c1 ?_
      refine V_iload_n C 2 dX10_guests_82 rfl rfl ?_
      by_cases c2 : l3 < 0
      · rw [if_pos c2] at h
        refine V_if_ltT C 103 dX10_guests_83 (by decide) c2 ?_
        refine V_bipush C (w := (-12)) dX10_guests_103 (by decide) ?_
        obtain rfl := Option.some.inj h
        exact V_iret C rfl rfl dX10_guests_105
      · rw [if_neg c2] at h
        refine V_if_ltF C 103 dX10_guests_83 (by decide) c2 ?_
        refine V_iload_n C 2 dX10_guests_86 rfl rfl ?_
        refine V_aload_n C 0 dX10_guests_87 rfl rfl ?_
        refine fg10_66 (r := 17) C oM_0 rfl dX10_guests_88 ?_
        refine V_iload_n C 1 dX10_guests_91 rfl rfl ?_
        have g3 : ¬ (ob l1 4) := fun g9 => by rw [if_pos g9] at h; cases h
        rw [if_neg g3] at h
        refine V_ialdO C oM_17 g3 dX10_guests_92 ?_
        refine V_iconst C (w := 3) dX10_guests_93 (by decide) ?_
        refine V_iload C 5 dX10_guests_94 rfl ?_
        refine V_imul C dX10_guests_96 ?_
        refine V_isub C dX10_guests_97 ?_
        refine V_iconst C (w := 3) dX10_guests_98 (by decide) ?_
        refine V_isub C dX10_guests_99 ?_
        by_cases c4 : l3 ≤ (((σ.1 17 (l1).toNatClampNeg) - (3 * l6)) - 3)
        · rw [if_pos c4] at h
          refine V_icmp_leT C 106 dX10_guests_100 (by decide) c4 ?_
          refine V_bipush C (w := 40) dX10_guests_106 (by decide) ?_
          refine V_iload_n C 1 dX10_guests_108 rfl rfl ?_
          refine V_imul C dX10_guests_109 ?_
          refine V_iload_n C 2 dX10_guests_110 rfl rfl ?_
          refine V_iadd C dX10_guests_111 ?_
          refine V_iconst C (w := 3) dX10_guests_112 (by decide) ?_
          refine V_iload C 5 dX10_guests_113 rfl ?_
          refine V_imul C dX10_guests_115 ?_
          refine V_iadd C dX10_guests_116 ?_
          refine V_istore C (lv' := [(7, .int (((40 * l1) + l3) + (3 * l6))), (0, .ref (G.2.1 0)), (1, .int l1), (3, .int l3), (4, .int l4), (5, .int l5), (6, .int l6)]) dX10_guests_117 (by decide) rfl ?_
          refine V_iload C 5 dX10_guests_119 rfl ?_
          refine V_aload_n C 1 dX10_guests_121 rfl rfl ?_
          refine V_aload_n C 1 dX10_guests_122 rfl rfl ?_
          refine fg10_69 (r := 18) C oM_0 rfl dX10_guests_123 ?_
          refine V_iload C 0 dX10_guests_126 rfl ?_
          have g5 : ¬ (ob (((40 * l1) + l3) + (3 * l6)) 160) := fun g9 => by rw [if_pos g9] at h; cases h
          rw [if_neg g5] at h
          refine V_ialdO C oM_18 g5 dX10_guests_128 ?_
          refine V_aload_n C 1 dX10_guests_129 rfl rfl ?_
          refine fg10_69 (r := 18) C oM_0 rfl dX10_guests_130 ?_
          refine V_iload C 0 dX10_guests_133 rfl ?_
          refine V_iconst C (w := 1) dX10_guests_135 (by decide) ?_
          refine V_iadd C dX10_guests_136 ?_
          have g6 : ¬ (ob ((((40 * l1) + l3) + (3 * l6)) + 1) 160) := fun g9 => by rw [if_pos g9] at h; cases h
          rw [if_neg g6] at h
          refine V_ialdO C oM_18 g6 dX10_guests_137 ?_
          refine V_aload_n C 1 dX10_guests_138 rfl rfl ?_
          refine fg10_69 (r := 18) C oM_0 rfl dX10_guests_139 ?_
          refine V_iload C 0 dX10_guests_142 rfl ?_
          refine V_iconst C (w := 2) dX10_guests_144 (by decide) ?_
          refine V_iadd C dX10_guests_145 ?_
          have g7 : ¬ (ob ((((40 * l1) + l3) + (3 * l6)) + 2) 160) := fun g9 => by rw [if_pos g9] at h; cases h
          rw [if_neg g7] at h
          refine V_ialdO C oM_18 g7 dX10_guests_146 ?_
          obtain ⟨x147, h147, h⟩ := Option.bind_eq_some_iff.mp h
          refine V_callVi (As := [.int (σ.1 18 ((((40 * l1) + l3) + (3 * l6))).toNatClampNeg), .int (σ.1 18 (((((40 * l1) + l3) + (3 * l6)) + 1)).toNatClampNeg), .int (σ.1 18 (((((40 * l1) + l3) + (3 * l6)) + 2)).toNatClampNeg)]) C (X10_guest_ok h147) mw_X10_guest.1 mw_X10_guest.2.1 mw_X10_guest.2.2 q10_351 oM_0.1 oM_0.2.1 (by decide) rfl rfl (by omega) rfl rfl rfl (Nat.le_of_ble_eq_true rfl) dX10_guests_147 ?_
          by_cases c8 : x147.1 < 0
          · rw [if_pos c8] at h
            refine V_if_ltT C 157 dX10_guests_150 (by decide) c8 ?_
            refine V_iconst C (w := 0) dX10_guests_157 (by decide) ?_
            refine V_sub (lv' := [(0, .ref (G.2.1 0)), (1, .int l1), (3, .int l3), (4, .int l4), (6, .int l6)]) [1, 2, 3, 4, 6] rfl ?_
            exact X10_guests_b158_ok C hd (fun h => ih h) h
          · rw [if_neg c8] at h
            refine V_if_ltF C 157 dX10_guests_150 (by decide) c8 ?_
            refine V_iconst C (w := 1) dX10_guests_153 (by decide) ?_
            refine V_goto C 158 dX10_guests_154 (by decide) ?_
            refine V_sub (lv' := [(0, .ref (G.2.1 0)), (1, .int l1), (3, .int l3), (4, .int l4), (6, .int l6)]) [1, 2, 3, 4, 6] rfl ?_
            exact X10_guests_b158_ok C hd (fun h => ih h) h
        · rw [if_neg c4] at h
          refine V_icmp_leF C 106 dX10_guests_100 (by decide) c4 ?_
          refine V_bipush C (w := (-12)) dX10_guests_103 (by decide) ?_
          obtain rfl := Option.some.inj h
          exact V_iret C rfl rfl dX10_guests_105
def X10_guests_b57 (l1 : Int32) (l3 : Int32) (l4 : Int32) (σ : St) : Option (Int32 × St) := if ob l1 4 then none else (if (σ.1 15 (l1).toNatClampNeg) = 0 then (some ((-11), σ)) else (X10_guests_b75 FU l1 l3 l4 0 0 σ))
set_option maxRecDepth 100000 in
set_option maxHeartbeats 4000000 in
theorem X10_guests_b57_ok {G : Gx} {p : Program} {l : Launch} {e : Env} {d : Nat} {s : State} {m : MethodId} {args : Array Value} {below : List Frame} {meth : Method} {c : Code} {A : Nat → Prop} (C : OK shM G p s m args meth c RX10 cX10_guests 8 (some FieldType.int) A) (hd : 3 ≤ d) {l1 : Int32} {l3 : Int32} {l4 : Int32} {σ : St} {x : (Int32 × St)} (h : X10_guests_b57 l1 l3 l4 σ = some x) : Vw shM G p l e d s m args below meth c 8 A σ 57 [(0, .ref (G.2.1 0)), (1, .int l1), (3, .int l3), (4, .int l4)] [] (some (.int x.1)) x.2 := by
  unfold X10_guests_b57 at h
  refine V_aload_n C 0 dX10_guests_57 rfl rfl ?_
  refine fg10_60 (r := 15) C oM_0 rfl dX10_guests_58 ?_
  refine V_iload_n C 1 dX10_guests_61 rfl rfl ?_
  have g9 : ¬ (ob l1 4) := fun g9 => by rw [if_pos g9] at h; cases h
  rw [if_neg g9] at h
  refine V_zaldO C oM_15 g9 dX10_guests_62 ?_
  by_cases c10 : (σ.1 15 (l1).toNatClampNeg) = 0
  · rw [if_pos c10] at h
    refine V_if_neF C 69 dX10_guests_63 (by decide) c10 ?_
    refine V_bipush C (w := (-11)) dX10_guests_66 (by decide) ?_
    obtain rfl := Option.some.inj h
    exact V_iret C rfl rfl dX10_guests_68
  · rw [if_neg c10] at h
    refine V_if_neT C 69 dX10_guests_63 (by decide) c10 ?_
    refine V_iconst C (w := 0) dX10_guests_69 (by decide) ?_
    refine V_istore C (lv' := [(5, .int 0), (0, .ref (G.2.1 0)), (1, .int l1), (3, .int l3), (4, .int l4)]) dX10_guests_70 (by decide) rfl ?_
    refine V_iconst C (w := 0) dX10_guests_72 (by decide) ?_
    refine V_istore C (lv' := [(6, .int 0), (5, .int 0), (0, .ref (G.2.1 0)), (1, .int l1), (3, .int l3), (4, .int l4)]) dX10_guests_73 (by decide) rfl ?_
    refine V_sub (lv' := [(0, .ref (G.2.1 0)), (1, .int l1), (3, .int l3), (4, .int l4), (5, .int 0), (6, .int 0)]) [2, 3, 4, 5, 1, 0] rfl ?_
    exact X10_guests_b75_ok C hd FU h
def X10_guests (l1 : Int32) (l2 : Int32) (l3 : Int32) (l4 : Int32) (σ : St) : Option (Int32 × St) := (X10_isSheet l1).bind (fun x1 => if x1 = 0 then (some ((-2), σ)) else ((X10_in (Int32.toInt64 l2) 0 2).bind (fun x13 => if x13 = 0 then (some ((-2), σ)) else ((X10_in (Int32.toInt64 l4) 0 5).bind (fun x26 => if x26 = 0 then (some ((-2), σ)) else (if ob l1 4 then none else (if (σ.1 15 (l1).toNatClampNeg) = 0 then (X10_guests_b57 l1 l3 l4 σ) else (if ob l1 4 then none else (if (σ.1 16 (l1).toNatClampNeg) = l2 then (X10_guests_b57 l1 l3 l4 σ) else (some ((-13), σ)))))))))))
set_option maxRecDepth 100000 in
set_option maxHeartbeats 4000000 in
theorem X10_guests_ok {l1 : Int32} {l2 : Int32} {l3 : Int32} {l4 : Int32} {σ : St} {x : (Int32 × St)} (h : X10_guests l1 l2 l3 l4 σ = some x) : Ct shM (3) yX10_guests cX10_guests 8 (some FieldType.int) (fun G => [.ref (G.2.1 0), .int l1, .int l2, .int l3, .int l4]) σ (fun G => some (.int x.1)) x.2 := by
  refine Ct.of mw_X10_guests.1 (by decide +kernel) (fun G => Nat.le_of_ble_eq_true rfl) (fun G p l e d s m args below meth c A hd C => ?_)
  refine (?_ : Vw shM G p l e d s m args below meth c 8 A σ 0 [(0, .ref (G.2.1 0)), (1, .int l1), (2, .int l2), (3, .int l3), (4, .int l4)] [] (some (.int x.1)) x.2)
  unfold X10_guests at h
  refine V_iload_n C 1 dX10_guests_0 rfl rfl ?_
  obtain ⟨x1, h1, h⟩ := Option.bind_eq_some_iff.mp h
  refine V_callSi (As := [.int l1]) C (X10_isSheet_ok h1) mw_X10_isSheet.1 mw_X10_isSheet.2 q10_256 (by omega) rfl rfl rfl (Nat.le_of_ble_eq_true rfl) dX10_guests_1 ?_
  by_cases c11 : x1 = 0
  · rw [if_pos c11] at h
    refine V_if_eqT C 32 dX10_guests_4 (by decide) c11 ?_
    refine V_bipush C (w := (-2)) dX10_guests_32 (by decide) ?_
    obtain rfl := Option.some.inj h
    exact V_iret C rfl rfl dX10_guests_34
  · rw [if_neg c11] at h
    refine V_if_eqF C 32 dX10_guests_4 (by decide) c11 ?_
    refine V_iload_n C 2 dX10_guests_7 rfl rfl ?_
    refine V_i2l C dX10_guests_8 ?_
    refine V_lconst C (w := 0) dX10_guests_9 (by decide) ?_
    refine V_ldc2 C (w := 2) dX10_guests_10 qk10_259 ?_
    obtain ⟨x13, h13, h⟩ := Option.bind_eq_some_iff.mp h
    refine V_callSi (As := [.long (Int32.toInt64 l2), .long 0, .long 2]) C (X10_in_ok h13) mw_X10_in.1 mw_X10_in.2 q10_82 (by omega) rfl rfl rfl (Nat.le_of_ble_eq_true rfl) dX10_guests_13 ?_
    by_cases c12 : x13 = 0
    · rw [if_pos c12] at h
      refine V_if_eqT C 32 dX10_guests_16 (by decide) c12 ?_
      refine V_bipush C (w := (-2)) dX10_guests_32 (by decide) ?_
      obtain rfl := Option.some.inj h
      exact V_iret C rfl rfl dX10_guests_34
    · rw [if_neg c12] at h
      refine V_if_eqF C 32 dX10_guests_16 (by decide) c12 ?_
      refine V_iload C 4 dX10_guests_19 rfl ?_
      refine V_i2l C dX10_guests_21 ?_
      refine V_lconst C (w := 0) dX10_guests_22 (by decide) ?_
      refine V_ldc2 C (w := 5) dX10_guests_23 qk10_86 ?_
      obtain ⟨x26, h26, h⟩ := Option.bind_eq_some_iff.mp h
      refine V_callSi (As := [.long (Int32.toInt64 l4), .long 0, .long 5]) C (X10_in_ok h26) mw_X10_in.1 mw_X10_in.2 q10_82 (by omega) rfl rfl rfl (Nat.le_of_ble_eq_true rfl) dX10_guests_26 ?_
      by_cases c13 : x26 = 0
      · rw [if_pos c13] at h
        refine V_if_neF C 35 dX10_guests_29 (by decide) c13 ?_
        refine V_bipush C (w := (-2)) dX10_guests_32 (by decide) ?_
        obtain rfl := Option.some.inj h
        exact V_iret C rfl rfl dX10_guests_34
      · rw [if_neg c13] at h
        refine V_if_neT C 35 dX10_guests_29 (by decide) c13 ?_
        refine V_aload_n C 0 dX10_guests_35 rfl rfl ?_
        refine fg10_60 (r := 15) C oM_0 rfl dX10_guests_36 ?_
        refine V_iload_n C 1 dX10_guests_39 rfl rfl ?_
        have g14 : ¬ (ob l1 4) := fun g9 => by rw [if_pos g9] at h; cases h
        rw [if_neg g14] at h
        refine V_zaldO C oM_15 g14 dX10_guests_40 ?_
        by_cases c15 : (σ.1 15 (l1).toNatClampNeg) = 0
        · rw [if_pos c15] at h
          refine V_if_eqT C 57 dX10_guests_41 (by decide) c15 ?_
          refine V_sub (lv' := [(0, .ref (G.2.1 0)), (1, .int l1), (3, .int l3), (4, .int l4)]) [0, 1, 3, 4] rfl ?_
          exact X10_guests_b57_ok C hd h
        · rw [if_neg c15] at h
          refine V_if_eqF C 57 dX10_guests_41 (by decide) c15 ?_
          refine V_aload_n C 0 dX10_guests_44 rfl rfl ?_
          refine fg10_63 (r := 16) C oM_0 rfl dX10_guests_45 ?_
          refine V_iload_n C 1 dX10_guests_48 rfl rfl ?_
          have g16 : ¬ (ob l1 4) := fun g9 => by rw [if_pos g9] at h; cases h
          rw [if_neg g16] at h
          refine V_ialdO C oM_16 g16 dX10_guests_49 ?_
          refine V_iload_n C 2 dX10_guests_50 rfl rfl ?_
          by_cases c17 : (σ.1 16 (l1).toNatClampNeg) = l2
          · rw [if_pos c17] at h
            refine V_icmp_eqT C 57 dX10_guests_51 (by decide) c17 ?_
            refine V_sub (lv' := [(0, .ref (G.2.1 0)), (1, .int l1), (3, .int l3), (4, .int l4)]) [0, 1, 3, 4] rfl ?_
            exact X10_guests_b57_ok C hd h
          · rw [if_neg c17] at h
            refine V_icmp_eqF C 57 dX10_guests_51 (by decide) c17 ?_
            refine V_bipush C (w := (-13)) dX10_guests_54 (by decide) ?_
            obtain rfl := Option.some.inj h
            exact V_iret C rfl rfl dX10_guests_56
def X10_over (l0 : Int32) : Option Int32 := if l0 = 0 then (some (-1)) else (if l0 = 3 then (some 1) else (if l0 = 4 then (some 2) else (some 0)))
set_option maxRecDepth 100000 in
set_option maxHeartbeats 4000000 in
theorem X10_over_ok {l0 : Int32} {σ : St} {x : Int32} (h : X10_over l0 = some x) : Ct shM (1) yX10_over cX10_over 1 (some FieldType.int) (fun G => [.int l0]) σ (fun G => some (.int x)) σ := by
  refine Ct.of mw_X10_over.1 (by decide +kernel) (fun G => Nat.le_of_ble_eq_true rfl) (fun G p l e d s m args below meth c A hd C => ?_)
  refine (?_ : Vw shM G p l e d s m args below meth c 1 A σ 0 [(0, .int l0)] [] (some (.int x)) σ)
  unfold X10_over at h
  refine V_iload_n C 0 dX10_over_0 rfl rfl ?_
  by_cases c1 : l0 = 0
  · rw [if_pos c1] at h
    refine V_if_neF C 8 dX10_over_1 (by decide) c1 ?_
    refine V_iconst C (w := (-1)) dX10_over_4 (by decide) ?_
    refine V_goto C 27 dX10_over_5 (by decide) ?_
    obtain rfl := Option.some.inj h
    exact V_iret C rfl rfl dX10_over_27
  · rw [if_neg c1] at h
    refine V_if_neT C 8 dX10_over_1 (by decide) c1 ?_
    refine V_iload_n C 0 dX10_over_8 rfl rfl ?_
    refine V_iconst C (w := 3) dX10_over_9 (by decide) ?_
    by_cases c2 : l0 = 3
    · rw [if_pos c2] at h
      refine V_icmp_neF C 17 dX10_over_10 (by decide) c2 ?_
      refine V_iconst C (w := 1) dX10_over_13 (by decide) ?_
      refine V_goto C 27 dX10_over_14 (by decide) ?_
      obtain rfl := Option.some.inj h
      exact V_iret C rfl rfl dX10_over_27
    · rw [if_neg c2] at h
      refine V_icmp_neT C 17 dX10_over_10 (by decide) c2 ?_
      refine V_iload_n C 0 dX10_over_17 rfl rfl ?_
      refine V_iconst C (w := 4) dX10_over_18 (by decide) ?_
      by_cases c3 : l0 = 4
      · rw [if_pos c3] at h
        refine V_icmp_neF C 26 dX10_over_19 (by decide) c3 ?_
        refine V_iconst C (w := 2) dX10_over_22 (by decide) ?_
        refine V_goto C 27 dX10_over_23 (by decide) ?_
        obtain rfl := Option.some.inj h
        exact V_iret C rfl rfl dX10_over_27
      · rw [if_neg c3] at h
        refine V_icmp_neT C 26 dX10_over_19 (by decide) c3 ?_
        refine V_iconst C (w := 0) dX10_over_26 (by decide) ?_
        obtain rfl := Option.some.inj h
        exact V_iret C rfl rfl dX10_over_27
def X10_taken_b51 (l1 : Int32) (l2 : Int32) (l3 : Int32) (σ : St) : Option Int32 := if l3 = l2 then (if ob (3 * l1) 15 then none else (some (σ.1 6 ((3 * l1)).toNatClampNeg))) else (some (-13))
set_option maxRecDepth 100000 in
set_option maxHeartbeats 4000000 in
theorem X10_taken_b51_ok {G : Gx} {p : Program} {l : Launch} {e : Env} {d : Nat} {s : State} {m : MethodId} {args : Array Value} {below : List Frame} {meth : Method} {c : Code} {A : Nat → Prop} (C : OK shM G p s m args meth c RX10 cX10_taken 4 (some FieldType.int) A) (hd : 3 ≤ d) {l1 : Int32} {l2 : Int32} {l3 : Int32} {σ : St} {x : Int32} (h : X10_taken_b51 l1 l2 l3 σ = some x) : Vw shM G p l e d s m args below meth c 4 A σ 51 [(0, .ref (G.2.1 0)), (1, .int l1), (2, .int l2), (3, .int l3)] [] (some (.int x)) σ := by
  unfold X10_taken_b51 at h
  refine V_iload_n C 3 dX10_taken_51 rfl rfl ?_
  refine V_iload_n C 2 dX10_taken_52 rfl rfl ?_
  by_cases c1 : l3 = l2
  · rw [if_pos c1] at h
    refine V_icmp_neF C 67 dX10_taken_53 (by decide) c1 ?_
    refine V_aload_n C 0 dX10_taken_56 rfl rfl ?_
    refine fg10_29 (r := 6) C oM_0 rfl dX10_taken_57 ?_
    refine V_iconst C (w := 3) dX10_taken_60 (by decide) ?_
    refine V_iload_n C 1 dX10_taken_61 rfl rfl ?_
    refine V_imul C dX10_taken_62 ?_
    have g2 : ¬ (ob (3 * l1) 15) := fun g9 => by rw [if_pos g9] at h; cases h
    rw [if_neg g2] at h
    refine V_ialdO C oM_6 g2 dX10_taken_63 ?_
    refine V_goto C 69 dX10_taken_64 (by decide) ?_
    obtain rfl := Option.some.inj h
    exact V_iret C rfl rfl dX10_taken_69
  · rw [if_neg c1] at h
    refine V_icmp_neT C 67 dX10_taken_53 (by decide) c1 ?_
    refine V_bipush C (w := (-13)) dX10_taken_67 (by decide) ?_
    obtain rfl := Option.some.inj h
    exact V_iret C rfl rfl dX10_taken_69
def X10_taken_b33 : Nat → Int32 → Int32 → Int32 → St → Option Int32
  | 0, _, _, _, _ => none
  | F + 1, l1, l2, l3, σ => if l3 = (-1) then (X10_taken_b51 l1 l2 l3 σ) else (if l3 = l2 then (X10_taken_b51 l1 l2 l3 σ) else ((X10_over l3).bind (fun x44 => X10_taken_b33 F l1 l2 x44 σ)))
set_option maxRecDepth 100000 in
set_option maxHeartbeats 4000000 in
theorem X10_taken_b33_ok {G : Gx} {p : Program} {l : Launch} {e : Env} {d : Nat} {s : State} {m : MethodId} {args : Array Value} {below : List Frame} {meth : Method} {c : Code} {A : Nat → Prop} (C : OK shM G p s m args meth c RX10 cX10_taken 4 (some FieldType.int) A) (hd : 3 ≤ d) : ∀ (F : Nat) {l1 : Int32} {l2 : Int32} {l3 : Int32} {σ : St} {x : Int32} (h : X10_taken_b33 F l1 l2 l3 σ = some x), Vw shM G p l e d s m args below meth c 4 A σ 33 [(0, .ref (G.2.1 0)), (1, .int l1), (2, .int l2), (3, .int l3)] [] (some (.int x)) σ := by
  intro F
  induction F with
  | zero =>
    intro l1 l2 l3 σ x h
    rw [X10_taken_b33] at h
    cases h
  | succ F ih =>
    intro l1 l2 l3 σ x h
    rw [X10_taken_b33] at h
    refine V_iload_n C 3 dX10_taken_33 rfl rfl ?_
    refine V_iconst C (w := (-1)) dX10_taken_34 (by decide) ?_
    by_cases c3 : l3 = (-1)
    · rw [if_pos c3] at h
      refine V_icmp_eqT C 51 dX10_taken_35 (by decide) c3 ?_
      exact X10_taken_b51_ok C hd h
    · rw [if_neg c3] at h
      refine V_icmp_eqF C 51 dX10_taken_35 (by decide) c3 ?_
      refine V_iload_n C 3 dX10_taken_38 rfl rfl ?_
      refine V_iload_n C 2 dX10_taken_39 rfl rfl ?_
      by_cases c4 : l3 = l2
      · rw [if_pos c4] at h
        refine V_icmp_eqT C 51 dX10_taken_40 (by decide) c4 ?_
        exact X10_taken_b51_ok C hd h
      · rw [if_neg c4] at h
        refine V_icmp_eqF C 51 dX10_taken_40 (by decide) c4 ?_
        refine V_iload_n C 3 dX10_taken_43 rfl rfl ?_
        obtain ⟨x44, h44, h⟩ := Option.bind_eq_some_iff.mp h
        refine V_callSi (As := [.int l3]) C (X10_over_ok h44) mw_X10_over.1 mw_X10_over.2 q10_354 (by omega) rfl rfl rfl (Nat.le_of_ble_eq_true rfl) dX10_taken_44 ?_
        refine V_istore_n C (lv' := [(3, .int x44), (0, .ref (G.2.1 0)), (1, .int l1), (2, .int l2)]) dX10_taken_47 rfl (by decide) rfl ?_
        refine V_goto C 33 dX10_taken_48 (by decide) ?_
        refine V_sub (lv' := [(0, .ref (G.2.1 0)), (1, .int l1), (2, .int l2), (3, .int x44)]) [1, 2, 3, 0] rfl ?_
        exact ih h
def X10_taken (l1 : Int32) (l2 : Int32) (σ : St) : Option Int32 := (X10_in (Int32.toInt64 l2) 0 5).bind (fun x6 => if x6 = 0 then (some (-2)) else ((X10_isOne l1 σ).bind (fun x17 => if x17 = 0 then (some (-11)) else (if ob l1 5 then none else (X10_taken_b33 FU l1 l2 (σ.1 5 (l1).toNatClampNeg) σ)))))
set_option maxRecDepth 100000 in
set_option maxHeartbeats 4000000 in
theorem X10_taken_ok {l1 : Int32} {l2 : Int32} {σ : St} {x : Int32} (h : X10_taken l1 l2 σ = some x) : Ct shM (3) yX10_taken cX10_taken 4 (some FieldType.int) (fun G => [.ref (G.2.1 0), .int l1, .int l2]) σ (fun G => some (.int x)) σ := by
  refine Ct.of mw_X10_taken.1 (by decide +kernel) (fun G => Nat.le_of_ble_eq_true rfl) (fun G p l e d s m args below meth c A hd C => ?_)
  refine (?_ : Vw shM G p l e d s m args below meth c 4 A σ 0 [(0, .ref (G.2.1 0)), (1, .int l1), (2, .int l2)] [] (some (.int x)) σ)
  unfold X10_taken at h
  refine V_iload_n C 2 dX10_taken_0 rfl rfl ?_
  refine V_i2l C dX10_taken_1 ?_
  refine V_lconst C (w := 0) dX10_taken_2 (by decide) ?_
  refine V_ldc2 C (w := 5) dX10_taken_3 qk10_86 ?_
  obtain ⟨x6, h6, h⟩ := Option.bind_eq_some_iff.mp h
  refine V_callSi (As := [.long (Int32.toInt64 l2), .long 0, .long 5]) C (X10_in_ok h6) mw_X10_in.1 mw_X10_in.2 q10_82 (by omega) rfl rfl rfl (Nat.le_of_ble_eq_true rfl) dX10_taken_6 ?_
  by_cases c5 : x6 = 0
  · rw [if_pos c5] at h
    refine V_if_neF C 15 dX10_taken_9 (by decide) c5 ?_
    refine V_bipush C (w := (-2)) dX10_taken_12 (by decide) ?_
    obtain rfl := Option.some.inj h
    exact V_iret C rfl rfl dX10_taken_14
  · rw [if_neg c5] at h
    refine V_if_neT C 15 dX10_taken_9 (by decide) c5 ?_
    refine V_aload_n C 0 dX10_taken_15 rfl rfl ?_
    refine V_iload_n C 1 dX10_taken_16 rfl rfl ?_
    obtain ⟨x17, h17, h⟩ := Option.bind_eq_some_iff.mp h
    refine V_callVi (As := [.int l1]) C (X10_isOne_ok h17) mw_X10_isOne.1 mw_X10_isOne.2.1 mw_X10_isOne.2.2 q10_88 oM_0.1 oM_0.2.1 (by decide) rfl rfl (by omega) rfl rfl rfl (Nat.le_of_ble_eq_true rfl) dX10_taken_17 ?_
    by_cases c6 : x17 = 0
    · rw [if_pos c6] at h
      refine V_if_neF C 26 dX10_taken_20 (by decide) c6 ?_
      refine V_bipush C (w := (-11)) dX10_taken_23 (by decide) ?_
      obtain rfl := Option.some.inj h
      exact V_iret C rfl rfl dX10_taken_25
    · rw [if_neg c6] at h
      refine V_if_neT C 26 dX10_taken_20 (by decide) c6 ?_
      refine V_aload_n C 0 dX10_taken_26 rfl rfl ?_
      refine fg10_26 (r := 5) C oM_0 rfl dX10_taken_27 ?_
      refine V_iload_n C 1 dX10_taken_30 rfl rfl ?_
      have g7 : ¬ (ob l1 5) := fun g9 => by rw [if_pos g9] at h; cases h
      rw [if_neg g7] at h
      refine V_ialdO C oM_5 g7 dX10_taken_31 ?_
      refine V_istore_n C (lv' := [(3, .int (σ.1 5 (l1).toNatClampNeg)), (0, .ref (G.2.1 0)), (1, .int l1), (2, .int l2)]) dX10_taken_32 rfl (by decide) rfl ?_
      refine V_sub (lv' := [(0, .ref (G.2.1 0)), (1, .int l1), (2, .int l2), (3, .int (σ.1 5 (l1).toNatClampNeg))]) [1, 2, 3, 0] rfl ?_
      exact X10_taken_b33_ok C hd FU h
def X10_init_b145 (σ : St) : Option St := (X10_spell 0 119 97 114 109 115 32 53 32 (up (up σ 4 (0 : Int32).toNatClampNeg 20) 4 (1 : Int32).toNatClampNeg 70)).bind (fun x179 => (X10_spell 8 43 32 116 111 112 105 99 32 x179).bind (fun x201 => (X10_spell 16 59 32 99 111 111 108 115 32 x201).bind (fun x223 => (X10_spell 24 50 32 59 32 115 99 114 101 x223).bind (fun x245 => (X10_spell 32 97 109 115 32 108 97 115 116 x245).bind (fun x267 => (X10_spell 40 32 60 32 52 32 59 32 32 x267).bind (fun x289 => some (up (up x289 2 (0 : Int32).toNatClampNeg 48) 0 3 1)))))))
set_option maxRecDepth 100000 in
set_option maxHeartbeats 4000000 in
theorem X10_init_b145_ok {G : Gx} {p : Program} {l : Launch} {e : Env} {d : Nat} {s : State} {m : MethodId} {args : Array Value} {below : List Frame} {meth : Method} {c : Code} {A : Nat → Prop} {R : Room} {cells slots : Nat} {Q : State → Prop} (C : OK shM G p s m args meth c RX10 cX10_init 1 none A) (hd : 7 ≤ d) {σ x : St} (h : X10_init_b145 σ = some x) (hend : ∀ lv, Uw shM G p l e d R s m args below meth c 1 A cells slots Q x 305 lv []) : Uw shM G p l e d R s m args below meth c 1 A cells slots Q σ 145 [(0, .ref (G.2.1 0))] [] := by
  unfold X10_init_b145 at h
  refine V_aload_n C 0 dX10_init_145 rfl rfl ?_
  refine fg10_23 (r := 4) C oM_0 rfl dX10_init_146 ?_
  refine V_iconst C (w := 0) dX10_init_149 (by decide) ?_
  refine V_bipush C (w := 20) dX10_init_150 (by decide) ?_
  refine V_iastO C oM_4 (by decide) dX10_init_152 ?_
  refine V_aload_n C 0 dX10_init_153 rfl rfl ?_
  refine fg10_23 (r := 4) C oM_0 rfl dX10_init_154 ?_
  refine V_iconst C (w := 1) dX10_init_157 (by decide) ?_
  refine V_bipush C (w := 70) dX10_init_158 (by decide) ?_
  refine V_iastO C oM_4 (by decide) dX10_init_160 ?_
  refine V_aload_n C 0 dX10_init_161 rfl rfl ?_
  refine V_iconst C (w := 0) dX10_init_162 (by decide) ?_
  refine V_bipush C (w := 119) dX10_init_163 (by decide) ?_
  refine V_bipush C (w := 97) dX10_init_165 (by decide) ?_
  refine V_bipush C (w := 114) dX10_init_167 (by decide) ?_
  refine V_bipush C (w := 109) dX10_init_169 (by decide) ?_
  refine V_bipush C (w := 115) dX10_init_171 (by decide) ?_
  refine V_bipush C (w := 32) dX10_init_173 (by decide) ?_
  refine V_bipush C (w := 53) dX10_init_175 (by decide) ?_
  refine V_bipush C (w := 32) dX10_init_177 (by decide) ?_
  obtain ⟨x179, h179, h⟩ := Option.bind_eq_some_iff.mp h
  refine V_callVv (As := [.int 0, .int 119, .int 97, .int 114, .int 109, .int 115, .int 32, .int 53, .int 32]) C (X10_spell_ok h179) mw_X10_spell.1 mw_X10_spell.2.1 mw_X10_spell.2.2 q10_72 oM_0.1 oM_0.2.1 (by decide) rfl rfl (by omega) rfl rfl rfl (Nat.le_of_ble_eq_true rfl) dX10_init_179 ?_
  refine V_aload_n C 0 dX10_init_182 rfl rfl ?_
  refine V_bipush C (w := 8) dX10_init_183 (by decide) ?_
  refine V_bipush C (w := 43) dX10_init_185 (by decide) ?_
  refine V_bipush C (w := 32) dX10_init_187 (by decide) ?_
  refine V_bipush C (w := 116) dX10_init_189 (by decide) ?_
  refine V_bipush C (w := 111) dX10_init_191 (by decide) ?_
  refine V_bipush C (w := 112) dX10_init_193 (by decide) ?_
  refine V_bipush C (w := 105) dX10_init_195 (by decide) ?_
  refine V_bipush C (w := 99) dX10_init_197 (by decide) ?_
  refine V_bipush C (w := 32) dX10_init_199 (by decide) ?_
  obtain ⟨x201, h201, h⟩ := Option.bind_eq_some_iff.mp h
  refine V_callVv (As := [.int 8, .int 43, .int 32, .int 116, .int 111, .int 112, .int 105, .int 99, .int 32]) C (X10_spell_ok h201) mw_X10_spell.1 mw_X10_spell.2.1 mw_X10_spell.2.2 q10_72 oM_0.1 oM_0.2.1 (by decide) rfl rfl (by omega) rfl rfl rfl (Nat.le_of_ble_eq_true rfl) dX10_init_201 ?_
  refine V_aload_n C 0 dX10_init_204 rfl rfl ?_
  refine V_bipush C (w := 16) dX10_init_205 (by decide) ?_
  refine V_bipush C (w := 59) dX10_init_207 (by decide) ?_
  refine V_bipush C (w := 32) dX10_init_209 (by decide) ?_
  refine V_bipush C (w := 99) dX10_init_211 (by decide) ?_
  refine V_bipush C (w := 111) dX10_init_213 (by decide) ?_
  refine V_bipush C (w := 111) dX10_init_215 (by decide) ?_
  refine V_bipush C (w := 108) dX10_init_217 (by decide) ?_
  refine V_bipush C (w := 115) dX10_init_219 (by decide) ?_
  refine V_bipush C (w := 32) dX10_init_221 (by decide) ?_
  obtain ⟨x223, h223, h⟩ := Option.bind_eq_some_iff.mp h
  refine V_callVv (As := [.int 16, .int 59, .int 32, .int 99, .int 111, .int 111, .int 108, .int 115, .int 32]) C (X10_spell_ok h223) mw_X10_spell.1 mw_X10_spell.2.1 mw_X10_spell.2.2 q10_72 oM_0.1 oM_0.2.1 (by decide) rfl rfl (by omega) rfl rfl rfl (Nat.le_of_ble_eq_true rfl) dX10_init_223 ?_
  refine V_aload_n C 0 dX10_init_226 rfl rfl ?_
  refine V_bipush C (w := 24) dX10_init_227 (by decide) ?_
  refine V_bipush C (w := 50) dX10_init_229 (by decide) ?_
  refine V_bipush C (w := 32) dX10_init_231 (by decide) ?_
  refine V_bipush C (w := 59) dX10_init_233 (by decide) ?_
  refine V_bipush C (w := 32) dX10_init_235 (by decide) ?_
  refine V_bipush C (w := 115) dX10_init_237 (by decide) ?_
  refine V_bipush C (w := 99) dX10_init_239 (by decide) ?_
  refine V_bipush C (w := 114) dX10_init_241 (by decide) ?_
  refine V_bipush C (w := 101) dX10_init_243 (by decide) ?_
  obtain ⟨x245, h245, h⟩ := Option.bind_eq_some_iff.mp h
  refine V_callVv (As := [.int 24, .int 50, .int 32, .int 59, .int 32, .int 115, .int 99, .int 114, .int 101]) C (X10_spell_ok h245) mw_X10_spell.1 mw_X10_spell.2.1 mw_X10_spell.2.2 q10_72 oM_0.1 oM_0.2.1 (by decide) rfl rfl (by omega) rfl rfl rfl (Nat.le_of_ble_eq_true rfl) dX10_init_245 ?_
  refine V_aload_n C 0 dX10_init_248 rfl rfl ?_
  refine V_bipush C (w := 32) dX10_init_249 (by decide) ?_
  refine V_bipush C (w := 97) dX10_init_251 (by decide) ?_
  refine V_bipush C (w := 109) dX10_init_253 (by decide) ?_
  refine V_bipush C (w := 115) dX10_init_255 (by decide) ?_
  refine V_bipush C (w := 32) dX10_init_257 (by decide) ?_
  refine V_bipush C (w := 108) dX10_init_259 (by decide) ?_
  refine V_bipush C (w := 97) dX10_init_261 (by decide) ?_
  refine V_bipush C (w := 115) dX10_init_263 (by decide) ?_
  refine V_bipush C (w := 116) dX10_init_265 (by decide) ?_
  obtain ⟨x267, h267, h⟩ := Option.bind_eq_some_iff.mp h
  refine V_callVv (As := [.int 32, .int 97, .int 109, .int 115, .int 32, .int 108, .int 97, .int 115, .int 116]) C (X10_spell_ok h267) mw_X10_spell.1 mw_X10_spell.2.1 mw_X10_spell.2.2 q10_72 oM_0.1 oM_0.2.1 (by decide) rfl rfl (by omega) rfl rfl rfl (Nat.le_of_ble_eq_true rfl) dX10_init_267 ?_
  refine V_aload_n C 0 dX10_init_270 rfl rfl ?_
  refine V_bipush C (w := 40) dX10_init_271 (by decide) ?_
  refine V_bipush C (w := 32) dX10_init_273 (by decide) ?_
  refine V_bipush C (w := 60) dX10_init_275 (by decide) ?_
  refine V_bipush C (w := 32) dX10_init_277 (by decide) ?_
  refine V_bipush C (w := 52) dX10_init_279 (by decide) ?_
  refine V_bipush C (w := 32) dX10_init_281 (by decide) ?_
  refine V_bipush C (w := 59) dX10_init_283 (by decide) ?_
  refine V_bipush C (w := 32) dX10_init_285 (by decide) ?_
  refine V_bipush C (w := 32) dX10_init_287 (by decide) ?_
  obtain ⟨x289, h289, h⟩ := Option.bind_eq_some_iff.mp h
  refine V_callVv (As := [.int 40, .int 32, .int 60, .int 32, .int 52, .int 32, .int 59, .int 32, .int 32]) C (X10_spell_ok h289) mw_X10_spell.1 mw_X10_spell.2.1 mw_X10_spell.2.2 q10_72 oM_0.1 oM_0.2.1 (by decide) rfl rfl (by omega) rfl rfl rfl (Nat.le_of_ble_eq_true rfl) dX10_init_289 ?_
  refine V_aload_n C 0 dX10_init_292 rfl rfl ?_
  refine fg10_17 (r := 2) C oM_0 rfl dX10_init_293 ?_
  refine V_iconst C (w := 0) dX10_init_296 (by decide) ?_
  refine V_bipush C (w := 48) dX10_init_297 (by decide) ?_
  refine V_iastO C oM_2 (by decide) dX10_init_299 ?_
  refine V_aload_n C 0 dX10_init_300 rfl rfl ?_
  refine V_iconst C (w := 1) dX10_init_301 (by decide) ?_
  refine fp10_76 C oM_0 dX10_init_302 ?_
  obtain rfl := Option.some.inj h
  exact hend _
