def X10_in (l0 : Int64) (l2 : Int64) (l4 : Int64) : Option Int32 := if (lg_cmp l0 l2) < 0 then (some 0) else (if 0 < (lg_cmp l0 l4) then (some 0) else (some 1))
set_option maxRecDepth 100000 in
set_option maxHeartbeats 4000000 in
theorem X10_in_ok {l0 : Int64} {l2 : Int64} {l4 : Int64} {σ : St} {x : Int32} (h : X10_in l0 l2 l4 = some x) : Ct shM (1) yX10_in cX10_in 6 (some FieldType.boolean) (fun G => [.long l0, .long l2, .long l4]) σ (fun G => some (.int x)) σ := by
  refine Ct.of mw_X10_in.1 (by decide +kernel) (fun G => Nat.le_of_ble_eq_true rfl) (fun G p l e d s m args below meth c A hd C => ?_)
  refine (?_ : Vw shM G p l e d s m args below meth c 6 A σ 0 [(0, .long l0), (2, .long l2), (4, .long l4)] [] (some (.int x)) σ)
  unfold X10_in at h
  refine V_lload_n C 0 dX10_in_0 rfl rfl ?_
  refine V_lload_n C 1 dX10_in_1 rfl rfl ?_
  refine V_lcmp C dX10_in_2 ?_
  by_cases c1 : (lg_cmp l0 l2) < 0
  · rw [if_pos c1] at h
    refine V_if_ltT C 17 dX10_in_3 (by decide) c1 ?_
    refine V_iconst C (w := 0) dX10_in_17 (by decide) ?_
    obtain rfl := Option.some.inj h
    exact V_iret C rfl (nz (Or.inl rfl)) dX10_in_18
  · rw [if_neg c1] at h
    refine V_if_ltF C 17 dX10_in_3 (by decide) c1 ?_
    refine V_lload_n C 0 dX10_in_6 rfl rfl ?_
    refine V_lload C 2 dX10_in_7 rfl ?_
    refine V_lcmp C dX10_in_9 ?_
    by_cases c2 : 0 < (lg_cmp l0 l4)
    · rw [if_pos c2] at h
      refine V_if_gtT C 17 dX10_in_10 (by decide) c2 ?_
      refine V_iconst C (w := 0) dX10_in_17 (by decide) ?_
      obtain rfl := Option.some.inj h
      exact V_iret C rfl (nz (Or.inl rfl)) dX10_in_18
    · rw [if_neg c2] at h
      refine V_if_gtF C 17 dX10_in_10 (by decide) c2 ?_
      refine V_iconst C (w := 1) dX10_in_13 (by decide) ?_
      refine V_goto C 18 dX10_in_14 (by decide) ?_
      obtain rfl := Option.some.inj h
      exact V_iret C rfl (nz (Or.inr rfl)) dX10_in_18
def X10_within (l0 : Int32) (l1 : Int32) (l2 : Int32) : Option Int32 := if l1 ≤ l0 then (if l0 ≤ l2 then (some l0) else (some l2)) else (some l1)
set_option maxRecDepth 100000 in
set_option maxHeartbeats 4000000 in
theorem X10_within_ok {l0 : Int32} {l1 : Int32} {l2 : Int32} {σ : St} {x : Int32} (h : X10_within l0 l1 l2 = some x) : Ct shM (1) yX10_within cX10_within 3 (some FieldType.int) (fun G => [.int l0, .int l1, .int l2]) σ (fun G => some (.int x)) σ := by
  refine Ct.of mw_X10_within.1 (by decide +kernel) (fun G => Nat.le_of_ble_eq_true rfl) (fun G p l e d s m args below meth c A hd C => ?_)
  refine (?_ : Vw shM G p l e d s m args below meth c 3 A σ 0 [(0, .int l0), (1, .int l1), (2, .int l2)] [] (some (.int x)) σ)
  unfold X10_within at h
  refine V_iload_n C 0 dX10_within_0 rfl rfl ?_
  refine V_iload_n C 1 dX10_within_1 rfl rfl ?_
  by_cases c1 : l1 ≤ l0
  · rw [if_pos c1] at h
    refine V_icmp_geT C 9 dX10_within_2 (by decide) c1 ?_
    refine V_iload_n C 0 dX10_within_9 rfl rfl ?_
    refine V_iload_n C 2 dX10_within_10 rfl rfl ?_
    by_cases c2 : l0 ≤ l2
    · rw [if_pos c2] at h
      refine V_icmp_leT C 18 dX10_within_11 (by decide) c2 ?_
      refine V_iload_n C 0 dX10_within_18 rfl rfl ?_
      obtain rfl := Option.some.inj h
      exact V_iret C rfl rfl dX10_within_19
    · rw [if_neg c2] at h
      refine V_icmp_leF C 18 dX10_within_11 (by decide) c2 ?_
      refine V_iload_n C 2 dX10_within_14 rfl rfl ?_
      refine V_goto C 19 dX10_within_15 (by decide) ?_
      obtain rfl := Option.some.inj h
      exact V_iret C rfl rfl dX10_within_19
  · rw [if_neg c1] at h
    refine V_icmp_geF C 9 dX10_within_2 (by decide) c1 ?_
    refine V_iload_n C 1 dX10_within_5 rfl rfl ?_
    refine V_goto C 19 dX10_within_6 (by decide) ?_
    obtain rfl := Option.some.inj h
    exact V_iret C rfl rfl dX10_within_19
def X10_spell (l1 : Int32) (l2 : Int32) (l3 : Int32) (l4 : Int32) (l5 : Int32) (l6 : Int32) (l7 : Int32) (l8 : Int32) (l9 : Int32) (σ : St) : Option St := if ob l1 960 then none else (if ob (l1 + 1) 960 then none else (if ob (l1 + 2) 960 then none else (if ob (l1 + 3) 960 then none else (if ob (l1 + 4) 960 then none else (if ob (l1 + 5) 960 then none else (if ob (l1 + 6) 960 then none else (if ob (l1 + 7) 960 then none else (some (up (up (up (up (up (up (up (up σ 1 (l1).toNatClampNeg l2) 1 ((l1 + 1)).toNatClampNeg l3) 1 ((l1 + 2)).toNatClampNeg l4) 1 ((l1 + 3)).toNatClampNeg l5) 1 ((l1 + 4)).toNatClampNeg l6) 1 ((l1 + 5)).toNatClampNeg l7) 1 ((l1 + 6)).toNatClampNeg l8) 1 ((l1 + 7)).toNatClampNeg l9)))))))))
set_option maxRecDepth 100000 in
set_option maxHeartbeats 4000000 in
theorem X10_spell_ok {l1 : Int32} {l2 : Int32} {l3 : Int32} {l4 : Int32} {l5 : Int32} {l6 : Int32} {l7 : Int32} {l8 : Int32} {l9 : Int32} {σ : St} {x : St} (h : X10_spell l1 l2 l3 l4 l5 l6 l7 l8 l9 σ = some x) : Ct shM (1) yX10_spell cX10_spell 10 none (fun G => [.ref (G.2.1 0), .int l1, .int l2, .int l3, .int l4, .int l5, .int l6, .int l7, .int l8, .int l9]) σ (fun G => none) x := by
  refine Ct.of mw_X10_spell.1 (by decide +kernel) (fun G => Nat.le_of_ble_eq_true rfl) (fun G p l e d s m args below meth c A hd C => ?_)
  refine (?_ : Vw shM G p l e d s m args below meth c 10 A σ 0 [(0, .ref (G.2.1 0)), (1, .int l1), (2, .int l2), (3, .int l3), (4, .int l4), (5, .int l5), (6, .int l6), (7, .int l7), (8, .int l8), (9, .int l9)] [] (none) x)
  unfold X10_spell at h
  refine V_aload_n C 0 dX10_spell_0 rfl rfl ?_
  refine fg10_13 (r := 1) C oM_0 rfl dX10_spell_1 ?_
  refine V_iload_n C 1 dX10_spell_4 rfl rfl ?_
  refine V_iload_n C 2 dX10_spell_5 rfl rfl ?_
  have g1 : ¬ (ob l1 960) := fun g9 => by rw [if_pos g9] at h; cases h
  rw [if_neg g1] at h
  refine V_iastO C oM_1 g1 dX10_spell_6 ?_
  refine V_aload_n C 0 dX10_spell_7 rfl rfl ?_
  refine fg10_13 (r := 1) C oM_0 rfl dX10_spell_8 ?_
  refine V_iload_n C 1 dX10_spell_11 rfl rfl ?_
  refine V_iconst C (w := 1) dX10_spell_12 (by decide) ?_
  refine V_iadd C dX10_spell_13 ?_
  refine V_iload_n C 3 dX10_spell_14 rfl rfl ?_
  have g2 : ¬ (ob (l1 + 1) 960) := fun g9 => by rw [if_pos g9] at h; cases h
  rw [if_neg g2] at h
  refine V_iastO C oM_1 g2 dX10_spell_15 ?_
  refine V_aload_n C 0 dX10_spell_16 rfl rfl ?_
  refine fg10_13 (r := 1) C oM_0 rfl dX10_spell_17 ?_
  refine V_iload_n C 1 dX10_spell_20 rfl rfl ?_
  refine V_iconst C (w := 2) dX10_spell_21 (by decide) ?_
  refine V_iadd C dX10_spell_22 ?_
  refine V_iload C 4 dX10_spell_23 rfl ?_
  have g3 : ¬ (ob (l1 + 2) 960) := fun g9 => by rw [if_pos g9] at h; cases h
  rw [if_neg g3] at h
  refine V_iastO C oM_1 g3 dX10_spell_25 ?_
  refine V_aload_n C 0 dX10_spell_26 rfl rfl ?_
  refine fg10_13 (r := 1) C oM_0 rfl dX10_spell_27 ?_
  refine V_iload_n C 1 dX10_spell_30 rfl rfl ?_
  refine V_iconst C (w := 3) dX10_spell_31 (by decide) ?_
  refine V_iadd C dX10_spell_32 ?_
  refine V_iload C 5 dX10_spell_33 rfl ?_
  have g4 : ¬ (ob (l1 + 3) 960) := fun g9 => by rw [if_pos g9] at h; cases h
  rw [if_neg g4] at h
  refine V_iastO C oM_1 g4 dX10_spell_35 ?_
  refine V_aload_n C 0 dX10_spell_36 rfl rfl ?_
  refine fg10_13 (r := 1) C oM_0 rfl dX10_spell_37 ?_
  refine V_iload_n C 1 dX10_spell_40 rfl rfl ?_
  refine V_iconst C (w := 4) dX10_spell_41 (by decide) ?_
  refine V_iadd C dX10_spell_42 ?_
  refine V_iload C 6 dX10_spell_43 rfl ?_
  have g5 : ¬ (ob (l1 + 4) 960) := fun g9 => by rw [if_pos g9] at h; cases h
  rw [if_neg g5] at h
  refine V_iastO C oM_1 g5 dX10_spell_45 ?_
  refine V_aload_n C 0 dX10_spell_46 rfl rfl ?_
  refine fg10_13 (r := 1) C oM_0 rfl dX10_spell_47 ?_
  refine V_iload_n C 1 dX10_spell_50 rfl rfl ?_
  refine V_iconst C (w := 5) dX10_spell_51 (by decide) ?_
  refine V_iadd C dX10_spell_52 ?_
  refine V_iload C 7 dX10_spell_53 rfl ?_
  have g6 : ¬ (ob (l1 + 5) 960) := fun g9 => by rw [if_pos g9] at h; cases h
  rw [if_neg g6] at h
  refine V_iastO C oM_1 g6 dX10_spell_55 ?_
  refine V_aload_n C 0 dX10_spell_56 rfl rfl ?_
  refine fg10_13 (r := 1) C oM_0 rfl dX10_spell_57 ?_
  refine V_iload_n C 1 dX10_spell_60 rfl rfl ?_
  refine V_bipush C (w := 6) dX10_spell_61 (by decide) ?_
  refine V_iadd C dX10_spell_63 ?_
  refine V_iload C 8 dX10_spell_64 rfl ?_
  have g7 : ¬ (ob (l1 + 6) 960) := fun g9 => by rw [if_pos g9] at h; cases h
  rw [if_neg g7] at h
  refine V_iastO C oM_1 g7 dX10_spell_66 ?_
  refine V_aload_n C 0 dX10_spell_67 rfl rfl ?_
  refine fg10_13 (r := 1) C oM_0 rfl dX10_spell_68 ?_
  refine V_iload_n C 1 dX10_spell_71 rfl rfl ?_
  refine V_bipush C (w := 7) dX10_spell_72 (by decide) ?_
  refine V_iadd C dX10_spell_74 ?_
  refine V_iload C 9 dX10_spell_75 rfl ?_
  have g8 : ¬ (ob (l1 + 7) 960) := fun g9 => by rw [if_pos g9] at h; cases h
  rw [if_neg g8] at h
  refine V_iastO C oM_1 g8 dX10_spell_77 ?_
  obtain rfl := Option.some.inj h
  exact V_vret C rfl dX10_spell_78
def X10_isOne (l1 : Int32) (σ : St) : Option Int32 := (X10_in (Int32.toInt64 l1) 0 (Int32.toInt64 ((σ.1 0 11) - 1))).bind (fun x10 => if x10 = 0 ∨ x10 = 1 then (some x10) else none)
set_option maxRecDepth 100000 in
set_option maxHeartbeats 4000000 in
theorem X10_isOne_ok {l1 : Int32} {σ : St} {x : Int32} (h : X10_isOne l1 σ = some x) : Ct shM (2) yX10_isOne cX10_isOne 2 (some FieldType.boolean) (fun G => [.ref (G.2.1 0), .int l1]) σ (fun G => some (.int x)) σ := by
  refine Ct.of mw_X10_isOne.1 (by decide +kernel) (fun G => Nat.le_of_ble_eq_true rfl) (fun G p l e d s m args below meth c A hd C => ?_)
  refine (?_ : Vw shM G p l e d s m args below meth c 2 A σ 0 [(0, .ref (G.2.1 0)), (1, .int l1)] [] (some (.int x)) σ)
  unfold X10_isOne at h
  refine V_iload_n C 1 dX10_isOne_0 rfl rfl ?_
  refine V_i2l C dX10_isOne_1 ?_
  refine V_lconst C (w := 0) dX10_isOne_2 (by decide) ?_
  refine V_aload_n C 0 dX10_isOne_3 rfl rfl ?_
  refine fg10_79 C oM_0 dX10_isOne_4 ?_
  refine V_iconst C (w := 1) dX10_isOne_7 (by decide) ?_
  refine V_isub C dX10_isOne_8 ?_
  refine V_i2l C dX10_isOne_9 ?_
  obtain ⟨x10, h10, h⟩ := Option.bind_eq_some_iff.mp h
  refine V_callSi (As := [.long (Int32.toInt64 l1), .long 0, .long (Int32.toInt64 ((σ.1 0 11) - 1))]) C (X10_in_ok h10) mw_X10_in.1 mw_X10_in.2 q10_82 (by omega) rfl rfl rfl (Nat.le_of_ble_eq_true rfl) dX10_isOne_10 ?_
  have g1 : x10 = 0 ∨ x10 = 1 := Decidable.byContradiction (fun g9 => by rw [if_neg g9] at h; cases h)
  rw [if_pos g1] at h
  obtain rfl := Option.some.inj h
  exact V_iret C rfl (nz g1) dX10_isOne_13
def X10_mostOf (l0 : Int32) : Option Int32 := if 2 ≤ l0 then (if l0 = 2 then (some 999) else (if l0 = 3 then (some 9) else (if l0 = 4 then (some 7) else (some 1)))) else (some 99)
set_option maxRecDepth 100000 in
set_option maxHeartbeats 4000000 in
theorem X10_mostOf_ok {l0 : Int32} {σ : St} {x : Int32} (h : X10_mostOf l0 = some x) : Ct shM (1) yX10_mostOf cX10_mostOf 1 (some FieldType.int) (fun G => [.int l0]) σ (fun G => some (.int x)) σ := by
  refine Ct.of mw_X10_mostOf.1 (by decide +kernel) (fun G => Nat.le_of_ble_eq_true rfl) (fun G p l e d s m args below meth c A hd C => ?_)
  refine (?_ : Vw shM G p l e d s m args below meth c 1 A σ 0 [(0, .int l0)] [] (some (.int x)) σ)
  unfold X10_mostOf at h
  refine V_iload_n C 0 dX10_mostOf_0 rfl rfl ?_
  refine V_iconst C (w := 2) dX10_mostOf_1 (by decide) ?_
  by_cases c1 : 2 ≤ l0
  · rw [if_pos c1] at h
    refine V_icmp_geT C 10 dX10_mostOf_2 (by decide) c1 ?_
    refine V_iload_n C 0 dX10_mostOf_10 rfl rfl ?_
    refine V_iconst C (w := 2) dX10_mostOf_11 (by decide) ?_
    by_cases c2 : l0 = 2
    · rw [if_pos c2] at h
      refine V_icmp_neF C 21 dX10_mostOf_12 (by decide) c2 ?_
      refine V_sipush C (w := 999) dX10_mostOf_15 (by decide) ?_
      refine V_goto C 42 dX10_mostOf_18 (by decide) ?_
      obtain rfl := Option.some.inj h
      exact V_iret C rfl rfl dX10_mostOf_42
    · rw [if_neg c2] at h
      refine V_icmp_neT C 21 dX10_mostOf_12 (by decide) c2 ?_
      refine V_iload_n C 0 dX10_mostOf_21 rfl rfl ?_
      refine V_iconst C (w := 3) dX10_mostOf_22 (by decide) ?_
      by_cases c3 : l0 = 3
      · rw [if_pos c3] at h
        refine V_icmp_neF C 31 dX10_mostOf_23 (by decide) c3 ?_
        refine V_bipush C (w := 9) dX10_mostOf_26 (by decide) ?_
        refine V_goto C 42 dX10_mostOf_28 (by decide) ?_
        obtain rfl := Option.some.inj h
        exact V_iret C rfl rfl dX10_mostOf_42
      · rw [if_neg c3] at h
        refine V_icmp_neT C 31 dX10_mostOf_23 (by decide) c3 ?_
        refine V_iload_n C 0 dX10_mostOf_31 rfl rfl ?_
        refine V_iconst C (w := 4) dX10_mostOf_32 (by decide) ?_
        by_cases c4 : l0 = 4
        · rw [if_pos c4] at h
          refine V_icmp_neF C 41 dX10_mostOf_33 (by decide) c4 ?_
          refine V_bipush C (w := 7) dX10_mostOf_36 (by decide) ?_
          refine V_goto C 42 dX10_mostOf_38 (by decide) ?_
          obtain rfl := Option.some.inj h
          exact V_iret C rfl rfl dX10_mostOf_42
        · rw [if_neg c4] at h
          refine V_icmp_neT C 41 dX10_mostOf_33 (by decide) c4 ?_
          refine V_iconst C (w := 1) dX10_mostOf_41 (by decide) ?_
          obtain rfl := Option.some.inj h
          exact V_iret C rfl rfl dX10_mostOf_42
  · rw [if_neg c1] at h
    refine V_icmp_geF C 10 dX10_mostOf_2 (by decide) c1 ?_
    refine V_bipush C (w := 99) dX10_mostOf_5 (by decide) ?_
    refine V_goto C 42 dX10_mostOf_7 (by decide) ?_
    obtain rfl := Option.some.inj h
    exact V_iret C rfl rfl dX10_mostOf_42
def X10_begins (σ : St) : Option St := some (up σ 8 (0 : Int32).toNatClampNeg (σ.1 4 (0 : Int32).toNatClampNeg))
set_option maxRecDepth 100000 in
set_option maxHeartbeats 4000000 in
theorem X10_begins_ok {σ : St} {x : St} (h : X10_begins σ = some x) : Ct shM (1) yX10_begins cX10_begins 1 none (fun G => [.ref (G.2.1 0)]) σ (fun G => none) x := by
  refine Ct.of mw_X10_begins.1 (by decide +kernel) (fun G => Nat.le_of_ble_eq_true rfl) (fun G p l e d s m args below meth c A hd C => ?_)
  refine (?_ : Vw shM G p l e d s m args below meth c 1 A σ 0 [(0, .ref (G.2.1 0))] [] (none) x)
  unfold X10_begins at h
  refine V_aload_n C 0 dX10_begins_0 rfl rfl ?_
  refine fg10_35 (r := 8) C oM_0 rfl dX10_begins_1 ?_
  refine V_iconst C (w := 0) dX10_begins_4 (by decide) ?_
  refine V_aload_n C 0 dX10_begins_5 rfl rfl ?_
  refine fg10_23 (r := 4) C oM_0 rfl dX10_begins_6 ?_
  refine V_iconst C (w := 0) dX10_begins_9 (by decide) ?_
  refine V_ialdO C oM_4 (by decide) dX10_begins_10 ?_
  refine V_iastO C oM_8 (by decide) dX10_begins_11 ?_
  obtain rfl := Option.some.inj h
  exact V_vret C rfl dX10_begins_12
def X10_topicOf (l1 : Int32) (σ : St) : Option Int32 := if ob ((3 * l1) + 1) 15 then none else (some (σ.1 6 (((3 * l1) + 1)).toNatClampNeg))
set_option maxRecDepth 100000 in
set_option maxHeartbeats 4000000 in
theorem X10_topicOf_ok {l1 : Int32} {σ : St} {x : Int32} (h : X10_topicOf l1 σ = some x) : Ct shM (1) yX10_topicOf cX10_topicOf 2 (some FieldType.int) (fun G => [.ref (G.2.1 0), .int l1]) σ (fun G => some (.int x)) σ := by
  refine Ct.of mw_X10_topicOf.1 (by decide +kernel) (fun G => Nat.le_of_ble_eq_true rfl) (fun G p l e d s m args below meth c A hd C => ?_)
  refine (?_ : Vw shM G p l e d s m args below meth c 2 A σ 0 [(0, .ref (G.2.1 0)), (1, .int l1)] [] (some (.int x)) σ)
  unfold X10_topicOf at h
  refine V_aload_n C 0 dX10_topicOf_0 rfl rfl ?_
  refine fg10_29 (r := 6) C oM_0 rfl dX10_topicOf_1 ?_
  refine V_iconst C (w := 3) dX10_topicOf_4 (by decide) ?_
  refine V_iload_n C 1 dX10_topicOf_5 rfl rfl ?_
  refine V_imul C dX10_topicOf_6 ?_
  refine V_iconst C (w := 1) dX10_topicOf_7 (by decide) ?_
  refine V_iadd C dX10_topicOf_8 ?_
  have g1 : ¬ (ob ((3 * l1) + 1) 15) := fun g9 => by rw [if_pos g9] at h; cases h
  rw [if_neg g1] at h
  refine V_ialdO C oM_6 g1 dX10_topicOf_9 ?_
  obtain rfl := Option.some.inj h
  exact V_iret C rfl rfl dX10_topicOf_10
def X10_looks_b95 (K63 : Int32 → Int32 → St → Option St) (l2 : Int32) (l3 : Int32) (s0 : Int32) (s1 : Int32) (σ : St) : Option St := K63 l2 (l3 + 1) (up σ 0 16 (s1 + s0))
set_option maxRecDepth 100000 in
set_option maxHeartbeats 4000000 in
theorem X10_looks_b95_ok {G : Gx} {p : Program} {l : Launch} {e : Env} {d : Nat} {s : State} {m : MethodId} {args : Array Value} {below : List Frame} {meth : Method} {c : Code} {A : Nat → Prop} {K63 : Int32 → Int32 → St → Option St} (C : OK shM G p s m args meth c RX10 cX10_looks 4 none A) (hd : 2 ≤ d) (hK63 : ∀  {l2 : Int32} {l3 : Int32} {σ : St} {x : St}, K63 l2 l3 σ = some x → Vw shM G p l e d s m args below meth c 4 A σ 63 [(0, .ref (G.2.1 0)), (2, .int l2), (3, .int l3)] [] (none) x) {l2 : Int32} {l3 : Int32} {s0 : Int32} {s1 : Int32} {σ : St} {x : St} (h : X10_looks_b95 K63 l2 l3 s0 s1 σ = some x) : Vw shM G p l e d s m args below meth c 4 A σ 95 [(0, .ref (G.2.1 0)), (2, .int l2), (3, .int l3)] [.int s0, .int s1, .ref (G.2.1 0)] (none) x := by
  unfold X10_looks_b95 at h
  refine V_iadd C dX10_looks_95 ?_
  refine fp10_200 C oM_0 dX10_looks_96 ?_
  refine V_iinc C (w := (l3 + 1)) (lv' := [(3, .int (l3 + 1)), (0, .ref (G.2.1 0)), (2, .int l2)]) 2 dX10_looks_99 rfl (congrArg (l3 + ·) (show Int32.ofInt 1 = 1 by decide)) (by decide) rfl ?_
  refine V_goto C 63 dX10_looks_102 (by decide) ?_
  refine V_sub (lv' := [(0, .ref (G.2.1 0)), (2, .int l2), (3, .int (l3 + 1))]) [1, 2, 0] rfl ?_
  exact hK63 h
def X10_looks_b63 : Nat → Int32 → Int32 → St → Option St
  | 0, _, _, _ => none
  | F + 1, l2, l3, σ => if l2 ≤ l3 then (some (up σ 0 17 l2)) else (if ob l3 5 then none else ((X10_topicOf (σ.1 7 (l3).toNatClampNeg) σ).bind (fun x80 => if x80 = (σ.1 0 12) then (X10_looks_b95 (X10_looks_b63 F) l2 l3 1 (σ.1 0 16) σ) else (X10_looks_b95 (X10_looks_b63 F) l2 l3 0 (σ.1 0 16) σ))))
set_option maxRecDepth 100000 in
set_option maxHeartbeats 4000000 in
theorem X10_looks_b63_ok {G : Gx} {p : Program} {l : Launch} {e : Env} {d : Nat} {s : State} {m : MethodId} {args : Array Value} {below : List Frame} {meth : Method} {c : Code} {A : Nat → Prop} (C : OK shM G p s m args meth c RX10 cX10_looks 4 none A) (hd : 2 ≤ d) : ∀ (F : Nat) {l2 : Int32} {l3 : Int32} {σ : St} {x : St} (h : X10_looks_b63 F l2 l3 σ = some x), Vw shM G p l e d s m args below meth c 4 A σ 63 [(0, .ref (G.2.1 0)), (2, .int l2), (3, .int l3)] [] (none) x := by
  intro F
  induction F with
  | zero =>
    intro l2 l3 σ x h
    rw [X10_looks_b63] at h
    cases h
  | succ F ih =>
    intro l2 l3 σ x h
    rw [X10_looks_b63] at h
    refine V_iload_n C 2 dX10_looks_63 rfl rfl ?_
    refine V_iload_n C 1 dX10_looks_64 rfl rfl ?_
    by_cases c1 : l2 ≤ l3
    · rw [if_pos c1] at h
      refine V_icmp_geT C 105 dX10_looks_65 (by decide) c1 ?_
      refine V_aload_n C 0 dX10_looks_105 rfl rfl ?_
      refine V_iload_n C 1 dX10_looks_106 rfl rfl ?_
      refine fp10_203 C oM_0 dX10_looks_107 ?_
      obtain rfl := Option.some.inj h
      exact V_vret C rfl dX10_looks_110
    · rw [if_neg c1] at h
      refine V_icmp_geF C 105 dX10_looks_65 (by decide) c1 ?_
      refine V_aload_n C 0 dX10_looks_68 rfl rfl ?_
      refine V_dup C dX10_looks_69 rfl ?_
      refine fg10_200 C oM_0 dX10_looks_70 ?_
      refine V_aload_n C 0 dX10_looks_73 rfl rfl ?_
      refine V_aload_n C 0 dX10_looks_74 rfl rfl ?_
      refine fg10_32 (r := 7) C oM_0 rfl dX10_looks_75 ?_
      refine V_iload_n C 2 dX10_looks_78 rfl rfl ?_
      have g2 : ¬ (ob l3 5) := fun g9 => by rw [if_pos g9] at h; cases h
      rw [if_neg g2] at h
      refine V_ialdO C oM_7 g2 dX10_looks_79 ?_
      obtain ⟨x80, h80, h⟩ := Option.bind_eq_some_iff.mp h
      refine V_callVi (As := [.int (σ.1 7 (l3).toNatClampNeg)]) C (X10_topicOf_ok h80) mw_X10_topicOf.1 mw_X10_topicOf.2.1 mw_X10_topicOf.2.2 q10_246 oM_0.1 oM_0.2.1 (by decide) rfl rfl (by omega) rfl rfl rfl (Nat.le_of_ble_eq_true rfl) dX10_looks_80 ?_
      refine V_aload_n C 0 dX10_looks_83 rfl rfl ?_
      refine fg10_188 C oM_0 dX10_looks_84 ?_
      by_cases c3 : x80 = (σ.1 0 12)
      · rw [if_pos c3] at h
        refine V_icmp_neF C 94 dX10_looks_87 (by decide) c3 ?_
        refine V_iconst C (w := 1) dX10_looks_90 (by decide) ?_
        refine V_goto C 95 dX10_looks_91 (by decide) ?_
        exact X10_looks_b95_ok C hd (fun h => ih h) h
      · rw [if_neg c3] at h
        refine V_icmp_neT C 94 dX10_looks_87 (by decide) c3 ?_
        refine V_iconst C (w := 0) dX10_looks_94 (by decide) ?_
        exact X10_looks_b95_ok C hd (fun h => ih h) h
def X10_looks_b31 (l1 : Int32) (l2 : Int32) (s0 : Int32) (σ : St) : Option St := if ob l2 6 then none else (if ob (3 * l1) 15 then none else (X10_looks_b63 FU l2 0 (up (up (up (up σ 0 13 s0) 0 14 ((up σ 0 13 s0).1 8 (l2).toNatClampNeg)) 0 15 ((up (up σ 0 13 s0) 0 14 ((up σ 0 13 s0).1 8 (l2).toNatClampNeg)).1 6 ((3 * l1)).toNatClampNeg)) 0 16 0)))
set_option maxRecDepth 100000 in
set_option maxHeartbeats 4000000 in
theorem X10_looks_b31_ok {G : Gx} {p : Program} {l : Launch} {e : Env} {d : Nat} {s : State} {m : MethodId} {args : Array Value} {below : List Frame} {meth : Method} {c : Code} {A : Nat → Prop} (C : OK shM G p s m args meth c RX10 cX10_looks 4 none A) (hd : 2 ≤ d) {l1 : Int32} {l2 : Int32} {s0 : Int32} {σ : St} {x : St} (h : X10_looks_b31 l1 l2 s0 σ = some x) : Vw shM G p l e d s m args below meth c 4 A σ 31 [(0, .ref (G.2.1 0)), (1, .int l1), (2, .int l2)] [.int s0, .ref (G.2.1 0)] (none) x := by
  unfold X10_looks_b31 at h
  refine fp10_191 C oM_0 dX10_looks_31 ?_
  refine V_aload_n C 0 dX10_looks_34 rfl rfl ?_
  refine V_aload_n C 0 dX10_looks_35 rfl rfl ?_
  refine fg10_35 (r := 8) C oM_0 rfl dX10_looks_36 ?_
  refine V_iload_n C 2 dX10_looks_39 rfl rfl ?_
  have g4 : ¬ (ob l2 6) := fun g9 => by rw [if_pos g9] at h; cases h
  rw [if_neg g4] at h
  refine V_ialdO C oM_8 g4 dX10_looks_40 ?_
  refine fp10_194 C oM_0 dX10_looks_41 ?_
  refine V_aload_n C 0 dX10_looks_44 rfl rfl ?_
  refine V_aload_n C 0 dX10_looks_45 rfl rfl ?_
  refine fg10_29 (r := 6) C oM_0 rfl dX10_looks_46 ?_
  refine V_iconst C (w := 3) dX10_looks_49 (by decide) ?_
  refine V_iload_n C 1 dX10_looks_50 rfl rfl ?_
  refine V_imul C dX10_looks_51 ?_
  have g5 : ¬ (ob (3 * l1) 15) := fun g9 => by rw [if_pos g9] at h; cases h
  rw [if_neg g5] at h
  refine V_ialdO C oM_6 g5 dX10_looks_52 ?_
  refine fp10_197 C oM_0 dX10_looks_53 ?_
  refine V_aload_n C 0 dX10_looks_56 rfl rfl ?_
  refine V_iconst C (w := 0) dX10_looks_57 (by decide) ?_
  refine fp10_200 C oM_0 dX10_looks_58 ?_
  refine V_iconst C (w := 0) dX10_looks_61 (by decide) ?_
  refine V_istore_n C (lv' := [(3, .int 0), (0, .ref (G.2.1 0)), (1, .int l1), (2, .int l2)]) dX10_looks_62 rfl (by decide) rfl ?_
  refine V_sub (lv' := [(0, .ref (G.2.1 0)), (2, .int l2), (3, .int 0)]) [1, 3, 0] rfl ?_
  exact X10_looks_b63_ok C hd FU h
def X10_looks (l1 : Int32) (l2 : Int32) (σ : St) : Option St := (X10_topicOf l1 σ).bind (fun x3 => if l2 = 0 then (X10_looks_b31 l1 l2 8 (up σ 0 12 x3)) else (if ob (l2 - 1) 5 then none else ((X10_topicOf ((up σ 0 12 x3).1 7 ((l2 - 1)).toNatClampNeg) (up σ 0 12 x3)).bind (fun x28 => X10_looks_b31 l1 l2 x28 (up σ 0 12 x3)))))
set_option maxRecDepth 100000 in
set_option maxHeartbeats 4000000 in
theorem X10_looks_ok {l1 : Int32} {l2 : Int32} {σ : St} {x : St} (h : X10_looks l1 l2 σ = some x) : Ct shM (2) yX10_looks cX10_looks 4 none (fun G => [.ref (G.2.1 0), .int l1, .int l2]) σ (fun G => none) x := by
  refine Ct.of mw_X10_looks.1 (by decide +kernel) (fun G => Nat.le_of_ble_eq_true rfl) (fun G p l e d s m args below meth c A hd C => ?_)
  refine (?_ : Vw shM G p l e d s m args below meth c 4 A σ 0 [(0, .ref (G.2.1 0)), (1, .int l1), (2, .int l2)] [] (none) x)
  unfold X10_looks at h
  refine V_aload_n C 0 dX10_looks_0 rfl rfl ?_
  refine V_aload_n C 0 dX10_looks_1 rfl rfl ?_
  refine V_iload_n C 1 dX10_looks_2 rfl rfl ?_
  obtain ⟨x3, h3, h⟩ := Option.bind_eq_some_iff.mp h
  refine V_callVi (As := [.int l1]) C (X10_topicOf_ok h3) mw_X10_topicOf.1 mw_X10_topicOf.2.1 mw_X10_topicOf.2.2 q10_246 oM_0.1 oM_0.2.1 (by decide) rfl rfl (by omega) rfl rfl rfl (Nat.le_of_ble_eq_true rfl) dX10_looks_3 ?_
  refine fp10_188 C oM_0 dX10_looks_6 ?_
  refine V_aload_n C 0 dX10_looks_9 rfl rfl ?_
  refine V_iload_n C 2 dX10_looks_10 rfl rfl ?_
  by_cases c6 : l2 = 0
  · rw [if_pos c6] at h
    refine V_if_neF C 19 dX10_looks_11 (by decide) c6 ?_
    refine V_bipush C (w := 8) dX10_looks_14 (by decide) ?_
    refine V_goto C 31 dX10_looks_16 (by decide) ?_
    exact X10_looks_b31_ok C hd h
  · rw [if_neg c6] at h
    refine V_if_neT C 19 dX10_looks_11 (by decide) c6 ?_
    refine V_aload_n C 0 dX10_looks_19 rfl rfl ?_
    refine V_aload_n C 0 dX10_looks_20 rfl rfl ?_
    refine fg10_32 (r := 7) C oM_0 rfl dX10_looks_21 ?_
    refine V_iload_n C 2 dX10_looks_24 rfl rfl ?_
    refine V_iconst C (w := 1) dX10_looks_25 (by decide) ?_
    refine V_isub C dX10_looks_26 ?_
    have g7 : ¬ (ob (l2 - 1) 5) := fun g9 => by rw [if_pos g9] at h; cases h
    rw [if_neg g7] at h
    refine V_ialdO C oM_7 g7 dX10_looks_27 ?_
    obtain ⟨x28, h28, h⟩ := Option.bind_eq_some_iff.mp h
    refine V_callVi (As := [.int ((up σ 0 12 x3).1 7 ((l2 - 1)).toNatClampNeg)]) C (X10_topicOf_ok h28) mw_X10_topicOf.1 mw_X10_topicOf.2.1 mw_X10_topicOf.2.2 q10_246 oM_0.1 oM_0.2.1 (by decide) rfl rfl (by omega) rfl rfl rfl (Nat.le_of_ble_eq_true rfl) dX10_looks_28 ?_
    exact X10_looks_b31_ok C hd h
def X10_byteAt (l1 : Int32) (σ : St) : Option Int32 := if (σ.1 0 19) ≤ l1 then (some (-1)) else (if ob ((σ.1 0 18) + l1) 960 then none else (some (σ.1 1 (((σ.1 0 18) + l1)).toNatClampNeg)))
set_option maxRecDepth 100000 in
set_option maxHeartbeats 4000000 in
theorem X10_byteAt_ok {l1 : Int32} {σ : St} {x : Int32} (h : X10_byteAt l1 σ = some x) : Ct shM (1) yX10_byteAt cX10_byteAt 2 (some FieldType.int) (fun G => [.ref (G.2.1 0), .int l1]) σ (fun G => some (.int x)) σ := by
  refine Ct.of mw_X10_byteAt.1 (by decide +kernel) (fun G => Nat.le_of_ble_eq_true rfl) (fun G p l e d s m args below meth c A hd C => ?_)
  refine (?_ : Vw shM G p l e d s m args below meth c 2 A σ 0 [(0, .ref (G.2.1 0)), (1, .int l1)] [] (some (.int x)) σ)
  unfold X10_byteAt at h
  refine V_iload_n C 1 dX10_byteAt_0 rfl rfl ?_
  refine V_aload_n C 0 dX10_byteAt_1 rfl rfl ?_
  refine fg10_132 C oM_0 dX10_byteAt_2 ?_
  by_cases c1 : (σ.1 0 19) ≤ l1
  · rw [if_pos c1] at h
    refine V_icmp_geT C 22 dX10_byteAt_5 (by decide) c1 ?_
    refine V_iconst C (w := (-1)) dX10_byteAt_22 (by decide) ?_
    obtain rfl := Option.some.inj h
    exact V_iret C rfl rfl dX10_byteAt_23
  · rw [if_neg c1] at h
    refine V_icmp_geF C 22 dX10_byteAt_5 (by decide) c1 ?_
    refine V_aload_n C 0 dX10_byteAt_8 rfl rfl ?_
    refine fg10_13 (r := 1) C oM_0 rfl dX10_byteAt_9 ?_
    refine V_aload_n C 0 dX10_byteAt_12 rfl rfl ?_
    refine fg10_135 C oM_0 dX10_byteAt_13 ?_
    refine V_iload_n C 1 dX10_byteAt_16 rfl rfl ?_
    refine V_iadd C dX10_byteAt_17 ?_
    have g2 : ¬ (ob ((σ.1 0 18) + l1) 960) := fun g9 => by rw [if_pos g9] at h; cases h
    rw [if_neg g2] at h
    refine V_ialdO C oM_1 g2 dX10_byteAt_18 ?_
    refine V_goto C 23 dX10_byteAt_19 (by decide) ?_
    obtain rfl := Option.some.inj h
    exact V_iret C rfl rfl dX10_byteAt_23
def X10_next_b26 (K0 : St → Option St) (σ : St) : Option St := K0 (up σ 0 20 ((σ.1 0 20) + 1))
set_option maxRecDepth 100000 in
set_option maxHeartbeats 4000000 in
theorem X10_next_b26_ok {G : Gx} {p : Program} {l : Launch} {e : Env} {d : Nat} {s : State} {m : MethodId} {args : Array Value} {below : List Frame} {meth : Method} {c : Code} {A : Nat → Prop} {K0 : St → Option St} (C : OK shM G p s m args meth c RX10 cX10_next 3 none A) (hd : 2 ≤ d) (hK0 : ∀  {σ : St} {x : St}, K0 σ = some x → Vw shM G p l e d s m args below meth c 3 A σ 0 [(0, .ref (G.2.1 0))] [] (none) x) {σ : St} {x : St} (h : X10_next_b26 K0 σ = some x) : Vw shM G p l e d s m args below meth c 3 A σ 26 [(0, .ref (G.2.1 0))] [] (none) x := by
  unfold X10_next_b26 at h
  refine V_aload_n C 0 dX10_next_26 rfl rfl ?_
  refine V_dup C dX10_next_27 rfl ?_
  refine fg10_138 C oM_0 dX10_next_28 ?_
  refine V_iconst C (w := 1) dX10_next_31 (by decide) ?_
  refine V_iadd C dX10_next_32 ?_
  refine fp10_138 C oM_0 dX10_next_33 ?_
  refine V_goto C 0 dX10_next_36 (by decide) ?_
  exact hK0 h
def X10_next_b100 : Nat → St → Option St
  | 0, _ => none
  | F + 1, σ => (X10_byteAt (σ.1 0 20) σ).bind (fun x105 => (X10_in (Int32.toInt64 x105) 97 122).bind (fun x115 => if x115 = 0 then (some σ) else (X10_next_b100 F (up σ 0 20 ((σ.1 0 20) + 1)))))
set_option maxRecDepth 100000 in
set_option maxHeartbeats 4000000 in
theorem X10_next_b100_ok {G : Gx} {p : Program} {l : Launch} {e : Env} {d : Nat} {s : State} {m : MethodId} {args : Array Value} {below : List Frame} {meth : Method} {c : Code} {A : Nat → Prop} (C : OK shM G p s m args meth c RX10 cX10_next 3 none A) (hd : 2 ≤ d) : ∀ (F : Nat) {σ : St} {x : St} (h : X10_next_b100 F σ = some x), Vw shM G p l e d s m args below meth c 3 A σ 100 [(0, .ref (G.2.1 0))] [] (none) x := by
  intro F
  induction F with
  | zero =>
    intro σ x h
    rw [X10_next_b100] at h
    cases h
  | succ F ih =>
    intro σ x h
    rw [X10_next_b100] at h
    refine V_aload_n C 0 dX10_next_100 rfl rfl ?_
    refine V_aload_n C 0 dX10_next_101 rfl rfl ?_
    refine fg10_138 C oM_0 dX10_next_102 ?_
    obtain ⟨x105, h105, h⟩ := Option.bind_eq_some_iff.mp h
    refine V_callVi (As := [.int (σ.1 0 20)]) C (X10_byteAt_ok h105) mw_X10_byteAt.1 mw_X10_byteAt.2.1 mw_X10_byteAt.2.2 q10_141 oM_0.1 oM_0.2.1 (by decide) rfl rfl (by omega) rfl rfl rfl (Nat.le_of_ble_eq_true rfl) dX10_next_105 ?_
    refine V_i2l C dX10_next_108 ?_
    refine V_ldc2 C (w := 97) dX10_next_109 qk10_150 ?_
    refine V_ldc2 C (w := 122) dX10_next_112 qk10_152 ?_
    obtain ⟨x115, h115, h⟩ := Option.bind_eq_some_iff.mp h
    refine V_callSi (As := [.long (Int32.toInt64 x105), .long 97, .long 122]) C (X10_in_ok h115) mw_X10_in.1 mw_X10_in.2 q10_82 (by omega) rfl rfl rfl (Nat.le_of_ble_eq_true rfl) dX10_next_115 ?_
    by_cases c1 : x115 = 0
    · rw [if_pos c1] at h
      refine V_if_eqT C 321 dX10_next_118 (by decide) c1 ?_
      obtain rfl := Option.some.inj h
      exact V_vret C rfl dX10_next_321
    · rw [if_neg c1] at h
      refine V_if_eqF C 321 dX10_next_118 (by decide) c1 ?_
      refine V_aload_n C 0 dX10_next_121 rfl rfl ?_
      refine V_dup C dX10_next_122 rfl ?_
      refine fg10_138 C oM_0 dX10_next_123 ?_
      refine V_iconst C (w := 1) dX10_next_126 (by decide) ?_
      refine V_iadd C dX10_next_127 ?_
      refine fp10_138 C oM_0 dX10_next_128 ?_
      refine V_goto C 100 dX10_next_131 (by decide) ?_
      exact ih h
def X10_next_b216 (K160 : Int32 → St → Option St) (l2 : Int32) (s0 : Int64) (σ : St) : Option St := K160 (l2 + 1) (up (upL σ s0) 0 20 (((upL σ s0).1 0 20) + 1))
set_option maxRecDepth 100000 in
set_option maxHeartbeats 4000000 in
theorem X10_next_b216_ok {G : Gx} {p : Program} {l : Launch} {e : Env} {d : Nat} {s : State} {m : MethodId} {args : Array Value} {below : List Frame} {meth : Method} {c : Code} {A : Nat → Prop} {K160 : Int32 → St → Option St} (C : OK shM G p s m args meth c RX10 cX10_next 3 none A) (hd : 2 ≤ d) (hK160 : ∀  {l2 : Int32} {σ : St} {x : St}, K160 l2 σ = some x → Vw shM G p l e d s m args below meth c 3 A σ 160 [(0, .ref (G.2.1 0)), (2, .int l2)] [] (none) x) {l2 : Int32} {s0 : Int64} {σ : St} {x : St} (h : X10_next_b216 K160 l2 s0 σ = some x) : Vw shM G p l e d s m args below meth c 3 A σ 216 [(0, .ref (G.2.1 0)), (2, .int l2)] [.long s0, .ref (G.2.1 0)] (none) x := by
  unfold X10_next_b216 at h
  refine fp10_158 C oM_0 dX10_next_216 ?_
  refine V_iinc C (w := (l2 + 1)) (lv' := [(2, .int (l2 + 1)), (0, .ref (G.2.1 0))]) 1 dX10_next_219 rfl (congrArg (l2 + ·) (show Int32.ofInt 1 = 1 by decide)) (by decide) rfl ?_
  refine V_aload_n C 1 dX10_next_222 rfl rfl ?_
  refine V_dup C dX10_next_223 rfl ?_
  refine fg10_138 C oM_0 dX10_next_224 ?_
  refine V_iconst C (w := 1) dX10_next_227 (by decide) ?_
  refine V_iadd C dX10_next_228 ?_
  refine fp10_138 C oM_0 dX10_next_229 ?_
  refine V_goto C 160 dX10_next_232 (by decide) ?_
  refine V_sub (lv' := [(0, .ref (G.2.1 0)), (2, .int (l2 + 1))]) [1, 0] rfl ?_
  exact hK160 h
def X10_next_b246 (s0 : Int32) (σ : St) : Option St := some (up σ 0 21 s0)
set_option maxRecDepth 100000 in
set_option maxHeartbeats 4000000 in
theorem X10_next_b246_ok {G : Gx} {p : Program} {l : Launch} {e : Env} {d : Nat} {s : State} {m : MethodId} {args : Array Value} {below : List Frame} {meth : Method} {c : Code} {A : Nat → Prop} (C : OK shM G p s m args meth c RX10 cX10_next 3 none A) (hd : 2 ≤ d) {s0 : Int32} {σ : St} {x : St} (h : X10_next_b246 s0 σ = some x) : Vw shM G p l e d s m args below meth c 3 A σ 246 [] [.int s0, .ref (G.2.1 0)] (none) x := by
  unfold X10_next_b246 at h
  refine fp10_147 C oM_0 dX10_next_246 ?_
  refine V_goto C 321 dX10_next_249 (by decide) ?_
  obtain rfl := Option.some.inj h
  exact V_vret C rfl dX10_next_321
def X10_next_b160 : Nat → Int32 → St → Option St
  | 0, _, _ => none
  | F + 1, l2, σ => (X10_byteAt (σ.1 0 20) σ).bind (fun x165 => (X10_in (Int32.toInt64 x165) 48 57).bind (fun x175 => if x175 = 0 then (if l2 ≤ 4 then (X10_next_b246 2 σ) else (X10_next_b246 4 σ)) else (if 4 ≤ l2 then (X10_next_b216 (X10_next_b160 F) l2 σ.2 σ) else ((X10_byteAt (σ.1 0 20) σ).bind (fun x200 => X10_next_b216 (X10_next_b160 F) l2 (((10 * σ.2) + (Int32.toInt64 x200)) - 48) σ)))))
set_option maxRecDepth 100000 in
set_option maxHeartbeats 4000000 in
theorem X10_next_b160_ok {G : Gx} {p : Program} {l : Launch} {e : Env} {d : Nat} {s : State} {m : MethodId} {args : Array Value} {below : List Frame} {meth : Method} {c : Code} {A : Nat → Prop} (C : OK shM G p s m args meth c RX10 cX10_next 3 none A) (hd : 2 ≤ d) : ∀ (F : Nat) {l2 : Int32} {σ : St} {x : St} (h : X10_next_b160 F l2 σ = some x), Vw shM G p l e d s m args below meth c 3 A σ 160 [(0, .ref (G.2.1 0)), (2, .int l2)] [] (none) x := by
  intro F
  induction F with
  | zero =>
    intro l2 σ x h
    rw [X10_next_b160] at h
    cases h
  | succ F ih =>
    intro l2 σ x h
    rw [X10_next_b160] at h
    refine V_aload_n C 0 dX10_next_160 rfl rfl ?_
    refine V_aload_n C 0 dX10_next_161 rfl rfl ?_
    refine fg10_138 C oM_0 dX10_next_162 ?_
    obtain ⟨x165, h165, h⟩ := Option.bind_eq_some_iff.mp h
    refine V_callVi (As := [.int (σ.1 0 20)]) C (X10_byteAt_ok h165) mw_X10_byteAt.1 mw_X10_byteAt.2.1 mw_X10_byteAt.2.2 q10_141 oM_0.1 oM_0.2.1 (by decide) rfl rfl (by omega) rfl rfl rfl (Nat.le_of_ble_eq_true rfl) dX10_next_165 ?_
    refine V_i2l C dX10_next_168 ?_
    refine V_ldc2 C (w := 48) dX10_next_169 qk10_154 ?_
    refine V_ldc2 C (w := 57) dX10_next_172 qk10_156 ?_
    obtain ⟨x175, h175, h⟩ := Option.bind_eq_some_iff.mp h
    refine V_callSi (As := [.long (Int32.toInt64 x165), .long 48, .long 57]) C (X10_in_ok h175) mw_X10_in.1 mw_X10_in.2 q10_82 (by omega) rfl rfl rfl (Nat.le_of_ble_eq_true rfl) dX10_next_175 ?_
    by_cases c2 : x175 = 0
    · rw [if_pos c2] at h
      refine V_if_eqT C 235 dX10_next_178 (by decide) c2 ?_
      refine V_aload_n C 0 dX10_next_235 rfl rfl ?_
      refine V_iload_n C 1 dX10_next_236 rfl rfl ?_
      refine V_iconst C (w := 4) dX10_next_237 (by decide) ?_
      by_cases c3 : l2 ≤ 4
      · rw [if_pos c3] at h
        refine V_icmp_leT C 245 dX10_next_238 (by decide) c3 ?_
        refine V_iconst C (w := 2) dX10_next_245 (by decide) ?_
        refine V_sub (lv' := []) [] rfl ?_
        exact X10_next_b246_ok C hd h
      · rw [if_neg c3] at h
        refine V_icmp_leF C 245 dX10_next_238 (by decide) c3 ?_
        refine V_iconst C (w := 4) dX10_next_241 (by decide) ?_
        refine V_goto C 246 dX10_next_242 (by decide) ?_
        refine V_sub (lv' := []) [] rfl ?_
        exact X10_next_b246_ok C hd h
    · rw [if_neg c2] at h
      refine V_if_eqF C 235 dX10_next_178 (by decide) c2 ?_
      refine V_aload_n C 0 dX10_next_181 rfl rfl ?_
      refine V_iload_n C 1 dX10_next_182 rfl rfl ?_
      refine V_iconst C (w := 4) dX10_next_183 (by decide) ?_
      by_cases c4 : 4 ≤ l2
      · rw [if_pos c4] at h
        refine V_icmp_geT C 212 dX10_next_184 (by decide) c4 ?_
        refine V_aload_n C 0 dX10_next_212 rfl rfl ?_
        refine fg10_158 C oM_0 dX10_next_213 ?_
        exact X10_next_b216_ok C hd (fun h => ih h) h
      · rw [if_neg c4] at h
        refine V_icmp_geF C 212 dX10_next_184 (by decide) c4 ?_
        refine V_ldc2 C (w := 10) dX10_next_187 qk10_162 ?_
        refine V_aload_n C 0 dX10_next_190 rfl rfl ?_
        refine fg10_158 C oM_0 dX10_next_191 ?_
        refine V_lmul C dX10_next_194 ?_
        refine V_aload_n C 0 dX10_next_195 rfl rfl ?_
        refine V_aload_n C 0 dX10_next_196 rfl rfl ?_
        refine fg10_138 C oM_0 dX10_next_197 ?_
        obtain ⟨x200, h200, h⟩ := Option.bind_eq_some_iff.mp h
        refine V_callVi (As := [.int (σ.1 0 20)]) C (X10_byteAt_ok h200) mw_X10_byteAt.1 mw_X10_byteAt.2.1 mw_X10_byteAt.2.2 q10_141 oM_0.1 oM_0.2.1 (by decide) rfl rfl (by omega) rfl rfl rfl (Nat.le_of_ble_eq_true rfl) dX10_next_200 ?_
        refine V_i2l C dX10_next_203 ?_
        refine V_ladd C dX10_next_204 ?_
        refine V_ldc2 C (w := 48) dX10_next_205 qk10_154 ?_
        refine V_lsub C dX10_next_208 ?_
        refine V_goto C 216 dX10_next_209 (by decide) ?_
        exact X10_next_b216_ok C hd (fun h => ih h) h
def X10_next_b300 (l1 : Int32) (σ : St) : Option St := some (up (upL (up σ 0 21 3) (Int32.toInt64 l1)) 0 20 (((upL (up σ 0 21 3) (Int32.toInt64 l1)).1 0 20) + 1))
set_option maxRecDepth 100000 in
set_option maxHeartbeats 4000000 in
theorem X10_next_b300_ok {G : Gx} {p : Program} {l : Launch} {e : Env} {d : Nat} {s : State} {m : MethodId} {args : Array Value} {below : List Frame} {meth : Method} {c : Code} {A : Nat → Prop} (C : OK shM G p s m args meth c RX10 cX10_next 3 none A) (hd : 2 ≤ d) {l1 : Int32} {σ : St} {x : St} (h : X10_next_b300 l1 σ = some x) : Vw shM G p l e d s m args below meth c 3 A σ 300 [(0, .ref (G.2.1 0)), (1, .int l1)] [] (none) x := by
  unfold X10_next_b300 at h
  refine V_aload_n C 0 dX10_next_300 rfl rfl ?_
  refine V_iconst C (w := 3) dX10_next_301 (by decide) ?_
  refine fp10_147 C oM_0 dX10_next_302 ?_
  refine V_aload_n C 0 dX10_next_305 rfl rfl ?_
  refine V_iload_n C 1 dX10_next_306 rfl rfl ?_
  refine V_i2l C dX10_next_307 ?_
  refine fp10_158 C oM_0 dX10_next_308 ?_
  refine V_aload_n C 0 dX10_next_311 rfl rfl ?_
  refine V_dup C dX10_next_312 rfl ?_
  refine fg10_138 C oM_0 dX10_next_313 ?_
  refine V_iconst C (w := 1) dX10_next_316 (by decide) ?_
  refine V_iadd C dX10_next_317 ?_
  refine fp10_138 C oM_0 dX10_next_318 ?_
  obtain rfl := Option.some.inj h
  exact V_vret C rfl dX10_next_321
def X10_next_b0 : Nat → St → Option St
  | 0, _ => none
  | F + 1, σ => (X10_byteAt (σ.1 0 20) σ).bind (fun x5 => if x5 = 32 then (X10_next_b26 (X10_next_b0 F) σ) else ((X10_byteAt (σ.1 0 20) σ).bind (fun x18 => if x18 = 10 then (X10_next_b26 (X10_next_b0 F) σ) else ((X10_byteAt ((up σ 0 22 (σ.1 0 20)).1 0 20) (up σ 0 22 (σ.1 0 20))).bind (fun x52 => if 0 ≤ x52 then ((X10_in (Int32.toInt64 x52) 97 122).bind (fun x89 => if x89 = 0 then ((X10_in (Int32.toInt64 x52) 48 57).bind (fun x142 => if x142 = 0 then (if x52 = 40 then (X10_next_b300 x52 (up (up σ 0 22 (σ.1 0 20)) 0 21 4)) else (if x52 = 41 then (X10_next_b300 x52 (up (up σ 0 22 (σ.1 0 20)) 0 21 4)) else (if x52 = 59 then (X10_next_b300 x52 (up (up σ 0 22 (σ.1 0 20)) 0 21 4)) else (if x52 = 43 then (X10_next_b300 x52 (up (up σ 0 22 (σ.1 0 20)) 0 21 4)) else (if x52 = 45 then (X10_next_b300 x52 (up (up σ 0 22 (σ.1 0 20)) 0 21 4)) else (if x52 = 42 then (X10_next_b300 x52 (up (up σ 0 22 (σ.1 0 20)) 0 21 4)) else (if x52 = 60 then (X10_next_b300 x52 (up (up σ 0 22 (σ.1 0 20)) 0 21 4)) else (if x52 = 61 then (X10_next_b300 x52 (up (up σ 0 22 (σ.1 0 20)) 0 21 4)) else (some (up (up σ 0 22 (σ.1 0 20)) 0 21 4)))))))))) else (X10_next_b160 FU 0 (upL (up (up (up σ 0 22 (σ.1 0 20)) 0 21 4) 0 21 2) 0)))) else (X10_next_b100 FU (up (up (up σ 0 22 (σ.1 0 20)) 0 21 4) 0 21 1)))) else (some (up (up (up (up σ 0 22 (σ.1 0 20)) 0 21 4) 0 21 0) 0 22 ((up (up (up σ 0 22 (σ.1 0 20)) 0 21 4) 0 21 0).1 0 19))))))))
set_option maxRecDepth 100000 in
set_option maxHeartbeats 4000000 in
theorem X10_next_b0_ok {G : Gx} {p : Program} {l : Launch} {e : Env} {d : Nat} {s : State} {m : MethodId} {args : Array Value} {below : List Frame} {meth : Method} {c : Code} {A : Nat → Prop} (C : OK shM G p s m args meth c RX10 cX10_next 3 none A) (hd : 2 ≤ d) : ∀ (F : Nat) {σ : St} {x : St} (h : X10_next_b0 F σ = some x), Vw shM G p l e d s m args below meth c 3 A σ 0 [(0, .ref (G.2.1 0))] [] (none) x := by
  intro F
  induction F with
  | zero =>
    intro σ x h
    rw [X10_next_b0] at h
    cases h
  | succ F ih =>
    intro σ x h
    rw [X10_next_b0] at h
    refine V_aload_n C 0 dX10_next_0 rfl rfl ?_
    refine V_aload_n C 0 dX10_next_1 rfl rfl ?_
    refine fg10_138 C oM_0 dX10_next_2 ?_
    obtain ⟨x5, h5, h⟩ := Option.bind_eq_some_iff.mp h
    refine V_callVi (As := [.int (σ.1 0 20)]) C (X10_byteAt_ok h5) mw_X10_byteAt.1 mw_X10_byteAt.2.1 mw_X10_byteAt.2.2 q10_141 oM_0.1 oM_0.2.1 (by decide) rfl rfl (by omega) rfl rfl rfl (Nat.le_of_ble_eq_true rfl) dX10_next_5 ?_
    refine V_bipush C (w := 32) dX10_next_8 (by decide) ?_
    by_cases c5 : x5 = 32
    · rw [if_pos c5] at h
      refine V_icmp_eqT C 26 dX10_next_10 (by decide) c5 ?_
      exact X10_next_b26_ok C hd (fun h => ih h) h
    · rw [if_neg c5] at h
      refine V_icmp_eqF C 26 dX10_next_10 (by decide) c5 ?_
      refine V_aload_n C 0 dX10_next_13 rfl rfl ?_
      refine V_aload_n C 0 dX10_next_14 rfl rfl ?_
      refine fg10_138 C oM_0 dX10_next_15 ?_
      obtain ⟨x18, h18, h⟩ := Option.bind_eq_some_iff.mp h
      refine V_callVi (As := [.int (σ.1 0 20)]) C (X10_byteAt_ok h18) mw_X10_byteAt.1 mw_X10_byteAt.2.1 mw_X10_byteAt.2.2 q10_141 oM_0.1 oM_0.2.1 (by decide) rfl rfl (by omega) rfl rfl rfl (Nat.le_of_ble_eq_true rfl) dX10_next_18 ?_
      refine V_bipush C (w := 10) dX10_next_21 (by decide) ?_
      by_cases c6 : x18 = 10
      · rw [if_pos c6] at h
        refine V_icmp_neF C 39 dX10_next_23 (by decide) c6 ?_
        exact X10_next_b26_ok C hd (fun h => ih h) h
      · rw [if_neg c6] at h
        refine V_icmp_neT C 39 dX10_next_23 (by decide) c6 ?_
        refine V_aload_n C 0 dX10_next_39 rfl rfl ?_
        refine V_aload_n C 0 dX10_next_40 rfl rfl ?_
        refine fg10_138 C oM_0 dX10_next_41 ?_
        refine fp10_144 C oM_0 dX10_next_44 ?_
        refine V_aload_n C 0 dX10_next_47 rfl rfl ?_
        refine V_aload_n C 0 dX10_next_48 rfl rfl ?_
        refine fg10_138 C oM_0 dX10_next_49 ?_
        obtain ⟨x52, h52, h⟩ := Option.bind_eq_some_iff.mp h
        refine V_callVi (As := [.int ((up σ 0 22 (σ.1 0 20)).1 0 20)]) C (X10_byteAt_ok h52) mw_X10_byteAt.1 mw_X10_byteAt.2.1 mw_X10_byteAt.2.2 q10_141 oM_0.1 oM_0.2.1 (by decide) rfl rfl (by omega) rfl rfl rfl (Nat.le_of_ble_eq_true rfl) dX10_next_52 ?_
        refine V_istore_n C (lv' := [(1, .int x52), (0, .ref (G.2.1 0))]) dX10_next_55 rfl (by decide) rfl ?_
        refine V_aload_n C 1 dX10_next_56 rfl rfl ?_
        refine V_iconst C (w := 4) dX10_next_57 (by decide) ?_
        refine fp10_147 C oM_0 dX10_next_58 ?_
        refine V_iload_n C 0 dX10_next_61 rfl rfl ?_
        by_cases c7 : 0 ≤ x52
        · rw [if_pos c7] at h
          refine V_if_geT C 81 dX10_next_62 (by decide) c7 ?_
          refine V_iload_n C 0 dX10_next_81 rfl rfl ?_
          refine V_i2l C dX10_next_82 ?_
          refine V_ldc2 C (w := 97) dX10_next_83 qk10_150 ?_
          refine V_ldc2 C (w := 122) dX10_next_86 qk10_152 ?_
          obtain ⟨x89, h89, h⟩ := Option.bind_eq_some_iff.mp h
          refine V_callSi (As := [.long (Int32.toInt64 x52), .long 97, .long 122]) C (X10_in_ok h89) mw_X10_in.1 mw_X10_in.2 q10_82 (by omega) rfl rfl rfl (Nat.le_of_ble_eq_true rfl) dX10_next_89 ?_
          by_cases c8 : x89 = 0
          · rw [if_pos c8] at h
            refine V_if_eqT C 134 dX10_next_92 (by decide) c8 ?_
            refine V_iload_n C 0 dX10_next_134 rfl rfl ?_
            refine V_i2l C dX10_next_135 ?_
            refine V_ldc2 C (w := 48) dX10_next_136 qk10_154 ?_
            refine V_ldc2 C (w := 57) dX10_next_139 qk10_156 ?_
            obtain ⟨x142, h142, h⟩ := Option.bind_eq_some_iff.mp h
            refine V_callSi (As := [.long (Int32.toInt64 x52), .long 48, .long 57]) C (X10_in_ok h142) mw_X10_in.1 mw_X10_in.2 q10_82 (by omega) rfl rfl rfl (Nat.le_of_ble_eq_true rfl) dX10_next_142 ?_
            by_cases c9 : x142 = 0
            · rw [if_pos c9] at h
              refine V_if_eqT C 252 dX10_next_145 (by decide) c9 ?_
              refine V_iload_n C 0 dX10_next_252 rfl rfl ?_
              refine V_bipush C (w := 40) dX10_next_253 (by decide) ?_
              by_cases c10 : x52 = 40
              · rw [if_pos c10] at h
                refine V_icmp_eqT C 300 dX10_next_255 (by decide) c10 ?_
                refine V_sub (lv' := [(0, .ref (G.2.1 0)), (1, .int x52)]) [1, 0] rfl ?_
                exact X10_next_b300_ok C hd h
              · rw [if_neg c10] at h
                refine V_icmp_eqF C 300 dX10_next_255 (by decide) c10 ?_
                refine V_iload_n C 0 dX10_next_258 rfl rfl ?_
                refine V_bipush C (w := 41) dX10_next_259 (by decide) ?_
                by_cases c11 : x52 = 41
                · rw [if_pos c11] at h
                  refine V_icmp_eqT C 300 dX10_next_261 (by decide) c11 ?_
                  refine V_sub (lv' := [(0, .ref (G.2.1 0)), (1, .int x52)]) [1, 0] rfl ?_
                  exact X10_next_b300_ok C hd h
                · rw [if_neg c11] at h
                  refine V_icmp_eqF C 300 dX10_next_261 (by decide) c11 ?_
                  refine V_iload_n C 0 dX10_next_264 rfl rfl ?_
                  refine V_bipush C (w := 59) dX10_next_265 (by decide) ?_
                  by_cases c12 : x52 = 59
                  · rw [if_pos c12] at h
                    refine V_icmp_eqT C 300 dX10_next_267 (by decide) c12 ?_
                    refine V_sub (lv' := [(0, .ref (G.2.1 0)), (1, .int x52)]) [1, 0] rfl ?_
                    exact X10_next_b300_ok C hd h
                  · rw [if_neg c12] at h
                    refine V_icmp_eqF C 300 dX10_next_267 (by decide) c12 ?_
                    refine V_iload_n C 0 dX10_next_270 rfl rfl ?_
                    refine V_bipush C (w := 43) dX10_next_271 (by decide) ?_
                    by_cases c13 : x52 = 43
                    · rw [if_pos c13] at h
                      refine V_icmp_eqT C 300 dX10_next_273 (by decide) c13 ?_
                      refine V_sub (lv' := [(0, .ref (G.2.1 0)), (1, .int x52)]) [1, 0] rfl ?_
                      exact X10_next_b300_ok C hd h
                    · rw [if_neg c13] at h
                      refine V_icmp_eqF C 300 dX10_next_273 (by decide) c13 ?_
                      refine V_iload_n C 0 dX10_next_276 rfl rfl ?_
                      refine V_bipush C (w := 45) dX10_next_277 (by decide) ?_
                      by_cases c14 : x52 = 45
                      · rw [if_pos c14] at h
                        refine V_icmp_eqT C 300 dX10_next_279 (by decide) c14 ?_
                        refine V_sub (lv' := [(0, .ref (G.2.1 0)), (1, .int x52)]) [1, 0] rfl ?_
                        exact X10_next_b300_ok C hd h
                      · rw [if_neg c14] at h
                        refine V_icmp_eqF C 300 dX10_next_279 (by decide) c14 ?_
                        refine V_iload_n C 0 dX10_next_282 rfl rfl ?_
                        refine V_bipush C (w := 42) dX10_next_283 (by decide) ?_
                        by_cases c15 : x52 = 42
                        · rw [if_pos c15] at h
                          refine V_icmp_eqT C 300 dX10_next_285 (by decide) c15 ?_
                          refine V_sub (lv' := [(0, .ref (G.2.1 0)), (1, .int x52)]) [1, 0] rfl ?_
                          exact X10_next_b300_ok C hd h
                        · rw [if_neg c15] at h
                          refine V_icmp_eqF C 300 dX10_next_285 (by decide) c15 ?_
                          refine V_iload_n C 0 dX10_next_288 rfl rfl ?_
                          refine V_bipush C (w := 60) dX10_next_289 (by decide) ?_
                          by_cases c16 : x52 = 60
                          · rw [if_pos c16] at h
                            refine V_icmp_eqT C 300 dX10_next_291 (by decide) c16 ?_
                            refine V_sub (lv' := [(0, .ref (G.2.1 0)), (1, .int x52)]) [1, 0] rfl ?_
                            exact X10_next_b300_ok C hd h
                          · rw [if_neg c16] at h
                            refine V_icmp_eqF C 300 dX10_next_291 (by decide) c16 ?_
                            refine V_iload_n C 0 dX10_next_294 rfl rfl ?_
                            refine V_bipush C (w := 61) dX10_next_295 (by decide) ?_
                            by_cases c17 : x52 = 61
                            · rw [if_pos c17] at h
                              refine V_icmp_neF C 321 dX10_next_297 (by decide) c17 ?_
                              refine V_sub (lv' := [(0, .ref (G.2.1 0)), (1, .int x52)]) [1, 0] rfl ?_
                              exact X10_next_b300_ok C hd h
                            · rw [if_neg c17] at h
                              refine V_icmp_neT C 321 dX10_next_297 (by decide) c17 ?_
                              obtain rfl := Option.some.inj h
                              exact V_vret C rfl dX10_next_321
            · rw [if_neg c9] at h
              refine V_if_eqF C 252 dX10_next_145 (by decide) c9 ?_
              refine V_aload_n C 1 dX10_next_148 rfl rfl ?_
              refine V_iconst C (w := 2) dX10_next_149 (by decide) ?_
              refine fp10_147 C oM_0 dX10_next_150 ?_
              refine V_aload_n C 1 dX10_next_153 rfl rfl ?_
              refine V_lconst C (w := 0) dX10_next_154 (by decide) ?_
              refine fp10_158 C oM_0 dX10_next_155 ?_
              refine V_iconst C (w := 0) dX10_next_158 (by decide) ?_
              refine V_istore_n C (lv' := [(2, .int 0), (1, .int x52), (0, .ref (G.2.1 0))]) dX10_next_159 rfl (by decide) rfl ?_
              refine V_sub (lv' := [(0, .ref (G.2.1 0)), (2, .int 0)]) [2, 0] rfl ?_
              exact X10_next_b160_ok C hd FU h
          · rw [if_neg c8] at h
            refine V_if_eqF C 134 dX10_next_92 (by decide) c8 ?_
            refine V_aload_n C 1 dX10_next_95 rfl rfl ?_
            refine V_iconst C (w := 1) dX10_next_96 (by decide) ?_
            refine fp10_147 C oM_0 dX10_next_97 ?_
            refine V_sub (lv' := [(0, .ref (G.2.1 0))]) [1] rfl ?_
            exact X10_next_b100_ok C hd FU h
        · rw [if_neg c7] at h
          refine V_if_geF C 81 dX10_next_62 (by decide) c7 ?_
          refine V_aload_n C 1 dX10_next_65 rfl rfl ?_
          refine V_iconst C (w := 0) dX10_next_66 (by decide) ?_
          refine fp10_147 C oM_0 dX10_next_67 ?_
          refine V_aload_n C 1 dX10_next_70 rfl rfl ?_
          refine V_aload_n C 1 dX10_next_71 rfl rfl ?_
          refine fg10_132 C oM_0 dX10_next_72 ?_
          refine fp10_144 C oM_0 dX10_next_75 ?_
          refine V_goto C 321 dX10_next_78 (by decide) ?_
          obtain rfl := Option.some.inj h
          exact V_vret C rfl dX10_next_321
def X10_next (σ : St) : Option St := X10_next_b0 FU σ
set_option maxRecDepth 100000 in
set_option maxHeartbeats 4000000 in
theorem X10_next_ok {σ : St} {x : St} (h : X10_next σ = some x) : Ct shM (2) yX10_next cX10_next 3 none (fun G => [.ref (G.2.1 0)]) σ (fun G => none) x := by
  refine Ct.of mw_X10_next.1 (by decide +kernel) (fun G => Nat.le_of_ble_eq_true rfl) (fun G p l e d s m args below meth c A hd C => ?_)
  refine (?_ : Vw shM G p l e d s m args below meth c 3 A σ 0 [(0, .ref (G.2.1 0))] [] (none) x)
  unfold X10_next at h
  exact X10_next_b0_ok C hd FU h
def X10_isLetter (l1 : Int32) (l2 : Int32) (σ : St) : Option Int32 := if (σ.1 0 20) ≤ ((σ.1 0 22) + l1) then (if l2 = 0 then (some 1) else (some 0)) else ((X10_byteAt ((σ.1 0 22) + l1) σ).bind (fun x20 => if x20 = l2 then (some 1) else (some 0)))
set_option maxRecDepth 100000 in
set_option maxHeartbeats 4000000 in
theorem X10_isLetter_ok {l1 : Int32} {l2 : Int32} {σ : St} {x : Int32} (h : X10_isLetter l1 l2 σ = some x) : Ct shM (2) yX10_isLetter cX10_isLetter 3 (some FieldType.boolean) (fun G => [.ref (G.2.1 0), .int l1, .int l2]) σ (fun G => some (.int x)) σ := by
  refine Ct.of mw_X10_isLetter.1 (by decide +kernel) (fun G => Nat.le_of_ble_eq_true rfl) (fun G p l e d s m args below meth c A hd C => ?_)
  refine (?_ : Vw shM G p l e d s m args below meth c 3 A σ 0 [(0, .ref (G.2.1 0)), (1, .int l1), (2, .int l2)] [] (some (.int x)) σ)
  unfold X10_isLetter at h
  refine V_aload_n C 0 dX10_isLetter_0 rfl rfl ?_
  refine fg10_144 C oM_0 dX10_isLetter_1 ?_
  refine V_iload_n C 1 dX10_isLetter_4 rfl rfl ?_
  refine V_iadd C dX10_isLetter_5 ?_
  refine V_aload_n C 0 dX10_isLetter_6 rfl rfl ?_
  refine fg10_138 C oM_0 dX10_isLetter_7 ?_
  by_cases c1 : (σ.1 0 20) ≤ ((σ.1 0 22) + l1)
  · rw [if_pos c1] at h
    refine V_icmp_geT C 35 dX10_isLetter_10 (by decide) c1 ?_
    refine V_iload_n C 2 dX10_isLetter_35 rfl rfl ?_
    by_cases c2 : l2 = 0
    · rw [if_pos c2] at h
      refine V_if_neF C 43 dX10_isLetter_36 (by decide) c2 ?_
      refine V_iconst C (w := 1) dX10_isLetter_39 (by decide) ?_
      refine V_goto C 44 dX10_isLetter_40 (by decide) ?_
      obtain rfl := Option.some.inj h
      exact V_iret C rfl (nz (Or.inr rfl)) dX10_isLetter_44
    · rw [if_neg c2] at h
      refine V_if_neT C 43 dX10_isLetter_36 (by decide) c2 ?_
      refine V_iconst C (w := 0) dX10_isLetter_43 (by decide) ?_
      obtain rfl := Option.some.inj h
      exact V_iret C rfl (nz (Or.inl rfl)) dX10_isLetter_44
  · rw [if_neg c1] at h
    refine V_icmp_geF C 35 dX10_isLetter_10 (by decide) c1 ?_
    refine V_aload_n C 0 dX10_isLetter_13 rfl rfl ?_
    refine V_aload_n C 0 dX10_isLetter_14 rfl rfl ?_
    refine fg10_144 C oM_0 dX10_isLetter_15 ?_
    refine V_iload_n C 1 dX10_isLetter_18 rfl rfl ?_
    refine V_iadd C dX10_isLetter_19 ?_
    obtain ⟨x20, h20, h⟩ := Option.bind_eq_some_iff.mp h
    refine V_callVi (As := [.int ((σ.1 0 22) + l1)]) C (X10_byteAt_ok h20) mw_X10_byteAt.1 mw_X10_byteAt.2.1 mw_X10_byteAt.2.2 q10_141 oM_0.1 oM_0.2.1 (by decide) rfl rfl (by omega) rfl rfl rfl (Nat.le_of_ble_eq_true rfl) dX10_isLetter_20 ?_
    refine V_iload_n C 2 dX10_isLetter_23 rfl rfl ?_
    by_cases c3 : x20 = l2
    · rw [if_pos c3] at h
      refine V_icmp_neF C 31 dX10_isLetter_24 (by decide) c3 ?_
      refine V_iconst C (w := 1) dX10_isLetter_27 (by decide) ?_
      refine V_goto C 44 dX10_isLetter_28 (by decide) ?_
      obtain rfl := Option.some.inj h
      exact V_iret C rfl (nz (Or.inr rfl)) dX10_isLetter_44
    · rw [if_neg c3] at h
      refine V_icmp_neT C 31 dX10_isLetter_24 (by decide) c3 ?_
      refine V_iconst C (w := 0) dX10_isLetter_31 (by decide) ?_
      refine V_goto C 44 dX10_isLetter_32 (by decide) ?_
      obtain rfl := Option.some.inj h
      exact V_iret C rfl (nz (Or.inl rfl)) dX10_isLetter_44
def X10_isWord (l1 : Int32) (l2 : Int32) (l3 : Int32) (l4 : Int32) (l5 : Int32) (l6 : Int32) (l7 : Int32) (l8 : Int32) (σ : St) : Option Int32 := if (σ.1 0 25) = 0 then (if (σ.1 0 21) = 1 then (if ((σ.1 0 22) + 8) < (σ.1 0 20) then (some 0) else ((X10_isLetter 0 l1 σ).bind (fun x32 => if x32 = 0 then (some 0) else ((X10_isLetter 1 l2 σ).bind (fun x41 => if x41 = 0 then (some 0) else ((X10_isLetter 2 l3 σ).bind (fun x50 => if x50 = 0 then (some 0) else ((X10_isLetter 3 l4 σ).bind (fun x60 => if x60 = 0 then (some 0) else ((X10_isLetter 4 l5 σ).bind (fun x70 => if x70 = 0 then (some 0) else ((X10_isLetter 5 l6 σ).bind (fun x80 => if x80 = 0 then (some 0) else ((X10_isLetter 6 l7 σ).bind (fun x91 => if x91 = 0 then (some 0) else ((X10_isLetter 7 l8 σ).bind (fun x102 => if x102 = 0 then (some 0) else (some 1)))))))))))))))))) else (some 0)) else (some 0)
set_option maxRecDepth 100000 in
set_option maxHeartbeats 4000000 in
theorem X10_isWord_ok {l1 : Int32} {l2 : Int32} {l3 : Int32} {l4 : Int32} {l5 : Int32} {l6 : Int32} {l7 : Int32} {l8 : Int32} {σ : St} {x : Int32} (h : X10_isWord l1 l2 l3 l4 l5 l6 l7 l8 σ = some x) : Ct shM (3) yX10_isWord cX10_isWord 9 (some FieldType.boolean) (fun G => [.ref (G.2.1 0), .int l1, .int l2, .int l3, .int l4, .int l5, .int l6, .int l7, .int l8]) σ (fun G => some (.int x)) σ := by
  refine Ct.of mw_X10_isWord.1 (by decide +kernel) (fun G => Nat.le_of_ble_eq_true rfl) (fun G p l e d s m args below meth c A hd C => ?_)
  refine (?_ : Vw shM G p l e d s m args below meth c 9 A σ 0 [(0, .ref (G.2.1 0)), (1, .int l1), (2, .int l2), (3, .int l3), (4, .int l4), (5, .int l5), (6, .int l6), (7, .int l7), (8, .int l8)] [] (some (.int x)) σ)
  unfold X10_isWord at h
  refine V_aload_n C 0 dX10_isWord_0 rfl rfl ?_
  refine fg10_164 C oM_0 dX10_isWord_1 ?_
  by_cases c1 : (σ.1 0 25) = 0
  · rw [if_pos c1] at h
    refine V_if_neF C 112 dX10_isWord_4 (by decide) c1 ?_
    refine V_aload_n C 0 dX10_isWord_7 rfl rfl ?_
    refine fg10_147 C oM_0 dX10_isWord_8 ?_
    refine V_iconst C (w := 1) dX10_isWord_11 (by decide) ?_
    by_cases c2 : (σ.1 0 21) = 1
    · rw [if_pos c2] at h
      refine V_icmp_neF C 112 dX10_isWord_12 (by decide) c2 ?_
      refine V_aload_n C 0 dX10_isWord_15 rfl rfl ?_
      refine fg10_138 C oM_0 dX10_isWord_16 ?_
      refine V_aload_n C 0 dX10_isWord_19 rfl rfl ?_
      refine fg10_144 C oM_0 dX10_isWord_20 ?_
      refine V_bipush C (w := 8) dX10_isWord_23 (by decide) ?_
      refine V_iadd C dX10_isWord_25 ?_
      by_cases c3 : ((σ.1 0 22) + 8) < (σ.1 0 20)
      · rw [if_pos c3] at h
        refine V_icmp_gtT C 112 dX10_isWord_26 (by decide) c3 ?_
        refine V_iconst C (w := 0) dX10_isWord_112 (by decide) ?_
        obtain rfl := Option.some.inj h
        exact V_iret C rfl (nz (Or.inl rfl)) dX10_isWord_113
      · rw [if_neg c3] at h
        refine V_icmp_gtF C 112 dX10_isWord_26 (by decide) c3 ?_
        refine V_aload_n C 0 dX10_isWord_29 rfl rfl ?_
        refine V_iconst C (w := 0) dX10_isWord_30 (by decide) ?_
        refine V_iload_n C 1 dX10_isWord_31 rfl rfl ?_
        obtain ⟨x32, h32, h⟩ := Option.bind_eq_some_iff.mp h
        refine V_callVi (As := [.int 0, .int l1]) C (X10_isLetter_ok h32) mw_X10_isLetter.1 mw_X10_isLetter.2.1 mw_X10_isLetter.2.2 q10_171 oM_0.1 oM_0.2.1 (by decide) rfl rfl (by omega) rfl rfl rfl (Nat.le_of_ble_eq_true rfl) dX10_isWord_32 ?_
        by_cases c4 : x32 = 0
        · rw [if_pos c4] at h
          refine V_if_eqT C 112 dX10_isWord_35 (by decide) c4 ?_
          refine V_iconst C (w := 0) dX10_isWord_112 (by decide) ?_
          obtain rfl := Option.some.inj h
          exact V_iret C rfl (nz (Or.inl rfl)) dX10_isWord_113
        · rw [if_neg c4] at h
          refine V_if_eqF C 112 dX10_isWord_35 (by decide) c4 ?_
          refine V_aload_n C 0 dX10_isWord_38 rfl rfl ?_
          refine V_iconst C (w := 1) dX10_isWord_39 (by decide) ?_
          refine V_iload_n C 2 dX10_isWord_40 rfl rfl ?_
          obtain ⟨x41, h41, h⟩ := Option.bind_eq_some_iff.mp h
          refine V_callVi (As := [.int 1, .int l2]) C (X10_isLetter_ok h41) mw_X10_isLetter.1 mw_X10_isLetter.2.1 mw_X10_isLetter.2.2 q10_171 oM_0.1 oM_0.2.1 (by decide) rfl rfl (by omega) rfl rfl rfl (Nat.le_of_ble_eq_true rfl) dX10_isWord_41 ?_
          by_cases c5 : x41 = 0
          · rw [if_pos c5] at h
            refine V_if_eqT C 112 dX10_isWord_44 (by decide) c5 ?_
            refine V_iconst C (w := 0) dX10_isWord_112 (by decide) ?_
            obtain rfl := Option.some.inj h
            exact V_iret C rfl (nz (Or.inl rfl)) dX10_isWord_113
          · rw [if_neg c5] at h
            refine V_if_eqF C 112 dX10_isWord_44 (by decide) c5 ?_
            refine V_aload_n C 0 dX10_isWord_47 rfl rfl ?_
            refine V_iconst C (w := 2) dX10_isWord_48 (by decide) ?_
            refine V_iload_n C 3 dX10_isWord_49 rfl rfl ?_
            obtain ⟨x50, h50, h⟩ := Option.bind_eq_some_iff.mp h
            refine V_callVi (As := [.int 2, .int l3]) C (X10_isLetter_ok h50) mw_X10_isLetter.1 mw_X10_isLetter.2.1 mw_X10_isLetter.2.2 q10_171 oM_0.1 oM_0.2.1 (by decide) rfl rfl (by omega) rfl rfl rfl (Nat.le_of_ble_eq_true rfl) dX10_isWord_50 ?_
            by_cases c6 : x50 = 0
            · rw [if_pos c6] at h
              refine V_if_eqT C 112 dX10_isWord_53 (by decide) c6 ?_
              refine V_iconst C (w := 0) dX10_isWord_112 (by decide) ?_
              obtain rfl := Option.some.inj h
              exact V_iret C rfl (nz (Or.inl rfl)) dX10_isWord_113
            · rw [if_neg c6] at h
              refine V_if_eqF C 112 dX10_isWord_53 (by decide) c6 ?_
              refine V_aload_n C 0 dX10_isWord_56 rfl rfl ?_
              refine V_iconst C (w := 3) dX10_isWord_57 (by decide) ?_
              refine V_iload C 4 dX10_isWord_58 rfl ?_
              obtain ⟨x60, h60, h⟩ := Option.bind_eq_some_iff.mp h
              refine V_callVi (As := [.int 3, .int l4]) C (X10_isLetter_ok h60) mw_X10_isLetter.1 mw_X10_isLetter.2.1 mw_X10_isLetter.2.2 q10_171 oM_0.1 oM_0.2.1 (by decide) rfl rfl (by omega) rfl rfl rfl (Nat.le_of_ble_eq_true rfl) dX10_isWord_60 ?_
              by_cases c7 : x60 = 0
              · rw [if_pos c7] at h
                refine V_if_eqT C 112 dX10_isWord_63 (by decide) c7 ?_
                refine V_iconst C (w := 0) dX10_isWord_112 (by decide) ?_
                obtain rfl := Option.some.inj h
                exact V_iret C rfl (nz (Or.inl rfl)) dX10_isWord_113
              · rw [if_neg c7] at h
                refine V_if_eqF C 112 dX10_isWord_63 (by decide) c7 ?_
                refine V_aload_n C 0 dX10_isWord_66 rfl rfl ?_
                refine V_iconst C (w := 4) dX10_isWord_67 (by decide) ?_
                refine V_iload C 5 dX10_isWord_68 rfl ?_
                obtain ⟨x70, h70, h⟩ := Option.bind_eq_some_iff.mp h
                refine V_callVi (As := [.int 4, .int l5]) C (X10_isLetter_ok h70) mw_X10_isLetter.1 mw_X10_isLetter.2.1 mw_X10_isLetter.2.2 q10_171 oM_0.1 oM_0.2.1 (by decide) rfl rfl (by omega) rfl rfl rfl (Nat.le_of_ble_eq_true rfl) dX10_isWord_70 ?_
                by_cases c8 : x70 = 0
                · rw [if_pos c8] at h
                  refine V_if_eqT C 112 dX10_isWord_73 (by decide) c8 ?_
                  refine V_iconst C (w := 0) dX10_isWord_112 (by decide) ?_
                  obtain rfl := Option.some.inj h
                  exact V_iret C rfl (nz (Or.inl rfl)) dX10_isWord_113
                · rw [if_neg c8] at h
                  refine V_if_eqF C 112 dX10_isWord_73 (by decide) c8 ?_
                  refine V_aload_n C 0 dX10_isWord_76 rfl rfl ?_
                  refine V_iconst C (w := 5) dX10_isWord_77 (by decide) ?_
                  refine V_iload C 6 dX10_isWord_78 rfl ?_
                  obtain ⟨x80, h80, h⟩ := Option.bind_eq_some_iff.mp h
                  refine V_callVi (As := [.int 5, .int l6]) C (X10_isLetter_ok h80) mw_X10_isLetter.1 mw_X10_isLetter.2.1 mw_X10_isLetter.2.2 q10_171 oM_0.1 oM_0.2.1 (by decide) rfl rfl (by omega) rfl rfl rfl (Nat.le_of_ble_eq_true rfl) dX10_isWord_80 ?_
                  by_cases c9 : x80 = 0
                  · rw [if_pos c9] at h
                    refine V_if_eqT C 112 dX10_isWord_83 (by decide) c9 ?_
                    refine V_iconst C (w := 0) dX10_isWord_112 (by decide) ?_
                    obtain rfl := Option.some.inj h
                    exact V_iret C rfl (nz (Or.inl rfl)) dX10_isWord_113
                  · rw [if_neg c9] at h
                    refine V_if_eqF C 112 dX10_isWord_83 (by decide) c9 ?_
                    refine V_aload_n C 0 dX10_isWord_86 rfl rfl ?_
                    refine V_bipush C (w := 6) dX10_isWord_87 (by decide) ?_
                    refine V_iload C 7 dX10_isWord_89 rfl ?_
                    obtain ⟨x91, h91, h⟩ := Option.bind_eq_some_iff.mp h
                    refine V_callVi (As := [.int 6, .int l7]) C (X10_isLetter_ok h91) mw_X10_isLetter.1 mw_X10_isLetter.2.1 mw_X10_isLetter.2.2 q10_171 oM_0.1 oM_0.2.1 (by decide) rfl rfl (by omega) rfl rfl rfl (Nat.le_of_ble_eq_true rfl) dX10_isWord_91 ?_
                    by_cases c10 : x91 = 0
                    · rw [if_pos c10] at h
                      refine V_if_eqT C 112 dX10_isWord_94 (by decide) c10 ?_
                      refine V_iconst C (w := 0) dX10_isWord_112 (by decide) ?_
                      obtain rfl := Option.some.inj h
                      exact V_iret C rfl (nz (Or.inl rfl)) dX10_isWord_113
                    · rw [if_neg c10] at h
                      refine V_if_eqF C 112 dX10_isWord_94 (by decide) c10 ?_
                      refine V_aload_n C 0 dX10_isWord_97 rfl rfl ?_
                      refine V_bipush C (w := 7) dX10_isWord_98 (by decide) ?_
                      refine V_iload C 8 dX10_isWord_100 rfl ?_
                      obtain ⟨x102, h102, h⟩ := Option.bind_eq_some_iff.mp h
                      refine V_callVi (As := [.int 7, .int l8]) C (X10_isLetter_ok h102) mw_X10_isLetter.1 mw_X10_isLetter.2.1 mw_X10_isLetter.2.2 q10_171 oM_0.1 oM_0.2.1 (by decide) rfl rfl (by omega) rfl rfl rfl (Nat.le_of_ble_eq_true rfl) dX10_isWord_102 ?_
                      by_cases c11 : x102 = 0
                      · rw [if_pos c11] at h
                        refine V_if_eqT C 112 dX10_isWord_105 (by decide) c11 ?_
                        refine V_iconst C (w := 0) dX10_isWord_112 (by decide) ?_
                        obtain rfl := Option.some.inj h
                        exact V_iret C rfl (nz (Or.inl rfl)) dX10_isWord_113
                      · rw [if_neg c11] at h
                        refine V_if_eqF C 112 dX10_isWord_105 (by decide) c11 ?_
                        refine V_iconst C (w := 1) dX10_isWord_108 (by decide) ?_
                        refine V_goto C 113 dX10_isWord_109 (by decide) ?_
                        obtain rfl := Option.some.inj h
                        exact V_iret C rfl (nz (Or.inr rfl)) dX10_isWord_113
    · rw [if_neg c2] at h
      refine V_icmp_neT C 112 dX10_isWord_12 (by decide) c2 ?_
      refine V_iconst C (w := 0) dX10_isWord_112 (by decide) ?_
      obtain rfl := Option.some.inj h
      exact V_iret C rfl (nz (Or.inl rfl)) dX10_isWord_113
  · rw [if_neg c1] at h
    refine V_if_neT C 112 dX10_isWord_4 (by decide) c1 ?_
    refine V_iconst C (w := 0) dX10_isWord_112 (by decide) ?_
    obtain rfl := Option.some.inj h
    exact V_iret C rfl (nz (Or.inl rfl)) dX10_isWord_113
def X10_fail (σ : St) : Option St := if (σ.1 0 25) = 0 then (some (up (up σ 0 25 1) 0 26 ((up σ 0 25 1).1 0 22))) else (some σ)
set_option maxRecDepth 100000 in
set_option maxHeartbeats 4000000 in
theorem X10_fail_ok {σ : St} {x : St} (h : X10_fail σ = some x) : Ct shM (1) yX10_fail cX10_fail 1 none (fun G => [.ref (G.2.1 0)]) σ (fun G => none) x := by
  refine Ct.of mw_X10_fail.1 (by decide +kernel) (fun G => Nat.le_of_ble_eq_true rfl) (fun G p l e d s m args below meth c A hd C => ?_)
  refine (?_ : Vw shM G p l e d s m args below meth c 1 A σ 0 [(0, .ref (G.2.1 0))] [] (none) x)
  unfold X10_fail at h
  refine V_aload_n C 0 dX10_fail_0 rfl rfl ?_
  refine fg10_164 C oM_0 dX10_fail_1 ?_
  by_cases c1 : (σ.1 0 25) = 0
  · rw [if_pos c1] at h
    refine V_if_neF C 20 dX10_fail_4 (by decide) c1 ?_
    refine V_aload_n C 0 dX10_fail_7 rfl rfl ?_
    refine V_iconst C (w := 1) dX10_fail_8 (by decide) ?_
    refine fp10_164 C oM_0 (Or.inr rfl) dX10_fail_9 ?_
    refine V_aload_n C 0 dX10_fail_12 rfl rfl ?_
    refine V_aload_n C 0 dX10_fail_13 rfl rfl ?_
    refine fg10_144 C oM_0 dX10_fail_14 ?_
    refine fp10_168 C oM_0 dX10_fail_17 ?_
    obtain rfl := Option.some.inj h
    exact V_vret C rfl dX10_fail_20
  · rw [if_neg c1] at h
    refine V_if_neT C 20 dX10_fail_4 (by decide) c1 ?_
    obtain rfl := Option.some.inj h
    exact V_vret C rfl dX10_fail_20
def X10_isSign (l1 : Int32) (σ : St) : Option Int32 := if (σ.1 0 25) = 0 then (if (σ.1 0 21) = 3 then (if (lg_cmp σ.2 (Int32.toInt64 l1)) = 0 then (some 1) else (some 0)) else (some 0)) else (some 0)
set_option maxRecDepth 100000 in
set_option maxHeartbeats 4000000 in
theorem X10_isSign_ok {l1 : Int32} {σ : St} {x : Int32} (h : X10_isSign l1 σ = some x) : Ct shM (1) yX10_isSign cX10_isSign 2 (some FieldType.boolean) (fun G => [.ref (G.2.1 0), .int l1]) σ (fun G => some (.int x)) σ := by
  refine Ct.of mw_X10_isSign.1 (by decide +kernel) (fun G => Nat.le_of_ble_eq_true rfl) (fun G p l e d s m args below meth c A hd C => ?_)
  refine (?_ : Vw shM G p l e d s m args below meth c 2 A σ 0 [(0, .ref (G.2.1 0)), (1, .int l1)] [] (some (.int x)) σ)
  unfold X10_isSign at h
  refine V_aload_n C 0 dX10_isSign_0 rfl rfl ?_
  refine fg10_164 C oM_0 dX10_isSign_1 ?_
  by_cases c1 : (σ.1 0 25) = 0
  · rw [if_pos c1] at h
    refine V_if_neF C 29 dX10_isSign_4 (by decide) c1 ?_
    refine V_aload_n C 0 dX10_isSign_7 rfl rfl ?_
    refine fg10_147 C oM_0 dX10_isSign_8 ?_
    refine V_iconst C (w := 3) dX10_isSign_11 (by decide) ?_
    by_cases c2 : (σ.1 0 21) = 3
    · rw [if_pos c2] at h
      refine V_icmp_neF C 29 dX10_isSign_12 (by decide) c2 ?_
      refine V_aload_n C 0 dX10_isSign_15 rfl rfl ?_
      refine fg10_158 C oM_0 dX10_isSign_16 ?_
      refine V_iload_n C 1 dX10_isSign_19 rfl rfl ?_
      refine V_i2l C dX10_isSign_20 ?_
      refine V_lcmp C dX10_isSign_21 ?_
      by_cases c3 : (lg_cmp σ.2 (Int32.toInt64 l1)) = 0
      · rw [if_pos c3] at h
        refine V_if_neF C 29 dX10_isSign_22 (by decide) c3 ?_
        refine V_iconst C (w := 1) dX10_isSign_25 (by decide) ?_
        refine V_goto C 30 dX10_isSign_26 (by decide) ?_
        obtain rfl := Option.some.inj h
        exact V_iret C rfl (nz (Or.inr rfl)) dX10_isSign_30
      · rw [if_neg c3] at h
        refine V_if_neT C 29 dX10_isSign_22 (by decide) c3 ?_
        refine V_iconst C (w := 0) dX10_isSign_29 (by decide) ?_
        obtain rfl := Option.some.inj h
        exact V_iret C rfl (nz (Or.inl rfl)) dX10_isSign_30
    · rw [if_neg c2] at h
      refine V_icmp_neT C 29 dX10_isSign_12 (by decide) c2 ?_
      refine V_iconst C (w := 0) dX10_isSign_29 (by decide) ?_
      obtain rfl := Option.some.inj h
      exact V_iret C rfl (nz (Or.inl rfl)) dX10_isSign_30
  · rw [if_neg c1] at h
    refine V_if_neT C 29 dX10_isSign_4 (by decide) c1 ?_
    refine V_iconst C (w := 0) dX10_isSign_29 (by decide) ?_
    obtain rfl := Option.some.inj h
    exact V_iret C rfl (nz (Or.inl rfl)) dX10_isSign_30
def X10_opens (σ : St) : Option (Int32 × St) := if (σ.1 0 24) = 5 then ((X10_fail σ).bind (fun x9 => some (0, x9))) else ((X10_next (up σ 0 24 ((σ.1 0 24) + 1))).bind (fun x25 => some (1, x25)))
set_option maxRecDepth 100000 in
set_option maxHeartbeats 4000000 in
theorem X10_opens_ok {σ : St} {x : (Int32 × St)} (h : X10_opens σ = some x) : Ct shM (3) yX10_opens cX10_opens 1 (some FieldType.boolean) (fun G => [.ref (G.2.1 0)]) σ (fun G => some (.int x.1)) x.2 := by
  refine Ct.of mw_X10_opens.1 (by decide +kernel) (fun G => Nat.le_of_ble_eq_true rfl) (fun G p l e d s m args below meth c A hd C => ?_)
  refine (?_ : Vw shM G p l e d s m args below meth c 1 A σ 0 [(0, .ref (G.2.1 0))] [] (some (.int x.1)) x.2)
  unfold X10_opens at h
  refine V_aload_n C 0 dX10_opens_0 rfl rfl ?_
  refine fg10_175 C oM_0 dX10_opens_1 ?_
  refine V_iconst C (w := 5) dX10_opens_4 (by decide) ?_
  by_cases c1 : (σ.1 0 24) = 5
  · rw [if_pos c1] at h
    refine V_icmp_neF C 14 dX10_opens_5 (by decide) c1 ?_
    refine V_aload_n C 0 dX10_opens_8 rfl rfl ?_
    obtain ⟨x9, h9, h⟩ := Option.bind_eq_some_iff.mp h
    refine V_callVv (As := []) C (X10_fail_ok h9) mw_X10_fail.1 mw_X10_fail.2.1 mw_X10_fail.2.2 q10_178 oM_0.1 oM_0.2.1 (by decide) rfl rfl (by omega) rfl rfl rfl (Nat.le_of_ble_eq_true rfl) dX10_opens_9 ?_
    refine V_iconst C (w := 0) dX10_opens_12 (by decide) ?_
    obtain rfl := Option.some.inj h
    exact V_iret C rfl (nz (Or.inl rfl)) dX10_opens_13
  · rw [if_neg c1] at h
    refine V_icmp_neT C 14 dX10_opens_5 (by decide) c1 ?_
    refine V_aload_n C 0 dX10_opens_14 rfl rfl ?_
    refine V_dup C dX10_opens_15 rfl ?_
    refine fg10_175 C oM_0 dX10_opens_16 ?_
    refine V_iconst C (w := 1) dX10_opens_19 (by decide) ?_
    refine V_iadd C dX10_opens_20 ?_
    refine fp10_175 C oM_0 dX10_opens_21 ?_
    refine V_aload_n C 0 dX10_opens_24 rfl rfl ?_
    obtain ⟨x25, h25, h⟩ := Option.bind_eq_some_iff.mp h
    refine V_callVv (As := []) C (X10_next_ok h25) mw_X10_next.1 mw_X10_next.2.1 mw_X10_next.2.2 q10_181 oM_0.1 oM_0.2.1 (by decide) rfl rfl (by omega) rfl rfl rfl (Nat.le_of_ble_eq_true rfl) dX10_opens_25 ?_
    refine V_iconst C (w := 1) dX10_opens_28 (by decide) ?_
    obtain rfl := Option.some.inj h
    exact V_iret C rfl (nz (Or.inr rfl)) dX10_opens_29
def X10_name (σ : St) : Option (Int32 × St) := (X10_isWord 116 111 112 105 99 0 0 0 σ).bind (fun x14 => if x14 = 0 then ((X10_isWord 108 97 115 116 0 0 0 0 σ).bind (fun x38 => if x38 = 0 then ((X10_isWord 119 97 114 109 116 104 0 0 σ).bind (fun x64 => if x64 = 0 then ((X10_isWord 110 117 109 98 101 114 0 0 σ).bind (fun x90 => if x90 = 0 then ((X10_isWord 115 97 105 100 0 0 0 0 σ).bind (fun x114 => if x114 = 0 then ((X10_isWord 112 108 97 99 101 0 0 0 σ).bind (fun x139 => if x139 = 0 then ((X10_fail σ).bind (fun x151 => some (0, x151))) else (some ((σ.1 0 17), σ)))) else (some ((σ.1 0 16), σ)))) else (some ((σ.1 0 15), σ)))) else (some ((σ.1 0 14), σ)))) else (some ((σ.1 0 13), σ)))) else (some ((σ.1 0 12), σ)))
set_option maxRecDepth 100000 in
set_option maxHeartbeats 4000000 in
theorem X10_name_ok {σ : St} {x : (Int32 × St)} (h : X10_name σ = some x) : Ct shM (4) yX10_name cX10_name 1 (some FieldType.int) (fun G => [.ref (G.2.1 0)]) σ (fun G => some (.int x.1)) x.2 := by
  refine Ct.of mw_X10_name.1 (by decide +kernel) (fun G => Nat.le_of_ble_eq_true rfl) (fun G p l e d s m args below meth c A hd C => ?_)
  refine (?_ : Vw shM G p l e d s m args below meth c 1 A σ 0 [(0, .ref (G.2.1 0))] [] (some (.int x.1)) x.2)
  unfold X10_name at h
  refine V_aload_n C 0 dX10_name_0 rfl rfl ?_
  refine V_bipush C (w := 116) dX10_name_1 (by decide) ?_
  refine V_bipush C (w := 111) dX10_name_3 (by decide) ?_
  refine V_bipush C (w := 112) dX10_name_5 (by decide) ?_
  refine V_bipush C (w := 105) dX10_name_7 (by decide) ?_
  refine V_bipush C (w := 99) dX10_name_9 (by decide) ?_
  refine V_iconst C (w := 0) dX10_name_11 (by decide) ?_
  refine V_iconst C (w := 0) dX10_name_12 (by decide) ?_
  refine V_iconst C (w := 0) dX10_name_13 (by decide) ?_
  obtain ⟨x14, h14, h⟩ := Option.bind_eq_some_iff.mp h
  refine V_callVi (As := [.int 116, .int 111, .int 112, .int 105, .int 99, .int 0, .int 0, .int 0]) C (X10_isWord_ok h14) mw_X10_isWord.1 mw_X10_isWord.2.1 mw_X10_isWord.2.2 q10_184 oM_0.1 oM_0.2.1 (by decide) rfl rfl (by omega) rfl rfl rfl (Nat.le_of_ble_eq_true rfl) dX10_name_14 ?_
  by_cases c1 : x14 = 0
  · rw [if_pos c1] at h
    refine V_if_eqT C 25 dX10_name_17 (by decide) c1 ?_
    refine V_aload_n C 0 dX10_name_25 rfl rfl ?_
    refine V_bipush C (w := 108) dX10_name_26 (by decide) ?_
    refine V_bipush C (w := 97) dX10_name_28 (by decide) ?_
    refine V_bipush C (w := 115) dX10_name_30 (by decide) ?_
    refine V_bipush C (w := 116) dX10_name_32 (by decide) ?_
    refine V_iconst C (w := 0) dX10_name_34 (by decide) ?_
    refine V_iconst C (w := 0) dX10_name_35 (by decide) ?_
    refine V_iconst C (w := 0) dX10_name_36 (by decide) ?_
    refine V_iconst C (w := 0) dX10_name_37 (by decide) ?_
    obtain ⟨x38, h38, h⟩ := Option.bind_eq_some_iff.mp h
    refine V_callVi (As := [.int 108, .int 97, .int 115, .int 116, .int 0, .int 0, .int 0, .int 0]) C (X10_isWord_ok h38) mw_X10_isWord.1 mw_X10_isWord.2.1 mw_X10_isWord.2.2 q10_184 oM_0.1 oM_0.2.1 (by decide) rfl rfl (by omega) rfl rfl rfl (Nat.le_of_ble_eq_true rfl) dX10_name_38 ?_
    by_cases c2 : x38 = 0
    · rw [if_pos c2] at h
      refine V_if_eqT C 49 dX10_name_41 (by decide) c2 ?_
      refine V_aload_n C 0 dX10_name_49 rfl rfl ?_
      refine V_bipush C (w := 119) dX10_name_50 (by decide) ?_
      refine V_bipush C (w := 97) dX10_name_52 (by decide) ?_
      refine V_bipush C (w := 114) dX10_name_54 (by decide) ?_
      refine V_bipush C (w := 109) dX10_name_56 (by decide) ?_
      refine V_bipush C (w := 116) dX10_name_58 (by decide) ?_
      refine V_bipush C (w := 104) dX10_name_60 (by decide) ?_
      refine V_iconst C (w := 0) dX10_name_62 (by decide) ?_
      refine V_iconst C (w := 0) dX10_name_63 (by decide) ?_
      obtain ⟨x64, h64, h⟩ := Option.bind_eq_some_iff.mp h
      refine V_callVi (As := [.int 119, .int 97, .int 114, .int 109, .int 116, .int 104, .int 0, .int 0]) C (X10_isWord_ok h64) mw_X10_isWord.1 mw_X10_isWord.2.1 mw_X10_isWord.2.2 q10_184 oM_0.1 oM_0.2.1 (by decide) rfl rfl (by omega) rfl rfl rfl (Nat.le_of_ble_eq_true rfl) dX10_name_64 ?_
      by_cases c3 : x64 = 0
      · rw [if_pos c3] at h
        refine V_if_eqT C 75 dX10_name_67 (by decide) c3 ?_
        refine V_aload_n C 0 dX10_name_75 rfl rfl ?_
        refine V_bipush C (w := 110) dX10_name_76 (by decide) ?_
        refine V_bipush C (w := 117) dX10_name_78 (by decide) ?_
        refine V_bipush C (w := 109) dX10_name_80 (by decide) ?_
        refine V_bipush C (w := 98) dX10_name_82 (by decide) ?_
        refine V_bipush C (w := 101) dX10_name_84 (by decide) ?_
        refine V_bipush C (w := 114) dX10_name_86 (by decide) ?_
        refine V_iconst C (w := 0) dX10_name_88 (by decide) ?_
        refine V_iconst C (w := 0) dX10_name_89 (by decide) ?_
        obtain ⟨x90, h90, h⟩ := Option.bind_eq_some_iff.mp h
        refine V_callVi (As := [.int 110, .int 117, .int 109, .int 98, .int 101, .int 114, .int 0, .int 0]) C (X10_isWord_ok h90) mw_X10_isWord.1 mw_X10_isWord.2.1 mw_X10_isWord.2.2 q10_184 oM_0.1 oM_0.2.1 (by decide) rfl rfl (by omega) rfl rfl rfl (Nat.le_of_ble_eq_true rfl) dX10_name_90 ?_
        by_cases c4 : x90 = 0
        · rw [if_pos c4] at h
          refine V_if_eqT C 101 dX10_name_93 (by decide) c4 ?_
          refine V_aload_n C 0 dX10_name_101 rfl rfl ?_
          refine V_bipush C (w := 115) dX10_name_102 (by decide) ?_
          refine V_bipush C (w := 97) dX10_name_104 (by decide) ?_
          refine V_bipush C (w := 105) dX10_name_106 (by decide) ?_
          refine V_bipush C (w := 100) dX10_name_108 (by decide) ?_
          refine V_iconst C (w := 0) dX10_name_110 (by decide) ?_
          refine V_iconst C (w := 0) dX10_name_111 (by decide) ?_
          refine V_iconst C (w := 0) dX10_name_112 (by decide) ?_
          refine V_iconst C (w := 0) dX10_name_113 (by decide) ?_
          obtain ⟨x114, h114, h⟩ := Option.bind_eq_some_iff.mp h
          refine V_callVi (As := [.int 115, .int 97, .int 105, .int 100, .int 0, .int 0, .int 0, .int 0]) C (X10_isWord_ok h114) mw_X10_isWord.1 mw_X10_isWord.2.1 mw_X10_isWord.2.2 q10_184 oM_0.1 oM_0.2.1 (by decide) rfl rfl (by omega) rfl rfl rfl (Nat.le_of_ble_eq_true rfl) dX10_name_114 ?_
          by_cases c5 : x114 = 0
          · rw [if_pos c5] at h
            refine V_if_eqT C 125 dX10_name_117 (by decide) c5 ?_
            refine V_aload_n C 0 dX10_name_125 rfl rfl ?_
            refine V_bipush C (w := 112) dX10_name_126 (by decide) ?_
            refine V_bipush C (w := 108) dX10_name_128 (by decide) ?_
            refine V_bipush C (w := 97) dX10_name_130 (by decide) ?_
            refine V_bipush C (w := 99) dX10_name_132 (by decide) ?_
            refine V_bipush C (w := 101) dX10_name_134 (by decide) ?_
            refine V_iconst C (w := 0) dX10_name_136 (by decide) ?_
            refine V_iconst C (w := 0) dX10_name_137 (by decide) ?_
            refine V_iconst C (w := 0) dX10_name_138 (by decide) ?_
            obtain ⟨x139, h139, h⟩ := Option.bind_eq_some_iff.mp h
            refine V_callVi (As := [.int 112, .int 108, .int 97, .int 99, .int 101, .int 0, .int 0, .int 0]) C (X10_isWord_ok h139) mw_X10_isWord.1 mw_X10_isWord.2.1 mw_X10_isWord.2.2 q10_184 oM_0.1 oM_0.2.1 (by decide) rfl rfl (by omega) rfl rfl rfl (Nat.le_of_ble_eq_true rfl) dX10_name_139 ?_
            by_cases c6 : x139 = 0
            · rw [if_pos c6] at h
              refine V_if_eqT C 150 dX10_name_142 (by decide) c6 ?_
              refine V_aload_n C 0 dX10_name_150 rfl rfl ?_
              obtain ⟨x151, h151, h⟩ := Option.bind_eq_some_iff.mp h
              refine V_callVv (As := []) C (X10_fail_ok h151) mw_X10_fail.1 mw_X10_fail.2.1 mw_X10_fail.2.2 q10_178 oM_0.1 oM_0.2.1 (by decide) rfl rfl (by omega) rfl rfl rfl (Nat.le_of_ble_eq_true rfl) dX10_name_151 ?_
              refine V_iconst C (w := 0) dX10_name_154 (by decide) ?_
              obtain rfl := Option.some.inj h
              exact V_iret C rfl rfl dX10_name_155
            · rw [if_neg c6] at h
              refine V_if_eqF C 150 dX10_name_142 (by decide) c6 ?_
              refine V_aload_n C 0 dX10_name_145 rfl rfl ?_
              refine fg10_203 C oM_0 dX10_name_146 ?_
              obtain rfl := Option.some.inj h
              exact V_iret C rfl rfl dX10_name_149
          · rw [if_neg c5] at h
            refine V_if_eqF C 125 dX10_name_117 (by decide) c5 ?_
            refine V_aload_n C 0 dX10_name_120 rfl rfl ?_
            refine fg10_200 C oM_0 dX10_name_121 ?_
            obtain rfl := Option.some.inj h
            exact V_iret C rfl rfl dX10_name_124
        · rw [if_neg c4] at h
          refine V_if_eqF C 101 dX10_name_93 (by decide) c4 ?_
          refine V_aload_n C 0 dX10_name_96 rfl rfl ?_
          refine fg10_197 C oM_0 dX10_name_97 ?_
          obtain rfl := Option.some.inj h
          exact V_iret C rfl rfl dX10_name_100
      · rw [if_neg c3] at h
        refine V_if_eqF C 75 dX10_name_67 (by decide) c3 ?_
        refine V_aload_n C 0 dX10_name_70 rfl rfl ?_
        refine fg10_194 C oM_0 dX10_name_71 ?_
        obtain rfl := Option.some.inj h
        exact V_iret C rfl rfl dX10_name_74
    · rw [if_neg c2] at h
      refine V_if_eqF C 49 dX10_name_41 (by decide) c2 ?_
      refine V_aload_n C 0 dX10_name_44 rfl rfl ?_
      refine fg10_191 C oM_0 dX10_name_45 ?_
      obtain rfl := Option.some.inj h
      exact V_iret C rfl rfl dX10_name_48
  · rw [if_neg c1] at h
    refine V_if_eqF C 25 dX10_name_17 (by decide) c1 ?_
    refine V_aload_n C 0 dX10_name_20 rfl rfl ?_
    refine fg10_188 C oM_0 dX10_name_21 ?_
    obtain rfl := Option.some.inj h
    exact V_iret C rfl rfl dX10_name_24
def X10_atom_b71 (rec : Nat → St → Option (Int32 × St)) (l1 : Int32) (σ : St) : Option (Int32 × St) := if ((up σ 0 24 ((σ.1 0 24) - 1)).1 0 25) = 0 then ((X10_next (up σ 0 24 ((σ.1 0 24) - 1))).bind (fun x89 => some (l1, x89))) else (some (l1, (up σ 0 24 ((σ.1 0 24) - 1))))
set_option maxRecDepth 100000 in
set_option maxHeartbeats 4000000 in
theorem X10_atom_b71_ok {G : Gx} {p : Program} {l : Launch} {e : Env} {d : Nat} {s : State} {m : MethodId} {args : Array Value} {below : List Frame} {meth : Method} {c : Code} {A : Nat → Prop} {hr : Nat} {rec : Nat → St → Option (Int32 × St)} (C : OK shM G p s m args meth c RX10 cX10_atom 2 (some FieldType.int) A) (hd : hr + 1 ≤ d) (hH : 5 ≤ hr) (hrec0 : ∀  {σ : St} {x : (Int32 × St)}, rec 0 σ = some x → Ct shM hr yX10_atom cX10_atom 2 (some FieldType.int) (fun G => [.ref (G.2.1 0)]) σ (fun G => some (.int x.1)) x.2) (hrec1 : ∀  {σ : St} {x : (Int32 × St)}, rec 1 σ = some x → Ct shM hr yX10_either cX10_either 3 (some FieldType.int) (fun G => [.ref (G.2.1 0)]) σ (fun G => some (.int x.1)) x.2) (hrec2 : ∀  {σ : St} {x : (Int32 × St)}, rec 2 σ = some x → Ct shM hr yX10_not cX10_not 4 (some FieldType.int) (fun G => [.ref (G.2.1 0)]) σ (fun G => some (.int x.1)) x.2) {l1 : Int32} {σ : St} {x : (Int32 × St)} (h : X10_atom_b71 rec l1 σ = some x) : Vw shM G p l e d s m args below meth c 2 A σ 71 [(0, .ref (G.2.1 0)), (1, .int l1)] [] (some (.int x.1)) x.2 := by
  unfold X10_atom_b71 at h
  refine V_aload_n C 0 dX10_atom_71 rfl rfl ?_
  refine V_dup C dX10_atom_72 rfl ?_
  refine fg10_175 C oM_0 dX10_atom_73 ?_
  refine V_iconst C (w := 1) dX10_atom_76 (by decide) ?_
  refine V_isub C dX10_atom_77 ?_
  refine fp10_175 C oM_0 dX10_atom_78 ?_
  refine V_aload_n C 0 dX10_atom_81 rfl rfl ?_
  refine fg10_164 C oM_0 dX10_atom_82 ?_
  by_cases c1 : ((up σ 0 24 ((σ.1 0 24) - 1)).1 0 25) = 0
  · rw [if_pos c1] at h
    refine V_if_neF C 161 dX10_atom_85 (by decide) c1 ?_
    refine V_aload_n C 0 dX10_atom_88 rfl rfl ?_
    obtain ⟨x89, h89, h⟩ := Option.bind_eq_some_iff.mp h
    refine V_callVv (As := []) C (X10_next_ok h89) mw_X10_next.1 mw_X10_next.2.1 mw_X10_next.2.2 q10_181 oM_0.1 oM_0.2.1 (by decide) rfl rfl (by omega) rfl rfl rfl (Nat.le_of_ble_eq_true rfl) dX10_atom_89 ?_
    refine V_goto C 161 dX10_atom_92 (by decide) ?_
    refine V_iload_n C 1 dX10_atom_161 rfl rfl ?_
    obtain rfl := Option.some.inj h
    exact V_iret C rfl rfl dX10_atom_162
  · rw [if_neg c1] at h
    refine V_if_neT C 161 dX10_atom_85 (by decide) c1 ?_
    refine V_iload_n C 1 dX10_atom_161 rfl rfl ?_
    obtain rfl := Option.some.inj h
    exact V_iret C rfl rfl dX10_atom_162
def X10_atom_b157 (rec : Nat → St → Option (Int32 × St)) (l1 : Int32) (σ : St) : Option (Int32 × St) := (X10_fail σ).bind (fun x158 => some (l1, x158))
set_option maxRecDepth 100000 in
set_option maxHeartbeats 4000000 in
theorem X10_atom_b157_ok {G : Gx} {p : Program} {l : Launch} {e : Env} {d : Nat} {s : State} {m : MethodId} {args : Array Value} {below : List Frame} {meth : Method} {c : Code} {A : Nat → Prop} {hr : Nat} {rec : Nat → St → Option (Int32 × St)} (C : OK shM G p s m args meth c RX10 cX10_atom 2 (some FieldType.int) A) (hd : hr + 1 ≤ d) (hH : 5 ≤ hr) (hrec0 : ∀  {σ : St} {x : (Int32 × St)}, rec 0 σ = some x → Ct shM hr yX10_atom cX10_atom 2 (some FieldType.int) (fun G => [.ref (G.2.1 0)]) σ (fun G => some (.int x.1)) x.2) (hrec1 : ∀  {σ : St} {x : (Int32 × St)}, rec 1 σ = some x → Ct shM hr yX10_either cX10_either 3 (some FieldType.int) (fun G => [.ref (G.2.1 0)]) σ (fun G => some (.int x.1)) x.2) (hrec2 : ∀  {σ : St} {x : (Int32 × St)}, rec 2 σ = some x → Ct shM hr yX10_not cX10_not 4 (some FieldType.int) (fun G => [.ref (G.2.1 0)]) σ (fun G => some (.int x.1)) x.2) {l1 : Int32} {σ : St} {x : (Int32 × St)} (h : X10_atom_b157 rec l1 σ = some x) : Vw shM G p l e d s m args below meth c 2 A σ 157 [(0, .ref (G.2.1 0)), (1, .int l1)] [] (some (.int x.1)) x.2 := by
  unfold X10_atom_b157 at h
  refine V_aload_n C 0 dX10_atom_157 rfl rfl ?_
  obtain ⟨x158, h158, h⟩ := Option.bind_eq_some_iff.mp h
  refine V_callVv (As := []) C (X10_fail_ok h158) mw_X10_fail.1 mw_X10_fail.2.1 mw_X10_fail.2.2 q10_178 oM_0.1 oM_0.2.1 (by decide) rfl rfl (by omega) rfl rfl rfl (Nat.le_of_ble_eq_true rfl) dX10_atom_158 ?_
  refine V_iload_n C 1 dX10_atom_161 rfl rfl ?_
  obtain rfl := Option.some.inj h
  exact V_iret C rfl rfl dX10_atom_162
def X10_atom_b123 (rec : Nat → St → Option (Int32 × St)) (l1 : Int32) (σ : St) : Option (Int32 × St) := if (σ.1 0 25) = 0 then (if (σ.1 0 21) = 1 then ((X10_name σ).bind (fun x139 => if (x139.2.1 0 25) = 0 then ((X10_next x139.2).bind (fun x151 => some (x139.1, x151))) else (some (x139.1, x139.2)))) else (X10_atom_b157 rec l1 σ)) else (X10_atom_b157 rec l1 σ)
set_option maxRecDepth 100000 in
set_option maxHeartbeats 4000000 in
theorem X10_atom_b123_ok {G : Gx} {p : Program} {l : Launch} {e : Env} {d : Nat} {s : State} {m : MethodId} {args : Array Value} {below : List Frame} {meth : Method} {c : Code} {A : Nat → Prop} {hr : Nat} {rec : Nat → St → Option (Int32 × St)} (C : OK shM G p s m args meth c RX10 cX10_atom 2 (some FieldType.int) A) (hd : hr + 1 ≤ d) (hH : 5 ≤ hr) (hrec0 : ∀  {σ : St} {x : (Int32 × St)}, rec 0 σ = some x → Ct shM hr yX10_atom cX10_atom 2 (some FieldType.int) (fun G => [.ref (G.2.1 0)]) σ (fun G => some (.int x.1)) x.2) (hrec1 : ∀  {σ : St} {x : (Int32 × St)}, rec 1 σ = some x → Ct shM hr yX10_either cX10_either 3 (some FieldType.int) (fun G => [.ref (G.2.1 0)]) σ (fun G => some (.int x.1)) x.2) (hrec2 : ∀  {σ : St} {x : (Int32 × St)}, rec 2 σ = some x → Ct shM hr yX10_not cX10_not 4 (some FieldType.int) (fun G => [.ref (G.2.1 0)]) σ (fun G => some (.int x.1)) x.2) {l1 : Int32} {σ : St} {x : (Int32 × St)} (h : X10_atom_b123 rec l1 σ = some x) : Vw shM G p l e d s m args below meth c 2 A σ 123 [(0, .ref (G.2.1 0)), (1, .int l1)] [] (some (.int x.1)) x.2 := by
  unfold X10_atom_b123 at h
  refine V_aload_n C 0 dX10_atom_123 rfl rfl ?_
  refine fg10_164 C oM_0 dX10_atom_124 ?_
  by_cases c2 : (σ.1 0 25) = 0
  · rw [if_pos c2] at h
    refine V_if_neF C 157 dX10_atom_127 (by decide) c2 ?_
    refine V_aload_n C 0 dX10_atom_130 rfl rfl ?_
    refine fg10_147 C oM_0 dX10_atom_131 ?_
    refine V_iconst C (w := 1) dX10_atom_134 (by decide) ?_
    by_cases c3 : (σ.1 0 21) = 1
    · rw [if_pos c3] at h
      refine V_icmp_neF C 157 dX10_atom_135 (by decide) c3 ?_
      refine V_aload_n C 0 dX10_atom_138 rfl rfl ?_
      obtain ⟨x139, h139, h⟩ := Option.bind_eq_some_iff.mp h
      refine V_callVi (As := []) C (X10_name_ok h139) mw_X10_name.1 mw_X10_name.2.1 mw_X10_name.2.2 q10_220 oM_0.1 oM_0.2.1 (by decide) rfl rfl (by omega) rfl rfl rfl (Nat.le_of_ble_eq_true rfl) dX10_atom_139 ?_
      refine V_istore_n C (lv' := [(1, .int x139.1), (0, .ref (G.2.1 0))]) dX10_atom_142 rfl (by decide) rfl ?_
      refine V_aload_n C 1 dX10_atom_143 rfl rfl ?_
      refine fg10_164 C oM_0 dX10_atom_144 ?_
      by_cases c4 : (x139.2.1 0 25) = 0
      · rw [if_pos c4] at h
        refine V_if_neF C 161 dX10_atom_147 (by decide) c4 ?_
        refine V_aload_n C 1 dX10_atom_150 rfl rfl ?_
        obtain ⟨x151, h151, h⟩ := Option.bind_eq_some_iff.mp h
        refine V_callVv (As := []) C (X10_next_ok h151) mw_X10_next.1 mw_X10_next.2.1 mw_X10_next.2.2 q10_181 oM_0.1 oM_0.2.1 (by decide) rfl rfl (by omega) rfl rfl rfl (Nat.le_of_ble_eq_true rfl) dX10_atom_151 ?_
        refine V_goto C 161 dX10_atom_154 (by decide) ?_
        refine V_iload_n C 0 dX10_atom_161 rfl rfl ?_
        obtain rfl := Option.some.inj h
        exact V_iret C rfl rfl dX10_atom_162
      · rw [if_neg c4] at h
        refine V_if_neT C 161 dX10_atom_147 (by decide) c4 ?_
        refine V_iload_n C 0 dX10_atom_161 rfl rfl ?_
        obtain rfl := Option.some.inj h
        exact V_iret C rfl rfl dX10_atom_162
    · rw [if_neg c3] at h
      refine V_icmp_neT C 157 dX10_atom_135 (by decide) c3 ?_
      exact X10_atom_b157_ok C hd hH hrec0 hrec1 hrec2 h
  · rw [if_neg c2] at h
    refine V_if_neT C 157 dX10_atom_127 (by decide) c2 ?_
    exact X10_atom_b157_ok C hd hH hrec0 hrec1 hrec2 h
def X10_atom (rec : Nat → St → Option (Int32 × St)) (σ : St) : Option (Int32 × St) := (X10_isSign 45 σ).bind (fun x5 => if x5 = 0 then ((X10_isSign 40 σ).bind (fun x40 => if x40 = 0 then (if (σ.1 0 25) = 0 then (if (σ.1 0 21) = 2 then ((X10_next σ).bind (fun x117 => some (((Int64.toInt32 σ.2)), x117))) else (X10_atom_b123 rec 0 σ)) else (X10_atom_b123 rec 0 σ)) else ((X10_opens σ).bind (fun x47 => if x47.1 = 0 then (some (0, x47.2)) else ((rec 1 x47.2).bind (fun x54 => (X10_isSign 41 x54.2).bind (fun x61 => if x61 = 0 then ((X10_fail x54.2).bind (fun x68 => X10_atom_b71 rec x54.1 x68)) else (X10_atom_b71 rec x54.1 x54.2)))))))) else ((X10_opens σ).bind (fun x12 => if x12.1 = 0 then (some (0, x12.2)) else ((rec 0 x12.2).bind (fun x19 => some ((-x19.1), (up x19.2 0 24 ((x19.2.1 0 24) - 1))))))))
set_option maxRecDepth 100000 in
set_option maxHeartbeats 4000000 in
theorem X10_atom_ok {hr : Nat} {rec : Nat → St → Option (Int32 × St)} (hH : 5 ≤ hr) (hrec0 : ∀  {σ : St} {x : (Int32 × St)}, rec 0 σ = some x → Ct shM hr yX10_atom cX10_atom 2 (some FieldType.int) (fun G => [.ref (G.2.1 0)]) σ (fun G => some (.int x.1)) x.2) (hrec1 : ∀  {σ : St} {x : (Int32 × St)}, rec 1 σ = some x → Ct shM hr yX10_either cX10_either 3 (some FieldType.int) (fun G => [.ref (G.2.1 0)]) σ (fun G => some (.int x.1)) x.2) (hrec2 : ∀  {σ : St} {x : (Int32 × St)}, rec 2 σ = some x → Ct shM hr yX10_not cX10_not 4 (some FieldType.int) (fun G => [.ref (G.2.1 0)]) σ (fun G => some (.int x.1)) x.2) {σ : St} {x : (Int32 × St)} (h : X10_atom rec σ = some x) : Ct shM (hr + 1) yX10_atom cX10_atom 2 (some FieldType.int) (fun G => [.ref (G.2.1 0)]) σ (fun G => some (.int x.1)) x.2 := by
  refine Ct.of mw_X10_atom.1 (by decide +kernel) (fun G => Nat.le_of_ble_eq_true rfl) (fun G p l e d s m args below meth c A hd C => ?_)
  refine (?_ : Vw shM G p l e d s m args below meth c 2 A σ 0 [(0, .ref (G.2.1 0))] [] (some (.int x.1)) x.2)
  unfold X10_atom at h
  refine V_iconst C (w := 0) dX10_atom_0 (by decide) ?_
  refine V_istore_n C (lv' := [(1, .int 0), (0, .ref (G.2.1 0))]) dX10_atom_1 rfl (by decide) rfl ?_
  refine V_aload_n C 1 dX10_atom_2 rfl rfl ?_
  refine V_bipush C (w := 45) dX10_atom_3 (by decide) ?_
  obtain ⟨x5, h5, h⟩ := Option.bind_eq_some_iff.mp h
  refine V_callVi (As := [.int 45]) C (X10_isSign_ok h5) mw_X10_isSign.1 mw_X10_isSign.2.1 mw_X10_isSign.2.2 q10_206 oM_0.1 oM_0.2.1 (by decide) rfl rfl (by omega) rfl rfl rfl (Nat.le_of_ble_eq_true rfl) dX10_atom_5 ?_
  by_cases c5 : x5 = 0
  · rw [if_pos c5] at h
    refine V_if_eqT C 37 dX10_atom_8 (by decide) c5 ?_
    refine V_aload_n C 1 dX10_atom_37 rfl rfl ?_
    refine V_bipush C (w := 40) dX10_atom_38 (by decide) ?_
    obtain ⟨x40, h40, h⟩ := Option.bind_eq_some_iff.mp h
    refine V_callVi (As := [.int 40]) C (X10_isSign_ok h40) mw_X10_isSign.1 mw_X10_isSign.2.1 mw_X10_isSign.2.2 q10_206 oM_0.1 oM_0.2.1 (by decide) rfl rfl (by omega) rfl rfl rfl (Nat.le_of_ble_eq_true rfl) dX10_atom_40 ?_
    by_cases c6 : x40 = 0
    · rw [if_pos c6] at h
      refine V_if_eqT C 95 dX10_atom_43 (by decide) c6 ?_
      refine V_aload_n C 1 dX10_atom_95 rfl rfl ?_
      refine fg10_164 C oM_0 dX10_atom_96 ?_
      by_cases c7 : (σ.1 0 25) = 0
      · rw [if_pos c7] at h
        refine V_if_neF C 123 dX10_atom_99 (by decide) c7 ?_
        refine V_aload_n C 1 dX10_atom_102 rfl rfl ?_
        refine fg10_147 C oM_0 dX10_atom_103 ?_
        refine V_iconst C (w := 2) dX10_atom_106 (by decide) ?_
        by_cases c8 : (σ.1 0 21) = 2
        · rw [if_pos c8] at h
          refine V_icmp_neF C 123 dX10_atom_107 (by decide) c8 ?_
          refine V_aload_n C 1 dX10_atom_110 rfl rfl ?_
          refine fg10_158 C oM_0 dX10_atom_111 ?_
          refine V_l2i C dX10_atom_114 ?_
          refine V_istore_n C (lv' := [(1, .int ((Int64.toInt32 σ.2))), (0, .ref (G.2.1 0))]) dX10_atom_115 rfl (by decide) rfl ?_
          refine V_aload_n C 1 dX10_atom_116 rfl rfl ?_
          obtain ⟨x117, h117, h⟩ := Option.bind_eq_some_iff.mp h
          refine V_callVv (As := []) C (X10_next_ok h117) mw_X10_next.1 mw_X10_next.2.1 mw_X10_next.2.2 q10_181 oM_0.1 oM_0.2.1 (by decide) rfl rfl (by omega) rfl rfl rfl (Nat.le_of_ble_eq_true rfl) dX10_atom_117 ?_
          refine V_goto C 161 dX10_atom_120 (by decide) ?_
          refine V_iload_n C 0 dX10_atom_161 rfl rfl ?_
          obtain rfl := Option.some.inj h
          exact V_iret C rfl rfl dX10_atom_162
        · rw [if_neg c8] at h
          refine V_icmp_neT C 123 dX10_atom_107 (by decide) c8 ?_
          refine V_sub (lv' := [(0, .ref (G.2.1 0)), (1, .int 0)]) [1, 0] rfl ?_
          exact X10_atom_b123_ok C hd hH hrec0 hrec1 hrec2 h
      · rw [if_neg c7] at h
        refine V_if_neT C 123 dX10_atom_99 (by decide) c7 ?_
        refine V_sub (lv' := [(0, .ref (G.2.1 0)), (1, .int 0)]) [1, 0] rfl ?_
        exact X10_atom_b123_ok C hd hH hrec0 hrec1 hrec2 h
    · rw [if_neg c6] at h
      refine V_if_eqF C 95 dX10_atom_43 (by decide) c6 ?_
      refine V_aload_n C 1 dX10_atom_46 rfl rfl ?_
      obtain ⟨x47, h47, h⟩ := Option.bind_eq_some_iff.mp h
      refine V_callVi (As := []) C (X10_opens_ok h47) mw_X10_opens.1 mw_X10_opens.2.1 mw_X10_opens.2.2 q10_209 oM_0.1 oM_0.2.1 (by decide) rfl rfl (by omega) rfl rfl rfl (Nat.le_of_ble_eq_true rfl) dX10_atom_47 ?_
      by_cases c9 : x47.1 = 0
      · rw [if_pos c9] at h
        refine V_if_eqT C 161 dX10_atom_50 (by decide) c9 ?_
        refine V_iload_n C 0 dX10_atom_161 rfl rfl ?_
        obtain rfl := Option.some.inj h
        exact V_iret C rfl rfl dX10_atom_162
      · rw [if_neg c9] at h
        refine V_if_eqF C 161 dX10_atom_50 (by decide) c9 ?_
        refine V_aload_n C 1 dX10_atom_53 rfl rfl ?_
        obtain ⟨x54, h54, h⟩ := Option.bind_eq_some_iff.mp h
        refine V_callVi (As := []) C (hrec1 h54) mw_X10_either.1 mw_X10_either.2.1 mw_X10_either.2.2 q10_217 oM_0.1 oM_0.2.1 (by decide) rfl rfl (by omega) rfl rfl rfl (Nat.le_of_ble_eq_true rfl) dX10_atom_54 ?_
        refine V_istore_n C (lv' := [(1, .int x54.1), (0, .ref (G.2.1 0))]) dX10_atom_57 rfl (by decide) rfl ?_
        refine V_aload_n C 1 dX10_atom_58 rfl rfl ?_
        refine V_bipush C (w := 41) dX10_atom_59 (by decide) ?_
        obtain ⟨x61, h61, h⟩ := Option.bind_eq_some_iff.mp h
        refine V_callVi (As := [.int 41]) C (X10_isSign_ok h61) mw_X10_isSign.1 mw_X10_isSign.2.1 mw_X10_isSign.2.2 q10_206 oM_0.1 oM_0.2.1 (by decide) rfl rfl (by omega) rfl rfl rfl (Nat.le_of_ble_eq_true rfl) dX10_atom_61 ?_
        by_cases c10 : x61 = 0
        · rw [if_pos c10] at h
          refine V_if_neF C 71 dX10_atom_64 (by decide) c10 ?_
          refine V_aload_n C 1 dX10_atom_67 rfl rfl ?_
          obtain ⟨x68, h68, h⟩ := Option.bind_eq_some_iff.mp h
          refine V_callVv (As := []) C (X10_fail_ok h68) mw_X10_fail.1 mw_X10_fail.2.1 mw_X10_fail.2.2 q10_178 oM_0.1 oM_0.2.1 (by decide) rfl rfl (by omega) rfl rfl rfl (Nat.le_of_ble_eq_true rfl) dX10_atom_68 ?_
          refine V_sub (lv' := [(0, .ref (G.2.1 0)), (1, .int x54.1)]) [1, 0] rfl ?_
          exact X10_atom_b71_ok C hd hH hrec0 hrec1 hrec2 h
        · rw [if_neg c10] at h
          refine V_if_neT C 71 dX10_atom_64 (by decide) c10 ?_
          refine V_sub (lv' := [(0, .ref (G.2.1 0)), (1, .int x54.1)]) [1, 0] rfl ?_
          exact X10_atom_b71_ok C hd hH hrec0 hrec1 hrec2 h
  · rw [if_neg c5] at h
    refine V_if_eqF C 37 dX10_atom_8 (by decide) c5 ?_
    refine V_aload_n C 1 dX10_atom_11 rfl rfl ?_
    obtain ⟨x12, h12, h⟩ := Option.bind_eq_some_iff.mp h
    refine V_callVi (As := []) C (X10_opens_ok h12) mw_X10_opens.1 mw_X10_opens.2.1 mw_X10_opens.2.2 q10_209 oM_0.1 oM_0.2.1 (by decide) rfl rfl (by omega) rfl rfl rfl (Nat.le_of_ble_eq_true rfl) dX10_atom_12 ?_
    by_cases c11 : x12.1 = 0
    · rw [if_pos c11] at h
      refine V_if_eqT C 161 dX10_atom_15 (by decide) c11 ?_
      refine V_iload_n C 0 dX10_atom_161 rfl rfl ?_
      obtain rfl := Option.some.inj h
      exact V_iret C rfl rfl dX10_atom_162
    · rw [if_neg c11] at h
      refine V_if_eqF C 161 dX10_atom_15 (by decide) c11 ?_
      refine V_aload_n C 1 dX10_atom_18 rfl rfl ?_
      obtain ⟨x19, h19, h⟩ := Option.bind_eq_some_iff.mp h
      refine V_callVi (As := []) C (hrec0 h19) mw_X10_atom.1 mw_X10_atom.2.1 mw_X10_atom.2.2 q10_213 oM_0.1 oM_0.2.1 (by decide) rfl rfl (by omega) rfl rfl rfl (Nat.le_of_ble_eq_true rfl) dX10_atom_19 ?_
      refine V_ineg C dX10_atom_22 ?_
      refine V_istore_n C (lv' := [(1, .int (-x19.1)), (0, .ref (G.2.1 0))]) dX10_atom_23 rfl (by decide) rfl ?_
      refine V_aload_n C 1 dX10_atom_24 rfl rfl ?_
      refine V_dup C dX10_atom_25 rfl ?_
      refine fg10_175 C oM_0 dX10_atom_26 ?_
      refine V_iconst C (w := 1) dX10_atom_29 (by decide) ?_
      refine V_isub C dX10_atom_30 ?_
      refine fp10_175 C oM_0 dX10_atom_31 ?_
      refine V_goto C 161 dX10_atom_34 (by decide) ?_
      refine V_iload_n C 0 dX10_atom_161 rfl rfl ?_
      obtain rfl := Option.some.inj h
      exact V_iret C rfl rfl dX10_atom_162
