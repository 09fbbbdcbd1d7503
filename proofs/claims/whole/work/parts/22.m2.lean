def X10_told_b29 (l1 : Int32) (l2 : Int32) (σ : St) : Option (Int32 × St) := if 7 ≤ l2 then ((X10_begins σ).bind (fun x78 => (X10_looks l1 0 x78).bind (fun x84 => if l2 = 7 then ((X10_warmsOf l1 0 x84).bind (fun x96 => some (x96.1, x96.2))) else ((X10_coolsOf l1 0 x84).bind (fun x105 => some (x105.1, x105.2)))))) else (if 3 ≤ l2 then (if 6 ≤ l2 then (if ob l1 5 then none else (some ((σ.1 5 (l1).toNatClampNeg), σ))) else (if ob (((3 * l1) + l2) - 3) 15 then none else (some ((σ.1 6 ((((3 * l1) + l2) - 3)).toNatClampNeg), σ)))) else (if ob l2 3 then none else (some ((σ.1 4 (l2).toNatClampNeg), σ))))
set_option maxRecDepth 100000 in
set_option maxHeartbeats 4000000 in
theorem X10_told_b29_ok {G : Gx} {p : Program} {l : Launch} {e : Env} {d : Nat} {s : State} {m : MethodId} {args : Array Value} {below : List Frame} {meth : Method} {c : Code} {A : Nat → Prop} (C : OK shM G p s m args meth c RX10 cX10_told 3 (some FieldType.int) A) (hd : 63 ≤ d) {l1 : Int32} {l2 : Int32} {σ : St} {x : (Int32 × St)} (h : X10_told_b29 l1 l2 σ = some x) : Vw shM G p l e d s m args below meth c 3 A σ 29 [(0, .ref (G.2.1 0)), (1, .int l1), (2, .int l2)] [] (some (.int x.1)) x.2 := by
  unfold X10_told_b29 at h
  refine V_iload_n C 2 dX10_told_29 rfl rfl ?_
  refine V_bipush C (w := 7) dX10_told_30 (by decide) ?_
  by_cases c1 : 7 ≤ l2
  · rw [if_pos c1] at h
    refine V_icmp_geT C 77 dX10_told_32 (by decide) c1 ?_
    refine V_aload_n C 0 dX10_told_77 rfl rfl ?_
    obtain ⟨x78, h78, h⟩ := Option.bind_eq_some_iff.mp h
    refine V_callVv (As := []) C (X10_begins_ok h78) mw_X10_begins.1 mw_X10_begins.2.1 mw_X10_begins.2.2 q10_113 oM_0.1 oM_0.2.1 (by decide) rfl rfl (by omega) rfl rfl rfl (Nat.le_of_ble_eq_true rfl) dX10_told_78 ?_
    refine V_aload_n C 0 dX10_told_81 rfl rfl ?_
    refine V_iload_n C 1 dX10_told_82 rfl rfl ?_
    refine V_iconst C (w := 0) dX10_told_83 (by decide) ?_
    obtain ⟨x84, h84, h⟩ := Option.bind_eq_some_iff.mp h
    refine V_callVv (As := [.int l1, .int 0]) C (X10_looks_ok h84) mw_X10_looks.1 mw_X10_looks.2.1 mw_X10_looks.2.2 q10_116 oM_0.1 oM_0.2.1 (by decide) rfl rfl (by omega) rfl rfl rfl (Nat.le_of_ble_eq_true rfl) dX10_told_84 ?_
    refine V_iload_n C 2 dX10_told_87 rfl rfl ?_
    refine V_bipush C (w := 7) dX10_told_88 (by decide) ?_
    by_cases c2 : l2 = 7
    · rw [if_pos c2] at h
      refine V_icmp_neF C 102 dX10_told_90 (by decide) c2 ?_
      refine V_aload_n C 0 dX10_told_93 rfl rfl ?_
      refine V_iload_n C 1 dX10_told_94 rfl rfl ?_
      refine V_iconst C (w := 0) dX10_told_95 (by decide) ?_
      obtain ⟨x96, h96, h⟩ := Option.bind_eq_some_iff.mp h
      refine V_callVi (As := [.int l1, .int 0]) C (X10_warmsOf_ok h96) mw_X10_warmsOf.1 mw_X10_warmsOf.2.1 mw_X10_warmsOf.2.2 q10_120 oM_0.1 oM_0.2.1 (by decide) rfl rfl (by omega) rfl rfl rfl (Nat.le_of_ble_eq_true rfl) dX10_told_96 ?_
      refine V_goto C 108 dX10_told_99 (by decide) ?_
      obtain rfl := Option.some.inj h
      exact V_iret C rfl rfl dX10_told_108
    · rw [if_neg c2] at h
      refine V_icmp_neT C 102 dX10_told_90 (by decide) c2 ?_
      refine V_aload_n C 0 dX10_told_102 rfl rfl ?_
      refine V_iload_n C 1 dX10_told_103 rfl rfl ?_
      refine V_iconst C (w := 0) dX10_told_104 (by decide) ?_
      obtain ⟨x105, h105, h⟩ := Option.bind_eq_some_iff.mp h
      refine V_callVi (As := [.int l1, .int 0]) C (X10_coolsOf_ok h105) mw_X10_coolsOf.1 mw_X10_coolsOf.2.1 mw_X10_coolsOf.2.2 q10_124 oM_0.1 oM_0.2.1 (by decide) rfl rfl (by omega) rfl rfl rfl (Nat.le_of_ble_eq_true rfl) dX10_told_105 ?_
      obtain rfl := Option.some.inj h
      exact V_iret C rfl rfl dX10_told_108
  · rw [if_neg c1] at h
    refine V_icmp_geF C 77 dX10_told_32 (by decide) c1 ?_
    refine V_iload_n C 2 dX10_told_35 rfl rfl ?_
    refine V_iconst C (w := 3) dX10_told_36 (by decide) ?_
    by_cases c3 : 3 ≤ l2
    · rw [if_pos c3] at h
      refine V_icmp_geT C 49 dX10_told_37 (by decide) c3 ?_
      refine V_iload_n C 2 dX10_told_49 rfl rfl ?_
      refine V_bipush C (w := 6) dX10_told_50 (by decide) ?_
      by_cases c4 : 6 ≤ l2
      · rw [if_pos c4] at h
        refine V_icmp_geT C 70 dX10_told_52 (by decide) c4 ?_
        refine V_aload_n C 0 dX10_told_70 rfl rfl ?_
        refine fg10_26 (r := 5) C oM_0 rfl dX10_told_71 ?_
        refine V_iload_n C 1 dX10_told_74 rfl rfl ?_
        have g5 : ¬ (ob l1 5) := fun g9 => by rw [if_pos g9] at h; cases h
        rw [if_neg g5] at h
        refine V_ialdO C oM_5 g5 dX10_told_75 ?_
        obtain rfl := Option.some.inj h
        exact V_iret C rfl rfl dX10_told_76
      · rw [if_neg c4] at h
        refine V_icmp_geF C 70 dX10_told_52 (by decide) c4 ?_
        refine V_aload_n C 0 dX10_told_55 rfl rfl ?_
        refine fg10_29 (r := 6) C oM_0 rfl dX10_told_56 ?_
        refine V_iconst C (w := 3) dX10_told_59 (by decide) ?_
        refine V_iload_n C 1 dX10_told_60 rfl rfl ?_
        refine V_imul C dX10_told_61 ?_
        refine V_iload_n C 2 dX10_told_62 rfl rfl ?_
        refine V_iadd C dX10_told_63 ?_
        refine V_iconst C (w := 3) dX10_told_64 (by decide) ?_
        refine V_isub C dX10_told_65 ?_
        have g6 : ¬ (ob (((3 * l1) + l2) - 3) 15) := fun g9 => by rw [if_pos g9] at h; cases h
        rw [if_neg g6] at h
        refine V_ialdO C oM_6 g6 dX10_told_66 ?_
        refine V_goto C 76 dX10_told_67 (by decide) ?_
        obtain rfl := Option.some.inj h
        exact V_iret C rfl rfl dX10_told_76
    · rw [if_neg c3] at h
      refine V_icmp_geF C 49 dX10_told_37 (by decide) c3 ?_
      refine V_aload_n C 0 dX10_told_40 rfl rfl ?_
      refine fg10_23 (r := 4) C oM_0 rfl dX10_told_41 ?_
      refine V_iload_n C 2 dX10_told_44 rfl rfl ?_
      have g7 : ¬ (ob l2 3) := fun g9 => by rw [if_pos g9] at h; cases h
      rw [if_neg g7] at h
      refine V_ialdO C oM_4 g7 dX10_told_45 ?_
      refine V_goto C 76 dX10_told_46 (by decide) ?_
      obtain rfl := Option.some.inj h
      exact V_iret C rfl rfl dX10_told_76
def X10_told (l1 : Int32) (l2 : Int32) (σ : St) : Option (Int32 × St) := (X10_in (Int32.toInt64 l2) 0 8).bind (fun x6 => if x6 = 0 then (some ((-1000), σ)) else (if l2 ≤ 2 then (X10_told_b29 l1 l2 σ) else ((X10_isOne l1 σ).bind (fun x19 => if x19 = 0 then (some ((-1000), σ)) else (X10_told_b29 l1 l2 σ)))))
set_option maxRecDepth 100000 in
set_option maxHeartbeats 4000000 in
theorem X10_told_ok {l1 : Int32} {l2 : Int32} {σ : St} {x : (Int32 × St)} (h : X10_told l1 l2 σ = some x) : Ct shM (63) yX10_told cX10_told 3 (some FieldType.int) (fun G => [.ref (G.2.1 0), .int l1, .int l2]) σ (fun G => some (.int x.1)) x.2 := by
  refine Ct.of mw_X10_told.1 (by decide +kernel) (fun G => Nat.le_of_ble_eq_true rfl) (fun G p l e d s m args below meth c A hd C => ?_)
  refine (?_ : Vw shM G p l e d s m args below meth c 3 A σ 0 [(0, .ref (G.2.1 0)), (1, .int l1), (2, .int l2)] [] (some (.int x.1)) x.2)
  unfold X10_told at h
  refine V_iload_n C 2 dX10_told_0 rfl rfl ?_
  refine V_i2l C dX10_told_1 ?_
  refine V_lconst C (w := 0) dX10_told_2 (by decide) ?_
  refine V_ldc2 C (w := 8) dX10_told_3 qk10_111 ?_
  obtain ⟨x6, h6, h⟩ := Option.bind_eq_some_iff.mp h
  refine V_callSi (As := [.long (Int32.toInt64 l2), .long 0, .long 8]) C (X10_in_ok h6) mw_X10_in.1 mw_X10_in.2 q10_82 (by omega) rfl rfl rfl (Nat.le_of_ble_eq_true rfl) dX10_told_6 ?_
  by_cases c8 : x6 = 0
  · rw [if_pos c8] at h
    refine V_if_eqT C 25 dX10_told_9 (by decide) c8 ?_
    refine V_sipush C (w := (-1000)) dX10_told_25 (by decide) ?_
    obtain rfl := Option.some.inj h
    exact V_iret C rfl rfl dX10_told_28
  · rw [if_neg c8] at h
    refine V_if_eqF C 25 dX10_told_9 (by decide) c8 ?_
    refine V_iload_n C 2 dX10_told_12 rfl rfl ?_
    refine V_iconst C (w := 2) dX10_told_13 (by decide) ?_
    by_cases c9 : l2 ≤ 2
    · rw [if_pos c9] at h
      refine V_icmp_leT C 29 dX10_told_14 (by decide) c9 ?_
      exact X10_told_b29_ok C hd h
    · rw [if_neg c9] at h
      refine V_icmp_leF C 29 dX10_told_14 (by decide) c9 ?_
      refine V_aload_n C 0 dX10_told_17 rfl rfl ?_
      refine V_iload_n C 1 dX10_told_18 rfl rfl ?_
      obtain ⟨x19, h19, h⟩ := Option.bind_eq_some_iff.mp h
      refine V_callVi (As := [.int l1]) C (X10_isOne_ok h19) mw_X10_isOne.1 mw_X10_isOne.2.1 mw_X10_isOne.2.2 q10_88 oM_0.1 oM_0.2.1 (by decide) rfl rfl (by omega) rfl rfl rfl (Nat.le_of_ble_eq_true rfl) dX10_told_19 ?_
      by_cases c10 : x19 = 0
      · rw [if_pos c10] at h
        refine V_if_neF C 29 dX10_told_22 (by decide) c10 ?_
        refine V_sipush C (w := (-1000)) dX10_told_25 (by decide) ?_
        obtain rfl := Option.some.inj h
        exact V_iret C rfl rfl dX10_told_28
      · rw [if_neg c10] at h
        refine V_if_neT C 29 dX10_told_22 (by decide) c10 ?_
        exact X10_told_b29_ok C hd h
def X10_lays (l1 : Int32) (l2 : Int32) (l3 : Int32) (σ : St) : Option St := if 3 ≤ l1 then (if 6 ≤ l1 then (if l1 = 6 then (if ob l2 5 then none else (some (up σ 5 (l2).toNatClampNeg l3))) else (some (up σ 0 4 l3))) else (if ob (((3 * l2) + l1) - 3) 15 then none else (some (up σ 6 ((((3 * l2) + l1) - 3)).toNatClampNeg l3)))) else (if ob l1 3 then none else (some (up σ 4 (l1).toNatClampNeg l3)))
set_option maxRecDepth 100000 in
set_option maxHeartbeats 4000000 in
theorem X10_lays_ok {l1 : Int32} {l2 : Int32} {l3 : Int32} {σ : St} {x : St} (h : X10_lays l1 l2 l3 σ = some x) : Ct shM (1) yX10_lays cX10_lays 4 none (fun G => [.ref (G.2.1 0), .int l1, .int l2, .int l3]) σ (fun G => none) x := by
  refine Ct.of mw_X10_lays.1 (by decide +kernel) (fun G => Nat.le_of_ble_eq_true rfl) (fun G p l e d s m args below meth c A hd C => ?_)
  refine (?_ : Vw shM G p l e d s m args below meth c 4 A σ 0 [(0, .ref (G.2.1 0)), (1, .int l1), (2, .int l2), (3, .int l3)] [] (none) x)
  unfold X10_lays at h
  refine V_iload_n C 1 dX10_lays_0 rfl rfl ?_
  refine V_iconst C (w := 3) dX10_lays_1 (by decide) ?_
  by_cases c1 : 3 ≤ l1
  · rw [if_pos c1] at h
    refine V_icmp_geT C 15 dX10_lays_2 (by decide) c1 ?_
    refine V_iload_n C 1 dX10_lays_15 rfl rfl ?_
    refine V_bipush C (w := 6) dX10_lays_16 (by decide) ?_
    by_cases c2 : 6 ≤ l1
    · rw [if_pos c2] at h
      refine V_icmp_geT C 37 dX10_lays_18 (by decide) c2 ?_
      refine V_iload_n C 1 dX10_lays_37 rfl rfl ?_
      refine V_bipush C (w := 6) dX10_lays_38 (by decide) ?_
      by_cases c3 : l1 = 6
      · rw [if_pos c3] at h
        refine V_icmp_neF C 53 dX10_lays_40 (by decide) c3 ?_
        refine V_aload_n C 0 dX10_lays_43 rfl rfl ?_
        refine fg10_26 (r := 5) C oM_0 rfl dX10_lays_44 ?_
        refine V_iload_n C 2 dX10_lays_47 rfl rfl ?_
        refine V_iload_n C 3 dX10_lays_48 rfl rfl ?_
        have g4 : ¬ (ob l2 5) := fun g9 => by rw [if_pos g9] at h; cases h
        rw [if_neg g4] at h
        refine V_iastO C oM_5 g4 dX10_lays_49 ?_
        refine V_goto C 58 dX10_lays_50 (by decide) ?_
        obtain rfl := Option.some.inj h
        exact V_vret C rfl dX10_lays_58
      · rw [if_neg c3] at h
        refine V_icmp_neT C 53 dX10_lays_40 (by decide) c3 ?_
        refine V_aload_n C 0 dX10_lays_53 rfl rfl ?_
        refine V_iload_n C 3 dX10_lays_54 rfl rfl ?_
        refine fp10_104 C oM_0 dX10_lays_55 ?_
        obtain rfl := Option.some.inj h
        exact V_vret C rfl dX10_lays_58
    · rw [if_neg c2] at h
      refine V_icmp_geF C 37 dX10_lays_18 (by decide) c2 ?_
      refine V_aload_n C 0 dX10_lays_21 rfl rfl ?_
      refine fg10_29 (r := 6) C oM_0 rfl dX10_lays_22 ?_
      refine V_iconst C (w := 3) dX10_lays_25 (by decide) ?_
      refine V_iload_n C 2 dX10_lays_26 rfl rfl ?_
      refine V_imul C dX10_lays_27 ?_
      refine V_iload_n C 1 dX10_lays_28 rfl rfl ?_
      refine V_iadd C dX10_lays_29 ?_
      refine V_iconst C (w := 3) dX10_lays_30 (by decide) ?_
      refine V_isub C dX10_lays_31 ?_
      refine V_iload_n C 3 dX10_lays_32 rfl rfl ?_
      have g5 : ¬ (ob (((3 * l2) + l1) - 3) 15) := fun g9 => by rw [if_pos g9] at h; cases h
      rw [if_neg g5] at h
      refine V_iastO C oM_6 g5 dX10_lays_33 ?_
      refine V_goto C 58 dX10_lays_34 (by decide) ?_
      obtain rfl := Option.some.inj h
      exact V_vret C rfl dX10_lays_58
  · rw [if_neg c1] at h
    refine V_icmp_geF C 15 dX10_lays_2 (by decide) c1 ?_
    refine V_aload_n C 0 dX10_lays_5 rfl rfl ?_
    refine fg10_23 (r := 4) C oM_0 rfl dX10_lays_6 ?_
    refine V_iload_n C 1 dX10_lays_9 rfl rfl ?_
    refine V_iload_n C 3 dX10_lays_10 rfl rfl ?_
    have g6 : ¬ (ob l1 3) := fun g9 => by rw [if_pos g9] at h; cases h
    rw [if_neg g6] at h
    refine V_iastO C oM_4 g6 dX10_lays_11 ?_
    refine V_goto C 58 dX10_lays_12 (by decide) ?_
    obtain rfl := Option.some.inj h
    exact V_vret C rfl dX10_lays_58
def X10_set_b37 (l1 : Int32) (l2 : Int32) (l3 : Int32) (s0 : Int64) (s1 : Int64) (σ : St) : Option (Int32 × St) := (X10_mostOf l1).bind (fun x38 => (X10_in s1 s0 (Int32.toInt64 x38)).bind (fun x42 => if x42 = 0 then (some ((-2), σ)) else ((X10_told l2 l1 σ).bind (fun x54 => (X10_lays l1 l2 l3 x54.2).bind (fun x63 => some (x54.1, x63))))))
set_option maxRecDepth 100000 in
set_option maxHeartbeats 4000000 in
theorem X10_set_b37_ok {G : Gx} {p : Program} {l : Launch} {e : Env} {d : Nat} {s : State} {m : MethodId} {args : Array Value} {below : List Frame} {meth : Method} {c : Code} {A : Nat → Prop} (C : OK shM G p s m args meth c RX10 cX10_set 5 (some FieldType.int) A) (hd : 64 ≤ d) {l1 : Int32} {l2 : Int32} {l3 : Int32} {s0 : Int64} {s1 : Int64} {σ : St} {x : (Int32 × St)} (h : X10_set_b37 l1 l2 l3 s0 s1 σ = some x) : Vw shM G p l e d s m args below meth c 5 A σ 37 [(0, .ref (G.2.1 0)), (1, .int l1), (2, .int l2), (3, .int l3)] [.long s0, .long s1] (some (.int x.1)) x.2 := by
  unfold X10_set_b37 at h
  refine V_iload_n C 1 dX10_set_37 rfl rfl ?_
  obtain ⟨x38, h38, h⟩ := Option.bind_eq_some_iff.mp h
  refine V_callSi (As := [.int l1]) C (X10_mostOf_ok h38) mw_X10_mostOf.1 mw_X10_mostOf.2 q10_92 (by omega) rfl rfl rfl (Nat.le_of_ble_eq_true rfl) dX10_set_38 ?_
  refine V_i2l C dX10_set_41 ?_
  obtain ⟨x42, h42, h⟩ := Option.bind_eq_some_iff.mp h
  refine V_callSi (As := [.long s1, .long s0, .long (Int32.toInt64 x38)]) C (X10_in_ok h42) mw_X10_in.1 mw_X10_in.2 q10_82 (by omega) rfl rfl rfl (Nat.le_of_ble_eq_true rfl) dX10_set_42 ?_
  by_cases c1 : x42 = 0
  · rw [if_pos c1] at h
    refine V_if_neF C 51 dX10_set_45 (by decide) c1 ?_
    refine V_bipush C (w := (-2)) dX10_set_48 (by decide) ?_
    obtain rfl := Option.some.inj h
    exact V_iret C rfl rfl dX10_set_50
  · rw [if_neg c1] at h
    refine V_if_neT C 51 dX10_set_45 (by decide) c1 ?_
    refine V_aload_n C 0 dX10_set_51 rfl rfl ?_
    refine V_iload_n C 2 dX10_set_52 rfl rfl ?_
    refine V_iload_n C 1 dX10_set_53 rfl rfl ?_
    obtain ⟨x54, h54, h⟩ := Option.bind_eq_some_iff.mp h
    refine V_callVi (As := [.int l2, .int l1]) C (X10_told_ok h54) mw_X10_told.1 mw_X10_told.2.1 mw_X10_told.2.2 q10_96 oM_0.1 oM_0.2.1 (by decide) rfl rfl (by omega) rfl rfl rfl (Nat.le_of_ble_eq_true rfl) dX10_set_54 ?_
    refine V_istore C (lv' := [(4, .int x54.1), (0, .ref (G.2.1 0)), (1, .int l1), (2, .int l2), (3, .int l3)]) dX10_set_57 (by decide) rfl ?_
    refine V_aload_n C 1 dX10_set_59 rfl rfl ?_
    refine V_iload_n C 2 dX10_set_60 rfl rfl ?_
    refine V_iload_n C 3 dX10_set_61 rfl rfl ?_
    refine V_iload_n C 4 dX10_set_62 rfl rfl ?_
    obtain ⟨x63, h63, h⟩ := Option.bind_eq_some_iff.mp h
    refine V_callVv (As := [.int l1, .int l2, .int l3]) C (X10_lays_ok h63) mw_X10_lays.1 mw_X10_lays.2.1 mw_X10_lays.2.2 q10_100 oM_0.1 oM_0.2.1 (by decide) rfl rfl (by omega) rfl rfl rfl (Nat.le_of_ble_eq_true rfl) dX10_set_63 ?_
    refine V_iload C 0 dX10_set_66 rfl ?_
    obtain rfl := Option.some.inj h
    exact V_iret C rfl rfl dX10_set_68
def X10_set_b25 (l1 : Int32) (l2 : Int32) (l3 : Int32) (σ : St) : Option (Int32 × St) := if l1 = 1 then (X10_set_b37 l1 l2 l3 1 (Int32.toInt64 l3) σ) else (X10_set_b37 l1 l2 l3 0 (Int32.toInt64 l3) σ)
set_option maxRecDepth 100000 in
set_option maxHeartbeats 4000000 in
theorem X10_set_b25_ok {G : Gx} {p : Program} {l : Launch} {e : Env} {d : Nat} {s : State} {m : MethodId} {args : Array Value} {below : List Frame} {meth : Method} {c : Code} {A : Nat → Prop} (C : OK shM G p s m args meth c RX10 cX10_set 5 (some FieldType.int) A) (hd : 64 ≤ d) {l1 : Int32} {l2 : Int32} {l3 : Int32} {σ : St} {x : (Int32 × St)} (h : X10_set_b25 l1 l2 l3 σ = some x) : Vw shM G p l e d s m args below meth c 5 A σ 25 [(0, .ref (G.2.1 0)), (1, .int l1), (2, .int l2), (3, .int l3)] [] (some (.int x.1)) x.2 := by
  unfold X10_set_b25 at h
  refine V_iload_n C 3 dX10_set_25 rfl rfl ?_
  refine V_i2l C dX10_set_26 ?_
  refine V_iload_n C 1 dX10_set_27 rfl rfl ?_
  refine V_iconst C (w := 1) dX10_set_28 (by decide) ?_
  by_cases c2 : l1 = 1
  · rw [if_pos c2] at h
    refine V_icmp_neF C 36 dX10_set_29 (by decide) c2 ?_
    refine V_lconst C (w := 1) dX10_set_32 (by decide) ?_
    refine V_goto C 37 dX10_set_33 (by decide) ?_
    exact X10_set_b37_ok C hd h
  · rw [if_neg c2] at h
    refine V_icmp_neT C 36 dX10_set_29 (by decide) c2 ?_
    refine V_lconst C (w := 0) dX10_set_36 (by decide) ?_
    exact X10_set_b37_ok C hd h
def X10_set (l1 : Int32) (l2 : Int32) (l3 : Int32) (σ : St) : Option (Int32 × St) := (X10_in (Int32.toInt64 l1) 0 5).bind (fun x6 => if x6 = 0 then (some ((-2), σ)) else (if l1 ≤ 2 then (X10_set_b25 l1 l2 l3 σ) else ((X10_isOne l2 σ).bind (fun x19 => if x19 = 0 then (some ((-2), σ)) else (X10_set_b25 l1 l2 l3 σ)))))
set_option maxRecDepth 100000 in
set_option maxHeartbeats 4000000 in
theorem X10_set_ok {l1 : Int32} {l2 : Int32} {l3 : Int32} {σ : St} {x : (Int32 × St)} (h : X10_set l1 l2 l3 σ = some x) : Ct shM (64) yX10_set cX10_set 5 (some FieldType.int) (fun G => [.ref (G.2.1 0), .int l1, .int l2, .int l3]) σ (fun G => some (.int x.1)) x.2 := by
  refine Ct.of mw_X10_set.1 (by decide +kernel) (fun G => Nat.le_of_ble_eq_true rfl) (fun G p l e d s m args below meth c A hd C => ?_)
  refine (?_ : Vw shM G p l e d s m args below meth c 5 A σ 0 [(0, .ref (G.2.1 0)), (1, .int l1), (2, .int l2), (3, .int l3)] [] (some (.int x.1)) x.2)
  unfold X10_set at h
  refine V_iload_n C 1 dX10_set_0 rfl rfl ?_
  refine V_i2l C dX10_set_1 ?_
  refine V_lconst C (w := 0) dX10_set_2 (by decide) ?_
  refine V_ldc2 C (w := 5) dX10_set_3 qk10_86 ?_
  obtain ⟨x6, h6, h⟩ := Option.bind_eq_some_iff.mp h
  refine V_callSi (As := [.long (Int32.toInt64 l1), .long 0, .long 5]) C (X10_in_ok h6) mw_X10_in.1 mw_X10_in.2 q10_82 (by omega) rfl rfl rfl (Nat.le_of_ble_eq_true rfl) dX10_set_6 ?_
  by_cases c3 : x6 = 0
  · rw [if_pos c3] at h
    refine V_if_eqT C 48 dX10_set_9 (by decide) c3 ?_
    refine V_bipush C (w := (-2)) dX10_set_48 (by decide) ?_
    obtain rfl := Option.some.inj h
    exact V_iret C rfl rfl dX10_set_50
  · rw [if_neg c3] at h
    refine V_if_eqF C 48 dX10_set_9 (by decide) c3 ?_
    refine V_iload_n C 1 dX10_set_12 rfl rfl ?_
    refine V_iconst C (w := 2) dX10_set_13 (by decide) ?_
    by_cases c4 : l1 ≤ 2
    · rw [if_pos c4] at h
      refine V_icmp_leT C 25 dX10_set_14 (by decide) c4 ?_
      exact X10_set_b25_ok C hd h
    · rw [if_neg c4] at h
      refine V_icmp_leF C 25 dX10_set_14 (by decide) c4 ?_
      refine V_aload_n C 0 dX10_set_17 rfl rfl ?_
      refine V_iload_n C 2 dX10_set_18 rfl rfl ?_
      obtain ⟨x19, h19, h⟩ := Option.bind_eq_some_iff.mp h
      refine V_callVi (As := [.int l2]) C (X10_isOne_ok h19) mw_X10_isOne.1 mw_X10_isOne.2.1 mw_X10_isOne.2.2 q10_88 oM_0.1 oM_0.2.1 (by decide) rfl rfl (by omega) rfl rfl rfl (Nat.le_of_ble_eq_true rfl) dX10_set_19 ?_
      by_cases c5 : x19 = 0
      · rw [if_pos c5] at h
        refine V_if_eqT C 48 dX10_set_22 (by decide) c5 ?_
        refine V_bipush C (w := (-2)) dX10_set_48 (by decide) ?_
        obtain rfl := Option.some.inj h
        exact V_iret C rfl rfl dX10_set_50
      · rw [if_neg c5] at h
        refine V_if_eqF C 48 dX10_set_22 (by decide) c5 ?_
        exact X10_set_b25_ok C hd h
def X10_guest (l1 : Int32) (l2 : Int32) (l3 : Int32) (σ : St) : Option (Int32 × St) := (X10_in (Int32.toInt64 l1) 0 5).bind (fun x6 => if x6 = 0 then (some ((-2), σ)) else ((X10_in (Int32.toInt64 l2) 0 9).bind (fun x18 => if x18 = 0 then (some ((-2), σ)) else ((X10_in (Int32.toInt64 l3) 0 7).bind (fun x30 => if x30 = 0 then (some ((-2), σ)) else (if (σ.1 0 11) = 5 then (some ((-4), σ)) else (if ob (σ.1 0 11) 5 then none else (if ob (3 * ((up σ 5 ((σ.1 0 11)).toNatClampNeg l1).1 0 11)) 15 then none else (if ob ((3 * ((up (up σ 5 ((σ.1 0 11)).toNatClampNeg l1) 6 ((3 * ((up σ 5 ((σ.1 0 11)).toNatClampNeg l1).1 0 11))).toNatClampNeg l2).1 0 11)) + 1) 15 then none else (if ob ((3 * ((up (up (up σ 5 ((σ.1 0 11)).toNatClampNeg l1) 6 ((3 * ((up σ 5 ((σ.1 0 11)).toNatClampNeg l1).1 0 11))).toNatClampNeg l2) 6 (((3 * ((up (up σ 5 ((σ.1 0 11)).toNatClampNeg l1) 6 ((3 * ((up σ 5 ((σ.1 0 11)).toNatClampNeg l1).1 0 11))).toNatClampNeg l2).1 0 11)) + 1)).toNatClampNeg l3).1 0 11)) + 2) 15 then none else (some ((((up (up (up (up (up σ 5 ((σ.1 0 11)).toNatClampNeg l1) 6 ((3 * ((up σ 5 ((σ.1 0 11)).toNatClampNeg l1).1 0 11))).toNatClampNeg l2) 6 (((3 * ((up (up σ 5 ((σ.1 0 11)).toNatClampNeg l1) 6 ((3 * ((up σ 5 ((σ.1 0 11)).toNatClampNeg l1).1 0 11))).toNatClampNeg l2).1 0 11)) + 1)).toNatClampNeg l3) 6 (((3 * ((up (up (up σ 5 ((σ.1 0 11)).toNatClampNeg l1) 6 ((3 * ((up σ 5 ((σ.1 0 11)).toNatClampNeg l1).1 0 11))).toNatClampNeg l2) 6 (((3 * ((up (up σ 5 ((σ.1 0 11)).toNatClampNeg l1) 6 ((3 * ((up σ 5 ((σ.1 0 11)).toNatClampNeg l1).1 0 11))).toNatClampNeg l2).1 0 11)) + 1)).toNatClampNeg l3).1 0 11)) + 2)).toNatClampNeg 1) 0 11 (((up (up (up (up σ 5 ((σ.1 0 11)).toNatClampNeg l1) 6 ((3 * ((up σ 5 ((σ.1 0 11)).toNatClampNeg l1).1 0 11))).toNatClampNeg l2) 6 (((3 * ((up (up σ 5 ((σ.1 0 11)).toNatClampNeg l1) 6 ((3 * ((up σ 5 ((σ.1 0 11)).toNatClampNeg l1).1 0 11))).toNatClampNeg l2).1 0 11)) + 1)).toNatClampNeg l3) 6 (((3 * ((up (up (up σ 5 ((σ.1 0 11)).toNatClampNeg l1) 6 ((3 * ((up σ 5 ((σ.1 0 11)).toNatClampNeg l1).1 0 11))).toNatClampNeg l2) 6 (((3 * ((up (up σ 5 ((σ.1 0 11)).toNatClampNeg l1) 6 ((3 * ((up σ 5 ((σ.1 0 11)).toNatClampNeg l1).1 0 11))).toNatClampNeg l2).1 0 11)) + 1)).toNatClampNeg l3).1 0 11)) + 2)).toNatClampNeg 1).1 0 11) + 1)).1 0 11) - 1), (up (up (up (up (up σ 5 ((σ.1 0 11)).toNatClampNeg l1) 6 ((3 * ((up σ 5 ((σ.1 0 11)).toNatClampNeg l1).1 0 11))).toNatClampNeg l2) 6 (((3 * ((up (up σ 5 ((σ.1 0 11)).toNatClampNeg l1) 6 ((3 * ((up σ 5 ((σ.1 0 11)).toNatClampNeg l1).1 0 11))).toNatClampNeg l2).1 0 11)) + 1)).toNatClampNeg l3) 6 (((3 * ((up (up (up σ 5 ((σ.1 0 11)).toNatClampNeg l1) 6 ((3 * ((up σ 5 ((σ.1 0 11)).toNatClampNeg l1).1 0 11))).toNatClampNeg l2) 6 (((3 * ((up (up σ 5 ((σ.1 0 11)).toNatClampNeg l1) 6 ((3 * ((up σ 5 ((σ.1 0 11)).toNatClampNeg l1).1 0 11))).toNatClampNeg l2).1 0 11)) + 1)).toNatClampNeg l3).1 0 11)) + 2)).toNatClampNeg 1) 0 11 (((up (up (up (up σ 5 ((σ.1 0 11)).toNatClampNeg l1) 6 ((3 * ((up σ 5 ((σ.1 0 11)).toNatClampNeg l1).1 0 11))).toNatClampNeg l2) 6 (((3 * ((up (up σ 5 ((σ.1 0 11)).toNatClampNeg l1) 6 ((3 * ((up σ 5 ((σ.1 0 11)).toNatClampNeg l1).1 0 11))).toNatClampNeg l2).1 0 11)) + 1)).toNatClampNeg l3) 6 (((3 * ((up (up (up σ 5 ((σ.1 0 11)).toNatClampNeg l1) 6 ((3 * ((up σ 5 ((σ.1 0 11)).toNatClampNeg l1).1 0 11))).toNatClampNeg l2) 6 (((3 * ((up (up σ 5 ((σ.1 0 11)).toNatClampNeg l1) 6 ((3 * ((up σ 5 ((σ.1 0 11)).toNatClampNeg l1).1 0 11))).toNatClampNeg l2).1 0 11)) + 1)).toNatClampNeg l3).1 0 11)) + 2)).toNatClampNeg 1).1 0 11) + 1))))))))))))))
set_option maxRecDepth 100000 in
set_option maxHeartbeats 4000000 in
theorem X10_guest_ok {l1 : Int32} {l2 : Int32} {l3 : Int32} {σ : St} {x : (Int32 × St)} (h : X10_guest l1 l2 l3 σ = some x) : Ct shM (2) yX10_guest cX10_guest 4 (some FieldType.int) (fun G => [.ref (G.2.1 0), .int l1, .int l2, .int l3]) σ (fun G => some (.int x.1)) x.2 := by
  refine Ct.of mw_X10_guest.1 (by decide +kernel) (fun G => Nat.le_of_ble_eq_true rfl) (fun G p l e d s m args below meth c A hd C => ?_)
  refine (?_ : Vw shM G p l e d s m args below meth c 4 A σ 0 [(0, .ref (G.2.1 0)), (1, .int l1), (2, .int l2), (3, .int l3)] [] (some (.int x.1)) x.2)
  unfold X10_guest at h
  refine V_iload_n C 1 dX10_guest_0 rfl rfl ?_
  refine V_i2l C dX10_guest_1 ?_
  refine V_lconst C (w := 0) dX10_guest_2 (by decide) ?_
  refine V_ldc2 C (w := 5) dX10_guest_3 qk10_86 ?_
  obtain ⟨x6, h6, h⟩ := Option.bind_eq_some_iff.mp h
  refine V_callSi (As := [.long (Int32.toInt64 l1), .long 0, .long 5]) C (X10_in_ok h6) mw_X10_in.1 mw_X10_in.2 q10_82 (by omega) rfl rfl rfl (Nat.le_of_ble_eq_true rfl) dX10_guest_6 ?_
  by_cases c1 : x6 = 0
  · rw [if_pos c1] at h
    refine V_if_eqT C 36 dX10_guest_9 (by decide) c1 ?_
    refine V_bipush C (w := (-2)) dX10_guest_36 (by decide) ?_
    obtain rfl := Option.some.inj h
    exact V_iret C rfl rfl dX10_guest_38
  · rw [if_neg c1] at h
    refine V_if_eqF C 36 dX10_guest_9 (by decide) c1 ?_
    refine V_iload_n C 2 dX10_guest_12 rfl rfl ?_
    refine V_i2l C dX10_guest_13 ?_
    refine V_lconst C (w := 0) dX10_guest_14 (by decide) ?_
    refine V_ldc2 C (w := 9) dX10_guest_15 qk10_107 ?_
    obtain ⟨x18, h18, h⟩ := Option.bind_eq_some_iff.mp h
    refine V_callSi (As := [.long (Int32.toInt64 l2), .long 0, .long 9]) C (X10_in_ok h18) mw_X10_in.1 mw_X10_in.2 q10_82 (by omega) rfl rfl rfl (Nat.le_of_ble_eq_true rfl) dX10_guest_18 ?_
    by_cases c2 : x18 = 0
    · rw [if_pos c2] at h
      refine V_if_eqT C 36 dX10_guest_21 (by decide) c2 ?_
      refine V_bipush C (w := (-2)) dX10_guest_36 (by decide) ?_
      obtain rfl := Option.some.inj h
      exact V_iret C rfl rfl dX10_guest_38
    · rw [if_neg c2] at h
      refine V_if_eqF C 36 dX10_guest_21 (by decide) c2 ?_
      refine V_iload_n C 3 dX10_guest_24 rfl rfl ?_
      refine V_i2l C dX10_guest_25 ?_
      refine V_lconst C (w := 0) dX10_guest_26 (by decide) ?_
      refine V_ldc2 C (w := 7) dX10_guest_27 qk10_109 ?_
      obtain ⟨x30, h30, h⟩ := Option.bind_eq_some_iff.mp h
      refine V_callSi (As := [.long (Int32.toInt64 l3), .long 0, .long 7]) C (X10_in_ok h30) mw_X10_in.1 mw_X10_in.2 q10_82 (by omega) rfl rfl rfl (Nat.le_of_ble_eq_true rfl) dX10_guest_30 ?_
      by_cases c3 : x30 = 0
      · rw [if_pos c3] at h
        refine V_if_neF C 39 dX10_guest_33 (by decide) c3 ?_
        refine V_bipush C (w := (-2)) dX10_guest_36 (by decide) ?_
        obtain rfl := Option.some.inj h
        exact V_iret C rfl rfl dX10_guest_38
      · rw [if_neg c3] at h
        refine V_if_neT C 39 dX10_guest_33 (by decide) c3 ?_
        refine V_aload_n C 0 dX10_guest_39 rfl rfl ?_
        refine fg10_79 C oM_0 dX10_guest_40 ?_
        refine V_iconst C (w := 5) dX10_guest_43 (by decide) ?_
        by_cases c4 : (σ.1 0 11) = 5
        · rw [if_pos c4] at h
          refine V_icmp_neF C 50 dX10_guest_44 (by decide) c4 ?_
          refine V_bipush C (w := (-4)) dX10_guest_47 (by decide) ?_
          obtain rfl := Option.some.inj h
          exact V_iret C rfl rfl dX10_guest_49
        · rw [if_neg c4] at h
          refine V_icmp_neT C 50 dX10_guest_44 (by decide) c4 ?_
          refine V_aload_n C 0 dX10_guest_50 rfl rfl ?_
          refine fg10_26 (r := 5) C oM_0 rfl dX10_guest_51 ?_
          refine V_aload_n C 0 dX10_guest_54 rfl rfl ?_
          refine fg10_79 C oM_0 dX10_guest_55 ?_
          refine V_iload_n C 1 dX10_guest_58 rfl rfl ?_
          have g5 : ¬ (ob (σ.1 0 11) 5) := fun g9 => by rw [if_pos g9] at h; cases h
          rw [if_neg g5] at h
          refine V_iastO C oM_5 g5 dX10_guest_59 ?_
          refine V_aload_n C 0 dX10_guest_60 rfl rfl ?_
          refine fg10_29 (r := 6) C oM_0 rfl dX10_guest_61 ?_
          refine V_iconst C (w := 3) dX10_guest_64 (by decide) ?_
          refine V_aload_n C 0 dX10_guest_65 rfl rfl ?_
          refine fg10_79 C oM_0 dX10_guest_66 ?_
          refine V_imul C dX10_guest_69 ?_
          refine V_iload_n C 2 dX10_guest_70 rfl rfl ?_
          have g6 : ¬ (ob (3 * ((up σ 5 ((σ.1 0 11)).toNatClampNeg l1).1 0 11)) 15) := fun g9 => by rw [if_pos g9] at h; cases h
          rw [if_neg g6] at h
          refine V_iastO C oM_6 g6 dX10_guest_71 ?_
          refine V_aload_n C 0 dX10_guest_72 rfl rfl ?_
          refine fg10_29 (r := 6) C oM_0 rfl dX10_guest_73 ?_
          refine V_iconst C (w := 3) dX10_guest_76 (by decide) ?_
          refine V_aload_n C 0 dX10_guest_77 rfl rfl ?_
          refine fg10_79 C oM_0 dX10_guest_78 ?_
          refine V_imul C dX10_guest_81 ?_
          refine V_iconst C (w := 1) dX10_guest_82 (by decide) ?_
          refine V_iadd C dX10_guest_83 ?_
          refine V_iload_n C 3 dX10_guest_84 rfl rfl ?_
          have g7 : ¬ (ob ((3 * ((up (up σ 5 ((σ.1 0 11)).toNatClampNeg l1) 6 ((3 * ((up σ 5 ((σ.1 0 11)).toNatClampNeg l1).1 0 11))).toNatClampNeg l2).1 0 11)) + 1) 15) := fun g9 => by rw [if_pos g9] at h; cases h
          rw [if_neg g7] at h
          refine V_iastO C oM_6 g7 dX10_guest_85 ?_
          refine V_aload_n C 0 dX10_guest_86 rfl rfl ?_
          refine fg10_29 (r := 6) C oM_0 rfl dX10_guest_87 ?_
          refine V_iconst C (w := 3) dX10_guest_90 (by decide) ?_
          refine V_aload_n C 0 dX10_guest_91 rfl rfl ?_
          refine fg10_79 C oM_0 dX10_guest_92 ?_
          refine V_imul C dX10_guest_95 ?_
          refine V_iconst C (w := 2) dX10_guest_96 (by decide) ?_
          refine V_iadd C dX10_guest_97 ?_
          refine V_iconst C (w := 1) dX10_guest_98 (by decide) ?_
          have g8 : ¬ (ob ((3 * ((up (up (up σ 5 ((σ.1 0 11)).toNatClampNeg l1) 6 ((3 * ((up σ 5 ((σ.1 0 11)).toNatClampNeg l1).1 0 11))).toNatClampNeg l2) 6 (((3 * ((up (up σ 5 ((σ.1 0 11)).toNatClampNeg l1) 6 ((3 * ((up σ 5 ((σ.1 0 11)).toNatClampNeg l1).1 0 11))).toNatClampNeg l2).1 0 11)) + 1)).toNatClampNeg l3).1 0 11)) + 2) 15) := fun g9 => by rw [if_pos g9] at h; cases h
          rw [if_neg g8] at h
          refine V_iastO C oM_6 g8 dX10_guest_99 ?_
          refine V_aload_n C 0 dX10_guest_100 rfl rfl ?_
          refine V_dup C dX10_guest_101 rfl ?_
          refine fg10_79 C oM_0 dX10_guest_102 ?_
          refine V_iconst C (w := 1) dX10_guest_105 (by decide) ?_
          refine V_iadd C dX10_guest_106 ?_
          refine fp10_79 C oM_0 dX10_guest_107 ?_
          refine V_aload_n C 0 dX10_guest_110 rfl rfl ?_
          refine fg10_79 C oM_0 dX10_guest_111 ?_
          refine V_iconst C (w := 1) dX10_guest_114 (by decide) ?_
          refine V_isub C dX10_guest_115 ?_
          obtain rfl := Option.some.inj h
          exact V_iret C rfl rfl dX10_guest_116
def X10_feed (l1 : Int32) (σ : St) : Option (Int32 × St) := (X10_in (Int32.toInt64 l1) 0 255).bind (fun x6 => if x6 = 0 then (some ((-2), σ)) else (if (σ.1 0 6) = 160 then (some ((-4), σ)) else (if ob (σ.1 0 6) 160 then none else (some (((up (up σ 3 ((σ.1 0 6)).toNatClampNeg l1) 0 6 (((up σ 3 ((σ.1 0 6)).toNatClampNeg l1).1 0 6) + 1)).1 0 6), (up (up σ 3 ((σ.1 0 6)).toNatClampNeg l1) 0 6 (((up σ 3 ((σ.1 0 6)).toNatClampNeg l1).1 0 6) + 1)))))))
set_option maxRecDepth 100000 in
set_option maxHeartbeats 4000000 in
theorem X10_feed_ok {l1 : Int32} {σ : St} {x : (Int32 × St)} (h : X10_feed l1 σ = some x) : Ct shM (2) yX10_feed cX10_feed 2 (some FieldType.int) (fun G => [.ref (G.2.1 0), .int l1]) σ (fun G => some (.int x.1)) x.2 := by
  refine Ct.of mw_X10_feed.1 (by decide +kernel) (fun G => Nat.le_of_ble_eq_true rfl) (fun G p l e d s m args below meth c A hd C => ?_)
  refine (?_ : Vw shM G p l e d s m args below meth c 2 A σ 0 [(0, .ref (G.2.1 0)), (1, .int l1)] [] (some (.int x.1)) x.2)
  unfold X10_feed at h
  refine V_iload_n C 1 dX10_feed_0 rfl rfl ?_
  refine V_i2l C dX10_feed_1 ?_
  refine V_lconst C (w := 0) dX10_feed_2 (by decide) ?_
  refine V_ldc2 C (w := 255) dX10_feed_3 qk10_127 ?_
  obtain ⟨x6, h6, h⟩ := Option.bind_eq_some_iff.mp h
  refine V_callSi (As := [.long (Int32.toInt64 l1), .long 0, .long 255]) C (X10_in_ok h6) mw_X10_in.1 mw_X10_in.2 q10_82 (by omega) rfl rfl rfl (Nat.le_of_ble_eq_true rfl) dX10_feed_6 ?_
  by_cases c1 : x6 = 0
  · rw [if_pos c1] at h
    refine V_if_neF C 15 dX10_feed_9 (by decide) c1 ?_
    refine V_bipush C (w := (-2)) dX10_feed_12 (by decide) ?_
    obtain rfl := Option.some.inj h
    exact V_iret C rfl rfl dX10_feed_14
  · rw [if_neg c1] at h
    refine V_if_neT C 15 dX10_feed_9 (by decide) c1 ?_
    refine V_aload_n C 0 dX10_feed_15 rfl rfl ?_
    refine fg10_129 C oM_0 dX10_feed_16 ?_
    refine V_sipush C (w := 160) dX10_feed_19 (by decide) ?_
    by_cases c2 : (σ.1 0 6) = 160
    · rw [if_pos c2] at h
      refine V_icmp_neF C 28 dX10_feed_22 (by decide) c2 ?_
      refine V_bipush C (w := (-4)) dX10_feed_25 (by decide) ?_
      obtain rfl := Option.some.inj h
      exact V_iret C rfl rfl dX10_feed_27
    · rw [if_neg c2] at h
      refine V_icmp_neT C 28 dX10_feed_22 (by decide) c2 ?_
      refine V_aload_n C 0 dX10_feed_28 rfl rfl ?_
      refine fg10_20 (r := 3) C oM_0 rfl dX10_feed_29 ?_
      refine V_aload_n C 0 dX10_feed_32 rfl rfl ?_
      refine fg10_129 C oM_0 dX10_feed_33 ?_
      refine V_iload_n C 1 dX10_feed_36 rfl rfl ?_
      have g3 : ¬ (ob (σ.1 0 6) 160) := fun g9 => by rw [if_pos g9] at h; cases h
      rw [if_neg g3] at h
      refine V_iastO C oM_3 g3 dX10_feed_37 ?_
      refine V_aload_n C 0 dX10_feed_38 rfl rfl ?_
      refine V_dup C dX10_feed_39 rfl ?_
      refine fg10_129 C oM_0 dX10_feed_40 ?_
      refine V_iconst C (w := 1) dX10_feed_43 (by decide) ?_
      refine V_iadd C dX10_feed_44 ?_
      refine fp10_129 C oM_0 dX10_feed_45 ?_
      refine V_aload_n C 0 dX10_feed_48 rfl rfl ?_
      refine fg10_129 C oM_0 dX10_feed_49 ?_
      obtain rfl := Option.some.inj h
      exact V_iret C rfl rfl dX10_feed_52
def X10_text_b14 : Nat → Int32 → St → Option (Int32 × St)
  | 0, _, _ => none
  | F + 1, l1, σ => if (σ.1 0 6) ≤ l1 then (if ob (σ.1 0 3) 6 then none else ((X10_read ((up (up σ 2 ((σ.1 0 3)).toNatClampNeg (σ.1 0 6)) 0 6 0).1 0 3) 0 (up (up σ 2 ((σ.1 0 3)).toNatClampNeg (σ.1 0 6)) 0 6 0)).bind (fun x73 => if (x73.2.1 0 25) = 0 then (some ((((up x73.2 0 3 ((x73.2.1 0 3) + 1)).1 0 3) - 1), (up x73.2 0 3 ((x73.2.1 0 3) + 1)))) else (some (((-100) - (x73.2.1 0 26)), x73.2))))) else (if ob l1 160 then none else (if ob ((160 * (σ.1 0 3)) + l1) 960 then none else (X10_text_b14 F (l1 + 1) (up σ 1 (((160 * (σ.1 0 3)) + l1)).toNatClampNeg (σ.1 3 (l1).toNatClampNeg)))))
set_option maxRecDepth 100000 in
set_option maxHeartbeats 4000000 in
theorem X10_text_b14_ok {G : Gx} {p : Program} {l : Launch} {e : Env} {d : Nat} {s : State} {m : MethodId} {args : Array Value} {below : List Frame} {meth : Method} {c : Code} {A : Nat → Prop} (C : OK shM G p s m args meth c RX10 cX10_text 2 (some FieldType.int) A) (hd : 62 ≤ d) : ∀ (F : Nat) {l1 : Int32} {σ : St} {x : (Int32 × St)} (h : X10_text_b14 F l1 σ = some x), Vw shM G p l e d s m args below meth c 2 A σ 14 [(0, .ref (G.2.1 0)), (1, .int l1)] [] (some (.int x.1)) x.2 := by
  intro F
  induction F with
  | zero =>
    intro l1 σ x h
    rw [X10_text_b14] at h
    cases h
  | succ F ih =>
    intro l1 σ x h
    rw [X10_text_b14] at h
    refine V_iload_n C 1 dX10_text_14 rfl rfl ?_
    refine V_aload_n C 0 dX10_text_15 rfl rfl ?_
    refine fg10_129 C oM_0 dX10_text_16 ?_
    by_cases c1 : (σ.1 0 6) ≤ l1
    · rw [if_pos c1] at h
      refine V_icmp_geT C 49 dX10_text_19 (by decide) c1 ?_
      refine V_aload_n C 0 dX10_text_49 rfl rfl ?_
      refine fg10_17 (r := 2) C oM_0 rfl dX10_text_50 ?_
      refine V_aload_n C 0 dX10_text_53 rfl rfl ?_
      refine fg10_76 C oM_0 dX10_text_54 ?_
      refine V_aload_n C 0 dX10_text_57 rfl rfl ?_
      refine fg10_129 C oM_0 dX10_text_58 ?_
      have g2 : ¬ (ob (σ.1 0 3) 6) := fun g9 => by rw [if_pos g9] at h; cases h
      rw [if_neg g2] at h
      refine V_iastO C oM_2 g2 dX10_text_61 ?_
      refine V_aload_n C 0 dX10_text_62 rfl rfl ?_
      refine V_iconst C (w := 0) dX10_text_63 (by decide) ?_
      refine fp10_129 C oM_0 dX10_text_64 ?_
      refine V_aload_n C 0 dX10_text_67 rfl rfl ?_
      refine V_aload_n C 0 dX10_text_68 rfl rfl ?_
      refine fg10_76 C oM_0 dX10_text_69 ?_
      refine V_iconst C (w := 0) dX10_text_72 (by decide) ?_
      obtain ⟨x73, h73, h⟩ := Option.bind_eq_some_iff.mp h
      refine V_callVi (As := [.int ((up (up σ 2 ((σ.1 0 3)).toNatClampNeg (σ.1 0 6)) 0 6 0).1 0 3), .int 0]) C (X10_read_ok h73) mw_X10_read.1 mw_X10_read.2.1 mw_X10_read.2.2 q10_243 oM_0.1 oM_0.2.1 (by decide) rfl rfl (by omega) rfl rfl rfl (Nat.le_of_ble_eq_true rfl) dX10_text_73 ?_
      refine V_istore_n C (lv' := [(1, .int x73.1), (0, .ref (G.2.1 0))]) dX10_text_76 rfl (by decide) rfl ?_
      refine V_aload_n C 1 dX10_text_77 rfl rfl ?_
      refine fg10_164 C oM_0 dX10_text_78 ?_
      by_cases c3 : (x73.2.1 0 25) = 0
      · rw [if_pos c3] at h
        refine V_if_eqT C 92 dX10_text_81 (by decide) c3 ?_
        refine V_aload_n C 1 dX10_text_92 rfl rfl ?_
        refine V_dup C dX10_text_93 rfl ?_
        refine fg10_76 C oM_0 dX10_text_94 ?_
        refine V_iconst C (w := 1) dX10_text_97 (by decide) ?_
        refine V_iadd C dX10_text_98 ?_
        refine fp10_76 C oM_0 dX10_text_99 ?_
        refine V_aload_n C 1 dX10_text_102 rfl rfl ?_
        refine fg10_76 C oM_0 dX10_text_103 ?_
        refine V_iconst C (w := 1) dX10_text_106 (by decide) ?_
        refine V_isub C dX10_text_107 ?_
        obtain rfl := Option.some.inj h
        exact V_iret C rfl rfl dX10_text_108
      · rw [if_neg c3] at h
        refine V_if_eqF C 92 dX10_text_81 (by decide) c3 ?_
        refine V_bipush C (w := (-100)) dX10_text_84 (by decide) ?_
        refine V_aload_n C 1 dX10_text_86 rfl rfl ?_
        refine fg10_168 C oM_0 dX10_text_87 ?_
        refine V_isub C dX10_text_90 ?_
        obtain rfl := Option.some.inj h
        exact V_iret C rfl rfl dX10_text_91
    · rw [if_neg c1] at h
      refine V_icmp_geF C 49 dX10_text_19 (by decide) c1 ?_
      refine V_aload_n C 0 dX10_text_22 rfl rfl ?_
      refine fg10_13 (r := 1) C oM_0 rfl dX10_text_23 ?_
      refine V_sipush C (w := 160) dX10_text_26 (by decide) ?_
      refine V_aload_n C 0 dX10_text_29 rfl rfl ?_
      refine fg10_76 C oM_0 dX10_text_30 ?_
      refine V_imul C dX10_text_33 ?_
      refine V_iload_n C 1 dX10_text_34 rfl rfl ?_
      refine V_iadd C dX10_text_35 ?_
      refine V_aload_n C 0 dX10_text_36 rfl rfl ?_
      refine fg10_20 (r := 3) C oM_0 rfl dX10_text_37 ?_
      refine V_iload_n C 1 dX10_text_40 rfl rfl ?_
      have g4 : ¬ (ob l1 160) := fun g9 => by rw [if_pos g9] at h; cases h
      rw [if_neg g4] at h
      refine V_ialdO C oM_3 g4 dX10_text_41 ?_
      have g5 : ¬ (ob ((160 * (σ.1 0 3)) + l1) 960) := fun g9 => by rw [if_pos g9] at h; cases h
      rw [if_neg g5] at h
      refine V_iastO C oM_1 g5 dX10_text_42 ?_
      refine V_iinc C (w := (l1 + 1)) (lv' := [(1, .int (l1 + 1)), (0, .ref (G.2.1 0))]) 1 dX10_text_43 rfl (congrArg (l1 + ·) (show Int32.ofInt 1 = 1 by decide)) (by decide) rfl ?_
      refine V_goto C 14 dX10_text_46 (by decide) ?_
      refine V_sub (lv' := [(0, .ref (G.2.1 0)), (1, .int (l1 + 1))]) [1, 0] rfl ?_
      exact ih h
def X10_text (σ : St) : Option (Int32 × St) := if (σ.1 0 3) = 6 then (some ((-4), σ)) else (X10_text_b14 FU 0 σ)
set_option maxRecDepth 100000 in
set_option maxHeartbeats 4000000 in
theorem X10_text_ok {σ : St} {x : (Int32 × St)} (h : X10_text σ = some x) : Ct shM (62) yX10_text cX10_text 2 (some FieldType.int) (fun G => [.ref (G.2.1 0)]) σ (fun G => some (.int x.1)) x.2 := by
  refine Ct.of mw_X10_text.1 (by decide +kernel) (fun G => Nat.le_of_ble_eq_true rfl) (fun G p l e d s m args below meth c A hd C => ?_)
  refine (?_ : Vw shM G p l e d s m args below meth c 2 A σ 0 [(0, .ref (G.2.1 0))] [] (some (.int x.1)) x.2)
  unfold X10_text at h
  refine V_aload_n C 0 dX10_text_0 rfl rfl ?_
  refine fg10_76 C oM_0 dX10_text_1 ?_
  refine V_bipush C (w := 6) dX10_text_4 (by decide) ?_
  by_cases c6 : (σ.1 0 3) = 6
  · rw [if_pos c6] at h
    refine V_icmp_neF C 12 dX10_text_6 (by decide) c6 ?_
    refine V_bipush C (w := (-4)) dX10_text_9 (by decide) ?_
    obtain rfl := Option.some.inj h
    exact V_iret C rfl rfl dX10_text_11
  · rw [if_neg c6] at h
    refine V_icmp_neT C 12 dX10_text_6 (by decide) c6 ?_
    refine V_iconst C (w := 0) dX10_text_12 (by decide) ?_
    refine V_istore_n C (lv' := [(1, .int 0), (0, .ref (G.2.1 0))]) dX10_text_13 rfl (by decide) rfl ?_
    refine V_sub (lv' := [(0, .ref (G.2.1 0)), (1, .int 0)]) [1, 0] rfl ?_
    exact X10_text_b14_ok C hd FU h
def X10_force (l1 : Int32) (σ : St) : Option (Int32 × St) := (X10_in (Int32.toInt64 l1) 0 (Int32.toInt64 ((σ.1 0 3) - 1))).bind (fun x10 => if x10 = 0 then (some ((-2), σ)) else (some ((σ.1 0 4), (up σ 0 4 l1))))
set_option maxRecDepth 100000 in
set_option maxHeartbeats 4000000 in
theorem X10_force_ok {l1 : Int32} {σ : St} {x : (Int32 × St)} (h : X10_force l1 σ = some x) : Ct shM (2) yX10_force cX10_force 3 (some FieldType.int) (fun G => [.ref (G.2.1 0), .int l1]) σ (fun G => some (.int x.1)) x.2 := by
  refine Ct.of mw_X10_force.1 (by decide +kernel) (fun G => Nat.le_of_ble_eq_true rfl) (fun G p l e d s m args below meth c A hd C => ?_)
  refine (?_ : Vw shM G p l e d s m args below meth c 3 A σ 0 [(0, .ref (G.2.1 0)), (1, .int l1)] [] (some (.int x.1)) x.2)
  unfold X10_force at h
  refine V_iload_n C 1 dX10_force_0 rfl rfl ?_
  refine V_i2l C dX10_force_1 ?_
  refine V_lconst C (w := 0) dX10_force_2 (by decide) ?_
  refine V_aload_n C 0 dX10_force_3 rfl rfl ?_
  refine fg10_76 C oM_0 dX10_force_4 ?_
  refine V_iconst C (w := 1) dX10_force_7 (by decide) ?_
  refine V_isub C dX10_force_8 ?_
  refine V_i2l C dX10_force_9 ?_
  obtain ⟨x10, h10, h⟩ := Option.bind_eq_some_iff.mp h
  refine V_callSi (As := [.long (Int32.toInt64 l1), .long 0, .long (Int32.toInt64 ((σ.1 0 3) - 1))]) C (X10_in_ok h10) mw_X10_in.1 mw_X10_in.2 q10_82 (by omega) rfl rfl rfl (Nat.le_of_ble_eq_true rfl) dX10_force_10 ?_
  by_cases c1 : x10 = 0
  · rw [if_pos c1] at h
    refine V_if_neF C 19 dX10_force_13 (by decide) c1 ?_
    refine V_bipush C (w := (-2)) dX10_force_16 (by decide) ?_
    obtain rfl := Option.some.inj h
    exact V_iret C rfl rfl dX10_force_18
  · rw [if_neg c1] at h
    refine V_if_neT C 19 dX10_force_13 (by decide) c1 ?_
    refine V_aload_n C 0 dX10_force_19 rfl rfl ?_
    refine fg10_104 C oM_0 dX10_force_20 ?_
    refine V_istore_n C (lv' := [(2, .int (σ.1 0 4)), (0, .ref (G.2.1 0)), (1, .int l1)]) dX10_force_23 rfl (by decide) rfl ?_
    refine V_aload_n C 1 dX10_force_24 rfl rfl ?_
    refine V_iload_n C 2 dX10_force_25 rfl rfl ?_
    refine fp10_104 C oM_0 dX10_force_26 ?_
    refine V_iload_n C 0 dX10_force_29 rfl rfl ?_
    obtain rfl := Option.some.inj h
    exact V_iret C rfl rfl dX10_force_30
def X10_comes_b163 (l2 : Int32) (l6 : Int32) (σ : St) : Option St := if ob (l2 + 1) 6 then none else (some (up σ 8 ((l2 + 1)).toNatClampNeg l6))
set_option maxRecDepth 100000 in
set_option maxHeartbeats 4000000 in
theorem X10_comes_b163_ok {G : Gx} {p : Program} {l : Launch} {e : Env} {d : Nat} {s : State} {m : MethodId} {args : Array Value} {below : List Frame} {meth : Method} {c : Code} {A : Nat → Prop} (C : OK shM G p s m args meth c RX10 cX10_comes 7 none A) (hd : 63 ≤ d) {l2 : Int32} {l6 : Int32} {σ : St} {x : St} (h : X10_comes_b163 l2 l6 σ = some x) : Vw shM G p l e d s m args below meth c 7 A σ 163 [(0, .ref (G.2.1 0)), (2, .int l2), (6, .int l6)] [] (none) x := by
  unfold X10_comes_b163 at h
  refine V_aload_n C 0 dX10_comes_163 rfl rfl ?_
  refine fg10_35 (r := 8) C oM_0 rfl dX10_comes_164 ?_
  refine V_iload_n C 1 dX10_comes_167 rfl rfl ?_
  refine V_iconst C (w := 1) dX10_comes_168 (by decide) ?_
  refine V_iadd C dX10_comes_169 ?_
  refine V_iload C 2 dX10_comes_170 rfl ?_
  have g1 : ¬ (ob (l2 + 1) 6) := fun g9 => by rw [if_pos g9] at h; cases h
  rw [if_neg g1] at h
  refine V_iastO C oM_8 g1 dX10_comes_172 ?_
  obtain rfl := Option.some.inj h
  exact V_vret C rfl dX10_comes_173
def X10_comes_b161 (l2 : Int32) (s0 : Int32) (σ : St) : Option St := X10_comes_b163 l2 s0 σ
set_option maxRecDepth 100000 in
set_option maxHeartbeats 4000000 in
theorem X10_comes_b161_ok {G : Gx} {p : Program} {l : Launch} {e : Env} {d : Nat} {s : State} {m : MethodId} {args : Array Value} {below : List Frame} {meth : Method} {c : Code} {A : Nat → Prop} (C : OK shM G p s m args meth c RX10 cX10_comes 7 none A) (hd : 63 ≤ d) {l2 : Int32} {s0 : Int32} {σ : St} {x : St} (h : X10_comes_b161 l2 s0 σ = some x) : Vw shM G p l e d s m args below meth c 7 A σ 161 [(0, .ref (G.2.1 0)), (2, .int l2)] [.int s0] (none) x := by
  unfold X10_comes_b161 at h
  refine V_istore C (lv' := [(6, .int s0), (0, .ref (G.2.1 0)), (2, .int l2)]) dX10_comes_161 (by decide) rfl ?_
  refine V_sub (lv' := [(0, .ref (G.2.1 0)), (2, .int l2), (6, .int s0)]) [1, 2, 0] rfl ?_
  exact X10_comes_b163_ok C hd h
def X10_comes_b142 (l2 : Int32) (l6 : Int32) (s0 : Int32) (s1 : Int32) (σ : St) : Option St := if ob s1 5 then none else (if ob l2 5 then none else (if ((up σ 10 (s1).toNatClampNeg (vp_nar .boolean s0)).1 10 (l2).toNatClampNeg) = 0 then (X10_comes_b161 l2 l6 (up σ 10 (s1).toNatClampNeg (vp_nar .boolean s0))) else (X10_comes_b161 l2 (l6 / 2) (up σ 10 (s1).toNatClampNeg (vp_nar .boolean s0)))))
set_option maxRecDepth 100000 in
set_option maxHeartbeats 4000000 in
theorem X10_comes_b142_ok {G : Gx} {p : Program} {l : Launch} {e : Env} {d : Nat} {s : State} {m : MethodId} {args : Array Value} {below : List Frame} {meth : Method} {c : Code} {A : Nat → Prop} (C : OK shM G p s m args meth c RX10 cX10_comes 7 none A) (hd : 63 ≤ d) {l2 : Int32} {l6 : Int32} {s0 : Int32} {s1 : Int32} {σ : St} {x : St} (h : X10_comes_b142 l2 l6 s0 s1 σ = some x) : Vw shM G p l e d s m args below meth c 7 A σ 142 [(0, .ref (G.2.1 0)), (2, .int l2), (6, .int l6)] [.int s0, .int s1, .ref (G.2.1 10)] (none) x := by
  unfold X10_comes_b142 at h
  have g2 : ¬ (ob s1 5) := fun g9 => by rw [if_pos g9] at h; cases h
  rw [if_neg g2] at h
  refine V_zastO C oM_10 g2 dX10_comes_142 ?_
  refine V_aload_n C 0 dX10_comes_143 rfl rfl ?_
  refine fg10_42 (r := 10) C oM_0 rfl dX10_comes_144 ?_
  refine V_iload_n C 1 dX10_comes_147 rfl rfl ?_
  have g3 : ¬ (ob l2 5) := fun g9 => by rw [if_pos g9] at h; cases h
  rw [if_neg g3] at h
  refine V_zaldO C oM_10 g3 dX10_comes_148 ?_
  by_cases c4 : ((up σ 10 (s1).toNatClampNeg (vp_nar .boolean s0)).1 10 (l2).toNatClampNeg) = 0
  · rw [if_pos c4] at h
    refine V_if_eqT C 159 dX10_comes_149 (by decide) c4 ?_
    refine V_iload C 2 dX10_comes_159 rfl ?_
    refine V_sub (lv' := [(0, .ref (G.2.1 0)), (2, .int l2)]) [0, 1] rfl ?_
    exact X10_comes_b161_ok C hd h
  · rw [if_neg c4] at h
    refine V_if_eqF C 159 dX10_comes_149 (by decide) c4 ?_
    refine V_iload C 2 dX10_comes_152 rfl ?_
    refine V_iconst C (w := 2) dX10_comes_154 (by decide) ?_
    refine V_idiv C dX10_comes_155 (by decide) ?_
    refine V_goto C 161 dX10_comes_156 (by decide) ?_
    refine V_sub (lv' := [(0, .ref (G.2.1 0)), (2, .int l2)]) [0, 1] rfl ?_
    exact X10_comes_b161_ok C hd h
def X10_comes_b97 (l2 : Int32) (l6 : Int32) (s0 : Int32) (s1 : Int32) (σ : St) : Option St := if ob s1 5 then none else (if ob l2 5 then none else (if ob l2 5 then none else (if ((up (up σ 9 (s1).toNatClampNeg (vp_nar .boolean s0)) 10 (l2).toNatClampNeg (vp_nar .boolean 0)).1 9 (l2).toNatClampNeg) = 0 then (X10_comes_b163 l2 l6 (up (up σ 9 (s1).toNatClampNeg (vp_nar .boolean s0)) 10 (l2).toNatClampNeg (vp_nar .boolean 0))) else ((X10_read ((up (up (up σ 9 (s1).toNatClampNeg (vp_nar .boolean s0)) 10 (l2).toNatClampNeg (vp_nar .boolean 0)) 0 14 l6).1 0 4) 2 (up (up (up σ 9 (s1).toNatClampNeg (vp_nar .boolean s0)) 10 (l2).toNatClampNeg (vp_nar .boolean 0)) 0 14 l6)).bind (fun x131 => if x131.1 = 0 then (X10_comes_b142 l2 l6 0 l2 x131.2) else (X10_comes_b142 l2 l6 1 l2 x131.2))))))
set_option maxRecDepth 100000 in
set_option maxHeartbeats 4000000 in
theorem X10_comes_b97_ok {G : Gx} {p : Program} {l : Launch} {e : Env} {d : Nat} {s : State} {m : MethodId} {args : Array Value} {below : List Frame} {meth : Method} {c : Code} {A : Nat → Prop} (C : OK shM G p s m args meth c RX10 cX10_comes 7 none A) (hd : 63 ≤ d) {l2 : Int32} {l6 : Int32} {s0 : Int32} {s1 : Int32} {σ : St} {x : St} (h : X10_comes_b97 l2 l6 s0 s1 σ = some x) : Vw shM G p l e d s m args below meth c 7 A σ 97 [(0, .ref (G.2.1 0)), (2, .int l2), (6, .int l6)] [.int s0, .int s1, .ref (G.2.1 9)] (none) x := by
  unfold X10_comes_b97 at h
  have g5 : ¬ (ob s1 5) := fun g9 => by rw [if_pos g9] at h; cases h
  rw [if_neg g5] at h
  refine V_zastO C oM_9 g5 dX10_comes_97 ?_
  refine V_aload_n C 0 dX10_comes_98 rfl rfl ?_
  refine fg10_42 (r := 10) C oM_0 rfl dX10_comes_99 ?_
  refine V_iload_n C 1 dX10_comes_102 rfl rfl ?_
  refine V_iconst C (w := 0) dX10_comes_103 (by decide) ?_
  have g6 : ¬ (ob l2 5) := fun g9 => by rw [if_pos g9] at h; cases h
  rw [if_neg g6] at h
  refine V_zastO C oM_10 g6 dX10_comes_104 ?_
  refine V_aload_n C 0 dX10_comes_105 rfl rfl ?_
  refine fg10_38 (r := 9) C oM_0 rfl dX10_comes_106 ?_
  refine V_iload_n C 1 dX10_comes_109 rfl rfl ?_
  have g7 : ¬ (ob l2 5) := fun g9 => by rw [if_pos g9] at h; cases h
  rw [if_neg g7] at h
  refine V_zaldO C oM_9 g7 dX10_comes_110 ?_
  by_cases c8 : ((up (up σ 9 (s1).toNatClampNeg (vp_nar .boolean s0)) 10 (l2).toNatClampNeg (vp_nar .boolean 0)).1 9 (l2).toNatClampNeg) = 0
  · rw [if_pos c8] at h
    refine V_if_eqT C 163 dX10_comes_111 (by decide) c8 ?_
    exact X10_comes_b163_ok C hd h
  · rw [if_neg c8] at h
    refine V_if_eqF C 163 dX10_comes_111 (by decide) c8 ?_
    refine V_aload_n C 0 dX10_comes_114 rfl rfl ?_
    refine V_iload C 2 dX10_comes_115 rfl ?_
    refine fp10_194 C oM_0 dX10_comes_117 ?_
    refine V_aload_n C 0 dX10_comes_120 rfl rfl ?_
    refine fg10_42 (r := 10) C oM_0 rfl dX10_comes_121 ?_
    refine V_iload_n C 1 dX10_comes_124 rfl rfl ?_
    refine V_aload_n C 0 dX10_comes_125 rfl rfl ?_
    refine V_aload_n C 0 dX10_comes_126 rfl rfl ?_
    refine fg10_104 C oM_0 dX10_comes_127 ?_
    refine V_iconst C (w := 2) dX10_comes_130 (by decide) ?_
    obtain ⟨x131, h131, h⟩ := Option.bind_eq_some_iff.mp h
    refine V_callVi (As := [.int ((up (up (up σ 9 (s1).toNatClampNeg (vp_nar .boolean s0)) 10 (l2).toNatClampNeg (vp_nar .boolean 0)) 0 14 l6).1 0 4), .int 2]) C (X10_read_ok h131) mw_X10_read.1 mw_X10_read.2.1 mw_X10_read.2.2 q10_243 oM_0.1 oM_0.2.1 (by decide) rfl rfl (by omega) rfl rfl rfl (Nat.le_of_ble_eq_true rfl) dX10_comes_131 ?_
    by_cases c9 : x131.1 = 0
    · rw [if_pos c9] at h
      refine V_if_eqT C 141 dX10_comes_134 (by decide) c9 ?_
      refine V_iconst C (w := 0) dX10_comes_141 (by decide) ?_
      exact X10_comes_b142_ok C hd h
    · rw [if_neg c9] at h
      refine V_if_eqF C 141 dX10_comes_134 (by decide) c9 ?_
      refine V_iconst C (w := 1) dX10_comes_137 (by decide) ?_
      refine V_goto C 142 dX10_comes_138 (by decide) ?_
      exact X10_comes_b142_ok C hd h
def X10_comes_b33 (l1 : Int32) (l2 : Int32) (s0 : Int32) (σ : St) : Option St := (X10_coolsOf l1 s0 σ).bind (fun x37 => (X10_warmsOf l1 s0 x37.2).bind (fun x45 => if ob l2 6 then none else ((X10_within ((x45.2.1 8 (l2).toNatClampNeg) - x37.1) 0 99).bind (fun x62 => (X10_within (x62 + x45.1) 0 99).bind (fun x71 => if x71 < (x45.2.1 4 (1 : Int32).toNatClampNeg) then (X10_comes_b97 l2 x71 0 l2 x45.2) else (X10_comes_b97 l2 x71 1 l2 x45.2))))))
set_option maxRecDepth 100000 in
set_option maxHeartbeats 4000000 in
theorem X10_comes_b33_ok {G : Gx} {p : Program} {l : Launch} {e : Env} {d : Nat} {s : State} {m : MethodId} {args : Array Value} {below : List Frame} {meth : Method} {c : Code} {A : Nat → Prop} (C : OK shM G p s m args meth c RX10 cX10_comes 7 none A) (hd : 63 ≤ d) {l1 : Int32} {l2 : Int32} {s0 : Int32} {σ : St} {x : St} (h : X10_comes_b33 l1 l2 s0 σ = some x) : Vw shM G p l e d s m args below meth c 7 A σ 33 [(0, .ref (G.2.1 0)), (1, .int l1), (2, .int l2)] [.int s0] (none) x := by
  unfold X10_comes_b33 at h
  refine V_istore_n C (lv' := [(3, .int s0), (0, .ref (G.2.1 0)), (1, .int l1), (2, .int l2)]) dX10_comes_33 rfl (by decide) rfl ?_
  refine V_aload_n C 1 dX10_comes_34 rfl rfl ?_
  refine V_iload_n C 2 dX10_comes_35 rfl rfl ?_
  refine V_iload_n C 0 dX10_comes_36 rfl rfl ?_
  obtain ⟨x37, h37, h⟩ := Option.bind_eq_some_iff.mp h
  refine V_callVi (As := [.int l1, .int s0]) C (X10_coolsOf_ok h37) mw_X10_coolsOf.1 mw_X10_coolsOf.2.1 mw_X10_coolsOf.2.2 q10_124 oM_0.1 oM_0.2.1 (by decide) rfl rfl (by omega) rfl rfl rfl (Nat.le_of_ble_eq_true rfl) dX10_comes_37 ?_
  refine V_istore C (lv' := [(4, .int x37.1), (3, .int s0), (0, .ref (G.2.1 0)), (1, .int l1), (2, .int l2)]) dX10_comes_40 (by decide) rfl ?_
  refine V_aload_n C 2 dX10_comes_42 rfl rfl ?_
  refine V_iload_n C 3 dX10_comes_43 rfl rfl ?_
  refine V_iload_n C 1 dX10_comes_44 rfl rfl ?_
  obtain ⟨x45, h45, h⟩ := Option.bind_eq_some_iff.mp h
  refine V_callVi (As := [.int l1, .int s0]) C (X10_warmsOf_ok h45) mw_X10_warmsOf.1 mw_X10_warmsOf.2.1 mw_X10_warmsOf.2.2 q10_120 oM_0.1 oM_0.2.1 (by decide) rfl rfl (by omega) rfl rfl rfl (Nat.le_of_ble_eq_true rfl) dX10_comes_45 ?_
  refine V_istore C (lv' := [(5, .int x45.1), (4, .int x37.1), (3, .int s0), (0, .ref (G.2.1 0)), (1, .int l1), (2, .int l2)]) dX10_comes_48 (by decide) rfl ?_
  refine V_aload_n C 3 dX10_comes_50 rfl rfl ?_
  refine fg10_35 (r := 8) C oM_0 rfl dX10_comes_51 ?_
  refine V_iload_n C 5 dX10_comes_54 rfl rfl ?_
  have g10 : ¬ (ob l2 6) := fun g9 => by rw [if_pos g9] at h; cases h
  rw [if_neg g10] at h
  refine V_ialdO C oM_8 g10 dX10_comes_55 ?_
  refine V_iload C 1 dX10_comes_56 rfl ?_
  refine V_isub C dX10_comes_58 ?_
  refine V_iconst C (w := 0) dX10_comes_59 (by decide) ?_
  refine V_bipush C (w := 99) dX10_comes_60 (by decide) ?_
  obtain ⟨x62, h62, h⟩ := Option.bind_eq_some_iff.mp h
  refine V_callSi (As := [.int ((x45.2.1 8 (l2).toNatClampNeg) - x37.1), .int 0, .int 99]) C (X10_within_ok h62) mw_X10_within.1 mw_X10_within.2 q10_249 (by omega) rfl rfl rfl (Nat.le_of_ble_eq_true rfl) dX10_comes_62 ?_
  refine V_iload C 0 dX10_comes_65 rfl ?_
  refine V_iadd C dX10_comes_67 ?_
  refine V_iconst C (w := 0) dX10_comes_68 (by decide) ?_
  refine V_bipush C (w := 99) dX10_comes_69 (by decide) ?_
  obtain ⟨x71, h71, h⟩ := Option.bind_eq_some_iff.mp h
  refine V_callSi (As := [.int (x62 + x45.1), .int 0, .int 99]) C (X10_within_ok h71) mw_X10_within.1 mw_X10_within.2 q10_249 (by omega) rfl rfl rfl (Nat.le_of_ble_eq_true rfl) dX10_comes_71 ?_
  refine V_istore C (lv' := [(6, .int x71), (5, .int x45.1), (4, .int x37.1), (3, .int s0), (0, .ref (G.2.1 0)), (1, .int l1), (2, .int l2)]) dX10_comes_74 (by decide) rfl ?_
  refine V_aload_n C 4 dX10_comes_76 rfl rfl ?_
  refine fg10_38 (r := 9) C oM_0 rfl dX10_comes_77 ?_
  refine V_iload_n C 6 dX10_comes_80 rfl rfl ?_
  refine V_iload C 0 dX10_comes_81 rfl ?_
  refine V_aload_n C 4 dX10_comes_83 rfl rfl ?_
  refine fg10_23 (r := 4) C oM_0 rfl dX10_comes_84 ?_
  refine V_iconst C (w := 1) dX10_comes_87 (by decide) ?_
  refine V_ialdO C oM_4 (by decide) dX10_comes_88 ?_
  by_cases c11 : x71 < (x45.2.1 4 (1 : Int32).toNatClampNeg)
  · rw [if_pos c11] at h
    refine V_icmp_ltT C 96 dX10_comes_89 (by decide) c11 ?_
    refine V_iconst C (w := 0) dX10_comes_96 (by decide) ?_
    refine V_sub (lv' := [(0, .ref (G.2.1 0)), (2, .int l2), (6, .int x71)]) [4, 6, 0] rfl ?_
    exact X10_comes_b97_ok C hd h
  · rw [if_neg c11] at h
    refine V_icmp_ltF C 96 dX10_comes_89 (by decide) c11 ?_
    refine V_iconst C (w := 1) dX10_comes_92 (by decide) ?_
    refine V_goto C 97 dX10_comes_93 (by decide) ?_
    refine V_sub (lv' := [(0, .ref (G.2.1 0)), (2, .int l2), (6, .int x71)]) [4, 6, 0] rfl ?_
    exact X10_comes_b97_ok C hd h
def X10_comes (l1 : Int32) (l2 : Int32) (σ : St) : Option St := if ob l2 5 then none else ((X10_looks l1 l2 (up σ 7 (l2).toNatClampNeg l1)).bind (fun x10 => if l2 ≤ 0 then (X10_comes_b33 l1 l2 0 x10) else (if (x10.1 0 13) = (x10.1 0 12) then (X10_comes_b33 l1 l2 1 x10) else (X10_comes_b33 l1 l2 0 x10))))
set_option maxRecDepth 100000 in
set_option maxHeartbeats 4000000 in
theorem X10_comes_ok {l1 : Int32} {l2 : Int32} {σ : St} {x : St} (h : X10_comes l1 l2 σ = some x) : Ct shM (63) yX10_comes cX10_comes 7 none (fun G => [.ref (G.2.1 0), .int l1, .int l2]) σ (fun G => none) x := by
  refine Ct.of mw_X10_comes.1 (by decide +kernel) (fun G => Nat.le_of_ble_eq_true rfl) (fun G p l e d s m args below meth c A hd C => ?_)
  refine (?_ : Vw shM G p l e d s m args below meth c 7 A σ 0 [(0, .ref (G.2.1 0)), (1, .int l1), (2, .int l2)] [] (none) x)
  unfold X10_comes at h
  refine V_aload_n C 0 dX10_comes_0 rfl rfl ?_
  refine fg10_32 (r := 7) C oM_0 rfl dX10_comes_1 ?_
  refine V_iload_n C 2 dX10_comes_4 rfl rfl ?_
  refine V_iload_n C 1 dX10_comes_5 rfl rfl ?_
  have g12 : ¬ (ob l2 5) := fun g9 => by rw [if_pos g9] at h; cases h
  rw [if_neg g12] at h
  refine V_iastO C oM_7 g12 dX10_comes_6 ?_
  refine V_aload_n C 0 dX10_comes_7 rfl rfl ?_
  refine V_iload_n C 1 dX10_comes_8 rfl rfl ?_
  refine V_iload_n C 2 dX10_comes_9 rfl rfl ?_
  obtain ⟨x10, h10, h⟩ := Option.bind_eq_some_iff.mp h
  refine V_callVv (As := [.int l1, .int l2]) C (X10_looks_ok h10) mw_X10_looks.1 mw_X10_looks.2.1 mw_X10_looks.2.2 q10_116 oM_0.1 oM_0.2.1 (by decide) rfl rfl (by omega) rfl rfl rfl (Nat.le_of_ble_eq_true rfl) dX10_comes_10 ?_
  refine V_iload_n C 2 dX10_comes_13 rfl rfl ?_
  by_cases c13 : l2 ≤ 0
  · rw [if_pos c13] at h
    refine V_if_leT C 32 dX10_comes_14 (by decide) c13 ?_
    refine V_iconst C (w := 0) dX10_comes_32 (by decide) ?_
    exact X10_comes_b33_ok C hd h
  · rw [if_neg c13] at h
    refine V_if_leF C 32 dX10_comes_14 (by decide) c13 ?_
    refine V_aload_n C 0 dX10_comes_17 rfl rfl ?_
    refine fg10_191 C oM_0 dX10_comes_18 ?_
    refine V_aload_n C 0 dX10_comes_21 rfl rfl ?_
    refine fg10_188 C oM_0 dX10_comes_22 ?_
    by_cases c14 : (x10.1 0 13) = (x10.1 0 12)
    · rw [if_pos c14] at h
      refine V_icmp_neF C 32 dX10_comes_25 (by decide) c14 ?_
      refine V_iconst C (w := 1) dX10_comes_28 (by decide) ?_
      refine V_goto C 33 dX10_comes_29 (by decide) ?_
      exact X10_comes_b33_ok C hd h
    · rw [if_neg c14] at h
      refine V_icmp_neT C 32 dX10_comes_25 (by decide) c14 ?_
      refine V_iconst C (w := 0) dX10_comes_32 (by decide) ?_
      exact X10_comes_b33_ok C hd h
def X10_isOrder_b19 : Nat → Int32 → Int32 → Int32 → St → Option Int32
  | 0, _, _, _, _ => none
  | F + 1, l1, l2, l3, σ => if ob l1 4 then none else (if (σ.1 17 (l1).toNatClampNeg) ≤ l3 then (some 1) else (if ob ((40 * l1) + l3) 160 then none else ((X10_isOne (σ.1 18 (((40 * l1) + l3)).toNatClampNeg) σ).bind (fun x45 => if x45 = 0 then (some 0) else (if ((l2 >>> ((σ.1 18 (((40 * l1) + l3)).toNatClampNeg) &&& 31)) &&& 1) = 1 then (some 0) else (X10_isOrder_b19 F l1 (l2 ||| (1 <<< ((σ.1 18 (((40 * l1) + l3)).toNatClampNeg) &&& 31))) (l3 + 1) σ))))))
set_option maxRecDepth 100000 in
set_option maxHeartbeats 4000000 in
theorem X10_isOrder_b19_ok {G : Gx} {p : Program} {l : Launch} {e : Env} {d : Nat} {s : State} {m : MethodId} {args : Array Value} {below : List Frame} {meth : Method} {c : Code} {A : Nat → Prop} (C : OK shM G p s m args meth c RX10 cX10_isOrder 5 (some FieldType.boolean) A) (hd : 3 ≤ d) : ∀ (F : Nat) {l1 : Int32} {l2 : Int32} {l3 : Int32} {σ : St} {x : Int32} (h : X10_isOrder_b19 F l1 l2 l3 σ = some x), Vw shM G p l e d s m args below meth c 5 A σ 19 [(0, .ref (G.2.1 0)), (1, .int l1), (2, .int l2), (3, .int l3)] [] (some (.int x)) σ := by
  intro F
  induction F with
  | zero =>
    intro l1 l2 l3 σ x h
    rw [X10_isOrder_b19] at h
    cases h
  | succ F ih =>
    intro l1 l2 l3 σ x h
    rw [X10_isOrder_b19] at h
    refine V_iload_n C 3 dX10_isOrder_19 rfl rfl ?_
    refine V_aload_n C 0 dX10_isOrder_20 rfl rfl ?_
    refine fg10_66 (r := 17) C oM_0 rfl dX10_isOrder_21 ?_
    refine V_iload_n C 1 dX10_isOrder_24 rfl rfl ?_
    have g1 : ¬ (ob l1 4) := fun g9 => by rw [if_pos g9] at h; cases h
    rw [if_neg g1] at h
    refine V_ialdO C oM_17 g1 dX10_isOrder_25 ?_
    by_cases c2 : (σ.1 17 (l1).toNatClampNeg) ≤ l3
    · rw [if_pos c2] at h
      refine V_icmp_geT C 76 dX10_isOrder_26 (by decide) c2 ?_
      refine V_iconst C (w := 1) dX10_isOrder_76 (by decide) ?_
      obtain rfl := Option.some.inj h
      exact V_iret C rfl (nz (Or.inr rfl)) dX10_isOrder_77
    · rw [if_neg c2] at h
      refine V_icmp_geF C 76 dX10_isOrder_26 (by decide) c2 ?_
      refine V_aload_n C 0 dX10_isOrder_29 rfl rfl ?_
      refine fg10_69 (r := 18) C oM_0 rfl dX10_isOrder_30 ?_
      refine V_bipush C (w := 40) dX10_isOrder_33 (by decide) ?_
      refine V_iload_n C 1 dX10_isOrder_35 rfl rfl ?_
      refine V_imul C dX10_isOrder_36 ?_
      refine V_iload_n C 3 dX10_isOrder_37 rfl rfl ?_
      refine V_iadd C dX10_isOrder_38 ?_
      have g3 : ¬ (ob ((40 * l1) + l3) 160) := fun g9 => by rw [if_pos g9] at h; cases h
      rw [if_neg g3] at h
      refine V_ialdO C oM_18 g3 dX10_isOrder_39 ?_
      refine V_istore C (lv' := [(4, .int (σ.1 18 (((40 * l1) + l3)).toNatClampNeg)), (0, .ref (G.2.1 0)), (1, .int l1), (2, .int l2), (3, .int l3)]) dX10_isOrder_40 (by decide) rfl ?_
      refine V_aload_n C 1 dX10_isOrder_42 rfl rfl ?_
      refine V_iload C 0 dX10_isOrder_43 rfl ?_
      obtain ⟨x45, h45, h⟩ := Option.bind_eq_some_iff.mp h
      refine V_callVi (As := [.int (σ.1 18 (((40 * l1) + l3)).toNatClampNeg)]) C (X10_isOne_ok h45) mw_X10_isOne.1 mw_X10_isOne.2.1 mw_X10_isOne.2.2 q10_88 oM_0.1 oM_0.2.1 (by decide) rfl rfl (by omega) rfl rfl rfl (Nat.le_of_ble_eq_true rfl) dX10_isOrder_45 ?_
      by_cases c4 : x45 = 0
      · rw [if_pos c4] at h
        refine V_if_eqT C 61 dX10_isOrder_48 (by decide) c4 ?_
        refine V_iconst C (w := 0) dX10_isOrder_61 (by decide) ?_
        obtain rfl := Option.some.inj h
        exact V_iret C rfl (nz (Or.inl rfl)) dX10_isOrder_62
      · rw [if_neg c4] at h
        refine V_if_eqF C 61 dX10_isOrder_48 (by decide) c4 ?_
        refine V_iload_n C 3 dX10_isOrder_51 rfl rfl ?_
        refine V_iload C 0 dX10_isOrder_52 rfl ?_
        refine V_ishr C dX10_isOrder_54 ?_
        refine V_iconst C (w := 1) dX10_isOrder_55 (by decide) ?_
        refine V_iand C dX10_isOrder_56 ?_
        refine V_iconst C (w := 1) dX10_isOrder_57 (by decide) ?_
        by_cases c5 : ((l2 >>> ((σ.1 18 (((40 * l1) + l3)).toNatClampNeg) &&& 31)) &&& 1) = 1
        · rw [if_pos c5] at h
          refine V_icmp_neF C 63 dX10_isOrder_58 (by decide) c5 ?_
          refine V_iconst C (w := 0) dX10_isOrder_61 (by decide) ?_
          obtain rfl := Option.some.inj h
          exact V_iret C rfl (nz (Or.inl rfl)) dX10_isOrder_62
        · rw [if_neg c5] at h
          refine V_icmp_neT C 63 dX10_isOrder_58 (by decide) c5 ?_
          refine V_iload_n C 3 dX10_isOrder_63 rfl rfl ?_
          refine V_iconst C (w := 1) dX10_isOrder_64 (by decide) ?_
          refine V_iload C 0 dX10_isOrder_65 rfl ?_
          refine V_ishl C dX10_isOrder_67 ?_
          refine V_ior C dX10_isOrder_68 ?_
          refine V_istore_n C (lv' := [(2, .int (l2 ||| (1 <<< ((σ.1 18 (((40 * l1) + l3)).toNatClampNeg) &&& 31)))), (4, .int (σ.1 18 (((40 * l1) + l3)).toNatClampNeg)), (0, .ref (G.2.1 0)), (1, .int l1), (3, .int l3)]) dX10_isOrder_69 rfl (by decide) rfl ?_
          refine V_iinc C (w := (l3 + 1)) (lv' := [(3, .int (l3 + 1)), (2, .int (l2 ||| (1 <<< ((σ.1 18 (((40 * l1) + l3)).toNatClampNeg) &&& 31)))), (4, .int (σ.1 18 (((40 * l1) + l3)).toNatClampNeg)), (0, .ref (G.2.1 0)), (1, .int l1)]) 4 dX10_isOrder_70 rfl (congrArg (l3 + ·) (show Int32.ofInt 1 = 1 by decide)) (by decide) rfl ?_
          refine V_goto C 19 dX10_isOrder_73 (by decide) ?_
          refine V_sub (lv' := [(0, .ref (G.2.1 0)), (1, .int l1), (2, .int (l2 ||| (1 <<< ((σ.1 18 (((40 * l1) + l3)).toNatClampNeg) &&& 31)))), (3, .int (l3 + 1))]) [3, 4, 1, 0] rfl ?_
          exact ih h
def X10_isOrder (l1 : Int32) (σ : St) : Option Int32 := if ob l1 4 then none else (if (σ.1 17 (l1).toNatClampNeg) ≤ (σ.1 0 11) then (X10_isOrder_b19 FU l1 0 0 σ) else (some 0))
set_option maxRecDepth 100000 in
set_option maxHeartbeats 4000000 in
theorem X10_isOrder_ok {l1 : Int32} {σ : St} {x : Int32} (h : X10_isOrder l1 σ = some x) : Ct shM (3) yX10_isOrder cX10_isOrder 5 (some FieldType.boolean) (fun G => [.ref (G.2.1 0), .int l1]) σ (fun G => some (.int x)) σ := by
  refine Ct.of mw_X10_isOrder.1 (by decide +kernel) (fun G => Nat.le_of_ble_eq_true rfl) (fun G p l e d s m args below meth c A hd C => ?_)
  refine (?_ : Vw shM G p l e d s m args below meth c 5 A σ 0 [(0, .ref (G.2.1 0)), (1, .int l1)] [] (some (.int x)) σ)
  unfold X10_isOrder at h
  refine V_aload_n C 0 dX10_isOrder_0 rfl rfl ?_
  refine fg10_66 (r := 17) C oM_0 rfl dX10_isOrder_1 ?_
  refine V_iload_n C 1 dX10_isOrder_4 rfl rfl ?_
  have g6 : ¬ (ob l1 4) := fun g9 => by rw [if_pos g9] at h; cases h
  rw [if_neg g6] at h
  refine V_ialdO C oM_17 g6 dX10_isOrder_5 ?_
  refine V_aload_n C 0 dX10_isOrder_6 rfl rfl ?_
  refine fg10_79 C oM_0 dX10_isOrder_7 ?_
  by_cases c7 : (σ.1 17 (l1).toNatClampNeg) ≤ (σ.1 0 11)
  · rw [if_pos c7] at h
    refine V_icmp_leT C 15 dX10_isOrder_10 (by decide) c7 ?_
    refine V_iconst C (w := 0) dX10_isOrder_15 (by decide) ?_
    refine V_istore_n C (lv' := [(2, .int 0), (0, .ref (G.2.1 0)), (1, .int l1)]) dX10_isOrder_16 rfl (by decide) rfl ?_
    refine V_iconst C (w := 0) dX10_isOrder_17 (by decide) ?_
    refine V_istore_n C (lv' := [(3, .int 0), (2, .int 0), (0, .ref (G.2.1 0)), (1, .int l1)]) dX10_isOrder_18 rfl (by decide) rfl ?_
    refine V_sub (lv' := [(0, .ref (G.2.1 0)), (1, .int l1), (2, .int 0), (3, .int 0)]) [2, 3, 1, 0] rfl ?_
    exact X10_isOrder_b19_ok C hd FU h
  · rw [if_neg c7] at h
    refine V_icmp_leF C 15 dX10_isOrder_10 (by decide) c7 ?_
    refine V_iconst C (w := 0) dX10_isOrder_13 (by decide) ?_
    obtain rfl := Option.some.inj h
    exact V_iret C rfl (nz (Or.inl rfl)) dX10_isOrder_14
def X10_screamsTill_b24 (K4 : Int32 → Int32 → Int32 → St → Option Int32) (l1 : Int32) (l3 : Int32) (s0 : Int32) (s1 : Int32) (σ : St) : Option Int32 := K4 l1 (s1 + s0) (l3 + 1) σ
set_option maxRecDepth 100000 in
set_option maxHeartbeats 4000000 in
theorem X10_screamsTill_b24_ok {G : Gx} {p : Program} {l : Launch} {e : Env} {d : Nat} {s : State} {m : MethodId} {args : Array Value} {below : List Frame} {meth : Method} {c : Code} {A : Nat → Prop} {K4 : Int32 → Int32 → Int32 → St → Option Int32} (C : OK shM G p s m args meth c RX10 cX10_screamsTill 4 (some FieldType.int) A) (hd : 1 ≤ d) (hK4 : ∀  {l1 : Int32} {l2 : Int32} {l3 : Int32} {σ : St} {x : Int32}, K4 l1 l2 l3 σ = some x → Vw shM G p l e d s m args below meth c 4 A σ 4 [(0, .ref (G.2.1 0)), (1, .int l1), (2, .int l2), (3, .int l3)] [] (some (.int x)) σ) {l1 : Int32} {l3 : Int32} {s0 : Int32} {s1 : Int32} {σ : St} {x : Int32} (h : X10_screamsTill_b24 K4 l1 l3 s0 s1 σ = some x) : Vw shM G p l e d s m args below meth c 4 A σ 24 [(0, .ref (G.2.1 0)), (1, .int l1), (3, .int l3)] [.int s0, .int s1] (some (.int x)) σ := by
  unfold X10_screamsTill_b24 at h
  refine V_iadd C dX10_screamsTill_24 ?_
  refine V_istore_n C (lv' := [(2, .int (s1 + s0)), (0, .ref (G.2.1 0)), (1, .int l1), (3, .int l3)]) dX10_screamsTill_25 rfl (by decide) rfl ?_
  refine V_iinc C (w := (l3 + 1)) (lv' := [(3, .int (l3 + 1)), (2, .int (s1 + s0)), (0, .ref (G.2.1 0)), (1, .int l1)]) 3 dX10_screamsTill_26 rfl (congrArg (l3 + ·) (show Int32.ofInt 1 = 1 by decide)) (by decide) rfl ?_
  refine V_goto C 4 dX10_screamsTill_29 (by decide) ?_
  refine V_sub (lv' := [(0, .ref (G.2.1 0)), (1, .int l1), (2, .int (s1 + s0)), (3, .int (l3 + 1))]) [2, 3, 1, 0] rfl ?_
  exact hK4 h
def X10_screamsTill_b4 : Nat → Int32 → Int32 → Int32 → St → Option Int32
  | 0, _, _, _, _ => none
  | F + 1, l1, l2, l3, σ => if l1 ≤ l3 then (some l2) else (if ob l3 5 then none else (if (σ.1 10 (l3).toNatClampNeg) = 0 then (X10_screamsTill_b24 (X10_screamsTill_b4 F) l1 l3 0 l2 σ) else (X10_screamsTill_b24 (X10_screamsTill_b4 F) l1 l3 1 l2 σ)))
set_option maxRecDepth 100000 in
set_option maxHeartbeats 4000000 in
theorem X10_screamsTill_b4_ok {G : Gx} {p : Program} {l : Launch} {e : Env} {d : Nat} {s : State} {m : MethodId} {args : Array Value} {below : List Frame} {meth : Method} {c : Code} {A : Nat → Prop} (C : OK shM G p s m args meth c RX10 cX10_screamsTill 4 (some FieldType.int) A) (hd : 1 ≤ d) : ∀ (F : Nat) {l1 : Int32} {l2 : Int32} {l3 : Int32} {σ : St} {x : Int32} (h : X10_screamsTill_b4 F l1 l2 l3 σ = some x), Vw shM G p l e d s m args below meth c 4 A σ 4 [(0, .ref (G.2.1 0)), (1, .int l1), (2, .int l2), (3, .int l3)] [] (some (.int x)) σ := by
  intro F
  induction F with
  | zero =>
    intro l1 l2 l3 σ x h
    rw [X10_screamsTill_b4] at h
    cases h
  | succ F ih =>
    intro l1 l2 l3 σ x h
    rw [X10_screamsTill_b4] at h
    refine V_iload_n C 3 dX10_screamsTill_4 rfl rfl ?_
    refine V_iload_n C 1 dX10_screamsTill_5 rfl rfl ?_
    by_cases c1 : l1 ≤ l3
    · rw [if_pos c1] at h
      refine V_icmp_geT C 32 dX10_screamsTill_6 (by decide) c1 ?_
      refine V_iload_n C 2 dX10_screamsTill_32 rfl rfl ?_
      obtain rfl := Option.some.inj h
      exact V_iret C rfl rfl dX10_screamsTill_33
    · rw [if_neg c1] at h
      refine V_icmp_geF C 32 dX10_screamsTill_6 (by decide) c1 ?_
      refine V_iload_n C 2 dX10_screamsTill_9 rfl rfl ?_
      refine V_aload_n C 0 dX10_screamsTill_10 rfl rfl ?_
      refine fg10_42 (r := 10) C oM_0 rfl dX10_screamsTill_11 ?_
      refine V_iload_n C 3 dX10_screamsTill_14 rfl rfl ?_
      have g2 : ¬ (ob l3 5) := fun g9 => by rw [if_pos g9] at h; cases h
      rw [if_neg g2] at h
      refine V_zaldO C oM_10 g2 dX10_screamsTill_15 ?_
      by_cases c3 : (σ.1 10 (l3).toNatClampNeg) = 0
      · rw [if_pos c3] at h
        refine V_if_eqT C 23 dX10_screamsTill_16 (by decide) c3 ?_
        refine V_iconst C (w := 0) dX10_screamsTill_23 (by decide) ?_
        refine V_sub (lv' := [(0, .ref (G.2.1 0)), (1, .int l1), (3, .int l3)]) [0, 1, 3] rfl ?_
        exact X10_screamsTill_b24_ok C hd (fun h => ih h) h
      · rw [if_neg c3] at h
        refine V_if_eqF C 23 dX10_screamsTill_16 (by decide) c3 ?_
        refine V_iconst C (w := 1) dX10_screamsTill_19 (by decide) ?_
        refine V_goto C 24 dX10_screamsTill_20 (by decide) ?_
        refine V_sub (lv' := [(0, .ref (G.2.1 0)), (1, .int l1), (3, .int l3)]) [0, 1, 3] rfl ?_
        exact X10_screamsTill_b24_ok C hd (fun h => ih h) h
def X10_screamsTill (l1 : Int32) (σ : St) : Option Int32 := X10_screamsTill_b4 FU l1 0 0 σ
set_option maxRecDepth 100000 in
set_option maxHeartbeats 4000000 in
theorem X10_screamsTill_ok {l1 : Int32} {σ : St} {x : Int32} (h : X10_screamsTill l1 σ = some x) : Ct shM (1) yX10_screamsTill cX10_screamsTill 4 (some FieldType.int) (fun G => [.ref (G.2.1 0), .int l1]) σ (fun G => some (.int x)) σ := by
  refine Ct.of mw_X10_screamsTill.1 (by decide +kernel) (fun G => Nat.le_of_ble_eq_true rfl) (fun G p l e d s m args below meth c A hd C => ?_)
  refine (?_ : Vw shM G p l e d s m args below meth c 4 A σ 0 [(0, .ref (G.2.1 0)), (1, .int l1)] [] (some (.int x)) σ)
  unfold X10_screamsTill at h
  refine V_iconst C (w := 0) dX10_screamsTill_0 (by decide) ?_
  refine V_istore_n C (lv' := [(2, .int 0), (0, .ref (G.2.1 0)), (1, .int l1)]) dX10_screamsTill_1 rfl (by decide) rfl ?_
  refine V_iconst C (w := 0) dX10_screamsTill_2 (by decide) ?_
  refine V_istore_n C (lv' := [(3, .int 0), (2, .int 0), (0, .ref (G.2.1 0)), (1, .int l1)]) dX10_screamsTill_3 rfl (by decide) rfl ?_
  refine V_sub (lv' := [(0, .ref (G.2.1 0)), (1, .int l1), (2, .int 0), (3, .int 0)]) [2, 3, 1, 0] rfl ?_
  exact X10_screamsTill_b4_ok C hd FU h
def X10_boilsAt_b2 : Nat → Int32 → Int32 → St → Option Int32
  | 0, _, _, _ => none
  | F + 1, l1, l2, σ => if l1 ≤ l2 then (some (-1)) else (if ob l2 5 then none else (if (σ.1 9 (l2).toNatClampNeg) = 0 then (X10_boilsAt_b2 F l1 (l2 + 1) σ) else (some l2)))
set_option maxRecDepth 100000 in
set_option maxHeartbeats 4000000 in
theorem X10_boilsAt_b2_ok {G : Gx} {p : Program} {l : Launch} {e : Env} {d : Nat} {s : State} {m : MethodId} {args : Array Value} {below : List Frame} {meth : Method} {c : Code} {A : Nat → Prop} (C : OK shM G p s m args meth c RX10 cX10_boilsAt 3 (some FieldType.int) A) (hd : 1 ≤ d) : ∀ (F : Nat) {l1 : Int32} {l2 : Int32} {σ : St} {x : Int32} (h : X10_boilsAt_b2 F l1 l2 σ = some x), Vw shM G p l e d s m args below meth c 3 A σ 2 [(0, .ref (G.2.1 0)), (1, .int l1), (2, .int l2)] [] (some (.int x)) σ := by
  intro F
  induction F with
  | zero =>
    intro l1 l2 σ x h
    rw [X10_boilsAt_b2] at h
    cases h
  | succ F ih =>
    intro l1 l2 σ x h
    rw [X10_boilsAt_b2] at h
    refine V_iload_n C 2 dX10_boilsAt_2 rfl rfl ?_
    refine V_iload_n C 1 dX10_boilsAt_3 rfl rfl ?_
    by_cases c1 : l1 ≤ l2
    · rw [if_pos c1] at h
      refine V_icmp_geT C 24 dX10_boilsAt_4 (by decide) c1 ?_
      refine V_iconst C (w := (-1)) dX10_boilsAt_24 (by decide) ?_
      obtain rfl := Option.some.inj h
      exact V_iret C rfl rfl dX10_boilsAt_25
    · rw [if_neg c1] at h
      refine V_icmp_geF C 24 dX10_boilsAt_4 (by decide) c1 ?_
      refine V_aload_n C 0 dX10_boilsAt_7 rfl rfl ?_
      refine fg10_38 (r := 9) C oM_0 rfl dX10_boilsAt_8 ?_
      refine V_iload_n C 2 dX10_boilsAt_11 rfl rfl ?_
      have g2 : ¬ (ob l2 5) := fun g9 => by rw [if_pos g9] at h; cases h
      rw [if_neg g2] at h
      refine V_zaldO C oM_9 g2 dX10_boilsAt_12 ?_
      by_cases c3 : (σ.1 9 (l2).toNatClampNeg) = 0
      · rw [if_pos c3] at h
        refine V_if_eqT C 18 dX10_boilsAt_13 (by decide) c3 ?_
        refine V_iinc C (w := (l2 + 1)) (lv' := [(2, .int (l2 + 1)), (0, .ref (G.2.1 0)), (1, .int l1)]) 2 dX10_boilsAt_18 rfl (congrArg (l2 + ·) (show Int32.ofInt 1 = 1 by decide)) (by decide) rfl ?_
        refine V_goto C 2 dX10_boilsAt_21 (by decide) ?_
        refine V_sub (lv' := [(0, .ref (G.2.1 0)), (1, .int l1), (2, .int (l2 + 1))]) [1, 2, 0] rfl ?_
        exact ih h
      · rw [if_neg c3] at h
        refine V_if_eqF C 18 dX10_boilsAt_13 (by decide) c3 ?_
        refine V_iload_n C 2 dX10_boilsAt_16 rfl rfl ?_
        obtain rfl := Option.some.inj h
        exact V_iret C rfl rfl dX10_boilsAt_17
def X10_boilsAt (l1 : Int32) (σ : St) : Option Int32 := X10_boilsAt_b2 FU l1 0 σ
set_option maxRecDepth 100000 in
set_option maxHeartbeats 4000000 in
theorem X10_boilsAt_ok {l1 : Int32} {σ : St} {x : Int32} (h : X10_boilsAt l1 σ = some x) : Ct shM (1) yX10_boilsAt cX10_boilsAt 3 (some FieldType.int) (fun G => [.ref (G.2.1 0), .int l1]) σ (fun G => some (.int x)) σ := by
  refine Ct.of mw_X10_boilsAt.1 (by decide +kernel) (fun G => Nat.le_of_ble_eq_true rfl) (fun G p l e d s m args below meth c A hd C => ?_)
  refine (?_ : Vw shM G p l e d s m args below meth c 3 A σ 0 [(0, .ref (G.2.1 0)), (1, .int l1)] [] (some (.int x)) σ)
  unfold X10_boilsAt at h
  refine V_iconst C (w := 0) dX10_boilsAt_0 (by decide) ?_
  refine V_istore_n C (lv' := [(2, .int 0), (0, .ref (G.2.1 0)), (1, .int l1)]) dX10_boilsAt_1 rfl (by decide) rfl ?_
  refine V_sub (lv' := [(0, .ref (G.2.1 0)), (1, .int l1), (2, .int 0)]) [1, 2, 0] rfl ?_
  exact X10_boilsAt_b2_ok C hd FU h
def X10_goes_b6 : Nat → Int32 → Int32 → St → Option St
  | 0, _, _, _ => none
  | F + 1, l1, l2, σ => if ob l1 4 then none else (if (σ.1 17 (l1).toNatClampNeg) ≤ l2 then (some σ) else (if ob ((40 * l1) + l2) 160 then none else ((X10_comes (σ.1 18 (((40 * l1) + l2)).toNatClampNeg) l2 σ).bind (fun x29 => X10_goes_b6 F l1 (l2 + 1) x29))))
set_option maxRecDepth 100000 in
set_option maxHeartbeats 4000000 in
theorem X10_goes_b6_ok {G : Gx} {p : Program} {l : Launch} {e : Env} {d : Nat} {s : State} {m : MethodId} {args : Array Value} {below : List Frame} {meth : Method} {c : Code} {A : Nat → Prop} (C : OK shM G p s m args meth c RX10 cX10_goes 3 none A) (hd : 64 ≤ d) : ∀ (F : Nat) {l1 : Int32} {l2 : Int32} {σ : St} {x : St} (h : X10_goes_b6 F l1 l2 σ = some x), Vw shM G p l e d s m args below meth c 3 A σ 6 [(0, .ref (G.2.1 0)), (1, .int l1), (2, .int l2)] [] (none) x := by
  intro F
  induction F with
  | zero =>
    intro l1 l2 σ x h
    rw [X10_goes_b6] at h
    cases h
  | succ F ih =>
    intro l1 l2 σ x h
    rw [X10_goes_b6] at h
    refine V_iload_n C 2 dX10_goes_6 rfl rfl ?_
    refine V_aload_n C 0 dX10_goes_7 rfl rfl ?_
    refine fg10_66 (r := 17) C oM_0 rfl dX10_goes_8 ?_
    refine V_iload_n C 1 dX10_goes_11 rfl rfl ?_
    have g1 : ¬ (ob l1 4) := fun g9 => by rw [if_pos g9] at h; cases h
    rw [if_neg g1] at h
    refine V_ialdO C oM_17 g1 dX10_goes_12 ?_
    by_cases c2 : (σ.1 17 (l1).toNatClampNeg) ≤ l2
    · rw [if_pos c2] at h
      refine V_icmp_geT C 38 dX10_goes_13 (by decide) c2 ?_
      obtain rfl := Option.some.inj h
      exact V_vret C rfl dX10_goes_38
    · rw [if_neg c2] at h
      refine V_icmp_geF C 38 dX10_goes_13 (by decide) c2 ?_
      refine V_aload_n C 0 dX10_goes_16 rfl rfl ?_
      refine V_aload_n C 0 dX10_goes_17 rfl rfl ?_
      refine fg10_69 (r := 18) C oM_0 rfl dX10_goes_18 ?_
      refine V_bipush C (w := 40) dX10_goes_21 (by decide) ?_
      refine V_iload_n C 1 dX10_goes_23 rfl rfl ?_
      refine V_imul C dX10_goes_24 ?_
      refine V_iload_n C 2 dX10_goes_25 rfl rfl ?_
      refine V_iadd C dX10_goes_26 ?_
      have g3 : ¬ (ob ((40 * l1) + l2) 160) := fun g9 => by rw [if_pos g9] at h; cases h
      rw [if_neg g3] at h
      refine V_ialdO C oM_18 g3 dX10_goes_27 ?_
      refine V_iload_n C 2 dX10_goes_28 rfl rfl ?_
      obtain ⟨x29, h29, h⟩ := Option.bind_eq_some_iff.mp h
      refine V_callVv (As := [.int (σ.1 18 (((40 * l1) + l2)).toNatClampNeg), .int l2]) C (X10_comes_ok h29) mw_X10_comes.1 mw_X10_comes.2.1 mw_X10_comes.2.2 q10_253 oM_0.1 oM_0.2.1 (by decide) rfl rfl (by omega) rfl rfl rfl (Nat.le_of_ble_eq_true rfl) dX10_goes_29 ?_
      refine V_iinc C (w := (l2 + 1)) (lv' := [(2, .int (l2 + 1)), (0, .ref (G.2.1 0)), (1, .int l1)]) 2 dX10_goes_32 rfl (congrArg (l2 + ·) (show Int32.ofInt 1 = 1 by decide)) (by decide) rfl ?_
      refine V_goto C 6 dX10_goes_35 (by decide) ?_
      refine V_sub (lv' := [(0, .ref (G.2.1 0)), (1, .int l1), (2, .int (l2 + 1))]) [1, 2, 0] rfl ?_
      exact ih h
def X10_goes (l1 : Int32) (σ : St) : Option St := (X10_begins σ).bind (fun x1 => X10_goes_b6 FU l1 0 x1)
set_option maxRecDepth 100000 in
set_option maxHeartbeats 4000000 in
theorem X10_goes_ok {l1 : Int32} {σ : St} {x : St} (h : X10_goes l1 σ = some x) : Ct shM (64) yX10_goes cX10_goes 3 none (fun G => [.ref (G.2.1 0), .int l1]) σ (fun G => none) x := by
  refine Ct.of mw_X10_goes.1 (by decide +kernel) (fun G => Nat.le_of_ble_eq_true rfl) (fun G p l e d s m args below meth c A hd C => ?_)
  refine (?_ : Vw shM G p l e d s m args below meth c 3 A σ 0 [(0, .ref (G.2.1 0)), (1, .int l1)] [] (none) x)
  unfold X10_goes at h
  refine V_aload_n C 0 dX10_goes_0 rfl rfl ?_
  obtain ⟨x1, h1, h⟩ := Option.bind_eq_some_iff.mp h
  refine V_callVv (As := []) C (X10_begins_ok h1) mw_X10_begins.1 mw_X10_begins.2.1 mw_X10_begins.2.2 q10_113 oM_0.1 oM_0.2.1 (by decide) rfl rfl (by omega) rfl rfl rfl (Nat.le_of_ble_eq_true rfl) dX10_goes_1 ?_
  refine V_iconst C (w := 0) dX10_goes_4 (by decide) ?_
  refine V_istore_n C (lv' := [(2, .int 0), (0, .ref (G.2.1 0)), (1, .int l1)]) dX10_goes_5 rfl (by decide) rfl ?_
  refine V_sub (lv' := [(0, .ref (G.2.1 0)), (1, .int l1), (2, .int 0)]) [1, 2, 0] rfl ?_
  exact X10_goes_b6_ok C hd FU h
def X10_isSheet (l0 : Int32) : Option Int32 := (X10_in (Int32.toInt64 l0) 0 3).bind (fun x6 => if x6 = 0 ∨ x6 = 1 then (some x6) else none)
set_option maxRecDepth 100000 in
set_option maxHeartbeats 4000000 in
theorem X10_isSheet_ok {l0 : Int32} {σ : St} {x : Int32} (h : X10_isSheet l0 = some x) : Ct shM (2) yX10_isSheet cX10_isSheet 1 (some FieldType.boolean) (fun G => [.int l0]) σ (fun G => some (.int x)) σ := by
  refine Ct.of mw_X10_isSheet.1 (by decide +kernel) (fun G => Nat.le_of_ble_eq_true rfl) (fun G p l e d s m args below meth c A hd C => ?_)
  refine (?_ : Vw shM G p l e d s m args below meth c 1 A σ 0 [(0, .int l0)] [] (some (.int x)) σ)
  unfold X10_isSheet at h
  refine V_iload_n C 0 dX10_isSheet_0 rfl rfl ?_
  refine V_i2l C dX10_isSheet_1 ?_
  refine V_lconst C (w := 0) dX10_isSheet_2 (by decide) ?_
  refine V_ldc2 C (w := 3) dX10_isSheet_3 qk10_302 ?_
  obtain ⟨x6, h6, h⟩ := Option.bind_eq_some_iff.mp h
  refine V_callSi (As := [.long (Int32.toInt64 l0), .long 0, .long 3]) C (X10_in_ok h6) mw_X10_in.1 mw_X10_in.2 q10_82 (by omega) rfl rfl rfl (Nat.le_of_ble_eq_true rfl) dX10_isSheet_6 ?_
  have g1 : x6 = 0 ∨ x6 = 1 := Decidable.byContradiction (fun g9 => by rw [if_neg g9] at h; cases h)
  rw [if_pos g1] at h
  obtain rfl := Option.some.inj h
  exact V_iret C rfl (nz g1) dX10_isSheet_9
def X10_evening_b65 (l1 : Int32) (l2 : Int32) (σ : St) : Option (Int32 × St) := (X10_goes l1 σ).bind (fun x67 => if ob l1 4 then none else (if l2 = 0 then (if ob (x67.1 17 (l1).toNatClampNeg) 6 then none else (some ((x67.1 8 ((x67.1 17 (l1).toNatClampNeg)).toNatClampNeg), x67))) else (if l2 = 1 then ((X10_boilsAt (x67.1 17 (l1).toNatClampNeg) x67).bind (fun x97 => some (x97, x67))) else (if l2 = 2 then ((X10_screamsTill (x67.1 17 (l1).toNatClampNeg) x67).bind (fun x110 => some (x110, x67))) else (if ob (l2 - 9) 6 then none else (some ((x67.1 8 ((l2 - 9)).toNatClampNeg), x67)))))))
set_option maxRecDepth 100000 in
set_option maxHeartbeats 4000000 in
theorem X10_evening_b65_ok {G : Gx} {p : Program} {l : Launch} {e : Env} {d : Nat} {s : State} {m : MethodId} {args : Array Value} {below : List Frame} {meth : Method} {c : Code} {A : Nat → Prop} (C : OK shM G p s m args meth c RX10 cX10_evening 4 (some FieldType.int) A) (hd : 65 ≤ d) {l1 : Int32} {l2 : Int32} {σ : St} {x : (Int32 × St)} (h : X10_evening_b65 l1 l2 σ = some x) : Vw shM G p l e d s m args below meth c 4 A σ 65 [(0, .ref (G.2.1 0)), (1, .int l1), (2, .int l2)] [] (some (.int x.1)) x.2 := by
  unfold X10_evening_b65 at h
  refine V_aload_n C 0 dX10_evening_65 rfl rfl ?_
  refine V_iload_n C 1 dX10_evening_66 rfl rfl ?_
  obtain ⟨x67, h67, h⟩ := Option.bind_eq_some_iff.mp h
  refine V_callVv (As := [.int l1]) C (X10_goes_ok h67) mw_X10_goes.1 mw_X10_goes.2.1 mw_X10_goes.2.2 q10_264 oM_0.1 oM_0.2.1 (by decide) rfl rfl (by omega) rfl rfl rfl (Nat.le_of_ble_eq_true rfl) dX10_evening_67 ?_
  refine V_aload_n C 0 dX10_evening_70 rfl rfl ?_
  refine fg10_66 (r := 17) C oM_0 rfl dX10_evening_71 ?_
  refine V_iload_n C 1 dX10_evening_74 rfl rfl ?_
  have g1 : ¬ (ob l1 4) := fun g9 => by rw [if_pos g9] at h; cases h
  rw [if_neg g1] at h
  refine V_ialdO C oM_17 g1 dX10_evening_75 ?_
  refine V_istore_n C (lv' := [(3, .int (x67.1 17 (l1).toNatClampNeg)), (0, .ref (G.2.1 0)), (1, .int l1), (2, .int l2)]) dX10_evening_76 rfl (by decide) rfl ?_
  refine V_iload_n C 3 dX10_evening_77 rfl rfl ?_
  by_cases c2 : l2 = 0
  · rw [if_pos c2] at h
    refine V_if_neF C 90 dX10_evening_78 (by decide) c2 ?_
    refine V_aload_n C 1 dX10_evening_81 rfl rfl ?_
    refine fg10_35 (r := 8) C oM_0 rfl dX10_evening_82 ?_
    refine V_iload_n C 0 dX10_evening_85 rfl rfl ?_
    have g6 : ¬ (ob (x67.1 17 (l1).toNatClampNeg) 6) := fun g9 => by rw [if_pos g9] at h; cases h
    rw [if_neg g6] at h
    refine V_ialdO C oM_8 g6 dX10_evening_86 ?_
    refine V_goto C 125 dX10_evening_87 (by decide) ?_
    obtain rfl := Option.some.inj h
    exact V_iret C rfl rfl dX10_evening_125
  · rw [if_neg c2] at h
    refine V_if_neT C 90 dX10_evening_78 (by decide) c2 ?_
    refine V_iload_n C 3 dX10_evening_90 rfl rfl ?_
    refine V_iconst C (w := 1) dX10_evening_91 (by decide) ?_
    by_cases c3 : l2 = 1
    · rw [if_pos c3] at h
      refine V_icmp_neF C 103 dX10_evening_92 (by decide) c3 ?_
      refine V_aload_n C 1 dX10_evening_95 rfl rfl ?_
      refine V_iload_n C 0 dX10_evening_96 rfl rfl ?_
      obtain ⟨x97, h97, h⟩ := Option.bind_eq_some_iff.mp h
      refine V_callVi (As := [.int (x67.1 17 (l1).toNatClampNeg)]) C (X10_boilsAt_ok h97) mw_X10_boilsAt.1 mw_X10_boilsAt.2.1 mw_X10_boilsAt.2.2 q10_268 oM_0.1 oM_0.2.1 (by decide) rfl rfl (by omega) rfl rfl rfl (Nat.le_of_ble_eq_true rfl) dX10_evening_97 ?_
      refine V_goto C 125 dX10_evening_100 (by decide) ?_
      obtain rfl := Option.some.inj h
      exact V_iret C rfl rfl dX10_evening_125
    · rw [if_neg c3] at h
      refine V_icmp_neT C 103 dX10_evening_92 (by decide) c3 ?_
      refine V_iload_n C 3 dX10_evening_103 rfl rfl ?_
      refine V_iconst C (w := 2) dX10_evening_104 (by decide) ?_
      by_cases c4 : l2 = 2
      · rw [if_pos c4] at h
        refine V_icmp_neF C 116 dX10_evening_105 (by decide) c4 ?_
        refine V_aload_n C 1 dX10_evening_108 rfl rfl ?_
        refine V_iload_n C 0 dX10_evening_109 rfl rfl ?_
        obtain ⟨x110, h110, h⟩ := Option.bind_eq_some_iff.mp h
        refine V_callVi (As := [.int (x67.1 17 (l1).toNatClampNeg)]) C (X10_screamsTill_ok h110) mw_X10_screamsTill.1 mw_X10_screamsTill.2.1 mw_X10_screamsTill.2.2 q10_271 oM_0.1 oM_0.2.1 (by decide) rfl rfl (by omega) rfl rfl rfl (Nat.le_of_ble_eq_true rfl) dX10_evening_110 ?_
        refine V_goto C 125 dX10_evening_113 (by decide) ?_
        obtain rfl := Option.some.inj h
        exact V_iret C rfl rfl dX10_evening_125
      · rw [if_neg c4] at h
        refine V_icmp_neT C 116 dX10_evening_105 (by decide) c4 ?_
        refine V_aload_n C 1 dX10_evening_116 rfl rfl ?_
        refine fg10_35 (r := 8) C oM_0 rfl dX10_evening_117 ?_
        refine V_iload_n C 3 dX10_evening_120 rfl rfl ?_
        refine V_bipush C (w := 9) dX10_evening_121 (by decide) ?_
        refine V_isub C dX10_evening_123 ?_
        have g5 : ¬ (ob (l2 - 9) 6) := fun g9 => by rw [if_pos g9] at h; cases h
        rw [if_neg g5] at h
        refine V_ialdO C oM_8 g5 dX10_evening_124 ?_
        obtain rfl := Option.some.inj h
        exact V_iret C rfl rfl dX10_evening_125
def X10_evening_b25 (l1 : Int32) (l2 : Int32) (σ : St) : Option (Int32 × St) := if ob l1 4 then none else (if (σ.1 15 (l1).toNatClampNeg) = 0 then (some ((-1000), σ)) else ((X10_isOrder l1 σ).bind (fun x36 => if x36 = 0 then (some ((-1000), σ)) else (if l2 ≤ 9 then (X10_evening_b65 l1 l2 σ) else (if ob l1 4 then none else (if (l2 - 10) < (σ.1 17 (l1).toNatClampNeg) then (X10_evening_b65 l1 l2 σ) else (some ((-1000), σ))))))))
set_option maxRecDepth 100000 in
set_option maxHeartbeats 4000000 in
theorem X10_evening_b25_ok {G : Gx} {p : Program} {l : Launch} {e : Env} {d : Nat} {s : State} {m : MethodId} {args : Array Value} {below : List Frame} {meth : Method} {c : Code} {A : Nat → Prop} (C : OK shM G p s m args meth c RX10 cX10_evening 4 (some FieldType.int) A) (hd : 65 ≤ d) {l1 : Int32} {l2 : Int32} {σ : St} {x : (Int32 × St)} (h : X10_evening_b25 l1 l2 σ = some x) : Vw shM G p l e d s m args below meth c 4 A σ 25 [(0, .ref (G.2.1 0)), (1, .int l1), (2, .int l2)] [] (some (.int x.1)) x.2 := by
  unfold X10_evening_b25 at h
  refine V_aload_n C 0 dX10_evening_25 rfl rfl ?_
  refine fg10_60 (r := 15) C oM_0 rfl dX10_evening_26 ?_
  refine V_iload_n C 1 dX10_evening_29 rfl rfl ?_
  have g7 : ¬ (ob l1 4) := fun g9 => by rw [if_pos g9] at h; cases h
  rw [if_neg g7] at h
  refine V_zaldO C oM_15 g7 dX10_evening_30 ?_
  by_cases c8 : (σ.1 15 (l1).toNatClampNeg) = 0
  · rw [if_pos c8] at h
    refine V_if_eqT C 61 dX10_evening_31 (by decide) c8 ?_
    refine V_sipush C (w := (-1000)) dX10_evening_61 (by decide) ?_
    obtain rfl := Option.some.inj h
    exact V_iret C rfl rfl dX10_evening_64
  · rw [if_neg c8] at h
    refine V_if_eqF C 61 dX10_evening_31 (by decide) c8 ?_
    refine V_aload_n C 0 dX10_evening_34 rfl rfl ?_
    refine V_iload_n C 1 dX10_evening_35 rfl rfl ?_
    obtain ⟨x36, h36, h⟩ := Option.bind_eq_some_iff.mp h
    refine V_callVi (As := [.int l1]) C (X10_isOrder_ok h36) mw_X10_isOrder.1 mw_X10_isOrder.2.1 mw_X10_isOrder.2.2 q10_261 oM_0.1 oM_0.2.1 (by decide) rfl rfl (by omega) rfl rfl rfl (Nat.le_of_ble_eq_true rfl) dX10_evening_36 ?_
    by_cases c9 : x36 = 0
    · rw [if_pos c9] at h
      refine V_if_eqT C 61 dX10_evening_39 (by decide) c9 ?_
      refine V_sipush C (w := (-1000)) dX10_evening_61 (by decide) ?_
      obtain rfl := Option.some.inj h
      exact V_iret C rfl rfl dX10_evening_64
    · rw [if_neg c9] at h
      refine V_if_eqF C 61 dX10_evening_39 (by decide) c9 ?_
      refine V_iload_n C 2 dX10_evening_42 rfl rfl ?_
      refine V_bipush C (w := 9) dX10_evening_43 (by decide) ?_
      by_cases c10 : l2 ≤ 9
      · rw [if_pos c10] at h
        refine V_icmp_leT C 65 dX10_evening_45 (by decide) c10 ?_
        exact X10_evening_b65_ok C hd h
      · rw [if_neg c10] at h
        refine V_icmp_leF C 65 dX10_evening_45 (by decide) c10 ?_
        refine V_iload_n C 2 dX10_evening_48 rfl rfl ?_
        refine V_bipush C (w := 10) dX10_evening_49 (by decide) ?_
        refine V_isub C dX10_evening_51 ?_
        refine V_aload_n C 0 dX10_evening_52 rfl rfl ?_
        refine fg10_66 (r := 17) C oM_0 rfl dX10_evening_53 ?_
        refine V_iload_n C 1 dX10_evening_56 rfl rfl ?_
        have g11 : ¬ (ob l1 4) := fun g9 => by rw [if_pos g9] at h; cases h
        rw [if_neg g11] at h
        refine V_ialdO C oM_17 g11 dX10_evening_57 ?_
        by_cases c12 : (l2 - 10) < (σ.1 17 (l1).toNatClampNeg)
        · rw [if_pos c12] at h
          refine V_icmp_ltT C 65 dX10_evening_58 (by decide) c12 ?_
          exact X10_evening_b65_ok C hd h
        · rw [if_neg c12] at h
          refine V_icmp_ltF C 65 dX10_evening_58 (by decide) c12 ?_
          refine V_sipush C (w := (-1000)) dX10_evening_61 (by decide) ?_
          obtain rfl := Option.some.inj h
          exact V_iret C rfl rfl dX10_evening_64
def X10_evening (l1 : Int32) (l2 : Int32) (σ : St) : Option (Int32 × St) := (X10_isSheet l1).bind (fun x1 => if x1 = 0 then (some ((-1000), σ)) else ((X10_in (Int32.toInt64 l2) 0 2).bind (fun x13 => if x13 = 0 then (if l2 < 10 then (some ((-1000), σ)) else (X10_evening_b25 l1 l2 σ)) else (X10_evening_b25 l1 l2 σ))))
set_option maxRecDepth 100000 in
set_option maxHeartbeats 4000000 in
theorem X10_evening_ok {l1 : Int32} {l2 : Int32} {σ : St} {x : (Int32 × St)} (h : X10_evening l1 l2 σ = some x) : Ct shM (65) yX10_evening cX10_evening 4 (some FieldType.int) (fun G => [.ref (G.2.1 0), .int l1, .int l2]) σ (fun G => some (.int x.1)) x.2 := by
  refine Ct.of mw_X10_evening.1 (by decide +kernel) (fun G => Nat.le_of_ble_eq_true rfl) (fun G p l e d s m args below meth c A hd C => ?_)
  refine (?_ : Vw shM G p l e d s m args below meth c 4 A σ 0 [(0, .ref (G.2.1 0)), (1, .int l1), (2, .int l2)] [] (some (.int x.1)) x.2)
  unfold X10_evening at h
  refine V_iload_n C 1 dX10_evening_0 rfl rfl ?_
  obtain ⟨x1, h1, h⟩ := Option.bind_eq_some_iff.mp h
  refine V_callSi (As := [.int l1]) C (X10_isSheet_ok h1) mw_X10_isSheet.1 mw_X10_isSheet.2 q10_256 (by omega) rfl rfl rfl (Nat.le_of_ble_eq_true rfl) dX10_evening_1 ?_
  by_cases c13 : x1 = 0
  · rw [if_pos c13] at h
    refine V_if_eqT C 61 dX10_evening_4 (by decide) c13 ?_
    refine V_sipush C (w := (-1000)) dX10_evening_61 (by decide) ?_
    obtain rfl := Option.some.inj h
    exact V_iret C rfl rfl dX10_evening_64
  · rw [if_neg c13] at h
    refine V_if_eqF C 61 dX10_evening_4 (by decide) c13 ?_
    refine V_iload_n C 2 dX10_evening_7 rfl rfl ?_
    refine V_i2l C dX10_evening_8 ?_
    refine V_lconst C (w := 0) dX10_evening_9 (by decide) ?_
    refine V_ldc2 C (w := 2) dX10_evening_10 qk10_259 ?_
    obtain ⟨x13, h13, h⟩ := Option.bind_eq_some_iff.mp h
    refine V_callSi (As := [.long (Int32.toInt64 l2), .long 0, .long 2]) C (X10_in_ok h13) mw_X10_in.1 mw_X10_in.2 q10_82 (by omega) rfl rfl rfl (Nat.le_of_ble_eq_true rfl) dX10_evening_13 ?_
    by_cases c14 : x13 = 0
    · rw [if_pos c14] at h
      refine V_if_neF C 25 dX10_evening_16 (by decide) c14 ?_
      refine V_iload_n C 2 dX10_evening_19 rfl rfl ?_
      refine V_bipush C (w := 10) dX10_evening_20 (by decide) ?_
      by_cases c15 : l2 < 10
      · rw [if_pos c15] at h
        refine V_icmp_ltT C 61 dX10_evening_22 (by decide) c15 ?_
        refine V_sipush C (w := (-1000)) dX10_evening_61 (by decide) ?_
        obtain rfl := Option.some.inj h
        exact V_iret C rfl rfl dX10_evening_64
      · rw [if_neg c15] at h
        refine V_icmp_ltF C 61 dX10_evening_22 (by decide) c15 ?_
        exact X10_evening_b25_ok C hd h
    · rw [if_neg c14] at h
      refine V_if_neT C 25 dX10_evening_16 (by decide) c14 ?_
      exact X10_evening_b25_ok C hd h
